section
theorem pk_us {f : Nat → Int32} {k : Nat} {x : Int32} : upd f k x k = x := if_pos rfl
theorem pk_un {f : Nat → Int32} {k j : Nat} {x : Int32} (h : j ≠ k) : upd f k x j = f j := if_neg h
theorem pk_sub {a b : Nat} (h : b ≤ a) : nI a - nI b = nI (a - b) := by
  obtain ⟨c, rfl⟩ : ∃ c, a = c + b := ⟨a - b, by omega⟩
  rw [← nI_add, Int32.add_sub_cancel, Nat.add_sub_cancel]
theorem pk_m1 (n : Nat) : nI (n + 1) + (-1) = nI n := by
  rw [← nI_1, Int32.add_assoc, show (1 : Int32) + (-1) = 0 from rfl, Int32.add_zero]
theorem pk_mul (a b : Nat) : nI a * nI b = nI (a * b) := (Int32.ofNat_mul a b).symm
theorem pk_div {a d : Nat} (ha : a < 2 ^ 31) (h0 : 0 < d) (hd : d < 2 ^ 31) : nI a / nI d = nI (a / d) := by
  apply Int32.toInt_inj.mp
  rw [lg_idiv_nonneg (by rw [nI_toInt ha]; omega) (by rw [nI_toInt hd]; omega), nI_toInt ha, nI_toInt hd, nI_toInt (Nat.lt_of_le_of_lt (Nat.div_le_self a d) ha)]
  first | rfl | exact (Int.natCast_ediv _ _).symm
theorem pk_rem {a d : Nat} (ha : a < 2 ^ 31) (h0 : 0 < d) (hd : d < 2 ^ 31) : nI a - nI a / nI d * nI d = nI (a % d) := by
  rw [pk_div ha h0 hd, pk_mul, pk_sub (Nat.div_mul_le_self a d)]
  exact congrArg nI (by have := Nat.div_add_mod' a d; omega)
theorem pk_sub_toInt {a b : Nat} (ha : a < 2 ^ 30) (hb : b < 2 ^ 30) : (nI a - nI b).toInt = (a : Int) - b := by
  rw [Int32.toInt_sub, nI_toInt (by omega), nI_toInt (by omega)]
  exact Int.bmod_eq_of_le (by omega) (by omega)
theorem pk_sneg {a b : Nat} (hb : b < 2 ^ 30) (h : a < b) : nI a - nI b < 0 := by
  rw [Int32.lt_iff_toInt_lt, pk_sub_toInt (by omega) hb, show (0 : Int32).toInt = 0 from by decide]
  omega
theorem pk_ix (x : Int32) {n : Nat} (hn : n < 2 ^ 31) : x < 0 ∨ nI n ≤ x ∨ ∃ j : Nat, j < n ∧ x = nI j := by
  by_cases h : x < 0
  · exact Or.inl h
  · obtain ⟨j, hj, rfl⟩ := nI_of h
    by_cases h2 : j < n
    · exact Or.inr (Or.inr ⟨j, h2, rfl⟩)
    · exact Or.inr (Or.inl (nI_le (by omega) hj))
theorem pk_le {x y : Int32} {A B : Prop} (a b : Nat) (f : a ≤ b → A) (g : b < a → B) (hx : x = nI a := by rfl) (hy : y = nI b := by rfl) (ha : a < 2 ^ 31 := by omega) (hb : b < 2 ^ 31 := by omega) : (x ≤ y → A) ∧ (¬ x ≤ y → B) := by
  subst hx hy
  rw [nI_leI ha hb]
  exact ⟨f, fun z => g (by omega)⟩
theorem pk_lt {x y : Int32} {A B : Prop} (a b : Nat) (f : a < b → A) (g : b ≤ a → B) (hx : x = nI a := by rfl) (hy : y = nI b := by rfl) (ha : a < 2 ^ 31 := by omega) (hb : b < 2 ^ 31 := by omega) : (x < y → A) ∧ (¬ x < y → B) := by
  subst hx hy
  rw [nI_ltI ha hb]
  exact ⟨f, fun z => g (by omega)⟩
theorem pk_eq {x y : Int32} {A B : Prop} (a b : Nat) (f : a = b → A) (g : a ≠ b → B) (hx : x = nI a := by rfl) (hy : y = nI b := by rfl) (ha : a < 2 ^ 31 := by omega) (hb : b < 2 ^ 31 := by omega) : (x = y → A) ∧ (¬ x = y → B) := by
  subst hx hy
  rw [nI_eq ha hb]
  exact ⟨f, g⟩
theorem pk_in {x : Int32} (n N : Nat) (h : n < N) (hx : x = nI n := by rfl) (hN : N < 2 ^ 31 := by omega) : vp_in x N := by
  subst hx
  exact vp_in_nI h hN
theorem pk_cl {x : Int32} (n : Nat) (hx : x = nI n := by rfl) (h : n < 2 ^ 31 := by omega) : x.toNatClampNeg = n := by
  subst hx
  exact nI_clamp h
theorem pk_loop {σ : Type} (W : Nat → Nat → σ → Prop) (I : Nat → σ → Prop) (e i0 : Nat) (s : σ) (hi : i0 ≤ e) (h0 : I i0 s) (hx : ∀ n s, I e s → W (n + 1) e s)
    (hs : ∀ n i s, i < e → I i s → (∀ s', I (i + 1) s' → W n (i + 1) s') → W (n + 1) i s) : ∃ n, W n i0 s :=
  ⟨e + 1, loop_i W I e hx hs (e + 1) i0 s hi (by omega) h0⟩

/-! sums and bounded checks, for the kernel -/
noncomputable def sr_zn (n : Nat) (f : Nat → Nat) : Nat := Nat.rec (motive := fun _ => Nat) 0 (fun i acc => Nat.add acc (f i)) n
noncomputable def sr_al (n : Nat) (f : Nat → Bool) : Bool := Nat.rec (motive := fun _ => Bool) true (fun i acc => cond (f i) acc false) n
theorem sr_zn_0 (f : Nat → Nat) : sr_zn 0 f = 0 := rfl
theorem sr_zn_s (n : Nat) (f : Nat → Nat) : sr_zn (n + 1) f = sr_zn n f + f n := rfl
theorem sr_al_e {f : Nat → Bool} : ∀ {n : Nat}, sr_al n f = true → ∀ i, i < n → f i = true := by
  intro n
  induction n with
  | zero => intro _ i hi; exact absurd hi (Nat.not_lt_zero i)
  | succ n ih =>
    intro h i hi
    have h' : cond (f n) (sr_al n f) false = true := h
    cases hf : f n with
    | false => rw [hf] at h'; exact absurd (show false = true from h') Bool.false_ne_true
    | true =>
      rw [hf] at h'
      by_cases e : i = n
      · rw [e]; exact hf
      · exact ih h' i (by omega)
theorem sr_c_t {c : Bool} {x : Bool} (h : cond c x true = true) (hc : c = true) : x = true := by
  rw [hc] at h; exact h
theorem sr_c_f {c : Bool} {x : Bool} (h : cond c x false = true) : c = true ∧ x = true := by
  cases c
  · exact absurd (show false = true from h) Bool.false_ne_true
  · exact ⟨rfl, h⟩
/-! the tables, as digits of one number -/
def sr_dig (B b s : Nat) : Nat := Nat.mod (Nat.div B (Nat.pow b s)) b
theorem sr_dig_big {B b n : Nat} (hb : 0 < b) (h : B < b ^ n) {s : Nat} (hs : n ≤ s) : sr_dig B b s = 0 := by
  show B / b ^ s % b = 0
  rw [Nat.div_eq_of_lt (Nat.lt_of_lt_of_le h (Nat.pow_le_pow_right hb hs))]
  exact Nat.zero_mod b

def sr_a (s : Nat) : Nat := sr_dig 98877776666665555555554444444444433333333332222221110 10 s
theorem sr_a_big {s : Nat} (hs : 53 ≤ s) : sr_a s = 0 := sr_dig_big (n := 53) (by decide) (by decide +kernel) hs
def sr_b (s : Nat) : Nat := sr_dig 1021103221104332221104433322211033332221102221101100 10 s
theorem sr_b_big {s : Nat} (hs : 53 ≤ s) : sr_b s = 0 := sr_dig_big (n := 53) (by decide) (by decide +kernel) hs
def sr_c (s : Nat) : Nat := sr_dig 1000101000102101001021021010032102101002101001000 10 s
theorem sr_c_big {s : Nat} (hs : 53 ≤ s) : sr_c s = 0 := sr_dig_big (n := 53) (by decide) (by decide +kernel) hs
def sr_z (s : Nat) : Nat := sr_dig 99899879988769989877659898787665498767655436544323210 10 s
theorem sr_z_big {s : Nat} (hs : 53 ≤ s) : sr_z s = 0 := sr_dig_big (n := 53) (by decide) (by decide +kernel) hs
def sr_P (s : Nat) : Nat := sr_dig 900810801800720711710702701700630621620612611610603602601600540531530522521520513512511510504503502501500450441440432431430423422421420414413412411410405404403402401400360351350342341340333332331330324323322321320315314313312311310306305304303302301300270261260252251250243242241240234233232231230225224223222221220216215214213212211210207206205204203202201200180171170162161160153152151150144143142141140135134133132131130126125124123122121120117116115114113112111110108107106105104103102101100090081080072071070063062061060054053052051050045044043042041040036035034033032031030027026025024023022021020018017016015014013012011010009008007006005004003002001000 1000 s
theorem sr_P_big {s : Nat} (hs : 220 ≤ s) : sr_P s = 0 := sr_dig_big (n := 220) (by decide) (by decide +kernel) hs
def sr_yc (s : Nat) : Nat := sr_dig 333234233225224223222144135134133126125124123122117116115114113112111045044036035034033027026025024023022018017016015014013012011009008007006005004003002001000 1000 s
theorem sr_yc_big {s : Nat} (hs : 53 ≤ s) : sr_yc s = 0 := sr_dig_big (n := 53) (by decide) (by decide +kernel) hs
def sr_pi (s : Nat) : Nat := sr_dig 1928183625150930382717443524140848423322120603392945372616494334231307514741322111050252504640312010040100 100 s
theorem sr_pi_big {s : Nat} (hs : 53 ≤ s) : sr_pi s = 0 := sr_dig_big (n := 53) (by decide) (by decide +kernel) hs

def sr_cd (s : Nat) : Nat := Nat.add (Nat.add (sr_a s) (Nat.mul 10 (sr_b s))) (Nat.mul 100 (sr_c s))
/-- the sum of a place's digits -/
def sr_dg (p : Nat) : Nat := Nat.add (Nat.add (Nat.div p 100) (Nat.mod (Nat.div p 10) 10)) (Nat.mod p 10)
/-- is the code that of a shape -/
def sr_iS (n : Nat) : Bool := cond (Nat.ble (Nat.mod (Nat.div n 10) 10) (Nat.mod n 10)) (cond (Nat.ble (Nat.div n 100) (Nat.mod (Nat.div n 10) 10)) (Nat.ble (Nat.add (Nat.add (Nat.mod n 10) (Nat.mod (Nat.div n 10) 10)) (Nat.div n 100)) 9) false) false
noncomputable def sr_np (p : Nat) : Nat := sr_zn p (fun q => cond (Nat.ble (sr_dg q) 9) 1 0)
noncomputable def sr_mc (p : Nat) : Nat := sr_zn p (fun q => cond (sr_iS q) 1 0)
noncomputable def sr_ix (n : Nat) : Nat := sr_zn 53 (fun s => cond (Nat.beq (sr_cd s) n) s 0)
/-- the number of shapes ahead of (a, b, c) in the component's order -/
noncomputable def sr_n3 (a b c : Nat) : Nat := Nat.add (Nat.add (sr_zn a (fun a' => sr_zn (Nat.add a' 1) (fun b' => sr_zn (Nat.add b' 1) (fun c' => cond (Nat.ble (Nat.add (Nat.add a' b') c') 9) 1 0)))) (sr_zn b (fun b' => sr_zn (Nat.add b' 1) (fun c' => cond (Nat.ble (Nat.add (Nat.add a b') c') 9) 1 0)))) (sr_zn c (fun c' => cond (Nat.ble (Nat.add (Nat.add a b) c') 9) 1 0))
/-! the fillings -/
def sr_mn (x y : Nat) : Nat := Nat.sub x (Nat.sub x y)
def sr_k5 (a b c i j : Nat) : Nat := Nat.sub (sr_mn (sr_mn (Nat.add b 1) (Nat.sub (Nat.add (Nat.add i j) 1) b)) (sr_mn (Nat.add i 1) (Nat.add j 1))) (Nat.add c (Nat.sub (Nat.sub (Nat.add i j) a) c))
def sr_K (s i j k : Nat) : Nat := cond (Nat.beq (Nat.add (Nat.add i j) k) (sr_z s)) (sr_k5 (sr_a s) (sr_b s) (sr_c s) i j) 0
def sr_D (s u i v j w k : Nat) : Nat := cond (Nat.ble i u) (cond (Nat.ble j v) (cond (Nat.ble k w) (sr_K s (Nat.sub u i) (Nat.sub v j) (Nat.sub w k)) 0) 0) 0
/-- the product number's even and odd halves -/
def sr_E6 (p u v w i j k : Nat) : Nat := Nat.add (Nat.add (sr_D p u i v j w k) (sr_D p v i w j u k)) (sr_D p w i u j v k)
def sr_O6 (p u v w i j k : Nat) : Nat := Nat.add (Nat.add (sr_D p v i u j w k) (sr_D p u i w j v k)) (sr_D p w i v j u k)
def sr_E (p q r : Nat) : Nat := cond (Nat.beq (Nat.add (sr_z p) (sr_z q)) (sr_z r)) (sr_E6 p (Nat.add (sr_a r) 2) (Nat.add (sr_b r) 1) (sr_c r) (Nat.add (sr_a q) 2) (Nat.add (sr_b q) 1) (sr_c q)) 0
def sr_O (p q r : Nat) : Nat := cond (Nat.beq (Nat.add (sr_z p) (sr_z q)) (sr_z r)) (sr_O6 p (Nat.add (sr_a r) 2) (Nat.add (sr_b r) 1) (sr_c r) (Nat.add (sr_a q) 2) (Nat.add (sr_b q) 1) (sr_c q)) 0
/-- the reference's 'before' of a shape's polynomial: its plus and its minus -/
def sr_Bp (t s : Nat) : Nat := Nat.add (Nat.add (sr_D t (sr_a s) 0 (sr_b s) 0 (sr_c s) 0) (sr_D t (Nat.add (sr_a s) 1) 0 (Nat.add (sr_b s) 1) 0 (sr_c s) 2)) (sr_D t (Nat.add (sr_a s) 2) 0 (sr_b s) 1 (sr_c s) 1)
def sr_Bm (t s : Nat) : Nat := Nat.add (Nat.add (sr_D t (sr_a s) 0 (Nat.add (sr_b s) 1) 0 (sr_c s) 1) (sr_D t (Nat.add (sr_a s) 1) 0 (sr_b s) 1 (sr_c s) 0)) (sr_D t (Nat.add (sr_a s) 2) 0 (sr_b s) 0 (sr_c s) 2)
/-- the product of two shapes' polynomials at (i, j, k) -/
noncomputable def sr_Cv (p q i j k : Nat) : Nat := sr_zn (Nat.add i 1) (fun i' => sr_zn (Nat.add j 1) (fun j' => sr_zn (Nat.add k 1) (fun k' => Nat.mul (sr_K p i' j' k') (sr_K q (Nat.sub i i') (Nat.sub j j') (Nat.sub k k')))))
/-- the reference's count of patterns at a place -/
noncomputable def sr_G (a b c w : Nat) : Nat := sr_zn (Nat.sub (Nat.add a 1) b) (fun p => sr_zn (Nat.sub (Nat.add b 1) c) (fun q => sr_zn (Nat.sub (Nat.add (Nat.add b p) 1) (Nat.add c q)) (fun r => cond (Nat.beq (Nat.add (Nat.add (Nat.mul 100 (Nat.add (Nat.add c q) r)) (Nat.mul 10 (Nat.sub (Nat.add b p) r))) (Nat.sub (Nat.sub (Nat.add (Nat.add a b) c) (Nat.add b p)) (Nat.add c q))) w) 1 0)))
end
section
/-! closed tables, checked by the kernel -/
noncomputable def sr_q1 : Bool := sr_al 53 (fun s => cond (Nat.beq (sr_z s) (Nat.add (Nat.add (sr_a s) (sr_b s)) (sr_c s))) (cond (Nat.ble (sr_z s) 9) (cond (Nat.ble (sr_b s) (sr_a s)) (cond (Nat.ble (sr_c s) (sr_b s)) (cond (Nat.beq (sr_ix (sr_cd s)) s) (cond (sr_iS (sr_cd s)) (Nat.ble (sr_cd s) 999) false) false) false) false) false) false)
theorem sr_q1_t : sr_q1 = true := by decide +kernel
noncomputable def sr_q2 : Bool := sr_al 1000 (fun n => cond (sr_iS n) (cond (Nat.beq (sr_cd (sr_ix n)) n) (cond (Nat.ble (sr_ix n) 52) (cond (Nat.beq (sr_yc (sr_mc n)) n) (Nat.ble (sr_mc n) 52) false) false) false) true)
theorem sr_q2_t : sr_q2 = true := by decide +kernel
noncomputable def sr_q3 : Bool := sr_al 53 (fun t => cond (Nat.ble (sr_pi t) 52) (cond (Nat.beq (sr_yc t) (sr_cd (sr_pi t))) (Nat.beq (sr_zn 53 (fun t' => cond (Nat.beq (sr_pi t') t) 1 0)) 1) false) false)
theorem sr_q3_t : sr_q3 = true := by decide +kernel
noncomputable def sr_q4 : Bool := sr_al 1000 (fun p => cond (Nat.ble (sr_dg p) 9) (cond (Nat.beq (sr_P (sr_np p)) p) (Nat.ble (sr_np p) 219) false) true)
theorem sr_q4_t : sr_q4 = true := by decide +kernel
noncomputable def sr_q5 : Bool := sr_al 220 (fun t => cond (Nat.ble (sr_P t) 999) (cond (Nat.ble (sr_dg (sr_P t)) 9) (Nat.beq (sr_np (sr_P t)) t) false) false)
theorem sr_q5_t : sr_q5 = true := by decide +kernel
noncomputable def sr_q6 : Bool := sr_al 10 (fun a => sr_al (Nat.add a 1) (fun b => sr_al (Nat.add b 1) (fun c => cond (Nat.ble (Nat.add (Nat.add a b) c) 9) (cond (Nat.ble (sr_n3 a b c) 52) (cond (Nat.beq (sr_a (sr_n3 a b c)) a) (cond (Nat.beq (sr_b (sr_n3 a b c)) b) (Nat.beq (sr_c (sr_n3 a b c)) c) false) false) false) true)))
theorem sr_q6_t : sr_q6 = true := by decide +kernel
theorem sr_q6_e : sr_n3 10 0 0 = 53 := by decide +kernel
theorem sr_np_e : sr_np 1000 = 220 := by decide +kernel
theorem sr_mc_e : sr_mc 1000 = 53 := by decide +kernel
/-- before takes a shape's coefficient out -/
noncomputable def sr_q7 : Bool := sr_al 53 (fun t => sr_al 53 (fun s => Nat.beq (sr_Bp t s) (Nat.add (sr_Bm t s) (cond (Nat.beq t s) 1 0))))
theorem sr_q7_t : sr_q7 = true := by decide +kernel
/-- the reference's patterns are the component's fillings -/
noncomputable def sr_q8 : Bool := sr_al 53 (fun s => sr_al 10 (fun i => sr_al (Nat.sub 10 i) (fun j => sr_al (Nat.sub (Nat.sub 10 i) j) (fun k => Nat.beq (sr_G (sr_a s) (sr_b s) (sr_c s) (Nat.add (Nat.add (Nat.mul 100 i) (Nat.mul 10 j)) k)) (sr_K s i j k)))))
theorem sr_q8_t : sr_q8 = true := by decide +kernel
/-- a power sum is one of hooks -/
noncomputable def sr_w (cd i j k : Nat) : Nat := sr_zn 53 (fun p => Nat.mul (cond (Nat.beq (sr_cd p) cd) 1 0) (sr_K p i j k))
noncomputable def sr_q9 : Bool := sr_al 9 (fun r => sr_al 10 (fun i => sr_al (Nat.sub 10 i) (fun j => sr_al (Nat.sub (Nat.sub 10 i) j) (fun k => Nat.beq (Nat.add (cond (Nat.beq (Nat.add (Nat.add (Nat.mul 100 i) (Nat.mul 10 j)) k) (Nat.mul 100 (Nat.add r 1))) 1 (cond (Nat.beq (Nat.add (Nat.add (Nat.mul 100 i) (Nat.mul 10 j)) k) (Nat.mul 10 (Nat.add r 1))) 1 (cond (Nat.beq (Nat.add (Nat.add (Nat.mul 100 i) (Nat.mul 10 j)) k) (Nat.add r 1)) 1 0))) (sr_w (Nat.add r 10) i j k)) (Nat.add (sr_w (Nat.add r 1) i j k) (sr_w (Nat.add r 109) i j k))))))
theorem sr_q9_t : sr_q9 = true := by decide +kernel
/-- the places in order -/
noncomputable def sr_h2 (i j : Nat) : Nat := Nat.sub (Nat.sub 10 i) j
noncomputable def sr_h1 (i : Nat) : Nat := sr_zn (Nat.sub 10 i) (sr_h2 i)
theorem sr_h1_e : sr_zn 10 sr_h1 = 220 := by decide +kernel
noncomputable def sr_q10 : Bool := sr_al 10 (fun i => sr_al (Nat.sub 10 i) (fun j => sr_al (sr_h2 i j) (fun k => Nat.beq (sr_P (Nat.add (sr_zn i sr_h1) (Nat.add (sr_zn j (sr_h2 i)) k))) (Nat.add (Nat.add (Nat.mul 100 i) (Nat.mul 10 j)) k))))
theorem sr_q10_t : sr_q10 = true := by decide +kernel
end
section
/-! products of shapes, checked by the kernel: the fillings with their signs are the product's numbers -/
noncomputable def sr_m1 (p q n : Nat) : Bool := sr_al (Nat.add n 1) (fun i => sr_al (Nat.sub (Nat.add n 1) i) (fun j => Nat.beq (Nat.add (sr_Cv p q i j (Nat.sub (Nat.sub n i) j)) (sr_zn 53 (fun r => Nat.mul (sr_O p q r) (sr_K r i j (Nat.sub (Nat.sub n i) j))))) (sr_zn 53 (fun r => Nat.mul (sr_E p q r) (sr_K r i j (Nat.sub (Nat.sub n i) j))))))
noncomputable def sr_m2 (p : Nat) : Bool := sr_al 53 (fun q => cond (Nat.ble (Nat.add (sr_z p) (sr_z q)) 9) (sr_m1 p q (Nat.add (sr_z p) (sr_z q))) true)
theorem sr_m_0 : sr_al 6 (fun p => sr_m2 (Nat.add p 0)) = true := by decide +kernel
theorem sr_m_6 : sr_al 6 (fun p => sr_m2 (Nat.add p 6)) = true := by decide +kernel
theorem sr_m_12 : sr_al 8 (fun p => sr_m2 (Nat.add p 12)) = true := by decide +kernel
theorem sr_m_20 : sr_al 8 (fun p => sr_m2 (Nat.add p 20)) = true := by decide +kernel
theorem sr_m_28 : sr_al 8 (fun p => sr_m2 (Nat.add p 28)) = true := by decide +kernel
theorem sr_m_36 : sr_al 8 (fun p => sr_m2 (Nat.add p 36)) = true := by decide +kernel
theorem sr_m_44 : sr_al 9 (fun p => sr_m2 (Nat.add p 44)) = true := by decide +kernel
end
section
/-! sums of ints -/
def sr_s : Nat → (Nat → Int32) → Int32
  | 0, _ => 0
  | n + 1, f => sr_s n f + f n
theorem sr_s_congr {f g : Nat → Int32} : ∀ {n : Nat}, (∀ i, i < n → f i = g i) → sr_s n f = sr_s n g := by
  intro n
  induction n with
  | zero => intro _; rfl
  | succ n ih =>
    intro h
    show sr_s n f + f n = sr_s n g + g n
    rw [ih (fun i hi => h i (by omega)), h n (by omega)]
theorem sr_s_0 {f : Nat → Int32} : ∀ {n : Nat}, (∀ i, i < n → f i = 0) → sr_s n f = 0 := by
  intro n
  induction n with
  | zero => intro _; rfl
  | succ n ih =>
    intro h
    show sr_s n f + f n = 0
    rw [ih (fun i hi => h i (by omega)), h n (by omega)]
    rfl
theorem sr_s_add (f g : Nat → Int32) : ∀ n : Nat, sr_s n (fun i => f i + g i) = sr_s n f + sr_s n g := by
  intro n
  induction n with
  | zero => rfl
  | succ n ih =>
    show sr_s n (fun i => f i + g i) + (f n + g n) = (sr_s n f + f n) + (sr_s n g + g n)
    rw [ih]
    grind
theorem sr_s_sub (f g : Nat → Int32) : ∀ n : Nat, sr_s n (fun i => f i - g i) = sr_s n f - sr_s n g := by
  intro n
  induction n with
  | zero => exact (show (0 : Int32) = 0 - 0 by decide)
  | succ n ih =>
    show sr_s n (fun i => f i - g i) + (f n - g n) = (sr_s n f + f n) - (sr_s n g + g n)
    rw [ih]
    grind
theorem sr_s_mul (c : Int32) (f : Nat → Int32) : ∀ n : Nat, sr_s n (fun i => c * f i) = c * sr_s n f := by
  intro n
  induction n with
  | zero => exact (Int32.mul_zero (a := c)).symm
  | succ n ih =>
    show sr_s n (fun i => c * f i) + c * f n = c * (sr_s n f + f n)
    rw [ih]
    grind
theorem sr_s_mulr (c : Int32) (f : Nat → Int32) (n : Nat) : sr_s n (fun i => f i * c) = sr_s n f * c := by
  rw [Int32.mul_comm (sr_s n f) c, ← sr_s_mul]
  exact sr_s_congr fun i _ => Int32.mul_comm _ _
theorem sr_s_swap (f : Nat → Nat → Int32) (m : Nat) : ∀ n : Nat, sr_s n (fun i => sr_s m (fun j => f i j)) = sr_s m (fun j => sr_s n (fun i => f i j)) := by
  intro n
  induction n with
  | zero => exact (sr_s_0 (fun _ _ => rfl)).symm
  | succ n ih =>
    show sr_s n (fun i => sr_s m (fun j => f i j)) + sr_s m (fun j => f n j) = sr_s m (fun j => sr_s n (fun i => f i j) + f n j)
    rw [sr_s_add, ih]
theorem sr_s_one {f : Nat → Int32} {t : Nat} : ∀ {n : Nat}, t < n → (∀ i, i < n → i ≠ t → f i = 0) → sr_s n f = f t := by
  intro n
  induction n with
  | zero => intro h; exact absurd h (Nat.not_lt_zero t)
  | succ n ih =>
    intro ht h
    show sr_s n f + f n = f t
    by_cases e : t = n
    · subst e
      rw [sr_s_0 (fun i hi => h i (by omega) (by omega)), Int32.zero_add]
    · rw [h n (by omega) (by omega), Int32.add_zero]
      exact ih (by omega) (fun i hi => h i (by omega))
theorem sr_s_trunc {f : Nat → Int32} {m : Nat} : ∀ {n : Nat}, m ≤ n → (∀ i, m ≤ i → i < n → f i = 0) → sr_s n f = sr_s m f := by
  intro n
  induction n with
  | zero => intro h _; rw [show m = 0 by omega]
  | succ n ih =>
    intro hm h
    by_cases e : m = n + 1
    · rw [e]
    · show sr_s n f + f n = _
      rw [h n (by omega) (by omega), Int32.add_zero]
      exact ih (by omega) (fun i h1 h2 => h i h1 (by omega))
theorem sr_s_split (f : Nat → Int32) (n : Nat) : ∀ m : Nat, sr_s (n + m) f = sr_s n f + sr_s m (fun i => f (n + i)) := by
  intro m
  induction m with
  | zero => exact (Int32.add_zero _).symm
  | succ m ih =>
    show sr_s (n + m) f + f (n + m) = sr_s n f + (sr_s m (fun i => f (n + i)) + f (n + m))
    rw [ih, Int32.add_assoc]
theorem sr_s_cat (h : Nat → Nat) (f : Nat → Int32) : ∀ n : Nat, sr_s (sr_zn n h) f = sr_s n (fun i => sr_s (h i) (fun k => f (sr_zn i h + k))) := by
  intro n
  induction n with
  | zero => rfl
  | succ n ih =>
    rw [sr_zn_s, sr_s_split, ih]
    rfl
theorem sr_s_front (f : Nat → Int32) (n : Nat) : sr_s (n + 1) f = f 0 + sr_s n (fun i => f (i + 1)) := by
  rw [Nat.add_comm n 1, sr_s_split]
  have e : sr_s 1 f = f 0 := Int32.zero_add _
  rw [e]
  exact congrArg (f 0 + ·) (sr_s_congr fun i _ => by rw [Nat.add_comm])
theorem sr_s_rev : ∀ (n : Nat) (f : Nat → Int32), sr_s (n + 1) (fun i => f (n - i)) = sr_s (n + 1) f := by
  intro n
  induction n with
  | zero => intro f; rfl
  | succ n ih =>
    intro f
    rw [sr_s_front]
    have e : sr_s (n + 1) (fun i => f (n + 1 - (i + 1))) = sr_s (n + 1) (fun i => f (n - i)) := sr_s_congr fun i _ => by rw [Nat.add_sub_add_right]
    rw [e, ih f]
    show f (n + 1 - 0) + sr_s (n + 1) f = sr_s (n + 1) f + f (n + 1)
    rw [Nat.sub_zero, Int32.add_comm]
theorem sr_s_nI (f : Nat → Nat) : ∀ n : Nat, nI (sr_zn n f) = sr_s n (fun i => nI (f i)) := by
  intro n
  induction n with
  | zero => rfl
  | succ n ih =>
    rw [sr_zn_s, ← nI_add, ih]
    rfl
theorem sr_s_pull (m n : Nat) (c : Nat → Int32) (H : Nat → Nat → Int32) : sr_s m (fun x => sr_s n (fun q => c q * H q x)) = sr_s n (fun q => c q * sr_s m (fun x => H q x)) := by
  rw [sr_s_swap]
  exact sr_s_congr fun q _ => sr_s_mul _ _ _
/-! facts out of the checks -/
theorem sr_bt {x y : Nat} (h : x = y) : Nat.beq x y = true := by rw [h]; exact Nat.beq_refl y
theorem sr_bf {x y : Nat} (h : x ≠ y) : Nat.beq x y = false := by
  cases e : Nat.beq x y with
  | false => rfl
  | true => exact absurd (Nat.eq_of_beq_eq_true e) h
theorem sr_lt {x y : Nat} (h : x ≤ y) : Nat.ble x y = true := Nat.ble_eq_true_of_le h
theorem sr_lf {x y : Nat} (h : ¬ x ≤ y) : Nat.ble x y = false := by
  cases e : Nat.ble x y with
  | false => rfl
  | true => exact absurd (Nat.le_of_ble_eq_true e) h
theorem sr_f1 {s : Nat} (hs : s < 53) : sr_z s = sr_a s + sr_b s + sr_c s ∧ sr_z s ≤ 9 ∧ sr_b s ≤ sr_a s ∧ sr_c s ≤ sr_b s ∧ sr_ix (sr_cd s) = s ∧ sr_iS (sr_cd s) = true ∧ sr_cd s ≤ 999 := by
  have h := sr_al_e sr_q1_t s hs
  obtain ⟨h1, h⟩ := sr_c_f h
  obtain ⟨h2, h⟩ := sr_c_f h
  obtain ⟨h3, h⟩ := sr_c_f h
  obtain ⟨h4, h⟩ := sr_c_f h
  obtain ⟨h5, h⟩ := sr_c_f h
  obtain ⟨h6, h7⟩ := sr_c_f h
  exact ⟨Nat.eq_of_beq_eq_true h1, Nat.le_of_ble_eq_true h2, Nat.le_of_ble_eq_true h3, Nat.le_of_ble_eq_true h4, Nat.eq_of_beq_eq_true h5, h6, Nat.le_of_ble_eq_true h7⟩
theorem sr_cd_inj {s t : Nat} (hs : s < 53) (ht : t < 53) (h : sr_cd s = sr_cd t) : s = t := by
  have a := (sr_f1 hs).2.2.2.2.1
  have b := (sr_f1 ht).2.2.2.2.1
  rw [← a, ← b, h]
theorem sr_cd_e (s : Nat) : sr_cd s = sr_a s + 10 * sr_b s + 100 * sr_c s := rfl
theorem sr_cd_digits {s : Nat} (hs : s < 53) : sr_cd s % 10 = sr_a s ∧ sr_cd s / 10 % 10 = sr_b s ∧ sr_cd s / 100 = sr_c s := by
  obtain ⟨h1, h2, h3, h4, _⟩ := sr_f1 hs
  have e1 : sr_cd s / 10 = sr_b s + 10 * sr_c s := by rw [sr_cd_e]; omega
  have e2 : sr_cd s / 100 = sr_c s := by rw [sr_cd_e]; omega
  have e3 : sr_cd s % 10 = sr_a s := by rw [sr_cd_e]; omega
  exact ⟨e3, by rw [e1]; omega, e2⟩
theorem sr_f2 {n : Nat} (hn : n < 1000) (h : sr_iS n = true) : sr_cd (sr_ix n) = n ∧ sr_ix n < 53 ∧ sr_yc (sr_mc n) = n ∧ sr_mc n < 53 := by
  have h := sr_c_t (sr_al_e sr_q2_t n hn) h
  obtain ⟨h1, h⟩ := sr_c_f h
  obtain ⟨h2, h⟩ := sr_c_f h
  obtain ⟨h3, h4⟩ := sr_c_f h
  exact ⟨Nat.eq_of_beq_eq_true h1, Nat.lt_succ_of_le (Nat.le_of_ble_eq_true h2), Nat.eq_of_beq_eq_true h3, Nat.lt_succ_of_le (Nat.le_of_ble_eq_true h4)⟩
theorem sr_f3 {t : Nat} (ht : t < 53) : sr_pi t < 53 ∧ sr_yc t = sr_cd (sr_pi t) ∧ sr_zn 53 (fun t' => cond (Nat.beq (sr_pi t') t) 1 0) = 1 := by
  have h := sr_al_e sr_q3_t t ht
  obtain ⟨h1, h⟩ := sr_c_f h
  obtain ⟨h2, h3⟩ := sr_c_f h
  exact ⟨Nat.lt_succ_of_le (Nat.le_of_ble_eq_true h1), Nat.eq_of_beq_eq_true h2, Nat.eq_of_beq_eq_true h3⟩
theorem sr_f4 {p : Nat} (hp : p < 1000) (h : sr_dg p ≤ 9) : sr_P (sr_np p) = p ∧ sr_np p < 220 := by
  have h := sr_c_t (sr_al_e sr_q4_t p hp) (sr_lt h)
  obtain ⟨h1, h2⟩ := sr_c_f h
  exact ⟨Nat.eq_of_beq_eq_true h1, Nat.lt_succ_of_le (Nat.le_of_ble_eq_true h2)⟩
theorem sr_f5 {t : Nat} (ht : t < 220) : sr_P t < 1000 ∧ sr_dg (sr_P t) ≤ 9 ∧ sr_np (sr_P t) = t := by
  have h := sr_al_e sr_q5_t t ht
  obtain ⟨h1, h⟩ := sr_c_f h
  obtain ⟨h2, h3⟩ := sr_c_f h
  exact ⟨Nat.lt_succ_of_le (Nat.le_of_ble_eq_true h1), Nat.le_of_ble_eq_true h2, Nat.eq_of_beq_eq_true h3⟩
theorem sr_f6 {a b c : Nat} (ha : a < 10) (hb : b ≤ a) (hc : c ≤ b) (h : a + b + c ≤ 9) : sr_n3 a b c < 53 ∧ sr_a (sr_n3 a b c) = a ∧ sr_b (sr_n3 a b c) = b ∧ sr_c (sr_n3 a b c) = c := by
  have h := sr_c_t (sr_al_e (sr_al_e (sr_al_e sr_q6_t a ha) b (Nat.lt_succ_of_le hb)) c (Nat.lt_succ_of_le hc)) (sr_lt h)
  obtain ⟨h1, h⟩ := sr_c_f h
  obtain ⟨h2, h⟩ := sr_c_f h
  obtain ⟨h3, h4⟩ := sr_c_f h
  exact ⟨Nat.lt_succ_of_le (Nat.le_of_ble_eq_true h1), Nat.eq_of_beq_eq_true h2, Nat.eq_of_beq_eq_true h3, Nat.eq_of_beq_eq_true h4⟩
theorem sr_f7 {t s : Nat} (ht : t < 53) (hs : s < 53) : sr_Bp t s = sr_Bm t s + cond (Nat.beq t s) 1 0 :=
  Nat.eq_of_beq_eq_true (sr_al_e (sr_al_e sr_q7_t t ht) s hs)
theorem sr_f8 {s i j k : Nat} (hs : s < 53) (h : i + j + k ≤ 9) : sr_G (sr_a s) (sr_b s) (sr_c s) (100 * i + 10 * j + k) = sr_K s i j k :=
  Nat.eq_of_beq_eq_true (sr_al_e (sr_al_e (sr_al_e (sr_al_e sr_q8_t s hs) i (by omega)) j (show j < 10 - i by omega)) k (show k < 10 - i - j by omega))
theorem sr_f10 {i j k : Nat} (hi : i < 10) (hj : j < 10 - i) (hk : k < 10 - i - j) : sr_P (sr_zn i sr_h1 + (sr_zn j (sr_h2 i) + k)) = 100 * i + 10 * j + k :=
  Nat.eq_of_beq_eq_true (sr_al_e (sr_al_e (sr_al_e sr_q10_t i hi) j hj) k hk)
theorem sr_P_inj {t u : Nat} (ht : t < 220) (hu : u < 220) (h : sr_P t = sr_P u) : t = u := by
  rw [← (sr_f5 ht).2.2, ← (sr_f5 hu).2.2, h]
theorem sr_dg_e (i j k : Nat) (h : i + j + k ≤ 9) : sr_dg (100 * i + 10 * j + k) = i + j + k := by
  show (100 * i + 10 * j + k) / 100 + (100 * i + 10 * j + k) / 10 % 10 + (100 * i + 10 * j + k) % 10 = i + j + k
  have e1 : (100 * i + 10 * j + k) / 10 = 10 * i + j := by omega
  have e2 : (100 * i + 10 * j + k) / 100 = i := by omega
  have e3 : (100 * i + 10 * j + k) % 10 = k := by omega
  rw [e1, e2, e3]
  omega
/-- a place is three exponents -/
theorem sr_place {t : Nat} (ht : t < 220) : ∃ i j k : Nat, i + j + k ≤ 9 ∧ sr_P t = 100 * i + 10 * j + k ∧ sr_dg (sr_P t) = i + j + k := by
  obtain ⟨h1, h2, _⟩ := sr_f5 ht
  refine ⟨sr_P t / 100, sr_P t / 10 % 10, sr_P t % 10, h2, by omega, rfl⟩
theorem sr_at {i j k : Nat} (h : i + j + k ≤ 9) : ∃ t : Nat, t < 220 ∧ sr_P t = 100 * i + 10 * j + k := by
  have := sr_f4 (p := 100 * i + 10 * j + k) (by omega) (by rw [sr_dg_e i j k h]; exact h)
  exact ⟨_, this.2, this.1⟩
theorem sr_perm (f : Nat → Int32) : sr_s 53 (fun t => f (sr_pi t)) = sr_s 53 f := by
  have e1 : sr_s 53 (fun t => f (sr_pi t)) = sr_s 53 (fun t => sr_s 53 (fun s => f s * nI (cond (Nat.beq (sr_pi t) s) 1 0))) := by
    refine sr_s_congr fun t ht => ?_
    rw [sr_s_one (t := sr_pi t) (sr_f3 ht).1 ?_]
    · rw [sr_bt rfl]
      exact (Int32.mul_one _).symm
    · intro i _ hi
      rw [sr_bf (Ne.symm hi)]
      exact Int32.mul_zero
  rw [e1, sr_s_swap]
  refine sr_s_congr fun s hs => ?_
  rw [sr_s_mul, ← sr_s_nI (fun t => cond (Nat.beq (sr_pi t) s) 1 0), (sr_f3 hs).2.2]
  exact Int32.mul_one _
end
section
/-! polynomials: T c is the sum of c s times the shape s, V the product -/
def sr_T (c : Nat → Int32) (i j k : Nat) : Int32 := sr_s 53 (fun s => c s * nI (sr_K s i j k))
def sr_V (F G : Nat → Nat → Nat → Int32) (i j k : Nat) : Int32 := sr_s (i + 1) (fun i' => sr_s (j + 1) (fun j' => sr_s (k + 1) (fun k' => F i' j' k' * G (i - i') (j - j') (k - k'))))
def sr_N (p q r : Nat) : Int32 := nI (sr_E p q r) - nI (sr_O p q r)
def sr_Q (s i j k : Nat) : Int32 := nI (sr_K s i j k)
theorem sr_K_n {s i j k : Nat} (h : i + j + k ≠ sr_z s) : sr_K s i j k = 0 := by
  show cond (Nat.beq (i + j + k) (sr_z s)) _ 0 = 0
  rw [sr_bf h]
  rfl
theorem sr_K_y {s i j k : Nat} (h : i + j + k = sr_z s) : sr_K s i j k = sr_k5 (sr_a s) (sr_b s) (sr_c s) i j := by
  show cond (Nat.beq (i + j + k) (sr_z s)) _ 0 = _
  rw [sr_bt h]
  rfl
theorem sr_E_n {p q r : Nat} (h : sr_z p + sr_z q ≠ sr_z r) : sr_E p q r = 0 := by
  show cond (Nat.beq (sr_z p + sr_z q) (sr_z r)) _ 0 = 0
  rw [sr_bf h]
  rfl
theorem sr_O_n {p q r : Nat} (h : sr_z p + sr_z q ≠ sr_z r) : sr_O p q r = 0 := by
  show cond (Nat.beq (sr_z p + sr_z q) (sr_z r)) _ 0 = 0
  rw [sr_bf h]
  rfl
theorem sr_N_n {p q r : Nat} (h : sr_z p + sr_z q ≠ sr_z r) : sr_N p q r = 0 := by
  show nI (sr_E p q r) - nI (sr_O p q r) = 0
  rw [sr_E_n h, sr_O_n h]
  decide
theorem sr_T_sum (n : Nat) (f : Nat → Nat → Int32) (i j k : Nat) : sr_T (fun r => sr_s n (fun p => f p r)) i j k = sr_s n (fun p => sr_T (f p) i j k) := by
  show sr_s 53 (fun s => sr_s n (fun p => f p s) * nI (sr_K s i j k)) = sr_s n (fun p => sr_s 53 (fun s => f p s * nI (sr_K s i j k)))
  rw [sr_s_swap]
  exact sr_s_congr fun s _ => (sr_s_mulr _ _ _).symm
theorem sr_T_mul (c : Int32) (f : Nat → Int32) (i j k : Nat) : sr_T (fun r => c * f r) i j k = c * sr_T f i j k := by
  show sr_s 53 (fun s => c * f s * nI (sr_K s i j k)) = c * sr_s 53 (fun s => f s * nI (sr_K s i j k))
  rw [← sr_s_mul]
  exact sr_s_congr fun s _ => Int32.mul_assoc _ _ _
theorem sr_T_add (f g : Nat → Int32) (i j k : Nat) : sr_T (fun r => f r + g r) i j k = sr_T f i j k + sr_T g i j k := by
  show sr_s 53 (fun s => (f s + g s) * nI (sr_K s i j k)) = sr_s 53 (fun s => f s * nI (sr_K s i j k)) + sr_s 53 (fun s => g s * nI (sr_K s i j k))
  rw [← sr_s_add]
  exact sr_s_congr fun s _ => Int32.add_mul
theorem sr_T_congr {f g : Nat → Int32} (h : ∀ s, s < 53 → f s = g s) (i j k : Nat) : sr_T f i j k = sr_T g i j k :=
  sr_s_congr fun s hs => by rw [h s hs]
/-- one shape alone -/
theorem sr_T_one {p : Nat} (hp : p < 53) (i j k : Nat) : sr_T (fun s => if s = p then 1 else 0) i j k = sr_Q p i j k := by
  show sr_s 53 (fun s => (if s = p then (1 : Int32) else 0) * nI (sr_K s i j k)) = nI (sr_K p i j k)
  rw [sr_s_one hp]
  · rw [if_pos rfl]; exact Int32.one_mul _
  · intro s _ hs
    rw [if_neg hs]; exact Int32.zero_mul
theorem sr_V_lin (n : Nat) (c : Nat → Int32) (F : Nat → Nat → Nat → Nat → Int32) (G : Nat → Nat → Nat → Int32) (i j k : Nat) : sr_V (fun i j k => sr_s n (fun q => c q * F q i j k)) G i j k = sr_s n (fun q => c q * sr_V (F q) G i j k) := by
  refine Eq.trans (sr_s_congr fun i' _ => ?_) (sr_s_pull (i + 1) n c (fun q i' => sr_s (j + 1) (fun j' => sr_s (k + 1) (fun k' => F q i' j' k' * G (i - i') (j - j') (k - k')))))
  refine Eq.trans (sr_s_congr fun j' _ => ?_) (sr_s_pull (j + 1) n c (fun q j' => sr_s (k + 1) (fun k' => F q i' j' k' * G (i - i') (j - j') (k - k'))))
  refine Eq.trans (sr_s_congr fun k' _ => ?_) (sr_s_pull (k + 1) n c (fun q k' => F q i' j' k' * G (i - i') (j - j') (k - k')))
  rw [← sr_s_mulr]
  exact sr_s_congr fun q _ => Int32.mul_assoc _ _ _
theorem sr_V_comm (F G : Nat → Nat → Nat → Int32) (i j k : Nat) : sr_V F G i j k = sr_V G F i j k := by
  unfold sr_V
  refine (sr_s_rev i _).symm.trans (sr_s_congr fun i' hi => ?_)
  refine (sr_s_rev j _).symm.trans (sr_s_congr fun j' hj => ?_)
  refine (sr_s_rev k _).symm.trans (sr_s_congr fun k' hk => ?_)
  rw [show i - (i - i') = i' by omega, show j - (j - j') = j' by omega, show k - (k - k') = k' by omega]
  exact Int32.mul_comm _ _
theorem sr_V_congr {F F' G G' : Nat → Nat → Nat → Int32} {i j k : Nat} (hF : ∀ a b c, a ≤ i → b ≤ j → c ≤ k → F a b c = F' a b c) (hG : ∀ a b c, a ≤ i → b ≤ j → c ≤ k → G a b c = G' a b c) : sr_V F G i j k = sr_V F' G' i j k := by
  refine sr_s_congr fun i' hi => sr_s_congr fun j' hj => sr_s_congr fun k' hk => ?_
  rw [hF i' j' k' (by omega) (by omega) (by omega), hG _ _ _ (Nat.sub_le i i') (Nat.sub_le j j') (Nat.sub_le k k')]
theorem sr_V_Cv (p q i j k : Nat) : sr_V (sr_Q p) (sr_Q q) i j k = nI (sr_Cv p q i j k) := by
  unfold sr_Cv
  refine Eq.trans ?_ (sr_s_nI _ _).symm
  refine sr_s_congr fun i' _ => Eq.trans ?_ (sr_s_nI _ _).symm
  refine sr_s_congr fun j' _ => Eq.trans ?_ (sr_s_nI _ _).symm
  exact sr_s_congr fun k' _ => pk_mul _ _
theorem sr_m_all {p : Nat} (hp : p < 53) : sr_m2 p = true := by
  by_cases h1 : p < 6
  · exact sr_al_e sr_m_0 p h1
  by_cases h2 : p < 12
  · have := sr_al_e sr_m_6 (p - 6) (by omega)
    rwa [show Nat.add (p - 6) 6 = p from Nat.sub_add_cancel (by omega)] at this
  by_cases h3 : p < 20
  · have := sr_al_e sr_m_12 (p - 12) (by omega)
    rwa [show Nat.add (p - 12) 12 = p from Nat.sub_add_cancel (by omega)] at this
  by_cases h4 : p < 28
  · have := sr_al_e sr_m_20 (p - 20) (by omega)
    rwa [show Nat.add (p - 20) 20 = p from Nat.sub_add_cancel (by omega)] at this
  by_cases h5 : p < 36
  · have := sr_al_e sr_m_28 (p - 28) (by omega)
    rwa [show Nat.add (p - 28) 28 = p from Nat.sub_add_cancel (by omega)] at this
  by_cases h6 : p < 44
  · have := sr_al_e sr_m_36 (p - 36) (by omega)
    rwa [show Nat.add (p - 36) 36 = p from Nat.sub_add_cancel (by omega)] at this
  · have := sr_al_e sr_m_44 (p - 44) (by omega)
    rwa [show Nat.add (p - 44) 44 = p from Nat.sub_add_cancel (by omega)] at this
theorem sr_m_at {p q i j k : Nat} (hp : p < 53) (hq : q < 53) (hz : sr_z p + sr_z q ≤ 9) (h : i + j + k = sr_z p + sr_z q) : sr_Cv p q i j k + sr_zn 53 (fun r => sr_O p q r * sr_K r i j k) = sr_zn 53 (fun r => sr_E p q r * sr_K r i j k) := by
  have h1 := sr_c_t (sr_al_e (sr_m_all hp) q hq) (sr_lt hz)
  have h2 : Nat.beq (sr_Cv p q i j (sr_z p + sr_z q - i - j) + sr_zn 53 (fun r => sr_O p q r * sr_K r i j (sr_z p + sr_z q - i - j))) (sr_zn 53 (fun r => sr_E p q r * sr_K r i j (sr_z p + sr_z q - i - j))) = true := sr_al_e (sr_al_e h1 i (show i < sr_z p + sr_z q + 1 by omega)) j (show j < sr_z p + sr_z q + 1 - i by omega)
  rw [show sr_z p + sr_z q - i - j = k by omega] at h2
  exact Nat.eq_of_beq_eq_true h2
theorem sr_zn_0' {f : Nat → Nat} : ∀ {n : Nat}, (∀ i, i < n → f i = 0) → sr_zn n f = 0 := by
  intro n
  induction n with
  | zero => intro _; rfl
  | succ n ih => intro h; rw [sr_zn_s, ih (fun i hi => h i (by omega)), h n (by omega)]
theorem sr_Cv_n {p q i j k : Nat} (h : i + j + k ≠ sr_z p + sr_z q) : sr_Cv p q i j k = 0 := by
  refine sr_zn_0' fun i' hi => sr_zn_0' fun j' hj => sr_zn_0' fun k' hk => ?_
  have hi : i' < i + 1 := hi
  have hj : j' < j + 1 := hj
  have hk : k' < k + 1 := hk
  show sr_K p i' j' k' * sr_K q (i - i') (j - j') (k - k') = 0
  by_cases e : i' + j' + k' = sr_z p
  · rw [sr_K_n (s := q) (by omega), Nat.mul_zero]
  · rw [sr_K_n e, Nat.zero_mul]
/-- the product of two shapes -/
theorem sr_LR {p q : Nat} (hp : p < 53) (hq : q < 53) (hz : sr_z p + sr_z q ≤ 9) (i j k : Nat) : sr_V (sr_Q p) (sr_Q q) i j k = sr_T (sr_N p q) i j k := by
  rw [sr_V_Cv]
  by_cases h : i + j + k = sr_z p + sr_z q
  · have e := congrArg nI (sr_m_at hp hq hz h)
    rw [← nI_add, sr_s_nI, sr_s_nI] at e
    have e2 : sr_T (sr_N p q) i j k = sr_s 53 (fun r => nI (sr_E p q r * sr_K r i j k)) - sr_s 53 (fun r => nI (sr_O p q r * sr_K r i j k)) := by
      rw [← sr_s_sub]
      refine sr_s_congr fun r _ => ?_
      rw [← pk_mul, ← pk_mul]
      show (nI (sr_E p q r) - nI (sr_O p q r)) * _ = _
      grind
    rw [e2, ← e]
    grind
  · rw [sr_Cv_n h]
    refine (sr_s_0 fun r _ => ?_).symm
    by_cases e : sr_z p + sr_z q = sr_z r
    · rw [sr_K_n (s := r) (by omega)]; exact Int32.mul_zero
    · rw [sr_N_n e]; exact Int32.zero_mul
/-- the product of two elements: what the component gathers is what the reference multiplies -/
theorem sr_main {c d : Nat → Int32} (h : ∀ q, q < 53 → ∀ p, p < 53 → c q ≠ 0 → d p ≠ 0 → sr_z p + sr_z q ≤ 9) (i j k : Nat) : sr_V (sr_T c) (sr_T d) i j k = sr_T (fun r => sr_s 53 (fun p => sr_s 53 (fun q => (d p * c q) * sr_N p q r))) i j k := by
  rw [sr_T_sum, sr_V_comm]
  refine (sr_V_lin 53 d sr_Q (sr_T c) i j k).trans (sr_s_congr fun p hp => ?_)
  rw [sr_T_sum, sr_V_comm]
  refine (congrArg (d p * ·) (sr_V_lin 53 c sr_Q (sr_Q p) i j k)).trans ?_
  show d p * _ = _
  rw [← sr_s_mul]
  refine sr_s_congr fun q hq => ?_
  rw [sr_V_comm, sr_T_mul, ← Int32.mul_assoc]
  by_cases hc : c q = 0
  · rw [hc, Int32.mul_zero, Int32.zero_mul, Int32.zero_mul]
  by_cases hd : d p = 0
  · rw [hd, Int32.zero_mul, Int32.zero_mul, Int32.zero_mul]
  rw [sr_LR hp hq (h q hq p hp hc hd)]
/-- what 'before' takes out -/
theorem sr_bef {c : Nat → Int32} {s : Nat} (hs : s < 53) : sr_s 53 (fun t => c t * (nI (sr_Bp t s) - nI (sr_Bm t s))) = c s := by
  rw [sr_s_one hs]
  · rw [sr_f7 hs hs, sr_bt rfl, ← nI_add]
    show c s * (nI (sr_Bm s s) + 1 - nI (sr_Bm s s)) = c s
    grind
  · intro t ht hts
    rw [sr_f7 ht hs, sr_bf hts]
    show c t * (nI (sr_Bm t s + 0) - nI (sr_Bm t s)) = 0
    rw [Nat.add_zero]
    grind
theorem sr_D_y {s u i v j w k : Nat} (h1 : i ≤ u) (h2 : j ≤ v) (h3 : k ≤ w) : sr_D s u i v j w k = sr_K s (u - i) (v - j) (w - k) := by
  show cond (Nat.ble i u) (cond (Nat.ble j v) (cond (Nat.ble k w) _ 0) 0) 0 = _
  rw [sr_lt h1, sr_lt h2, sr_lt h3]
  rfl
theorem sr_D_n {s u i v j w k : Nat} (h : ¬ (i ≤ u ∧ j ≤ v ∧ k ≤ w)) : sr_D s u i v j w k = 0 := by
  show cond (Nat.ble i u) (cond (Nat.ble j v) (cond (Nat.ble k w) _ 0) 0) 0 = _
  by_cases h1 : i ≤ u
  · rw [sr_lt h1]
    by_cases h2 : j ≤ v
    · rw [sr_lt h2, sr_lf (fun h3 => h ⟨h1, h2, h3⟩)]
      rfl
    · rw [sr_lf h2]
      rfl
  · rw [sr_lf h1]
    rfl
end
section
/-! arrays: a block of places, a run of cells, counts added to a block -/
def sr_xA : Nat → Int32 := fun s => nI (sr_a s)
def sr_xB : Nat → Int32 := fun s => nI (sr_b s)
def sr_xC : Nat → Int32 := fun s => nI (sr_c s)
def sr_xZ : Nat → Int32 := fun s => nI (sr_z s)
def sr_xK : Nat → Int32 := fun s => nI (sr_cd s)
def sr_yP : Nat → Int32 := fun t => nI (sr_P t)
def sr_yC : Nat → Int32 := fun t => nI (sr_yc t)
noncomputable def sr_pw (o : Nat) (V : Nat → Int32) (f : Nat → Int32) (t : Nat) : Nat → Int32 := fun j => if o ≤ j ∧ sr_np (j - o) < t ∧ o + sr_P (sr_np (j - o)) = j then V (sr_np (j - o)) else f j
theorem sr_pw_0 {o : Nat} {V f : Nat → Int32} : sr_pw o V f 0 = f := by
  funext j
  exact if_neg (fun h => absurd h.2.1 (Nat.not_lt_zero _))
theorem sr_pw_in {o : Nat} {V f : Nat → Int32} {t u : Nat} (hu : u < 220) : sr_pw o V f t (o + sr_P u) = if u < t then V u else f (o + sr_P u) := by
  unfold sr_pw
  rw [Nat.add_sub_cancel_left, (sr_f5 hu).2.2]
  by_cases h : u < t
  · rw [if_pos ⟨Nat.le_add_right _ _, h, rfl⟩, if_pos h]
  · rw [if_neg (fun z => h z.2.1), if_neg h]
theorem sr_pw_s {o : Nat} {V f : Nat → Int32} {t : Nat} (ht : t < 220) : upd (sr_pw o V f t) (o + sr_P t) (V t) = sr_pw o V f (t + 1) := by
  funext j
  by_cases e : j = o + sr_P t
  · rw [e, pk_us, sr_pw_in ht, if_pos (Nat.lt_succ_self t)]
  · rw [pk_un e]
    unfold sr_pw
    by_cases h : o ≤ j ∧ sr_np (j - o) < t ∧ o + sr_P (sr_np (j - o)) = j
    · rw [if_pos h, if_pos ⟨h.1, by omega, h.2.2⟩]
    · rw [if_neg h, if_neg]
      intro z
      by_cases e2 : sr_np (j - o) = t
      · rw [e2] at z
        exact e z.2.2.symm
      · exact h ⟨z.1, by omega, z.2.2⟩
theorem sr_pw_out {o : Nat} {V f : Nat → Int32} {t j : Nat} (ht : t ≤ 220) (h : j < o ∨ o + 1000 ≤ j) : sr_pw o V f t j = f j := by
  refine if_neg fun z => ?_
  have := (sr_f5 (t := sr_np (j - o)) (by omega)).1
  omega
def sr_px (o : Nat) (V : Nat → Int32) (f : Nat → Int32) (t : Nat) : Nat → Int32 := fun j => if o ≤ j ∧ j < o + t then V (j - o) else f j
theorem sr_px_0 {o : Nat} {V f : Nat → Int32} : sr_px o V f 0 = f := by
  funext j
  exact if_neg (by omega)
theorem sr_px_in {o : Nat} {V f : Nat → Int32} {t u : Nat} : sr_px o V f t (o + u) = if u < t then V u else f (o + u) := by
  unfold sr_px
  rw [Nat.add_sub_cancel_left]
  by_cases h : u < t
  · rw [if_pos (by omega), if_pos h]
  · rw [if_neg (by omega), if_neg h]
theorem sr_px_s {o : Nat} {V f : Nat → Int32} {t : Nat} : upd (sr_px o V f t) (o + t) (V t) = sr_px o V f (t + 1) := by
  funext j
  by_cases e : j = o + t
  · rw [e, pk_us, sr_px_in, if_pos (Nat.lt_succ_self t)]
  · rw [pk_un e]
    unfold sr_px
    by_cases h : o ≤ j ∧ j < o + t
    · rw [if_pos h, if_pos (by omega)]
    · rw [if_neg h, if_neg (by omega)]
theorem sr_px_out {o : Nat} {V f : Nat → Int32} {t j : Nat} (h : j < o ∨ o + t ≤ j) : sr_px o V f t j = f j :=
  if_neg (by omega)
/-- counts added from 2000 on -/
def sr_ad (f : Nat → Int32) (g : Nat → Nat) : Nat → Int32 := fun j => f j + nI (if 2000 ≤ j then g (j - 2000) else 0)
theorem sr_ad_0 {f : Nat → Int32} : sr_ad f (fun _ => 0) = f := by
  funext j
  unfold sr_ad
  rw [ite_self]
  exact Int32.add_zero _
theorem sr_ad_in {f : Nat → Int32} {g : Nat → Nat} {w : Nat} : sr_ad f g (2000 + w) = f (2000 + w) + nI (g w) := by
  unfold sr_ad
  rw [if_pos (Nat.le_add_right _ _), Nat.add_sub_cancel_left]
theorem sr_ad_s {f : Nat → Int32} {g : Nat → Nat} {w : Nat} : upd (sr_ad f g) (2000 + w) (sr_ad f g (2000 + w) + 1) = sr_ad f (fun x => g x + cond (Nat.beq w x) 1 0) := by
  funext j
  by_cases e : j = 2000 + w
  · rw [e, pk_us, sr_ad_in, sr_ad_in, sr_bt rfl]
    show f (2000 + w) + nI (g w) + 1 = f (2000 + w) + nI (g w + 1)
    rw [← nI_1, Int32.add_assoc]
  · rw [pk_un e]
    unfold sr_ad
    by_cases h : 2000 ≤ j
    · rw [if_pos h, if_pos h]
      show f j + nI (g (j - 2000)) = f j + nI (g (j - 2000) + cond (Nat.beq w (j - 2000)) 1 0)
      rw [sr_bf (show w ≠ j - 2000 by omega)]
      rfl
    · rw [if_neg h, if_neg h]
/-- numbers added to a block -/
def sr_ac (o : Nat) (f : Nat → Int32) (g : Nat → Int32) : Nat → Int32 := fun j => if o ≤ j ∧ j < o + 1000 then f j + g (j - o) else f j
theorem sr_ac_0 {o : Nat} {f g : Nat → Int32} (h : ∀ w, w < 1000 → g w = 0) : sr_ac o f g = f := by
  funext j
  unfold sr_ac
  by_cases e : o ≤ j ∧ j < o + 1000
  · rw [if_pos e, h (j - o) (by omega), Int32.add_zero]
  · rw [if_neg e]
theorem sr_ac_in {o : Nat} {f g : Nat → Int32} {w : Nat} (hw : w < 1000) : sr_ac o f g (o + w) = f (o + w) + g w := by
  unfold sr_ac
  rw [if_pos (by omega), Nat.add_sub_cancel_left]
theorem sr_ac_out {o : Nat} {f g : Nat → Int32} {j : Nat} (h : j < o ∨ o + 1000 ≤ j) : sr_ac o f g j = f j := if_neg (by omega)
theorem sr_ac_congr {o : Nat} {f g g' : Nat → Int32} (h : ∀ w, w < 1000 → g w = g' w) : sr_ac o f g = sr_ac o f g' := by
  funext j
  unfold sr_ac
  by_cases e : o ≤ j ∧ j < o + 1000
  · rw [if_pos e, if_pos e, h (j - o) (by omega)]
  · rw [if_neg e, if_neg e]
theorem sr_ac_s {o : Nat} {f g : Nat → Int32} {w : Nat} {v : Int32} (hw : w < 1000) : upd (sr_ac o f g) (o + w) (sr_ac o f g (o + w) + v) = sr_ac o f (fun x => g x + if w = x then v else 0) := by
  funext j
  by_cases e : j = o + w
  · rw [e, pk_us, sr_ac_in hw, sr_ac_in hw, if_pos rfl, Int32.add_assoc]
  · rw [pk_un e]
    unfold sr_ac
    by_cases h : o ≤ j ∧ j < o + 1000
    · rw [if_pos h, if_pos h]
      show f j + g (j - o) = f j + (g (j - o) + if w = j - o then v else 0)
      rw [if_neg (show ¬ w = j - o by omega), Int32.add_zero]
    · rw [if_neg h, if_neg h]
end
section
/-! sums over the places -/
theorem sr_L1 (H : Nat → Int32) : sr_s 220 (fun t => H (sr_P t)) = sr_s 10 (fun i => sr_s (10 - i) (fun j => sr_s (10 - i - j) (fun k => H (100 * i + 10 * j + k)))) := by
  have e := sr_s_cat sr_h1 (fun t => H (sr_P t)) 10
  rw [sr_h1_e] at e
  refine e.trans ?_
  refine sr_s_congr fun i hi => ?_
  have e2 : sr_s (sr_h1 i) (fun k => H (sr_P (sr_zn i sr_h1 + k))) = _ := sr_s_cat (sr_h2 i) (fun m => H (sr_P (sr_zn i sr_h1 + m))) (10 - i)
  refine e2.trans ?_
  refine sr_s_congr fun j hj => ?_
  show sr_s (sr_h2 i j) (fun k => H (sr_P (sr_zn i sr_h1 + (sr_zn j (sr_h2 i) + k)))) = sr_s (sr_h2 i j) (fun k => H (100 * i + 10 * j + k))
  refine sr_s_congr fun k hk => ?_
  exact congrArg H (sr_f10 hi hj hk)
theorem sr_trunc3 (H : Nat → Nat → Nat → Int32) {i j k : Nat} (h : i + j + k ≤ 9) (hz : ∀ a b c, ¬ (a ≤ i ∧ b ≤ j ∧ c ≤ k) → H a b c = 0) : sr_s 10 (fun a => sr_s (10 - a) (fun b => sr_s (10 - a - b) (fun c => H a b c))) = sr_s (i + 1) (fun a => sr_s (j + 1) (fun b => sr_s (k + 1) (fun c => H a b c))) := by
  have e1 := sr_s_trunc (f := fun a => sr_s (10 - a) (fun b => sr_s (10 - a - b) (fun c => H a b c))) (m := i + 1) (n := 10) (by omega) (fun a h1 _ => sr_s_0 (f := fun b => sr_s (10 - a - b) (fun c => H a b c)) fun b _ => sr_s_0 (f := fun c => H a b c) fun c _ => hz a b c (by omega))
  refine e1.trans (sr_s_congr fun a ha => ?_)
  have e2 := sr_s_trunc (f := fun b => sr_s (10 - a - b) (fun c => H a b c)) (m := j + 1) (n := 10 - a) (by omega) (fun b h1 _ => sr_s_0 (f := fun c => H a b c) fun c _ => hz a b c (by omega))
  refine e2.trans (sr_s_congr fun b hb => ?_)
  exact sr_s_trunc (f := fun c => H a b c) (m := k + 1) (n := 10 - a - b) (by omega) (fun c h1 _ => hz a b c (by omega))
theorem sr_digits {i j k : Nat} (h : i + j + k ≤ 9) : (100 * i + 10 * j + k) / 100 = i ∧ (100 * i + 10 * j + k) / 10 % 10 = j ∧ (100 * i + 10 * j + k) % 10 = k := by
  have d1 : (100 * i + 10 * j + k) / 100 = i := by omega
  have d2 : (100 * i + 10 * j + k) / 10 = 10 * i + j := by omega
  have d3 : (100 * i + 10 * j + k) % 10 = k := by omega
  have d4 : (10 * i + j) % 10 = j := by omega
  exact ⟨d1, by rw [d2, d4], d3⟩
theorem sr_dig_eq {i j k a b c x y z : Nat} (h : a + b + c + (x + y + z) ≤ 9) (h2 : i + j + k ≤ 9) (e : 100 * a + 10 * b + c + (100 * x + 10 * y + z) = 100 * i + 10 * j + k) : a + x = i ∧ b + y = j ∧ c + z = k := by
  have e' : 100 * (a + x) + 10 * (b + y) + (c + z) = 100 * i + 10 * j + k := by omega
  have d := sr_digits (i := a + x) (j := b + y) (k := c + z) (by omega)
  have d' := sr_digits h2
  rw [e'] at d
  exact ⟨d.1.symm.trans d'.1, d.2.1.symm.trans d'.2.1, d.2.2.symm.trans d'.2.2⟩
def sr_H (A B : Nat → Int32) (i j k a b c : Nat) : Int32 := if a ≤ i ∧ b ≤ j ∧ c ≤ k then A (100 * a + 10 * b + c) * B (100 * (i - a) + 10 * (j - b) + (k - c)) else 0
theorem sr_conv1 (A B : Nat → Int32) {i j k : Nat} (h : i + j + k ≤ 9) {s : Nat} (hs : s < 220) : sr_s 220 (fun t => if sr_dg (sr_P s) + sr_dg (sr_P t) ≤ 9 ∧ sr_P s + sr_P t = 100 * i + 10 * j + k then A (sr_P s) * B (sr_P t) else 0) = sr_H A B i j k (sr_P s / 100) (sr_P s / 10 % 10) (sr_P s % 10) := by
  obtain ⟨a, b, c, h', ep, ed⟩ := sr_place hs
  rw [ed, ep]
  obtain ⟨d1, d2, d3⟩ := sr_digits h'
  rw [d1, d2, d3]
  clear ed ep d1 d2 d3
  unfold sr_H
  by_cases hc : a ≤ i ∧ b ≤ j ∧ c ≤ k
  · rw [if_pos hc]
    obtain ⟨t, ht, et⟩ := sr_at (i := i - a) (j := j - b) (k := k - c) (by omega)
    have e2 : sr_dg (sr_P t) = i - a + (j - b) + (k - c) := by rw [et]; exact sr_dg_e _ _ _ (by omega)
    refine (sr_s_one (f := fun t => if a + b + c + sr_dg (sr_P t) ≤ 9 ∧ 100 * a + 10 * b + c + sr_P t = 100 * i + 10 * j + k then A (100 * a + 10 * b + c) * B (sr_P t) else 0) ht ?_).trans ?_
    · intro u hu hne
      refine if_neg fun z => hne (sr_P_inj hu ht ?_)
      have := z.2
      omega
    · rw [e2, et]
      exact if_pos ⟨by omega, by omega⟩
  · rw [if_neg hc]
    refine sr_s_0 fun t ht => if_neg fun z => hc ?_
    obtain ⟨x, y, w, h2, ep2, ed2⟩ := sr_place ht
    rw [ed2, ep2] at z
    have := sr_dig_eq z.1 h z.2
    omega
/-- the reference's double loop is the product -/
theorem sr_conv (A B : Nat → Int32) {i j k : Nat} (h : i + j + k ≤ 9) : sr_s 220 (fun s => sr_s 220 (fun t => if sr_dg (sr_P s) + sr_dg (sr_P t) ≤ 9 ∧ sr_P s + sr_P t = 100 * i + 10 * j + k then A (sr_P s) * B (sr_P t) else 0)) = sr_V (fun i j k => A (100 * i + 10 * j + k)) (fun i j k => B (100 * i + 10 * j + k)) i j k := by
  refine (sr_s_congr fun s hs => sr_conv1 A B h hs).trans ?_
  refine (sr_L1 (fun p => sr_H A B i j k (p / 100) (p / 10 % 10) (p % 10))).trans ?_
  have e0 : sr_s 10 (fun a => sr_s (10 - a) (fun b => sr_s (10 - a - b) (fun c => sr_H A B i j k ((100 * a + 10 * b + c) / 100) ((100 * a + 10 * b + c) / 10 % 10) ((100 * a + 10 * b + c) % 10)))) = sr_s 10 (fun a => sr_s (10 - a) (fun b => sr_s (10 - a - b) (fun c => sr_H A B i j k a b c))) := by
    refine sr_s_congr fun a ha => sr_s_congr fun b hb => sr_s_congr fun c hc => ?_
    obtain ⟨d1, d2, d3⟩ := sr_digits (i := a) (j := b) (k := c) (by omega)
    rw [d1, d2, d3]
  refine e0.trans ((sr_trunc3 (sr_H A B i j k) h (fun a b c hn => if_neg hn)).trans ?_)
  unfold sr_V
  refine sr_s_congr fun a ha => sr_s_congr fun b hb => sr_s_congr fun c hc => ?_
  exact if_pos (by omega)
end
section
/-! the reference's walks -/
theorem sr_o1 (o : Nat) {t : Nat} (ht : t < 220) : nI o + sr_yP (nI t).toNatClampNeg = nI (o + sr_P t) := by
  rw [nI_clamp (by omega)]
  exact nI_add _ _
theorem sr_clear {post : SY → Prop} {tm ys : Nat → Int32} {o : Nat} (ho : o ≤ 4000) (h : post (sr_pw o (fun _ => 0) tm 220, sr_yP, sr_yC, ys)) : wpY_clear post (tm, sr_yP, sr_yC, ys) (nI o) := by
  refine loop_0 (fun n t tm' => wY_clear_2 post (nI o) n (nI t) tm' sr_yP sr_yC ys) (fun t tm' => tm' = sr_pw o (fun _ => 0) tm t) 220 tm sr_pw_0.symm ?_ ?_
  · rintro n s rfl
    exact br_t (nI_le (a := 220) (b := 220) (by decide) (by decide)) h
  · rintro n t s ht rfl ih
    have e := sr_o1 o ht
    have hP := (sr_f5 ht).1
    refine br_f (nI_ge (b := 220) ht (by decide)) ⟨vp_in_nI ht (by decide), ?_⟩
    rw [e, nI_clamp (by omega)]
    exact ⟨vp_in_nI (by omega) (by decide), nm_r (sr_pw_s ht) (nm_r (nI_1 t) (ih _ rfl))⟩
theorem sr_copy {post : SY → Prop} {tm ys : Nat → Int32} {a o : Nat} (ha : a ≤ 4000) (ho : o ≤ 4000) (hd : a + 1000 ≤ o ∨ o + 1000 ≤ a) (h : post (sr_pw o (fun t => tm (a + sr_P t)) tm 220, sr_yP, sr_yC, ys)) : wpY_copy post (tm, sr_yP, sr_yC, ys) (nI a) (nI o) := by
  refine loop_0 (fun n t tm' => wY_copy_2 post (nI a) (nI o) n (nI t) tm' sr_yP sr_yC ys) (fun t tm' => tm' = sr_pw o (fun t => tm (a + sr_P t)) tm t) 220 tm sr_pw_0.symm ?_ ?_
  · rintro n s rfl
    exact br_t (nI_le (a := 220) (b := 220) (by decide) (by decide)) h
  · rintro n t s ht rfl ih
    have hP := (sr_f5 ht).1
    refine br_f (nI_ge (b := 220) ht (by decide)) ⟨vp_in_nI ht (by decide), vp_in_nI ht (by decide), ?_⟩
    rw [sr_o1 o ht, sr_o1 a ht, nI_clamp (n := o + sr_P t) (by omega), nI_clamp (n := a + sr_P t) (by omega), sr_pw_out (j := a + sr_P t) (by omega) (by omega)]
    exact ⟨vp_in_nI (by omega) (by decide), vp_in_nI (by omega) (by decide), nm_r (sr_pw_s (V := fun t => tm (a + sr_P t)) ht) (nm_r (nI_1 t) (ih _ rfl))⟩
theorem sr_addT {post : SY → Prop} {tm ys : Nat → Int32} {a o : Nat} {n : Int32} (ha : a ≤ 4000) (ho : o ≤ 4000) (hd : a + 1000 ≤ o ∨ o + 1000 ≤ a) (h : post (sr_pw o (fun t => tm (o + sr_P t) + n * tm (a + sr_P t)) tm 220, sr_yP, sr_yC, ys)) : wpY_addTimes post (tm, sr_yP, sr_yC, ys) (nI a) (nI o) n := by
  refine loop_0 (fun m t tm' => wY_addTimes_3 post (nI a) (nI o) n m (nI t) tm' sr_yP sr_yC ys) (fun t tm' => tm' = sr_pw o (fun t => tm (o + sr_P t) + n * tm (a + sr_P t)) tm t) 220 tm sr_pw_0.symm ?_ ?_
  · rintro m s rfl
    exact br_t (nI_le (a := 220) (b := 220) (by decide) (by decide)) h
  · rintro m t s ht rfl ih
    have hP := (sr_f5 ht).1
    refine br_f (nI_ge (b := 220) ht (by decide)) ⟨vp_in_nI ht (by decide), ?_⟩
    rw [sr_o1 o ht, sr_o1 a ht, nI_clamp (n := o + sr_P t) (by omega), nI_clamp (n := a + sr_P t) (by omega), sr_pw_out (j := a + sr_P t) (by omega) (by omega), sr_pw_in ht, if_neg (Nat.lt_irrefl t)]
    exact ⟨vp_in_nI (by omega) (by decide), vp_in_nI ht (by decide), vp_in_nI (by omega) (by decide), vp_in_nI (by omega) (by decide), nm_r (sr_pw_s (V := fun t => tm (o + sr_P t) + n * tm (a + sr_P t)) ht) (nm_r (nI_1 t) (ih _ rfl))⟩
theorem sr_div {p : Nat} (hp : p < 2 ^ 31) : nI p / 100 = nI (p / 100) ∧ nI p / 10 = nI (p / 10) ∧ nI p - nI p / 10 * 10 = nI (p % 10) ∧ nI p / 10 - nI p / 10 / 10 * 10 = nI (p / 10 % 10) := by
  have e1 : nI p / 10 = nI (p / 10) := pk_div (d := 10) hp (by decide) (by decide)
  refine ⟨pk_div (d := 100) hp (by decide) (by decide), e1, pk_rem (d := 10) hp (by decide) (by decide), ?_⟩
  rw [e1]
  exact pk_rem (d := 10) (a := p / 10) (by omega) (by decide) (by decide)
theorem sr_degOf {post : Int32 → Prop} {v : SY} {p : Nat} (hp : p < 1000) (h : post (nI (sr_dg p))) : wpY_degreeOf post v (nI p) := by
  obtain ⟨e1, e2, e3, e4⟩ := sr_div (p := p) (by omega)
  refine ⟨by decide, by decide, by decide, by decide, ?_⟩
  rw [e4, e1, e3, nI_add, nI_add]
  exact h
theorem sr_isS {post : Int32 → Prop} {v : SY} {p : Nat} (hp : p < 1000) (h : post (if sr_iS p = true then 1 else 0)) : wpY_isShape post v (nI p) := by
  obtain ⟨e1, e2, e3, e4⟩ := sr_div (p := p) (by omega)
  refine br_f (nI_pos (by omega)) (br_t (nI_le (b := 999) (by omega) (by decide)) ⟨by decide, nm_r e3 ⟨by decide, by decide, nm_r e4 ⟨by decide, nm_r e1 ?_⟩⟩⟩)
  have hi : sr_iS p = cond (Nat.ble (p / 10 % 10) (p % 10)) (cond (Nat.ble (p / 100) (p / 10 % 10)) (Nat.ble (p % 10 + p / 10 % 10 + p / 100) 9) false) false := rfl
  rw [hi] at h
  refine pk_lt (p % 10) (p / 10 % 10) (fun z => ?_) (fun z => ?_)
  · rw [sr_lf (by omega)] at h
    exact h
  rw [sr_lt z] at h
  refine pk_lt (p / 10 % 10) (p / 100) (fun z => ?_) (fun z => ?_)
  · rw [sr_lf (by omega)] at h
    exact h
  rw [sr_lt z] at h
  rw [nI_add, nI_add]
  refine pk_lt 9 (p % 10 + p / 10 % 10 + p / 100) (fun z => ?_) (fun z => ?_)
  · rw [sr_lf (by omega)] at h
    exact h
  · rw [sr_lt z] at h
    exact h
theorem sr_isS_y {post : Int32 → Prop} {v : SY} {s : Nat} (hs : s < 53) (h : post 1) : wpY_isShape post v (nI (sr_cd s)) := by
  obtain ⟨_, _, _, _, _, h6, h7⟩ := sr_f1 hs
  refine sr_isS (by omega) ?_
  rw [if_pos h6]
  exact h
theorem sr_isS_n {post : Int32 → Prop} {v : SY} {x : Int32} (hx : ∀ s, s < 53 → x ≠ nI (sr_cd s)) (h : post 0) : wpY_isShape post v x := by
  rcases pk_ix x (n := 1000) (by decide) with h0 | h0 | ⟨n, hn, rfl⟩
  · exact br_t h0 h
  · have a0 : ¬ x < 0 := fun z => by
      have := Int32.lt_of_lt_of_le z (show (0 : Int32) ≤ nI 1000 by decide)
      exact absurd h0 (Int32.not_le.mpr this)
    obtain ⟨j, hj, rfl⟩ := nI_of a0
    rw [nI_leI (by decide) hj] at h0
    exact br_f a0 (br_f (nI_ge (a := 999) (by omega) hj) h)
  · refine sr_isS hn ?_
    rw [if_neg]
    · exact h
    · intro z
      obtain ⟨h1, h2, _⟩ := sr_f2 hn z
      exact hx _ h2 (by rw [h1])
theorem sr_bad_n {post : Int32 → Prop} {v : SY} {e : Nat} (he : e < 2) (h : post 0) : wpY_bad post v (nI e) :=
  br_f (nI_pos (by omega)) (br_t (nI_le (b := 1) (by omega) (by decide)) h)
theorem sr_bad_y {post : Int32 → Prop} {v : SY} {x : Int32} (hx : ∀ e, e < 2 → x ≠ nI e) (h : post 1) : wpY_bad post v x := by
  by_cases h0 : x < 0
  · exact br_t h0 h
  · obtain ⟨j, hj, rfl⟩ := nI_of h0
    refine br_f h0 (br_f ?_ h)
    have : ¬ j < 2 := fun z => hx j z rfl
    exact nI_ge (a := 1) (by omega) hj
/-! a shape's polynomial -/
def sr_pl (a b c p q r : Nat) : Nat := 100 * (c + q + r) + 10 * (b + p - r) + (a + b + c - (b + p) - (c + q))
theorem sr_pl_b {a b c p q r : Nat} (hz : a + b + c ≤ 9) (hp : p < a + 1 - b) (hq : q < b + 1 - c) (hr : r < b + p + 1 - (c + q)) : sr_pl a b c p q r < 1000 := by
  unfold sr_pl; omega
theorem sr_pl_e {a b c p q r : Nat} (hz : a + b + c ≤ 9) (hp : p < a + 1 - b) (hq : q < b + 1 - c) (hr : r < b + p + 1 - (c + q)) : ((((((100 * nI (c + q + r)) + (10 * ((nI (b + p) + nI (c + q)) - nI (c + q + r)))) + nI a) + nI b) + nI c) - nI (b + p)) - nI (c + q) = nI (sr_pl a b c p q r) := by
  have e1 : (100 : Int32) * nI (c + q + r) = nI (100 * (c + q + r)) := pk_mul 100 _
  have e2 : (nI (b + p) + nI (c + q)) - nI (c + q + r) = nI (b + p - r) := by
    rw [nI_add, pk_sub (by omega)]
    exact congrArg nI (by omega)
  have e3 : (10 : Int32) * nI (b + p - r) = nI (10 * (b + p - r)) := pk_mul 10 _
  rw [e1, e2, e3, nI_add, nI_add, nI_add, nI_add, pk_sub (by omega), pk_sub (by omega)]
  exact congrArg nI (by unfold sr_pl; omega)
end
section
/-! the reference: a shape's polynomial, and the product -/
noncomputable def sr_g1 (a b c p q r w : Nat) : Nat := sr_zn r (fun r => cond (Nat.beq (sr_pl a b c p q r) w) 1 0)
noncomputable def sr_g2 (a b c p q w : Nat) : Nat := sr_zn q (fun q => sr_g1 a b c p q (b + p + 1 - (c + q)) w)
noncomputable def sr_g3 (a b c p w : Nat) : Nat := sr_zn p (fun p => sr_g2 a b c p (b + 1 - c) w)
theorem sr_G_g3 (a b c w : Nat) : sr_G a b c w = sr_g3 a b c (a + 1 - b) w := rfl
theorem sr_sh1 {post : SY → Prop} {J29 J39 : Int32 → (Nat → Int32) → (Nat → Int32) → (Nat → Int32) → (Nat → Int32) → Prop} {tm yp yc ys : Nat → Int32} {g : Nat → Nat} {a b c p q : Nat} (hz : a + b + c ≤ 9) (hp : p < a + 1 - b) (hq : q < b + 1 - c) (h : J39 (nI (c + (q + 1))) (sr_ad tm (fun w => g w + sr_g1 a b c p q (b + p + 1 - (c + q)) w)) yp yc ys) : ∃ n, wY_shape_49 post J29 J39 (nI a) (nI b) (nI c) (nI (b + p)) (nI (c + q)) n (nI (c + q)) (sr_ad tm g) yp yc ys := by
  refine loop_0 (fun n r tm' => wY_shape_49 post J29 J39 (nI a) (nI b) (nI c) (nI (b + p)) (nI (c + q)) n (nI (c + q + r)) tm' yp yc ys) (fun r tm' => tm' = sr_ad tm (fun w => g w + sr_g1 a b c p q r w)) (b + p + 1 - (c + q)) (sr_ad tm g) rfl ?_ ?_
  · rintro n s rfl
    exact br_t (nI_lt (by omega) (by omega)) (nm_r (nI_1 _) h)
  · rintro n r s hr rfl ih
    have hb := sr_pl_b hz hp hq hr
    refine br_f (nI_nlt (by omega) (by omega)) (nm_r (sr_pl_e hz hp hq hr) ?_)
    have e : (2000 : Int32) + nI (sr_pl a b c p q r) = nI (2000 + sr_pl a b c p q r) := nI_add 2000 _
    rw [e, nI_clamp (by omega)]
    refine ⟨vp_in_nI (by omega) (by decide), vp_in_nI (by omega) (by decide), nm_r sr_ad_s (nm_r (nI_1 _) (ih _ ?_))⟩
    exact congrArg (sr_ad tm) (funext fun w => Nat.add_assoc _ _ _)
theorem sr_sh2 {post : SY → Prop} {J29 : Int32 → (Nat → Int32) → (Nat → Int32) → (Nat → Int32) → (Nat → Int32) → Prop} {tm yp yc ys : Nat → Int32} {g : Nat → Nat} {a b c p : Nat} (hz : a + b + c ≤ 9) (hc : c ≤ b) (hp : p < a + 1 - b) (h : J29 (nI (b + (p + 1))) (sr_ad tm (fun w => g w + sr_g2 a b c p (b + 1 - c) w)) yp yc ys) : ∃ n, wY_shape_39 post J29 (nI a) (nI b) (nI c) (nI (b + p)) n (nI c) (sr_ad tm g) yp yc ys := by
  refine loop_0 (fun n q tm' => wY_shape_39 post J29 (nI a) (nI b) (nI c) (nI (b + p)) n (nI (c + q)) tm' yp yc ys) (fun q tm' => tm' = sr_ad tm (fun w => g w + sr_g2 a b c p q w)) (b + 1 - c) (sr_ad tm g) rfl ?_ ?_
  · rintro n s rfl
    exact br_t (nI_lt (by omega) (by omega)) (nm_r (nI_1 _) h)
  · rintro n q s hq rfl ih
    refine br_f (nI_nlt (by omega) (by omega)) (sr_sh1 hz hp hq (ih _ ?_))
    exact congrArg (sr_ad tm) (funext fun w => Nat.add_assoc _ _ _)
theorem sr_sh3 {post : SY → Prop} {tm yp yc ys : Nat → Int32} {a b c : Nat} (hz : a + b + c ≤ 9) (hc : c ≤ b) (hb : b ≤ a) (h : post (sr_ad tm (fun w => sr_G a b c w), yp, yc, ys)) : ∃ n, wY_shape_29 post (nI a) (nI b) (nI c) n (nI b) tm yp yc ys := by
  refine loop_0 (fun n p tm' => wY_shape_29 post (nI a) (nI b) (nI c) n (nI (b + p)) tm' yp yc ys) (fun p tm' => tm' = sr_ad tm (fun w => sr_g3 a b c p w)) (a + 1 - b) tm sr_ad_0.symm ?_ ?_
  · rintro n s rfl
    exact br_t (nI_lt (by omega) (by omega)) h
  · rintro n p s hp rfl ih
    exact br_f (nI_nlt (by omega) (by omega)) (sr_sh2 hz hc hp (ih _ rfl))
noncomputable def sr_sh (s : Nat) (tm : Nat → Int32) : Nat → Int32 := sr_ad (sr_pw 2000 (fun _ => 0) tm 220) (fun w => sr_G (sr_a s) (sr_b s) (sr_c s) w)
theorem sr_shape {post : SY → Prop} {tm ys : Nat → Int32} {s : Nat} (hs : s < 53) (h : post (sr_sh s tm, sr_yP, sr_yC, ys)) : wpY_shape post (tm, sr_yP, sr_yC, ys) (nI (sr_cd s)) := by
  obtain ⟨h1, h2, h3, h4, _, _, h7⟩ := sr_f1 hs
  obtain ⟨d1, d2, d3⟩ := sr_cd_digits hs
  obtain ⟨e1, e2, e3, e4⟩ := sr_div (p := sr_cd s) (by omega)
  rw [d3] at e1
  rw [d1] at e3
  rw [d2] at e4
  refine ⟨by decide, nm_r e3 ⟨by decide, by decide, nm_r e4 ⟨by decide, nm_r e1 ?_⟩⟩⟩
  exact sr_clear (o := 2000) (by decide) (sr_sh3 (by omega) h4 h3 h)
theorem sr_sh_in {tm : Nat → Int32} {s i j k : Nat} (hs : s < 53) (h : i + j + k ≤ 9) : sr_sh s tm (2000 + (100 * i + 10 * j + k)) = sr_Q s i j k := by
  unfold sr_sh
  rw [sr_ad_in, sr_f8 hs h]
  obtain ⟨t, ht, e⟩ := sr_at h
  rw [← e, sr_pw_in ht, if_pos ht]
  exact Int32.zero_add _
theorem sr_sh_out {tm : Nat → Int32} {s j : Nat} (hs : s < 53) (h : j < 2000 ∨ 3000 ≤ j) : sr_sh s tm j = tm j := by
  obtain ⟨h1, h2, h3, h4, _⟩ := sr_f1 hs
  unfold sr_sh
  have e : (if 2000 ≤ j then sr_G (sr_a s) (sr_b s) (sr_c s) (j - 2000) else 0) = 0 := by
    by_cases hj : 2000 ≤ j
    · rw [if_pos hj, sr_G_g3]
      refine sr_zn_0' fun p hp => sr_zn_0' fun q hq => sr_zn_0' fun r hr => ?_
      have hb := sr_pl_b (by omega) hp hq hr
      show cond (Nat.beq (sr_pl (sr_a s) (sr_b s) (sr_c s) p q r) (j - 2000)) 1 0 = 0
      rw [sr_bf (by omega)]
      rfl
    · rw [if_neg hj]
  show sr_pw 2000 (fun _ => 0) tm 220 j + nI (if 2000 ≤ j then sr_G (sr_a s) (sr_b s) (sr_c s) (j - 2000) else 0) = tm j
  rw [e, sr_pw_out (by decide) (by omega)]
  exact Int32.add_zero _
/-! the product of two blocks -/
def sr_mt (A B : Nat → Int32) (w s t : Nat) : Int32 := if sr_dg (sr_P s) + sr_dg (sr_P t) ≤ 9 ∧ sr_P s + sr_P t = w then A (sr_P s) * B (sr_P t) else 0
theorem sr_mt_0 {A B : Nat → Int32} {w s t : Nat} (h : A (sr_P s) * B (sr_P t) = 0) : sr_mt A B w s t = 0 := by
  unfold sr_mt
  rw [h]
  exact ite_self 0
theorem sr_mu1 {post : SY → Prop} {J8 : Int32 → (Nat → Int32) → (Nat → Int32) → (Nat → Int32) → (Nat → Int32) → Prop} {tm ys g : Nat → Int32} {o1 o2 o3 s : Nat} (h1 : o1 ≤ 4000) (h2 : o2 ≤ 4000) (h3 : o3 ≤ 4000) (d1 : o1 + 1000 ≤ o3 ∨ o3 + 1000 ≤ o1) (d2 : o2 + 1000 ≤ o3 ∨ o3 + 1000 ≤ o2) (hs : s < 220) (h : J8 (nI (s + 1)) (sr_ac o3 tm (fun w => g w + sr_s 220 (sr_mt (fun p => tm (o1 + p)) (fun p => tm (o2 + p)) w s))) sr_yP sr_yC ys) : ∃ n, wY_multiply_39 post J8 (nI o1) (nI o2) (nI o3) (nI s) (nI (sr_P s)) (nI (9 - sr_dg (sr_P s))) n 0 (sr_ac o3 tm g) sr_yP sr_yC ys := by
  have hP := (sr_f5 hs).1
  have hD := (sr_f5 hs).2.1
  have eo : nI o1 + nI (sr_P s) = nI (o1 + sr_P s) := nI_add _ _
  refine loop_0 (fun n t tm' => wY_multiply_39 post J8 (nI o1) (nI o2) (nI o3) (nI s) (nI (sr_P s)) (nI (9 - sr_dg (sr_P s))) n (nI t) tm' sr_yP sr_yC ys) (fun t tm' => tm' = sr_ac o3 tm (fun w => g w + sr_s t (sr_mt (fun p => tm (o1 + p)) (fun p => tm (o2 + p)) w s))) 220 (sr_ac o3 tm g) (sr_ac_congr fun w _ => (Int32.add_zero _).symm) ?_ ?_
  · rintro n x rfl
    exact br_t (nI_le (a := 220) (b := 220) (by decide) (by decide)) (nm_r (nI_1 _) h)
  · rintro n t x ht rfl ih
    have hQ := (sr_f5 ht).1
    have hE := (sr_f5 ht).2.1
    refine br_f (nI_ge (b := 220) ht (by decide)) ?_
    rw [eo, nI_clamp (n := o1 + sr_P s) (by omega), sr_ac_out (j := o1 + sr_P s) (by omega)]
    refine ⟨vp_in_nI (by omega) (by decide), br_c (fun z => nm_r (nI_1 _) ?_) (fun z => ⟨vp_in_nI ht (by decide), ?_⟩)⟩
    · refine (sr_ac_congr fun w _ => ?_) ▸ h
      have e : ∀ m, sr_s m (sr_mt (fun p => tm (o1 + p)) (fun p => tm (o2 + p)) w s) = 0 := fun m => sr_s_0 fun u _ => sr_mt_0 (by show tm (o1 + sr_P s) * _ = 0; rw [z]; exact Int32.zero_mul)
      rw [e, e]
    · have ey : sr_yP (nI t).toNatClampNeg = nI (sr_P t) := by rw [nI_clamp (by omega)]; rfl
      refine nm_r ey ?_
      have eo2 : nI o2 + nI (sr_P t) = nI (o2 + sr_P t) := nI_add _ _
      have eo3 : nI o3 + nI (sr_P s) + nI (sr_P t) = nI (o3 + (sr_P s + sr_P t)) := by rw [nI_add, nI_add, Nat.add_assoc]
      rw [eo2, eo3, nI_clamp (n := o2 + sr_P t) (by omega), sr_ac_out (j := o2 + sr_P t) (by omega)]
      have skip : ∀ (k : ∀ w, sr_mt (fun p => tm (o1 + p)) (fun p => tm (o2 + p)) w s t = 0), sr_ac o3 tm (fun w => g w + sr_s t (sr_mt (fun p => tm (o1 + p)) (fun p => tm (o2 + p)) w s)) = sr_ac o3 tm (fun w => g w + sr_s (t + 1) (sr_mt (fun p => tm (o1 + p)) (fun p => tm (o2 + p)) w s)) := fun k => sr_ac_congr fun w _ => by
        show g w + sr_s t _ = g w + (sr_s t _ + sr_mt (fun p => tm (o1 + p)) (fun p => tm (o2 + p)) w s t)
        rw [k w, Int32.add_zero]
      refine ⟨vp_in_nI (by omega) (by decide), br_c (fun z2 => nm_r (nI_1 _) (ih _ (skip fun w => sr_mt_0 (by show _ * tm (o2 + sr_P t) = 0; rw [z2]; exact Int32.mul_zero)))) (fun z2 => sr_degOf hQ ?_)⟩
      refine pk_lt (9 - sr_dg (sr_P s)) (sr_dg (sr_P t)) (fun z3 => nm_r (nI_1 _) (ih _ (skip fun w => if_neg (by omega)))) (fun z3 => ?_)
      have hd : sr_P s + sr_P t < 1000 := by
        obtain ⟨a, b, c, q1, q2, q3⟩ := sr_place hs
        obtain ⟨a', b', c', r1, r2, r3⟩ := sr_place ht
        omega
      rw [nI_clamp (n := o3 + (sr_P s + sr_P t)) (by omega)]
      refine ⟨vp_in_nI (by omega) (by decide), vp_in_nI (by omega) (by decide), vp_in_nI (by omega) (by decide), vp_in_nI (by omega) (by decide), nm_r (sr_ac_s hd) (nm_r (nI_1 _) (ih _ (sr_ac_congr fun w _ => ?_)))⟩
      show g w + sr_s t _ + _ = g w + (sr_s t _ + sr_mt (fun p => tm (o1 + p)) (fun p => tm (o2 + p)) w s t)
      rw [Int32.add_assoc]
      refine congrArg (g w + ·) (congrArg (_ + ·) ?_)
      unfold sr_mt
      by_cases e : sr_P s + sr_P t = w
      · rw [if_pos e, if_pos ⟨by omega, e⟩]
      · rw [if_neg e, if_neg (fun z => e z.2)]
noncomputable def sr_mu (o1 o2 o3 : Nat) (tm : Nat → Int32) : Nat → Int32 := sr_ac o3 (sr_pw o3 (fun _ => 0) tm 220) (fun w => sr_s 220 (fun s => sr_s 220 (sr_mt (fun p => tm (o1 + p)) (fun p => tm (o2 + p)) w s)))
theorem sr_mult {post : SY → Prop} {tm ys : Nat → Int32} {o1 o2 o3 : Nat} (h1 : o1 ≤ 4000) (h2 : o2 ≤ 4000) (h3 : o3 ≤ 4000) (d1 : o1 + 1000 ≤ o3 ∨ o3 + 1000 ≤ o1) (d2 : o2 + 1000 ≤ o3 ∨ o3 + 1000 ≤ o2) (h : post (sr_mu o1 o2 o3 tm, sr_yP, sr_yC, ys)) : wpY_multiply post (tm, sr_yP, sr_yC, ys) (nI o1) (nI o2) (nI o3) := by
  refine sr_clear h3 ?_
  have key : ∀ s, s < 220 → ∀ w, sr_s 220 (sr_mt (fun p => sr_pw o3 (fun _ => 0) tm 220 (o1 + p)) (fun p => sr_pw o3 (fun _ => 0) tm 220 (o2 + p)) w s) = sr_s 220 (sr_mt (fun p => tm (o1 + p)) (fun p => tm (o2 + p)) w s) := by
    intro s hs w
    refine sr_s_congr fun t ht => ?_
    have hP := (sr_f5 hs).1
    have hQ := (sr_f5 ht).1
    unfold sr_mt
    dsimp only
    rw [sr_pw_out (by decide) (by omega), sr_pw_out (by decide) (by omega)]
  refine loop_0 (fun n s tm' => wY_multiply_8 post (nI o1) (nI o2) (nI o3) n (nI s) tm' sr_yP sr_yC ys) (fun s tm' => tm' = sr_ac o3 (sr_pw o3 (fun _ => 0) tm 220) (fun w => sr_s s (fun s => sr_s 220 (sr_mt (fun p => tm (o1 + p)) (fun p => tm (o2 + p)) w s)))) 220 (sr_pw o3 (fun _ => 0) tm 220) (sr_ac_0 fun _ _ => rfl).symm ?_ ?_
  · rintro n x rfl
    exact br_t (nI_le (a := 220) (b := 220) (by decide) (by decide)) h
  · rintro n s x hs rfl ih
    have hP := (sr_f5 hs).1
    have hD := (sr_f5 hs).2.1
    have ey : sr_yP (nI s).toNatClampNeg = nI (sr_P s) := by rw [nI_clamp (by omega)]; rfl
    have e9 : (9 : Int32) - nI (sr_dg (sr_P s)) = nI (9 - sr_dg (sr_P s)) := pk_sub (a := 9) hD
    refine br_f (nI_ge (b := 220) hs (by decide)) ⟨vp_in_nI hs (by decide), nm_r ey (sr_degOf hP (nm_r e9 (sr_mu1 h1 h2 h3 d1 d2 hs (ih _ ?_))))⟩
    exact sr_ac_congr fun w _ => congrArg (_ + ·) (key s hs w)
theorem sr_mu_in {tm : Nat → Int32} {o1 o2 o3 i j k : Nat} (h : i + j + k ≤ 9) : sr_mu o1 o2 o3 tm (o3 + (100 * i + 10 * j + k)) = sr_V (fun i j k => tm (o1 + (100 * i + 10 * j + k))) (fun i j k => tm (o2 + (100 * i + 10 * j + k))) i j k := by
  unfold sr_mu
  rw [sr_ac_in (by omega)]
  obtain ⟨t, ht, e⟩ := sr_at h
  have e2 : sr_pw o3 (fun _ => 0) tm 220 (o3 + (100 * i + 10 * j + k)) = 0 := by rw [← e, sr_pw_in ht, if_pos ht]
  rw [e2, Int32.zero_add]
  exact sr_conv (fun p => tm (o1 + p)) (fun p => tm (o2 + p)) h
theorem sr_mu_out {tm : Nat → Int32} {o1 o2 o3 j : Nat} (h : j < o3 ∨ o3 + 1000 ≤ j) : sr_mu o1 o2 o3 tm j = tm j := by
  unfold sr_mu
  rw [sr_ac_out h, sr_pw_out (by decide) h]
end
section
/-! the reference: term, before, highest, value -/
def sr_B (o : Nat) (tm c : Nat → Int32) : Prop := ∀ i j k, i + j + k ≤ 9 → tm (o + (100 * i + 10 * j + k)) = sr_T c i j k
def sr_TD (c : Nat → Int32) (u i v j w k : Nat) : Int32 := sr_s 53 (fun t => c t * nI (sr_D t u i v j w k))
theorem sr_TD_y {c : Nat → Int32} {u i v j w k : Nat} (h1 : i ≤ u) (h2 : j ≤ v) (h3 : k ≤ w) : sr_TD c u i v j w k = sr_T c (u - i) (v - j) (w - k) :=
  sr_s_congr fun t _ => by rw [sr_D_y h1 h2 h3]
theorem sr_TD_n {c : Nat → Int32} {u i v j w k : Nat} (h : ¬ (i ≤ u ∧ j ≤ v ∧ k ≤ w)) : sr_TD c u i v j w k = 0 :=
  sr_s_0 fun t _ => by rw [sr_D_n h]; exact Int32.mul_zero
theorem sr_term0 {post : Int32 → Prop} {tm ys : Nat → Int32} {o i j k : Nat} (ho : o ≤ 4000) (hz : i + j + k ≤ 9) (h : post (tm (o + (100 * i + 10 * j + k)))) : wpY_term post (tm, sr_yP, sr_yC, ys) (nI o) (nI i) (nI j) (nI k) := by
  refine br_f (nI_pos (by omega)) (br_f (nI_pos (by omega)) (br_f (nI_pos (by omega)) (br_f (nI_nlt (a := 9) (by omega) (by decide)) (br_f (nI_nlt (a := 9) (by omega) (by decide)) (br_f (nI_nlt (a := 9) (by omega) (by decide)) ?_)))))
  rw [nI_add i j, nI_add (i + j) k]
  refine br_t (nI_le (b := 9) (by omega) (by decide)) ?_
  have e1 : (100 : Int32) * nI i = nI (100 * i) := pk_mul 100 i
  have e2 : (10 : Int32) * nI j = nI (10 * j) := pk_mul 10 j
  rw [e1, e2, nI_add, nI_add, nI_add, nI_clamp (by omega)]
  rw [show o + 100 * i + 10 * j + k = o + (100 * i + 10 * j + k) by omega]
  exact ⟨vp_in_nI (by omega) (by decide), h⟩
theorem sr_term {post : Int32 → Prop} {tm ys c : Nat → Int32} {o u i v j w k z : Nat} {p1 p2 p3 : Int32} (R : sr_B o tm c) (ho : o ≤ 4000) (e1 : p1 = nI u - nI i) (e2 : p2 = nI v - nI j) (e3 : p3 = nI w - nI k) (hi : i ≤ 2) (hj : j ≤ 2) (hk : k ≤ 2) (hz : z ≤ 9) (hs : u + v + w = i + j + k + z) (h : post (sr_TD c u i v j w k)) : wpY_term post (tm, sr_yP, sr_yC, ys) (nI o) p1 p2 p3 := by
  subst e1 e2 e3
  by_cases h1 : i ≤ u
  · rw [pk_sub h1]
    by_cases h2 : j ≤ v
    · rw [pk_sub h2]
      by_cases h3 : k ≤ w
      · rw [pk_sub h3]
        refine sr_term0 ho (by omega) ?_
        rw [R _ _ _ (by omega), ← sr_TD_y h1 h2 h3]
        exact h
      · rw [sr_TD_n (fun z => h3 z.2.2)] at h
        exact br_f (nI_pos (by omega)) (br_f (nI_pos (by omega)) (br_t (pk_sneg (by omega) (by omega)) h))
    · rw [sr_TD_n (fun z => h2 z.2.1)] at h
      exact br_f (nI_pos (by omega)) (br_t (pk_sneg (by omega) (by omega)) h)
  · rw [sr_TD_n (fun z => h1 z.1)] at h
    exact br_t (pk_sneg (by omega) (by omega)) h
theorem sr_six (c : Nat → Int32) {s : Nat} (hs : s < 53) : (sr_TD c (sr_a s) 0 (sr_b s) 0 (sr_c s) 0 + sr_TD c (sr_a s + 1) 0 (sr_b s + 1) 0 (sr_c s) 2 + sr_TD c (sr_a s + 2) 0 (sr_b s) 1 (sr_c s) 1) - (sr_TD c (sr_a s) 0 (sr_b s + 1) 0 (sr_c s) 1 + sr_TD c (sr_a s + 1) 0 (sr_b s) 1 (sr_c s) 0 + sr_TD c (sr_a s + 2) 0 (sr_b s) 0 (sr_c s) 2) = c s := by
  rw [← sr_bef (c := c) hs]
  unfold sr_TD
  rw [← sr_s_add, ← sr_s_add, ← sr_s_add, ← sr_s_add, ← sr_s_sub]
  refine sr_s_congr fun t _ => ?_
  have e1 : nI (sr_Bp t s) = nI (sr_D t (sr_a s) 0 (sr_b s) 0 (sr_c s) 0) + nI (sr_D t (sr_a s + 1) 0 (sr_b s + 1) 0 (sr_c s) 2) + nI (sr_D t (sr_a s + 2) 0 (sr_b s) 1 (sr_c s) 1) := by
    rw [nI_add, nI_add]; rfl
  have e2 : nI (sr_Bm t s) = nI (sr_D t (sr_a s) 0 (sr_b s + 1) 0 (sr_c s) 1) + nI (sr_D t (sr_a s + 1) 0 (sr_b s) 1 (sr_c s) 0) + nI (sr_D t (sr_a s + 2) 0 (sr_b s) 0 (sr_c s) 2) := by
    rw [nI_add, nI_add]; rfl
  rw [e1, e2]
  grind
theorem sr_m0 (n : Nat) : nI n = nI n - nI 0 := (Int32.sub_zero _).symm
theorem sr_before {post : Int32 → Prop} {tm ys c : Nat → Int32} {o s : Nat} (R : sr_B o tm c) (ho : o ≤ 4000) (hs : s < 53) (h : post (c s)) : wpY_before post (tm, sr_yP, sr_yC, ys) (nI o) (nI (sr_cd s)) := by
  obtain ⟨h1, h2, h3, h4, _, _, h7⟩ := sr_f1 hs
  obtain ⟨d1, d2, d3⟩ := sr_cd_digits hs
  obtain ⟨e1, e2, e3, e4⟩ := sr_div (p := sr_cd s) (by omega)
  rw [d3] at e1
  rw [d1] at e3
  rw [d2] at e4
  have k1 : ∀ n : Nat, nI n + 1 = nI (n + 1) - nI 0 := fun n => by rw [← sr_m0]; exact nI_1 n
  have k2 : ∀ n : Nat, nI n + 2 = nI (n + 2) - nI 0 := fun n => by rw [← sr_m0]; exact nI_add n 2
  refine ⟨by decide, nm_r e3 ⟨by decide, by decide, nm_r e4 ⟨by decide, nm_r e1 ?_⟩⟩⟩
  refine sr_term (z := sr_z s) R ho (sr_m0 _) (sr_m0 _) (sr_m0 _) (by omega) (by omega) (by omega) h2 (by omega) ?_
  refine sr_term (z := sr_z s) R ho (k1 _) (k1 _) (k := 2) rfl (by omega) (by omega) (by omega) h2 (by omega) ?_
  refine sr_term (z := sr_z s) R ho (k2 _) (j := 1) rfl (k := 1) rfl (by omega) (by omega) (by omega) h2 (by omega) ?_
  refine nm_e ?_
  refine sr_term (z := sr_z s) R ho (sr_m0 _) (k1 _) (k := 1) rfl (by omega) (by omega) (by omega) h2 (by omega) ?_
  refine sr_term (z := sr_z s) R ho (k1 _) (j := 1) rfl (sr_m0 _) (by omega) (by omega) (by omega) h2 (by omega) ?_
  refine sr_term (z := sr_z s) R ho (k2 _) (sr_m0 _) (k := 2) rfl (by omega) (by omega) (by omega) h2 (by omega) ?_
  refine nm_e ?_
  rw [sr_six c hs]
  exact h
/-! the greatest size -/
def sr_top (nz : Nat → Prop) (r : Int32) : Prop := (r = -4 ∧ ∀ d, d ≤ 9 → ¬ nz d) ∨ (∃ d, d ≤ 9 ∧ r = nI d ∧ nz d ∧ ∀ d', d' ≤ 9 → nz d' → d' ≤ d)
def sr_nz (D : Nat → Nat) (P : Nat → Prop) (t d : Nat) : Prop := ∃ t', t' < t ∧ D t' = d ∧ P t'
theorem sr_top_0 {D : Nat → Nat} {P : Nat → Prop} : sr_top (sr_nz D P 0) (-4) :=
  Or.inl ⟨rfl, fun d _ ⟨t, ht, _⟩ => absurd ht (Nat.not_lt_zero t)⟩
theorem sr_nz_s {D : Nat → Nat} {P : Nat → Prop} {t d : Nat} : sr_nz D P (t + 1) d ↔ sr_nz D P t d ∨ (D t = d ∧ P t) := by
  constructor
  · rintro ⟨t', ht, h1, h2⟩
    by_cases e : t' = t
    · subst e; exact Or.inr ⟨h1, h2⟩
    · exact Or.inl ⟨t', by omega, h1, h2⟩
  · rintro (⟨t', ht, h1, h2⟩ | ⟨h1, h2⟩)
    · exact ⟨t', by omega, h1, h2⟩
    · exact ⟨t, by omega, h1, h2⟩
theorem sr_top_congr {nz nz' : Nat → Prop} {r : Int32} (h : ∀ d, d ≤ 9 → (nz d ↔ nz' d)) (H : sr_top nz r) : sr_top nz' r := by
  rcases H with ⟨h1, h2⟩ | ⟨d, h1, h2, h3, h4⟩
  · exact Or.inl ⟨h1, fun d hd z => h2 d hd ((h d hd).mpr z)⟩
  · exact Or.inr ⟨d, h1, h2, (h d h1).mp h3, fun d' hd z => h4 d' hd ((h d' hd).mpr z)⟩
theorem sr_top_skip {D : Nat → Nat} {P : Nat → Prop} {t : Nat} {r : Int32} (hP : ¬ P t) (H : sr_top (sr_nz D P t) r) : sr_top (sr_nz D P (t + 1)) r :=
  sr_top_congr (fun d _ => ⟨fun z => sr_nz_s.mpr (Or.inl z), fun z => (sr_nz_s.mp z).elim id (fun q => absurd q.2 hP)⟩) H
theorem sr_top_low {D : Nat → Nat} {P : Nat → Prop} {t : Nat} {r : Int32} (hD : D t ≤ 9) (hP : P t) (hr : nI (D t) ≤ r) (H : sr_top (sr_nz D P t) r) : sr_top (sr_nz D P (t + 1)) r := by
  rcases H with ⟨h1, h2⟩ | ⟨d, h1, h2, h3, h4⟩
  · subst h1
    have : ∀ n, n ≤ 9 → ¬ nI n ≤ (-4) := by decide
    exact absurd hr (this _ hD)
  · subst h2
    rw [nI_leI (by omega) (by omega)] at hr
    refine Or.inr ⟨d, h1, rfl, sr_nz_s.mpr (Or.inl h3), fun d' hd z => ?_⟩
    rcases sr_nz_s.mp z with q | ⟨q, _⟩
    · exact h4 d' hd q
    · omega
theorem sr_top_new {D : Nat → Nat} {P : Nat → Prop} {t : Nat} {r : Int32} (hD : D t ≤ 9) (hP : P t) (hr : ¬ nI (D t) ≤ r) (H : sr_top (sr_nz D P t) r) : sr_top (sr_nz D P (t + 1)) (nI (D t)) := by
  refine Or.inr ⟨D t, hD, rfl, sr_nz_s.mpr (Or.inr ⟨rfl, hP⟩), fun d' hd z => ?_⟩
  rcases sr_nz_s.mp z with q | ⟨q, _⟩
  · rcases H with ⟨h1, h2⟩ | ⟨d, h1, h2, h3, h4⟩
    · exact absurd q (h2 d' hd)
    · subst h2
      rw [nI_leI (by omega) (by omega)] at hr
      have := h4 d' hd q
      omega
  · omega
theorem sr_top_eq {nz nz' : Nat → Prop} {r r' : Int32} (h : ∀ d, d ≤ 9 → (nz d ↔ nz' d)) (H : sr_top nz r) (H' : sr_top nz' r') : r' = r := by
  have G := sr_top_congr h H
  rcases G with ⟨h1, h2⟩ | ⟨d, h1, h2, h3, h4⟩ <;> rcases H' with ⟨g1, g2⟩ | ⟨d', g1, g2, g3, g4⟩
  · rw [h1, g1]
  · exact absurd g3 (h2 d' g1)
  · exact absurd h3 (g2 d h1)
  · have a := h4 d' g1 g3
    have b := g4 d h1 h3
    rw [h2, g2, show d = d' by omega]
theorem sr_high {post : Int32 → Prop} {tm ys : Nat → Int32} {o : Nat} (ho : o ≤ 4000) (h : ∀ r, sr_top (sr_nz (fun t => sr_dg (sr_P t)) (fun t => tm (o + sr_P t) ≠ 0) 220) r → post r) : wpY_highest post (tm, sr_yP, sr_yC, ys) (nI o) := by
  refine loop_0 (fun n t r => wY_highest_5 post (nI o) tm sr_yP sr_yC ys n r (nI t)) (fun t r => sr_top (sr_nz (fun t => sr_dg (sr_P t)) (fun t => tm (o + sr_P t) ≠ 0) t) r) 220 (-4) sr_top_0 ?_ ?_
  · intro n r hr
    exact br_t (nI_le (a := 220) (b := 220) (by decide) (by decide)) (h r hr)
  · intro n t r ht hr ih
    have hP := (sr_f5 ht).1
    have hD := (sr_f5 ht).2.1
    refine br_f (nI_ge (b := 220) ht (by decide)) ⟨vp_in_nI ht (by decide), ?_⟩
    have ey : sr_yP (nI t).toNatClampNeg = nI (sr_P t) := by rw [nI_clamp (by omega)]; rfl
    rw [ey]
    refine sr_degOf hP ⟨vp_in_nI ht (by decide), ?_⟩
    rw [nI_add, nI_clamp (by omega)]
    refine ⟨vp_in_nI (by omega) (by decide), br_c (fun z => nm_r (nI_1 _) (ih _ (sr_top_skip (fun q => q z) hr))) (fun z => br_c (fun y => nm_r (nI_1 _) (ih _ (sr_top_low hD z y hr))) (fun y => nm_r (nI_1 _) (ih _ (sr_top_new hD z y hr))))⟩
/-- both sides' elements are empty in the same sizes -/
theorem sr_nz_eq {tm c : Nat → Int32} {o : Nat} (R : sr_B o tm c) (d : Nat) (hd : d ≤ 9) : sr_nz sr_z (fun s => c s ≠ 0) 53 d ↔ sr_nz (fun t => sr_dg (sr_P t)) (fun t => tm (o + sr_P t) ≠ 0) 220 d := by
  constructor
  · rintro ⟨s, hs, h1, h2⟩
    apply Classical.byContradiction
    intro H
    apply h2
    obtain ⟨z1, z2, z3, z4, _⟩ := sr_f1 hs
    have T0 : ∀ i j k, i + j + k = d → sr_T c i j k = 0 := by
      intro i j k e
      apply Classical.byContradiction
      intro H2
      obtain ⟨t, ht, et⟩ := sr_at (i := i) (j := j) (k := k) (by omega)
      refine H ⟨t, ht, ?_, ?_⟩
      · show sr_dg (sr_P t) = d
        rw [et, sr_dg_e _ _ _ (by omega)]
        exact e
      · show tm (o + sr_P t) ≠ 0
        rw [et, R _ _ _ (by omega)]
        exact H2
    have D0 : ∀ u i v j w k, u + v + w = i + j + k + d → sr_TD c u i v j w k = 0 := by
      intro u i v j w k e
      by_cases hf : i ≤ u ∧ j ≤ v ∧ k ≤ w
      · rw [sr_TD_y hf.1 hf.2.1 hf.2.2]
        exact T0 _ _ _ (by omega)
      · exact sr_TD_n hf
    rw [← sr_six c hs, D0 _ _ _ _ _ _ (by omega), D0 _ _ _ _ _ _ (by omega), D0 _ _ _ _ _ _ (by omega), D0 _ _ _ _ _ _ (by omega), D0 _ _ _ _ _ _ (by omega), D0 _ _ _ _ _ _ (by omega)]
    decide
  · rintro ⟨t, ht, h1, h2⟩
    apply Classical.byContradiction
    intro H
    apply h2
    obtain ⟨i, j, k, q1, q2, q3⟩ := sr_place ht
    have h1 : sr_dg (sr_P t) = d := h1
    rw [q2, R _ _ _ q1]
    refine sr_s_0 fun s hs => ?_
    by_cases e : i + j + k = sr_z s
    · have : c s = 0 := Classical.byContradiction fun q => H ⟨s, hs, by omega, q⟩
      rw [this]; exact Int32.zero_mul
    · rw [sr_K_n e]; exact Int32.mul_zero
/-! value -/
def sr_pow (x : Int32) : Nat → Int32
  | 0 => 1
  | n + 1 => sr_pow x n * x
theorem sr_power {post : Int32 → Prop} {tm ys : Nat → Int32} {x : Int32} {m : Nat} (hm : m < 1000) (h : post (sr_pow x m)) : wpY_power post (tm, sr_yP, sr_yC, ys) x (nI m) := by
  refine loop_0 (fun n t r => wY_power_5 post x (nI m) tm sr_yP sr_yC ys n r (nI t)) (fun t r => r = sr_pow x t) m 1 rfl ?_ ?_
  · rintro n r rfl
    exact br_t (nI_le (Nat.le_refl _) (by omega)) h
  · rintro n t r ht rfl ih
    exact br_f (nI_ge ht (by omega)) (nm_r rfl (nm_r (nI_1 _) (ih _ rfl)))
def sr_vt (tm : Nat → Int32) (o : Nat) (x y z : Int32) (p : Nat) : Int32 := ((tm (o + p) * sr_pow x (p / 100)) * sr_pow y (p / 10 % 10)) * sr_pow z (p % 10)
theorem sr_yval {post : Int32 → Prop} {tm ys : Nat → Int32} {e : Nat} {x y z : Int32} (he : e < 2) (h : post (sr_s 220 (fun t => sr_vt tm (1000 * e) x y z (sr_P t)))) : ∃ n, wY_value_16 post (nI e) x y z tm sr_yP sr_yC ys n 0 0 := by
  refine loop_0 (fun n t r => wY_value_16 post (nI e) x y z tm sr_yP sr_yC ys n r (nI t)) (fun t r => r = sr_s t (fun t => sr_vt tm (1000 * e) x y z (sr_P t))) 220 0 rfl ?_ ?_
  · rintro n r rfl
    exact br_t (nI_le (a := 220) (b := 220) (by decide) (by decide)) h
  · rintro n t r ht rfl ih
    have hP := (sr_f5 ht).1
    have ey : sr_yP (nI t).toNatClampNeg = nI (sr_P t) := by rw [nI_clamp (by omega)]; rfl
    obtain ⟨e1, e2, e3, e4⟩ := sr_div (p := sr_P t) (by omega)
    refine br_f (nI_ge (b := 220) ht (by decide)) ⟨vp_in_nI ht (by decide), nm_r ey ⟨by decide, ?_⟩⟩
    rw [e1, e3, e4]
    refine sr_power (by omega) ⟨by decide, by decide, sr_power (by omega) ⟨by decide, sr_power (by omega) ?_⟩⟩
    have e5 : (1000 : Int32) * nI e + nI (sr_P t) = nI (1000 * e + sr_P t) := by
      rw [← nI_add, ← pk_mul]; rfl
    rw [e5, nI_clamp (by omega)]
    exact ⟨vp_in_nI (by omega) (by decide), nm_r rfl (nm_r (nI_1 _) (ih _ rfl))⟩
end
section
/-! the constructors -/
theorem sr_px_all {V : Nat → Int32} {n : Nat} (h : ∀ s, n ≤ s → V s = 0) : sr_px 0 V (fun _ => 0) n = V := by
  funext j
  by_cases hj : j < n
  · have := sr_px_in (o := 0) (V := V) (f := fun _ => 0) (t := n) (u := j)
    rw [Nat.zero_add, if_pos hj] at this
    exact this
  · rw [sr_px_out (by omega), h j (by omega)]
theorem sr_px_up {V : Nat → Int32} {n : Nat} {x : Int32} (h : x = V n) : upd (sr_px 0 V (fun _ => 0) n) n x = sr_px 0 V (fun _ => 0) (n + 1) := by
  have := sr_px_s (o := 0) (V := V) (f := fun _ => 0) (t := n)
  rw [Nat.zero_add] at this
  rw [h]
  exact this
theorem sr_yP_big : sr_px 0 sr_yP (fun _ => 0) 220 = sr_yP := sr_px_all fun s hs => by
  show nI (sr_P s) = 0
  rw [sr_P_big hs]; rfl
theorem sr_yC_big : sr_px 0 sr_yC (fun _ => 0) 53 = sr_yC := sr_px_all fun s hs => by
  show nI (sr_yc s) = 0
  rw [sr_yc_big hs]; rfl
theorem sr_xA_big : sr_px 0 sr_xA (fun _ => 0) 53 = sr_xA := sr_px_all fun s hs => by
  show nI (sr_a s) = 0
  rw [sr_a_big hs]; rfl
theorem sr_xB_big : sr_px 0 sr_xB (fun _ => 0) 53 = sr_xB := sr_px_all fun s hs => by
  show nI (sr_b s) = 0
  rw [sr_b_big hs]; rfl
theorem sr_xC_big : sr_px 0 sr_xC (fun _ => 0) 53 = sr_xC := sr_px_all fun s hs => by
  show nI (sr_c s) = 0
  rw [sr_c_big hs]; rfl
theorem sr_xZ_big : sr_px 0 sr_xZ (fun _ => 0) 53 = sr_xZ := sr_px_all fun s hs => by
  show nI (sr_z s) = 0
  rw [sr_z_big hs]; rfl
theorem sr_xK_big : sr_px 0 sr_xK (fun _ => 0) 53 = sr_xK := sr_px_all fun s hs => by
  show nI (sr_cd s) = 0
  rw [sr_cd_e, sr_a_big hs, sr_b_big hs, sr_c_big hs]; rfl
theorem sr_np_s (p : Nat) : sr_np (p + 1) = sr_np p + cond (Nat.ble (sr_dg p) 9) 1 0 := rfl
theorem sr_mc_s (p : Nat) : sr_mc (p + 1) = sr_mc p + cond (sr_iS p) 1 0 := rfl
theorem sr_yinit2 {post : SY → Prop} (h : post (fun _ => 0, sr_yP, sr_yC, fun _ => 0)) : ∃ n, wY_init_79 post n 0 0 (fun _ => 0) sr_yP (fun _ => 0) (fun _ => 0) := by
  refine loop_0 (fun n p m => wY_init_79 post n (nI m) (nI p) (fun _ => 0) sr_yP (sr_px 0 sr_yC (fun _ => 0) m) (fun _ => 0)) (fun p m => m = sr_mc p) 1000 0 rfl ?_ ?_ |> fun ⟨n, hn⟩ => ⟨n, by rw [← sr_px_0 (o := 0) (V := sr_yC) (f := fun _ => 0)]; exact hn⟩
  · rintro n m rfl
    rw [sr_mc_e, sr_yC_big]
    exact br_t (nI_le (a := 1000) (b := 1000) (by decide) (by decide)) h
  · rintro n p m hp rfl ih
    refine br_f (nI_ge (b := 1000) hp (by decide)) (sr_isS hp ?_)
    have e := sr_mc_s p
    cases hc : sr_iS p with
    | false =>
      rw [hc] at e
      have ih := ih _ e.symm
      rw [if_neg (by decide)]
      exact br_t rfl (nm_r (nI_1 _) ih)
    | true =>
      rw [hc] at e
      obtain ⟨_, _, h3, h4⟩ := sr_f2 hp hc
      have ih := ih _ e.symm
      rw [if_pos rfl]
      refine br_f (by decide) ⟨vp_in_nI h4 (by decide), ?_⟩
      rw [nI_clamp (by omega)]
      exact nm_r (sr_px_up (by show nI p = nI (sr_yc (sr_mc p)); rw [h3])) (nm_r (nI_1 _) (nm_r (nI_1 _) ih))
theorem sr_yinit {post : SY → Prop} (h : post (fun _ => 0, sr_yP, sr_yC, fun _ => 0)) : wpY_init post := by
  refine loop_0 (fun n p m => wY_init_42 post n (nI m) (nI p) (fun _ => 0) (sr_px 0 sr_yP (fun _ => 0) m) (fun _ => 0) (fun _ => 0)) (fun p m => m = sr_np p) 1000 0 rfl ?_ ?_ |> fun ⟨n, hn⟩ => ⟨n, by rw [sr_px_0 (o := 0) (V := sr_yP) (f := fun _ => 0)] at hn; exact hn⟩
  · rintro n m rfl
    rw [sr_np_e, sr_yP_big]
    exact br_t (nI_le (a := 1000) (b := 1000) (by decide) (by decide)) (sr_yinit2 h)
  · rintro n p m hp rfl ih
    have hd : sr_dg p < 2 ^ 31 := by
      show p / 100 + p / 10 % 10 + p % 10 < 2 ^ 31
      omega
    refine br_f (nI_ge (b := 1000) hp (by decide)) (sr_degOf hp (pk_lt 9 (sr_dg p) (fun z => ?_) (fun z => ?_) rfl rfl (by decide) hd))
    · have e := sr_np_s p
      rw [sr_lf (by omega)] at e
      exact nm_r (nI_1 _) (ih _ e.symm)
    · have e := sr_np_s p
      rw [sr_lt z] at e
      obtain ⟨h3, h4⟩ := sr_f4 hp z
      have ih := ih _ e.symm
      refine ⟨vp_in_nI h4 (by decide), ?_⟩
      rw [nI_clamp (by omega)]
      exact nm_r (sr_px_up (by show nI p = nI (sr_P (sr_np p)); rw [h3])) (nm_r (nI_1 _) (nm_r (nI_1 _) ih))
theorem sr_n3_c (a b c : Nat) : sr_n3 a b (c + 1) = sr_n3 a b c + cond (Nat.ble (a + b + c) 9) 1 0 := (Nat.add_assoc _ _ _).symm
theorem sr_n3_b (a b : Nat) : sr_n3 a b (b + 1) = sr_n3 a (b + 1) 0 := Nat.add_assoc _ _ _
theorem sr_n3_a (a : Nat) : sr_n3 a (a + 1) 0 = sr_n3 (a + 1) 0 0 := rfl
def sr_W7 (F : Int32 → Int32 → (Nat → Int32) → (Nat → Int32) → (Nat → Int32) → (Nat → Int32) → (Nat → Int32) → (Nat → Int32) → (Nat → Int32) → Prop) (m c : Nat) : Prop := F (nI m) (nI c) (sr_px 0 sr_xA (fun _ => 0) m) (sr_px 0 sr_xB (fun _ => 0) m) (sr_px 0 sr_xC (fun _ => 0) m) (sr_px 0 sr_xZ (fun _ => 0) m) (sr_px 0 sr_xK (fun _ => 0) m) (fun _ => 0) (fun _ => 0)
theorem sr_xi80 {post : SX → Prop} {J64 J72 : Int32 → Int32 → (Nat → Int32) → (Nat → Int32) → (Nat → Int32) → (Nat → Int32) → (Nat → Int32) → (Nat → Int32) → (Nat → Int32) → Prop} {a b : Nat} (ha : a < 10) (hb : b ≤ a) (h : sr_W7 J72 (sr_n3 a (b + 1) 0) (b + 1)) : ∃ n, sr_W7 (wX_init_80 post J64 J72 (nI a) (nI b) n) (sr_n3 a b 0) 0 := by
  refine loop_0 (fun n c m => sr_W7 (wX_init_80 post J64 J72 (nI a) (nI b) n) m c) (fun c m => m = sr_n3 a b c) (b + 1) (sr_n3 a b 0) rfl ?_ ?_
  · rintro n m rfl
    rw [sr_n3_b]
    exact br_t (nI_lt (by omega) (by omega)) (nm_r (nI_1 _) h)
  · rintro n c m hc rfl ih
    have e := sr_n3_c a b c
    have e1 : nI a + nI b + nI c = nI (a + b + c) := by rw [nI_add, nI_add]
    have e2 : nI a + 10 * nI b + 100 * nI c = nI (a + 10 * b + 100 * c) := by
      rw [← nI_add, ← nI_add, ← pk_mul, ← pk_mul]; rfl
    refine br_f (nI_nlt (by omega) (by omega)) ?_
    rw [e1, e2]
    refine pk_lt 9 (a + b + c) (fun z => ?_) (fun z => ?_)
    · rw [sr_lf (by omega)] at e
      exact nm_r (nI_1 _) (ih _ e.symm)
    · rw [sr_lt z] at e
      obtain ⟨h1, h2, h3, h4⟩ := sr_f6 ha hb (by omega) z
      have ih := ih _ e.symm
      have hv : vp_in (nI (sr_n3 a b c)) 53 := vp_in_nI h1 (by decide)
      refine br_f (nI_ge (b := 53) h1 (by decide)) ⟨hv, ?_⟩
      rw [nI_clamp (by omega)]
      refine nm_r (sr_px_up (V := sr_xA) (by show nI a = nI (sr_a _); rw [h2])) ⟨hv, nm_r (sr_px_up (V := sr_xB) (by show nI b = nI (sr_b _); rw [h3])) ⟨hv, nm_r (sr_px_up (V := sr_xC) (by show nI c = nI (sr_c _); rw [h4])) ⟨hv, nm_r (sr_px_up (V := sr_xZ) (by show nI (a + b + c) = nI (sr_z _); rw [(sr_f1 h1).1, h2, h3, h4])) ⟨hv, nm_r (sr_px_up (V := sr_xK) (by show nI (a + 10 * b + 100 * c) = nI (sr_cd _); rw [sr_cd_e, h2, h3, h4])) (nm_r (nI_1 _) (nm_r (nI_1 _) ih))⟩⟩⟩⟩
theorem sr_xi72 {post : SX → Prop} {J64 : Int32 → Int32 → (Nat → Int32) → (Nat → Int32) → (Nat → Int32) → (Nat → Int32) → (Nat → Int32) → (Nat → Int32) → (Nat → Int32) → Prop} {a : Nat} (ha : a < 10) (h : sr_W7 J64 (sr_n3 (a + 1) 0 0) (a + 1)) : ∃ n, sr_W7 (wX_init_72 post J64 (nI a) n) (sr_n3 a 0 0) 0 := by
  refine loop_0 (fun n b m => sr_W7 (wX_init_72 post J64 (nI a) n) m b) (fun b m => m = sr_n3 a b 0) (a + 1) (sr_n3 a 0 0) rfl ?_ ?_
  · rintro n m rfl
    rw [sr_n3_a]
    exact br_t (nI_lt (by omega) (by omega)) (nm_r (nI_1 _) h)
  · rintro n b m hb rfl ih
    exact br_f (nI_nlt (by omega) (by omega)) (sr_xi80 ha (by omega) (ih _ rfl))
theorem sr_xinit {post : SX → Prop} (h : post (sr_xA, sr_xB, sr_xC, sr_xZ, sr_xK, fun _ => 0, fun _ => 0)) : wpX_init post := by
  have H : ∃ n, sr_W7 (wX_init_64 post n) (sr_n3 0 0 0) 0 := by
    refine loop_0 (fun n a m => sr_W7 (wX_init_64 post n) m a) (fun a m => m = sr_n3 a 0 0) 10 (sr_n3 0 0 0) rfl ?_ ?_
    · rintro n m rfl
      rw [sr_q6_e]
      unfold sr_W7
      rw [sr_xA_big, sr_xB_big, sr_xC_big, sr_xZ_big, sr_xK_big]
      exact br_t (nI_lt (a := 9) (b := 10) (by decide) (by decide)) h
    · rintro n a m ha rfl ih
      exact br_f (nI_nlt (a := 9) (by omega) (by decide)) (sr_xi72 ha (ih _ rfl))
  obtain ⟨n, hn⟩ := H
  refine ⟨n, ?_⟩
  have e : sr_n3 0 0 0 = 0 := rfl
  unfold sr_W7 at hn
  rw [e, sr_px_0, sr_px_0, sr_px_0, sr_px_0, sr_px_0] at hn
  exact hn
end
section
/-! the component's walks -/
abbrev sr_U (cf res : Nat → Int32) : SX := (sr_xA, sr_xB, sr_xC, sr_xZ, sr_xK, cf, res)
theorem sr_noE_n {post : Int32 → Prop} {u : SX} {e : Nat} (he : e < 2) (h : post 0) : wpX_isNoElement post u (nI e) := by
  by_cases z : e = 0
  · subst z; exact br_t nI_0 h
  · have : e = 1 := by omega
    subst this
    exact br_f (by decide) (br_t (by decide) h)
theorem sr_noE_y {post : Int32 → Prop} {u : SX} {x : Int32} (hx : ∀ e, e < 2 → x ≠ nI e) (h : post 1) : wpX_isNoElement post u x :=
  br_f (hx 0 (by decide)) (br_f (hx 1 (by decide)) h)
theorem sr_code_y {post : Int32 → Prop} {cf res : Nat → Int32} {s : Nat} (hs : s < 53) (h : post (nI s)) : wpX_shapeWithCode post (sr_U cf res) (nI (sr_cd s)) := by
  refine loop_0 (fun n t (_ : Unit) => wX_shapeWithCode_2 post (nI (sr_cd s)) sr_xA sr_xB sr_xC sr_xZ sr_xK cf res n (nI t)) (fun _ _ => True) s () trivial ?_ ?_
  · intro n _ _
    refine br_f (nI_ge (b := 53) hs (by decide)) ⟨vp_in_nI hs (by decide), ?_⟩
    rw [nI_clamp (by omega)]
    exact br_t rfl h
  · intro n t _ ht _ ih
    refine br_f (nI_ge (b := 53) (by omega) (by decide)) ⟨vp_in_nI (by omega) (by decide), ?_⟩
    rw [nI_clamp (by omega)]
    refine br_f (fun z => ?_) (nm_r (nI_1 _) (ih () trivial))
    have h1 := (sr_f1 hs).2.2.2.2.2.2
    have h2 := (sr_f1 (s := t) (by omega)).2.2.2.2.2.2
    have z : nI (sr_cd t) = nI (sr_cd s) := z
    rw [nI_eq (by omega) (by omega)] at z
    have := sr_cd_inj (by omega) hs z
    omega
theorem sr_code_n {post : Int32 → Prop} {cf res : Nat → Int32} {x : Int32} (hx : ∀ s, s < 53 → x ≠ nI (sr_cd s)) (h : post (-1)) : wpX_shapeWithCode post (sr_U cf res) x := by
  refine loop_0 (fun n t (_ : Unit) => wX_shapeWithCode_2 post x sr_xA sr_xB sr_xC sr_xZ sr_xK cf res n (nI t)) (fun _ _ => True) 53 () trivial ?_ ?_
  · intro n _ _
    exact br_t (nI_le (a := 53) (b := 53) (by decide) (by decide)) h
  · intro n t _ ht _ ih
    refine br_f (nI_ge (b := 53) ht (by decide)) ⟨vp_in_nI ht (by decide), ?_⟩
    rw [nI_clamp (by omega)]
    exact br_f (fun z => hx t ht z.symm) (nm_r (nI_1 _) (ih () trivial))
theorem sr_e53 (e s : Nat) : nI e * 53 + nI s = nI (e * 53 + s) := by
  rw [← nI_add, ← pk_mul]; rfl
theorem sr_xtop {post : Int32 → Prop} {cf res : Nat → Int32} {e : Nat} (he : e < 2) (h : ∀ r, sr_top (sr_nz sr_z (fun s => cf (e * 53 + s) ≠ 0) 53) r → post r) : wpX_topSize post (sr_U cf res) (nI e) := by
  refine loop_0 (fun n t r => wX_topSize_5 post (nI e) sr_xA sr_xB sr_xC sr_xZ sr_xK cf res n r (nI t)) (fun t r => sr_top (sr_nz sr_z (fun s => cf (e * 53 + s) ≠ 0) t) r) 53 (-4) sr_top_0 ?_ ?_
  · intro n r hr
    exact br_t (nI_le (a := 53) (b := 53) (by decide) (by decide)) (h r hr)
  · intro n t r ht hr ih
    have hD := (sr_f1 ht).2.1
    have hz : sr_xZ (nI t).toNatClampNeg = nI (sr_z t) := by rw [nI_clamp (by omega)]; rfl
    refine br_f (nI_ge (b := 53) ht (by decide)) ?_
    rw [sr_e53, nI_clamp (n := e * 53 + t) (by omega), hz]
    exact ⟨vp_in_nI (by omega) (by decide), br_c (fun z => nm_r (nI_1 _) (ih _ (sr_top_skip (fun q => q z) hr))) (fun z => ⟨vp_in_nI ht (by decide), br_c (fun y => nm_r (nI_1 _) (ih _ (sr_top_low hD z y hr))) (fun y => ⟨vp_in_nI ht (by decide), nm_r rfl (nm_r (nI_1 _) (ih _ (sr_top_new hD z y hr)))⟩)⟩)⟩
/-- too great, or not -/
theorem sr_full {c : Nat → Int32} {r : Int32} {m : Nat} (hm : m ≤ 9) (H : sr_top (sr_nz sr_z (fun s => c s ≠ 0) 53) r) : (r ≠ -4 ∧ ¬ r < 0 ∧ ¬ r + nI m ≤ 9) ∨ ((∀ s, s < 53 → c s ≠ 0 → sr_z s + m ≤ 9) ∧ (r = -4 ∨ (r ≠ -4 ∧ ¬ r < 0 ∧ r + nI m ≤ 9))) := by
  rcases H with ⟨h1, h2⟩ | ⟨d, h1, h2, h3, h4⟩
  · exact Or.inr ⟨fun s hs hc => absurd ⟨s, hs, rfl, hc⟩ (h2 (sr_z s) (sr_f1 hs).2.1), Or.inl h1⟩
  · subst h2
    have n4 : ∀ d, d ≤ 9 → nI d ≠ -4 := by decide
    by_cases hf : d + m ≤ 9
    · refine Or.inr ⟨fun s hs hc => ?_, Or.inr ⟨n4 d h1, nI_pos (by omega), ?_⟩⟩
      · have := h4 (sr_z s) (sr_f1 hs).2.1 ⟨s, hs, rfl, hc⟩
        omega
      · rw [nI_add]; exact nI_le (b := 9) hf (by decide)
    · refine Or.inl ⟨n4 d h1, nI_pos (by omega), ?_⟩
      rw [nI_add]; exact nI_ge (a := 9) (by omega) (by omega)
theorem sr_tooG {post : Int32 → Prop} {cf res : Nat → Int32} {e : Nat} {x : Int32} (he : e < 2) (h : ∀ r, sr_top (sr_nz sr_z (fun s => cf (e * 53 + s) ≠ 0) 53) r → (r = -4 → post 0) ∧ (¬ r = -4 → (r + x ≤ 9 → post 0) ∧ (¬ r + x ≤ 9 → post 1))) : wpX_isTooGreat post (sr_U cf res) (nI e) x :=
  sr_xtop he h
/-! the gathered result -/
def sr_rs (R r0 : Nat → Int32) : Nat → Int32 := sr_px 0 R r0 53
theorem sr_rs_in {R r0 : Nat → Int32} {j : Nat} (h : j < 53) : sr_rs R r0 j = R j := by
  have := sr_px_in (o := 0) (V := R) (f := r0) (t := 53) (u := j)
  rw [Nat.zero_add, if_pos h] at this
  exact this
theorem sr_rs_congr {R R' r0 : Nat → Int32} (h : ∀ j, j < 53 → R j = R' j) : sr_rs R r0 = sr_rs R' r0 := by
  funext j
  by_cases hj : j < 53
  · rw [sr_rs_in hj, sr_rs_in hj, h j hj]
  · unfold sr_rs
    rw [sr_px_out (by omega), sr_px_out (by omega)]
theorem sr_rs_u {R r0 : Nat → Int32} {r : Nat} {v : Int32} (h : r < 53) : upd (sr_rs R r0) r v = sr_rs (upd R r v) r0 := by
  funext j
  by_cases e : j = r
  · rw [e, pk_us, sr_rs_in h, pk_us]
  · rw [pk_un e]
    by_cases hj : j < 53
    · rw [sr_rs_in hj, sr_rs_in hj, pk_un e]
    · unfold sr_rs
      rw [sr_px_out (by omega), sr_px_out (by omega)]
theorem sr_xclear {post : SX → Prop} {cf res : Nat → Int32} (h : post (sr_U cf (sr_rs (fun _ => 0) res))) : wpX_clearResult post (sr_U cf res) := by
  refine loop_0 (fun n t r => wX_clearResult_2 post n (nI t) sr_xA sr_xB sr_xC sr_xZ sr_xK cf r) (fun t r => r = sr_px 0 (fun _ => 0) res t) 53 res sr_px_0.symm ?_ ?_
  · rintro n r rfl
    exact br_t (nI_le (a := 53) (b := 53) (by decide) (by decide)) h
  · rintro n t r ht rfl ih
    refine br_f (nI_ge (b := 53) ht (by decide)) ⟨vp_in_nI ht (by decide), ?_⟩
    rw [nI_clamp (by omega)]
    have e := sr_px_s (o := 0) (V := fun _ => 0) (f := res) (t := t)
    rw [Nat.zero_add] at e
    exact nm_r e (nm_r (nI_1 _) (ih _ rfl))
theorem sr_xstore {post : SX → Prop} {cf R r0 : Nat → Int32} {e : Nat} (he : e < 2) (h : post (sr_U (sr_px (e * 53) R cf 53) (sr_rs R r0))) : wpX_storeResult post (sr_U cf (sr_rs R r0)) (nI e) := by
  refine loop_0 (fun n t f => wX_storeResult_2 post (nI e) n (nI t) sr_xA sr_xB sr_xC sr_xZ sr_xK f (sr_rs R r0)) (fun t f => f = sr_px (e * 53) R cf t) 53 cf sr_px_0.symm ?_ ?_
  · rintro n f rfl
    exact br_t (nI_le (a := 53) (b := 53) (by decide) (by decide)) h
  · rintro n t f ht rfl ih
    refine br_f (nI_ge (b := 53) ht (by decide)) ⟨vp_in_nI ht (by decide), ?_⟩
    rw [sr_e53, nI_clamp (n := e * 53 + t) (by omega), nI_clamp (n := t) (by omega), sr_rs_in ht]
    exact ⟨vp_in_nI (by omega) (by decide), nm_r sr_px_s (nm_r (nI_1 _) (ih _ rfl))⟩
/-! fillings -/
def sr_mi (x y : Nat) : Nat := if x ≤ y then x else y
theorem sr_k5_e (a b c i j : Nat) : sr_k5 a b c i j = sr_mi (sr_mi (b + 1) (i + j + 1 - b)) (sr_mi (i + 1) (j + 1)) - (c + (i + j - a - c)) := by
  have e : ∀ x y, sr_mn x y = sr_mi x y := by
    intro x y
    show x - (x - y) = if x ≤ y then x else y
    by_cases h : x ≤ y
    · rw [if_pos h]; omega
    · rw [if_neg h]; omega
  show sr_mn (sr_mn (b + 1) (i + j + 1 - b)) (sr_mn (i + 1) (j + 1)) - (c + (i + j - a - c)) = _
  rw [e, e, e]
def sr_kc (a b c i j x : Nat) : Nat := sr_mi x (sr_mi (i + j + 1 - b) (sr_mi (i + 1) (j + 1))) - (c + (i + j - a - c))
theorem sr_kc_0 (a b c i j : Nat) : sr_kc a b c i j c = 0 := by
  unfold sr_kc sr_mi
  repeat' split
  all_goals omega
theorem sr_kc_e (a b c i j : Nat) : sr_kc a b c i j (b + 1) = sr_k5 a b c i j := by
  rw [sr_k5_e]
  unfold sr_kc sr_mi
  repeat' split
  all_goals omega
theorem sr_kc_n {a b c i j x : Nat} (h : i + j < b + x ∨ a + x < i + j ∨ i < x ∨ j < x) (hc : c ≤ x) : sr_kc a b c i j (x + 1) = sr_kc a b c i j x := by
  unfold sr_kc sr_mi
  repeat' split
  all_goals omega
theorem sr_kc_y {a b c i j x : Nat} (h1 : b + x ≤ i + j) (h2 : i + j ≤ a + x) (h3 : x ≤ i) (h4 : x ≤ j) (hc : c ≤ x) : sr_kc a b c i j (x + 1) = sr_kc a b c i j x + 1 := by
  unfold sr_kc sr_mi
  repeat' split
  all_goals omega
theorem sr_subT {a b : Nat} (ha : a < 2 ^ 20) (hb : b < 2 ^ 20) : (nI a - nI b).toInt = (a : Int) - b := pk_sub_toInt (by omega) (by omega)
theorem sr_fill1 {post : Int32 → Prop} {cf res : Nat → Int32} {s i j : Nat} (hs : s < 53) (hij : i + j ≤ 9) (h : post (nI (sr_k5 (sr_a s) (sr_b s) (sr_c s) i j))) : ∃ n, wX_fillings_51 post (nI s) (nI i) (nI j) sr_xA sr_xB sr_xC sr_xZ sr_xK cf res n 0 (nI (sr_c s)) := by
  obtain ⟨h1, h2, h3, h4, _⟩ := sr_f1 hs
  have eA : sr_xA (nI s).toNatClampNeg = nI (sr_a s) := by rw [nI_clamp (by omega)]; rfl
  have eB : sr_xB (nI s).toNatClampNeg = nI (sr_b s) := by rw [nI_clamp (by omega)]; rfl
  have hv : vp_in (nI s) 53 := vp_in_nI hs (by decide)
  refine loop_0 (fun n x r => wX_fillings_51 post (nI s) (nI i) (nI j) sr_xA sr_xB sr_xC sr_xZ sr_xK cf res n r (nI (sr_c s + x))) (fun x r => r = nI (sr_kc (sr_a s) (sr_b s) (sr_c s) i j (sr_c s + x))) (sr_b s + 1 - sr_c s) 0 (by show (0 : Int32) = nI (sr_kc _ _ _ _ _ (sr_c s + 0)); rw [Nat.add_zero, sr_kc_0]; rfl) ?_ ?_
  · rintro n r rfl
    refine ⟨hv, ?_⟩
    rw [eB]
    refine br_t (nI_lt (by omega) (by omega)) ?_
    rw [show sr_c s + (sr_b s + 1 - sr_c s) = sr_b s + 1 by omega, sr_kc_e]
    exact h
  · rintro n x r hx rfl ih
    refine ⟨hv, ?_⟩
    rw [eB, eA]
    refine br_f (nI_nlt (by omega) (by omega)) (nm_r (show nI i + nI j - nI (sr_c s + x) = nI (i + j) - nI (sr_c s + x) by rw [nI_add]) ⟨hv, ?_⟩)
    have tI := sr_subT (a := i + j) (b := sr_c s + x) (by omega) (by omega)
    generalize hy : nI (i + j) - nI (sr_c s + x) = y at tI
    have lt1 : ∀ m, m < 100 → (y < nI m ↔ i + j < m + (sr_c s + x)) := fun m hm => by
      rw [Int32.lt_iff_toInt_lt, tI, nI_toInt (by omega)]; omega
    have lt2 : ∀ m, m < 100 → (nI m < y ↔ m + (sr_c s + x) < i + j) := fun m hm => by
      rw [Int32.lt_iff_toInt_lt, tI, nI_toInt (by omega)]; omega
    refine br_c (fun z => nm_r (nI_1 _) (ih _ ?_)) (fun z => ⟨hv, br_c (fun w => nm_r (nI_1 _) (ih _ ?_)) (fun w => br_c (fun v => nm_r (nI_1 _) (ih _ ?_)) (fun v => br_c (fun t => nm_r (nI_1 _) (ih _ ?_)) (fun t => nm_r (nI_1 _) (nm_r (nI_1 _) (ih _ ?_)))))⟩)
    · rw [lt1 _ (by omega)] at z
      exact congrArg nI (sr_kc_n (x := sr_c s + x) (by omega) (by omega)).symm
    · rw [lt2 _ (by omega)] at w
      exact congrArg nI (sr_kc_n (x := sr_c s + x) (by omega) (by omega)).symm
    · rw [nI_ltI (by omega) (by omega)] at v
      exact congrArg nI (sr_kc_n (x := sr_c s + x) (by omega) (by omega)).symm
    · rw [lt1 _ (by omega)] at t
      exact congrArg nI (sr_kc_n (x := sr_c s + x) (by omega) (by omega)).symm
    · rw [lt1 _ (by omega)] at z t
      rw [lt2 _ (by omega)] at w
      rw [nI_ltI (by omega) (by omega)] at v
      exact congrArg nI (sr_kc_y (x := sr_c s + x) (by omega) (by omega) (by omega) (by omega) (by omega)).symm
theorem sr_fill {post : Int32 → Prop} {cf res : Nat → Int32} {s i j k : Nat} (hs : s < 53) (hi : i < 2 ^ 31) (hj : j < 2 ^ 31) (hk : k < 2 ^ 31) (h : post (nI (sr_K s i j k))) : wpX_fillings post (sr_U cf res) (nI s) (nI i) (nI j) (nI k) := by
  obtain ⟨h1, h2, h3, h4, _⟩ := sr_f1 hs
  have hv : vp_in (nI s) 53 := vp_in_nI hs (by decide)
  have eZ : sr_xZ (nI s).toNatClampNeg = nI (sr_z s) := by rw [nI_clamp (by omega)]; rfl
  have eC : sr_xC (nI s).toNatClampNeg = nI (sr_c s) := by rw [nI_clamp (by omega)]; rfl
  refine ⟨hv, nm_r (show _ = nI (sr_z s) - nI i by rw [eZ]) (br_f (nI_pos hi) (br_f (nI_pos hj) (br_f (nI_pos hk) ?_)))⟩
  by_cases hz : i ≤ sr_z s
  · rw [pk_sub hz]
    refine pk_lt (sr_z s - i) j (fun z => ?_) (fun z => ?_) rfl rfl (by omega) hj
    · rw [sr_K_n (by omega)] at h
      exact h
    · rw [pk_sub z]
      refine pk_eq k (sr_z s - i - j) (fun q => ⟨hv, nm_r eC (sr_fill1 hs (by omega) ?_)⟩) (fun q => ?_) rfl rfl hk (by omega)
      · rw [sr_K_y (by omega)] at h
        exact h
      · rw [sr_K_n (by omega)] at h
        exact h
  · rw [sr_K_n (by omega)] at h
    refine br_t ?_ h
    rw [Int32.lt_iff_toInt_lt, Int32.toInt_sub, nI_toInt (n := sr_z s) (by omega), nI_toInt hi, nI_toInt hj, Int.bmod_eq_of_le (by omega) (by omega)]
    omega
theorem sr_fill_n {post : Int32 → Prop} {cf res : Nat → Int32} {s : Nat} {x y z : Int32} (hs : s < 53) (hn : x < 0 ∨ y < 0 ∨ z < 0) (h : post 0) : wpX_fillings post (sr_U cf res) (nI s) x y z := by
  refine ⟨vp_in_nI hs (by decide), nm_e (br_c (fun _ => h) (fun a => br_c (fun _ => h) (fun b => br_c (fun _ => h) (fun c => ?_))))⟩
  rcases hn with q | q | q
  · exact absurd q a
  · exact absurd q b
  · exact absurd q c
theorem sr_fillD {post : Int32 → Prop} {cf res : Nat → Int32} {s u i v j w k : Nat} (hs : s < 53) (hu : u < 100) (hv : v < 100) (hw : w < 100) (hi : i < 100) (hj : j < 100) (hk : k < 100) (h : post (nI (sr_D s u i v j w k))) : wpX_fillings post (sr_U cf res) (nI s) (nI u - nI i) (nI v - nI j) (nI w - nI k) := by
  by_cases hf : i ≤ u ∧ j ≤ v ∧ k ≤ w
  · rw [sr_D_y hf.1 hf.2.1 hf.2.2] at h
    rw [pk_sub hf.1, pk_sub hf.2.1, pk_sub hf.2.2]
    exact sr_fill hs (by omega) (by omega) (by omega) h
  · rw [sr_D_n hf] at h
    refine sr_fill_n hs ?_ h
    by_cases h1 : i ≤ u
    · by_cases h2 : j ≤ v
      · exact Or.inr (Or.inr (pk_sneg (by omega) (by omega)))
      · exact Or.inr (Or.inl (pk_sneg (by omega) (by omega)))
    · exact Or.inl (pk_sneg (by omega) (by omega))
theorem sr_pnum {post : Int32 → Prop} {cf res : Nat → Int32} {p q r : Nat} (hp : p < 53) (hq : q < 53) (hr : r < 53) (h : post (sr_N p q r)) : wpX_productNumber post (sr_U cf res) (nI p) (nI q) (nI r) := by
  have vp := vp_in_nI hp (N := 53) (by decide)
  have vq := vp_in_nI hq (N := 53) (by decide)
  have vr := vp_in_nI hr (N := 53) (by decide)
  obtain ⟨p1, p2, p3, p4, _⟩ := sr_f1 hp
  obtain ⟨q1, q2, q3, q4, _⟩ := sr_f1 hq
  obtain ⟨r1, r2, r3, r4, _⟩ := sr_f1 hr
  refine ⟨vp, vq, vr, ?_⟩
  rw [nI_clamp (n := p) (by omega), nI_clamp (n := q) (by omega), nI_clamp (n := r) (by omega)]
  refine pk_eq (sr_z p + sr_z q) (sr_z r) (fun z => ?_) (fun z => ?_) (nI_add _ _) rfl (by omega) (by omega)
  · have eE : sr_E p q r = sr_E6 p (sr_a r + 2) (sr_b r + 1) (sr_c r) (sr_a q + 2) (sr_b q + 1) (sr_c q) := by
      show cond (Nat.beq (sr_z p + sr_z q) (sr_z r)) _ 0 = _
      rw [sr_bt z]; rfl
    have eO : sr_O p q r = sr_O6 p (sr_a r + 2) (sr_b r + 1) (sr_c r) (sr_a q + 2) (sr_b q + 1) (sr_c q) := by
      show cond (Nat.beq (sr_z p + sr_z q) (sr_z r)) _ 0 = _
      rw [sr_bt z]; rfl
    refine ⟨vr, nm_r (nI_add (sr_a r) 2) ⟨vr, nm_r (nI_1 (sr_b r)) ⟨vr, nm_r (e' := nI (sr_c r)) rfl ⟨vq, nm_r (nI_add (sr_a q) 2) ⟨vq, nm_r (nI_1 (sr_b q)) ⟨vq, nm_r (e' := nI (sr_c q)) rfl ?_⟩⟩⟩⟩⟩⟩
    refine sr_fillD hp (by omega) (by omega) (by omega) (by omega) (by omega) (by omega) ?_
    refine sr_fillD hp (by omega) (by omega) (by omega) (by omega) (by omega) (by omega) ?_
    refine sr_fillD hp (by omega) (by omega) (by omega) (by omega) (by omega) (by omega) ?_
    refine nm_e ?_
    refine sr_fillD hp (by omega) (by omega) (by omega) (by omega) (by omega) (by omega) ?_
    refine sr_fillD hp (by omega) (by omega) (by omega) (by omega) (by omega) (by omega) ?_
    refine sr_fillD hp (by omega) (by omega) (by omega) (by omega) (by omega) (by omega) ?_
    refine nm_e ?_
    rw [nI_add, nI_add, nI_add, nI_add]
    have e : sr_N p q r = nI (sr_E6 p (sr_a r + 2) (sr_b r + 1) (sr_c r) (sr_a q + 2) (sr_b q + 1) (sr_c q)) - nI (sr_O6 p (sr_a r + 2) (sr_b r + 1) (sr_c r) (sr_a q + 2) (sr_b q + 1) (sr_c q)) := by
      show nI (sr_E p q r) - nI (sr_O p q r) = _
      rw [eE, eO]
    rw [e] at h
    exact h
  · rw [sr_N_n z] at h
    exact h
end
section
/-! the component: gathering -/
theorem sr_ga1 {post : SX → Prop} {J3 : Int32 → (Nat → Int32) → (Nat → Int32) → (Nat → Int32) → (Nat → Int32) → (Nat → Int32) → (Nat → Int32) → (Nat → Int32) → Prop} {cf R r0 : Nat → Int32} {p q : Nat} {x1 x3 f : Int32} (hp : p < 53) (hq : q < 53) (h : J3 (nI (q + 1)) sr_xA sr_xB sr_xC sr_xZ sr_xK cf (sr_rs (fun j => R j + f * sr_N p q j) r0)) : ∃ n, wX_gatherTimesShape_34 post J3 x1 (nI p) x3 (nI q) f n 0 sr_xA sr_xB sr_xC sr_xZ sr_xK cf (sr_rs R r0) := by
  refine loop_0 (fun n t r => wX_gatherTimesShape_34 post J3 x1 (nI p) x3 (nI q) f n (nI t) sr_xA sr_xB sr_xC sr_xZ sr_xK cf r) (fun t r => r = sr_rs (sr_px 0 (fun j => R j + f * sr_N p q j) R t) r0) 53 (sr_rs R r0) (by rw [sr_px_0]) ?_ ?_
  · rintro n r rfl
    have e : sr_rs (sr_px 0 (fun j => R j + f * sr_N p q j) R 53) r0 = sr_rs (fun j => R j + f * sr_N p q j) r0 := sr_rs_congr fun j hj => sr_rs_in (r0 := R) hj
    rw [e]
    exact br_t (nI_le (a := 53) (b := 53) (by decide) (by decide)) (nm_r (nI_1 _) h)
  · rintro n t r ht rfl ih
    refine br_f (nI_ge (b := 53) ht (by decide)) ⟨vp_in_nI ht (by decide), sr_pnum hp hq ht ⟨vp_in_nI ht (by decide), ?_⟩⟩
    rw [nI_clamp (by omega), sr_rs_u ht, sr_rs_in ht]
    have e1 := sr_px_in (o := 0) (V := fun j => R j + f * sr_N p q j) (f := R) (t := t) (u := t)
    rw [Nat.zero_add, if_neg (Nat.lt_irrefl t)] at e1
    have e2 := sr_px_s (o := 0) (V := fun j => R j + f * sr_N p q j) (f := R) (t := t)
    rw [Nat.zero_add] at e2
    rw [e1]
    exact nm_r (congrArg (fun a => sr_rs a r0) e2) (nm_r (nI_1 _) (ih _ rfl))
theorem sr_gather {post : SX → Prop} {cf R r0 : Nat → Int32} {e p : Nat} {n : Int32} (he : e < 2) (hp : p < 53) (h : post (sr_U cf (sr_rs (fun j => R j + sr_s 53 (fun q => (n * cf (e * 53 + q)) * sr_N p q j)) r0))) : wpX_gatherTimesShape post (sr_U cf (sr_rs R r0)) (nI e) (nI p) n := by
  refine loop_0 (fun m t r => wX_gatherTimesShape_3 post (nI e) (nI p) n m (nI t) sr_xA sr_xB sr_xC sr_xZ sr_xK cf r) (fun t r => r = sr_rs (fun j => R j + sr_s t (fun q => (n * cf (e * 53 + q)) * sr_N p q j)) r0) 53 (sr_rs R r0) (sr_rs_congr fun j _ => (Int32.add_zero _).symm) ?_ ?_
  · rintro m r rfl
    exact br_t (nI_le (a := 53) (b := 53) (by decide) (by decide)) h
  · rintro m t r ht rfl ih
    refine br_f (nI_ge (b := 53) ht (by decide)) ?_
    rw [sr_e53, nI_clamp (by omega)]
    refine ⟨vp_in_nI (by omega) (by decide), nm_e (br_c (fun z => nm_r (nI_1 _) (ih _ (sr_rs_congr fun j _ => ?_))) (fun z => sr_ga1 hp ht (ih _ (sr_rs_congr fun j _ => ?_))))⟩
    · show R j + sr_s t _ = R j + (sr_s t _ + (n * cf (e * 53 + t)) * sr_N p t j)
      rw [z, Int32.zero_mul, Int32.add_zero]
    · exact Int32.add_assoc _ _ _
theorem sr_gcode_y {post : SX → Prop} {cf R r0 : Nat → Int32} {e p : Nat} {n : Int32} (he : e < 2) (hp : p < 53) (h : post (sr_U cf (sr_rs (fun j => R j + sr_s 53 (fun q => (n * cf (e * 53 + q)) * sr_N p q j)) r0))) : wpX_gatherTimesCode post (sr_U cf (sr_rs R r0)) (nI e) (nI (sr_cd p)) n :=
  sr_code_y hp (br_f (show ¬ nI p = -1 from fun z => by
    have := congrArg Int32.toInt z
    rw [nI_toInt (by omega)] at this
    have e : (-1 : Int32).toInt = -1 := by decide
    rw [e] at this
    omega) (sr_gather he hp h))
theorem sr_gcode_n {post : SX → Prop} {cf R r0 : Nat → Int32} {e : Nat} {x n : Int32} (hx : ∀ s, s < 53 → x ≠ nI (sr_cd s)) (h : post (sr_U cf (sr_rs R r0))) : wpX_gatherTimesCode post (sr_U cf (sr_rs R r0)) (nI e) x n :=
  sr_code_n hx (br_t rfl h)
/-- one of timesPower's three gatherings, whether the code is a shape's or not -/
def sr_gd (cd : Nat) (p : Nat) : Int32 := if sr_cd p = cd then 1 else 0
theorem sr_gcode {post : SX → Prop} {cf R r0 : Nat → Int32} {e cd : Nat} {n : Int32} (he : e < 2) (hc : cd < 1000) (h : post (sr_U cf (sr_rs (fun j => R j + sr_s 53 (fun p => sr_s 53 (fun q => ((n * sr_gd cd p) * cf (e * 53 + q)) * sr_N p q j))) r0))) : wpX_gatherTimesCode post (sr_U cf (sr_rs R r0)) (nI e) (nI cd) n := by
  by_cases hs : ∃ s, s < 53 ∧ sr_cd s = cd
  · obtain ⟨s, hs, rfl⟩ := hs
    refine sr_gcode_y he hs ?_
    have e : (fun j => R j + sr_s 53 (fun q => (n * cf (e * 53 + q)) * sr_N s q j)) = (fun j => R j + sr_s 53 (fun p => sr_s 53 (fun q => ((n * sr_gd (sr_cd s) p) * cf (e * 53 + q)) * sr_N p q j))) := by
      funext j
      refine congrArg (R j + ·) ?_
      refine Eq.trans ?_ (sr_s_one (f := fun p => sr_s 53 (fun q => ((n * sr_gd (sr_cd s) p) * cf (e * 53 + q)) * sr_N p q j)) hs ?_).symm
      · refine sr_s_congr fun q _ => ?_
        unfold sr_gd
        rw [if_pos rfl, Int32.mul_one]
      · intro p hp hne
        refine sr_s_0 fun q _ => ?_
        unfold sr_gd
        rw [if_neg (fun z => hne (sr_cd_inj hp hs z)), Int32.mul_zero, Int32.zero_mul, Int32.zero_mul]
    rw [e]
    exact h
  · have hx : ∀ s, s < 53 → nI cd ≠ nI (sr_cd s) := fun s hs' z => by
      have := (sr_f1 hs').2.2.2.2.2.2
      rw [nI_eq (by omega) (by omega)] at z
      exact hs ⟨s, hs', z.symm⟩
    refine sr_gcode_n hx ?_
    have e : R = (fun j => R j + sr_s 53 (fun p => sr_s 53 (fun q => ((n * sr_gd cd p) * cf (e * 53 + q)) * sr_N p q j))) := by
      funext j
      rw [sr_s_0]
      · exact (Int32.add_zero _).symm
      · intro p hp
        refine sr_s_0 fun q _ => ?_
        unfold sr_gd
        rw [if_neg (fun z => hs ⟨p, hp, z⟩), Int32.mul_zero, Int32.zero_mul, Int32.zero_mul]
    rw [← e] at h
    exact h
/-! the component: skew's two loops, product's loop -/
theorem sr_sk1 {post : Int32 → SX → Prop} {J28 : Int32 → (Nat → Int32) → (Nat → Int32) → (Nat → Int32) → (Nat → Int32) → (Nat → Int32) → (Nat → Int32) → (Nat → Int32) → Prop} {cf R r0 : Nat → Int32} {e p q : Nat} (he : e < 2) (hp : p < 53) (hq : q < 53) (hR : R q = 0) (h : J28 (nI (q + 1)) sr_xA sr_xB sr_xC sr_xZ sr_xK cf (sr_rs (upd R q (sr_s 53 (fun r => sr_N p q r * cf (e * 53 + r)))) r0)) : ∃ n, wX_skew_38 post J28 (nI e) (nI p) (nI q) n 0 sr_xA sr_xB sr_xC sr_xZ sr_xK cf (sr_rs R r0) := by
  refine loop_0 (fun n t r => wX_skew_38 post J28 (nI e) (nI p) (nI q) n (nI t) sr_xA sr_xB sr_xC sr_xZ sr_xK cf r) (fun t r => r = sr_rs (upd R q (sr_s t (fun r => sr_N p q r * cf (e * 53 + r)))) r0) 53 (sr_rs R r0) (sr_rs_congr fun j _ => ?_) ?_ ?_
  · show R j = upd R q 0 j
    by_cases z : j = q
    · rw [z, pk_us, hR]
    · rw [pk_un z]
  · rintro n r rfl
    exact br_t (nI_le (a := 53) (b := 53) (by decide) (by decide)) (nm_r (nI_1 _) h)
  · rintro n t r ht rfl ih
    refine br_f (nI_ge (b := 53) ht (by decide)) ⟨vp_in_nI hq (by decide), sr_pnum hp hq ht ?_⟩
    rw [sr_e53, nI_clamp (n := e * 53 + t) (by omega), nI_clamp (n := q) (by omega), sr_rs_u hq, sr_rs_in hq, pk_us]
    refine ⟨vp_in_nI (by omega) (by decide), vp_in_nI hq (by decide), nm_e (nm_r (nI_1 _) (ih _ (sr_rs_congr fun j _ => ?_)))⟩
    by_cases z : j = q
    · rw [z, pk_us, pk_us]; rfl
    · rw [pk_un z, pk_un z, pk_un z]
theorem sr_sk2 {post : Int32 → SX → Prop} {cf r0 : Nat → Int32} {e p : Nat} (he : e < 2) (hp : p < 53) (h : post 0 (sr_U (sr_px (e * 53) (fun q => sr_s 53 (fun r => sr_N p q r * cf (e * 53 + r))) cf 53) (sr_rs (fun q => sr_s 53 (fun r => sr_N p q r * cf (e * 53 + r))) r0))) : ∃ n, wX_skew_28 post (nI e) (nI p) n 0 sr_xA sr_xB sr_xC sr_xZ sr_xK cf (sr_rs (fun _ => 0) r0) := by
  refine loop_0 (fun n t r => wX_skew_28 post (nI e) (nI p) n (nI t) sr_xA sr_xB sr_xC sr_xZ sr_xK cf r) (fun t r => r = sr_rs (sr_px 0 (fun q => sr_s 53 (fun r => sr_N p q r * cf (e * 53 + r))) (fun _ => 0) t) r0) 53 (sr_rs (fun _ => 0) r0) (by rw [sr_px_0]) ?_ ?_
  · rintro n r rfl
    have e : sr_rs (sr_px 0 (fun q => sr_s 53 (fun r => sr_N p q r * cf (e * 53 + r))) (fun _ => 0) 53) r0 = sr_rs (fun q => sr_s 53 (fun r => sr_N p q r * cf (e * 53 + r))) r0 := sr_rs_congr fun j hj => sr_rs_in (r0 := fun _ => 0) hj
    rw [e]
    exact br_t (nI_le (a := 53) (b := 53) (by decide) (by decide)) (sr_xstore he h)
  · rintro n t r ht rfl ih
    have e1 := sr_px_in (o := 0) (V := fun q => sr_s 53 (fun r => sr_N p q r * cf (e * 53 + r))) (f := fun _ => 0) (t := t) (u := t)
    rw [Nat.zero_add, if_neg (Nat.lt_irrefl t)] at e1
    have e2 := sr_px_s (o := 0) (V := fun q => sr_s 53 (fun r => sr_N p q r * cf (e * 53 + r))) (f := fun _ => 0) (t := t)
    rw [Nat.zero_add] at e2
    exact br_f (nI_ge (b := 53) ht (by decide)) (sr_sk1 he hp ht e1 (ih _ (congrArg (fun a => sr_rs a r0) e2)))
theorem sr_pr30 {post : Int32 → SX → Prop} {cf r0 : Nat → Int32} (h : post 0 (sr_U (sr_px (0 * 53) (fun j => sr_s 53 (fun p => sr_s 53 (fun q => (cf (53 + p) * cf (0 * 53 + q)) * sr_N p q j))) cf 53) (sr_rs (fun j => sr_s 53 (fun p => sr_s 53 (fun q => (cf (53 + p) * cf (0 * 53 + q)) * sr_N p q j))) r0))) : ∃ n, wX_product_30 post n 0 sr_xA sr_xB sr_xC sr_xZ sr_xK cf (sr_rs (fun _ => 0) r0) := by
  refine loop_0 (fun n t r => wX_product_30 post n (nI t) sr_xA sr_xB sr_xC sr_xZ sr_xK cf r) (fun t r => r = sr_rs (fun j => sr_s t (fun p => sr_s 53 (fun q => (cf (53 + p) * cf (0 * 53 + q)) * sr_N p q j))) r0) 53 (sr_rs (fun _ => 0) r0) rfl ?_ ?_
  · rintro n r rfl
    exact br_t (nI_le (a := 53) (b := 53) (by decide) (by decide)) (sr_xstore (e := 0) (by decide) h)
  · rintro n t r ht rfl ih
    have e : (53 : Int32) + nI t = nI (53 + t) := nI_add 53 t
    refine br_f (nI_ge (b := 53) ht (by decide)) ?_
    rw [e, nI_clamp (by omega)]
    exact ⟨vp_in_nI (by omega) (by decide), sr_gather (e := 0) (by decide) ht (nm_r (nI_1 _) (ih _ rfl))⟩
theorem sr_pr24 {post : Int32 → SX → Prop} {cf res : Nat → Int32} (h : ∀ r0, post 0 (sr_U (sr_px (0 * 53) (fun j => sr_s 53 (fun p => sr_s 53 (fun q => (cf (53 + p) * cf (0 * 53 + q)) * sr_N p q j))) cf 53) r0)) : wX_product_24 post sr_xA sr_xB sr_xC sr_xZ sr_xK cf res :=
  sr_xclear (sr_pr30 (h _))
/-! the component: numberBefore, value, shapes, inner -/
theorem sr_nbef {post : Int32 → Prop} {cf res : Nat → Int32} {e i j k : Nat} (he : e < 2) (hi : i < 2 ^ 31) (hj : j < 2 ^ 31) (hk : k < 2 ^ 31) (h : post (sr_T (fun s => cf (e * 53 + s)) i j k)) : wpX_numberBefore post (sr_U cf res) (nI e) (nI i) (nI j) (nI k) := by
  refine loop_0 (fun n t r => wX_numberBefore_6 post (nI e) (nI i) (nI j) (nI k) sr_xA sr_xB sr_xC sr_xZ sr_xK cf res n r (nI t)) (fun t r => r = sr_s t (fun s => cf (e * 53 + s) * nI (sr_K s i j k))) 53 0 rfl ?_ ?_
  · rintro n r rfl
    exact br_t (nI_le (a := 53) (b := 53) (by decide) (by decide)) h
  · rintro n t r ht rfl ih
    refine br_f (nI_ge (b := 53) ht (by decide)) ?_
    rw [sr_e53, nI_clamp (by omega)]
    exact ⟨vp_in_nI (by omega) (by decide), sr_fill ht hi hj hk (nm_r rfl (nm_r (nI_1 _) (ih _ rfl)))⟩
theorem sr_nbef_n {post : Int32 → Prop} {cf res : Nat → Int32} {e : Nat} {x y z : Int32} (he : e < 2) (hn : x < 0 ∨ y < 0 ∨ z < 0) (h : post 0) : wpX_numberBefore post (sr_U cf res) (nI e) x y z := by
  refine loop_0 (fun n t r => wX_numberBefore_6 post (nI e) x y z sr_xA sr_xB sr_xC sr_xZ sr_xK cf res n r (nI t)) (fun t r => r = 0) 53 0 rfl ?_ ?_
  · rintro n r rfl
    exact br_t (nI_le (a := 53) (b := 53) (by decide) (by decide)) h
  · rintro n t r ht rfl ih
    refine br_f (nI_ge (b := 53) ht (by decide)) ?_
    rw [sr_e53, nI_clamp (by omega)]
    exact ⟨vp_in_nI (by omega) (by decide), sr_fill_n ht hn (nm_r (e' := 0) (by rw [Int32.mul_zero, Int32.add_zero]) (nm_r (nI_1 _) (ih _ rfl)))⟩
section
variable {post : Int32 → Prop} {cf res : Nat → Int32} {e : Nat} {x y z : Int32}
theorem sr_xv1 {J19 J33 : Int32 → Int32 → Int32 → Prop} {i j : Nat} {s x6 x8 : Int32} (he : e < 2) (hij : i + j ≤ 9) (h : J33 (s + sr_s (10 - i - j) (fun k => sr_T (fun s => cf (e * 53 + s)) i j k * (x8 * sr_pow z k))) (x8 * y) (nI (j + 1))) : ∃ n, wX_value_50 post J19 J33 (nI e) x y z x6 (nI i) x8 (nI j) sr_xA sr_xB sr_xC sr_xZ sr_xK cf res n s x8 0 := by
  refine loop_0 (fun n k (p : Int32 × Int32) => wX_value_50 post J19 J33 (nI e) x y z x6 (nI i) x8 (nI j) sr_xA sr_xB sr_xC sr_xZ sr_xK cf res n p.1 p.2 (nI k)) (fun k p => p = (s + sr_s k (fun k => sr_T (fun s => cf (e * 53 + s)) i j k * (x8 * sr_pow z k)), x8 * sr_pow z k)) (10 - i - j) (s, x8) (by show (s, x8) = (s + 0, x8 * 1); rw [Int32.add_zero, Int32.mul_one]) ?_ ?_
  · rintro n p rfl
    dsimp only
    refine br_t ?_ (nm_r rfl (nm_r (nI_1 _) h))
    rw [nI_add, nI_add]
    exact nI_lt (a := 9) (by omega) (by omega)
  · rintro n k p hk rfl ih
    dsimp only
    refine br_f ?_ (sr_nbef he (by omega) (by omega) (by omega) (nm_r rfl (nm_r rfl (nm_r (nI_1 _) (ih (_, _) ?_)))))
    · rw [nI_add, nI_add]
      exact nI_nlt (a := 9) (by omega) (by decide)
    · exact Prod.ext (Int32.add_assoc _ _ _) (Int32.mul_assoc _ _ _)
theorem sr_xv2 {J19 : Int32 → Int32 → Int32 → Prop} {i : Nat} {s x6 : Int32} (he : e < 2) (hi : i ≤ 9) (h : J19 (s + sr_s (10 - i) (fun j => sr_s (10 - i - j) (fun k => sr_T (fun s => cf (e * 53 + s)) i j k * (x6 * sr_pow y j * sr_pow z k)))) (x6 * x) (nI (i + 1))) : ∃ n, wX_value_33 post J19 (nI e) x y z x6 (nI i) sr_xA sr_xB sr_xC sr_xZ sr_xK cf res n s x6 0 := by
  refine loop_0 (fun n j (p : Int32 × Int32) => wX_value_33 post J19 (nI e) x y z x6 (nI i) sr_xA sr_xB sr_xC sr_xZ sr_xK cf res n p.1 p.2 (nI j)) (fun j p => p = (s + sr_s j (fun j => sr_s (10 - i - j) (fun k => sr_T (fun s => cf (e * 53 + s)) i j k * (x6 * sr_pow y j * sr_pow z k))), x6 * sr_pow y j)) (10 - i) (s, x6) (by show (s, x6) = (s + 0, x6 * 1); rw [Int32.add_zero, Int32.mul_one]) ?_ ?_
  · rintro n p rfl
    dsimp only
    refine br_t ?_ (nm_r rfl (nm_r (nI_1 _) h))
    rw [nI_add]
    exact nI_lt (a := 9) (by omega) (by omega)
  · rintro n j p hj rfl ih
    dsimp only
    refine br_f ?_ (sr_xv1 he (by omega) (ih (_, _) ?_))
    · rw [nI_add]
      exact nI_nlt (a := 9) (by omega) (by decide)
    · exact Prod.ext (Int32.add_assoc _ _ _) (Int32.mul_assoc _ _ _)
theorem sr_xv3 (he : e < 2) (h : post (sr_s 10 (fun i => sr_s (10 - i) (fun j => sr_s (10 - i - j) (fun k => sr_T (fun s => cf (e * 53 + s)) i j k * (sr_pow x i * sr_pow y j * sr_pow z k)))))) : ∃ n, wX_value_19 post (nI e) x y z sr_xA sr_xB sr_xC sr_xZ sr_xK cf res n 0 1 0 := by
  refine loop_0 (fun n i (p : Int32 × Int32) => wX_value_19 post (nI e) x y z sr_xA sr_xB sr_xC sr_xZ sr_xK cf res n p.1 p.2 (nI i)) (fun i p => p = (sr_s i (fun i => sr_s (10 - i) (fun j => sr_s (10 - i - j) (fun k => sr_T (fun s => cf (e * 53 + s)) i j k * (sr_pow x i * sr_pow y j * sr_pow z k)))), sr_pow x i)) 10 (0, 1) rfl ?_ ?_
  · rintro n p rfl
    dsimp only
    exact br_t (nI_lt (a := 9) (b := 10) (by decide) (by decide)) h
  · rintro n i p hi rfl ih
    dsimp only
    exact br_f (nI_nlt (a := 9) (by omega) (by decide)) (sr_xv2 he (by omega) (ih (_, _) rfl))
end
end
section
/-! the component: the loops that change or read the coefficients -/
theorem sr_px_skip {o : Nat} {V f : Nat → Int32} {t : Nat} (h : V t = f (o + t)) : sr_px o V f t = sr_px o V f (t + 1) := by
  rw [← sr_px_s, h]
  funext j
  by_cases e : j = o + t
  · rw [e, pk_us, sr_px_out (by omega)]
  · rw [pk_un e]
theorem sr_xscale {post : Int32 → SX → Prop} {cf res : Nat → Int32} {e : Nat} {m : Int32} (he : e < 2) (h : post 0 (sr_U (sr_px (e * 53) (fun s => cf (e * 53 + s) * m) cf 53) res)) : ∃ n, wX_scale_12 post (nI e) m n 0 sr_xA sr_xB sr_xC sr_xZ sr_xK cf res := by
  refine loop_0 (fun n t f => wX_scale_12 post (nI e) m n (nI t) sr_xA sr_xB sr_xC sr_xZ sr_xK f res) (fun t f => f = sr_px (e * 53) (fun s => cf (e * 53 + s) * m) cf t) 53 cf sr_px_0.symm ?_ ?_
  · rintro n f rfl
    exact br_t (nI_le (a := 53) (b := 53) (by decide) (by decide)) h
  · rintro n t f ht rfl ih
    refine br_f (nI_ge (b := 53) ht (by decide)) ?_
    rw [sr_e53, nI_clamp (by omega), sr_px_in, if_neg (Nat.lt_irrefl t)]
    exact ⟨vp_in_nI (by omega) (by decide), vp_in_nI (by omega) (by decide), nm_r (sr_px_s (V := fun s => cf (e * 53 + s) * m)) (nm_r (nI_1 _) (ih _ rfl))⟩
theorem sr_xcombine {post : Int32 → SX → Prop} {cf res : Nat → Int32} {m : Int32} (h : post 0 (sr_U (sr_px (0 * 53) (fun s => cf (0 * 53 + s) + m * cf (1 * 53 + s)) cf 53) res)) : wpX_combine post (sr_U cf res) m := by
  refine loop_0 (fun n t f => wX_combine_2 post m n (nI t) sr_xA sr_xB sr_xC sr_xZ sr_xK f res) (fun t f => f = sr_px (0 * 53) (fun s => cf (0 * 53 + s) + m * cf (1 * 53 + s)) cf t) 53 cf sr_px_0.symm ?_ ?_
  · rintro n f rfl
    exact br_t (nI_le (a := 53) (b := 53) (by decide) (by decide)) h
  · rintro n t f ht rfl ih
    have e : (53 : Int32) + nI t = nI (1 * 53 + t) := nI_add 53 t
    refine br_f (nI_ge (b := 53) ht (by decide)) ?_
    rw [e, nI_clamp (n := 1 * 53 + t) (by omega), nI_clamp (n := t) (by omega), sr_px_out (j := 1 * 53 + t) (by omega)]
    have e2 : sr_px (0 * 53) (fun s => cf (0 * 53 + s) + m * cf (1 * 53 + s)) cf t t = cf (0 * 53 + t) := by
      rw [sr_px_out (j := t) (by omega), Nat.zero_mul, Nat.zero_add]
    rw [e2]
    have e3 := sr_px_s (o := 0 * 53) (V := fun s => cf (0 * 53 + s) + m * cf (1 * 53 + s)) (f := cf) (t := t)
    rw [show 0 * 53 + t = t by omega] at e3 ⊢
    exact ⟨vp_in_nI (by omega) (by decide), vp_in_nI (by omega) (by decide), vp_in_nI (by omega) (by decide), nm_r e3 (nm_r (nI_1 _) (ih _ rfl))⟩
def sr_sw (cf : Nat → Int32) (t : Nat) : Nat → Int32 := fun j => if j < t then cf (53 + j) else if 53 ≤ j ∧ j < 53 + t then cf (j - 53) else cf j
theorem sr_sw_s {cf : Nat → Int32} {t : Nat} (ht : t < 53) : upd (upd (sr_sw cf t) t (cf (53 + t))) (53 + t) (cf t) = sr_sw cf (t + 1) := by
  funext j
  by_cases e1 : j = 53 + t
  · rw [e1, pk_us]
    unfold sr_sw
    rw [if_neg (by omega), if_pos (by omega), Nat.add_sub_cancel_left]
  · rw [pk_un e1]
    by_cases e2 : j = t
    · rw [e2, pk_us]
      unfold sr_sw
      rw [if_pos (by omega)]
    · rw [pk_un e2]
      unfold sr_sw
      by_cases h1 : j < t
      · rw [if_pos h1, if_pos (by omega)]
      · rw [if_neg h1, if_neg (show ¬ j < t + 1 by omega)]
        by_cases h2 : 53 ≤ j ∧ j < 53 + t
        · rw [if_pos h2, if_pos (show 53 ≤ j ∧ j < 53 + (t + 1) by omega)]
        · rw [if_neg h2, if_neg (show ¬ (53 ≤ j ∧ j < 53 + (t + 1)) by omega)]
theorem sr_xswap {post : Int32 → SX → Prop} {cf res : Nat → Int32} (h : post 0 (sr_U (sr_sw cf 53) res)) : wpX_swap post (sr_U cf res) := by
  refine loop_0 (fun n t f => wX_swap_2 post n (nI t) sr_xA sr_xB sr_xC sr_xZ sr_xK f res) (fun t f => f = sr_sw cf t) 53 cf ?_ ?_ ?_
  · funext j
    unfold sr_sw
    rw [if_neg (by omega), if_neg (by omega)]
  · rintro n f rfl
    exact br_t (nI_le (a := 53) (b := 53) (by decide) (by decide)) h
  · rintro n t f ht rfl ih
    have e : (53 : Int32) + nI t = nI (53 + t) := nI_add 53 t
    have e1 : sr_sw cf t t = cf t := by
      unfold sr_sw
      rw [if_neg (by omega), if_neg (by omega)]
    have e2 : sr_sw cf t (53 + t) = cf (53 + t) := by
      unfold sr_sw
      rw [if_neg (by omega), if_neg (by omega)]
    refine br_f (nI_ge (b := 53) ht (by decide)) ?_
    rw [e, nI_clamp (n := 53 + t) (by omega), nI_clamp (n := t) (by omega), e1, e2]
    exact ⟨vp_in_nI (by omega) (by decide), nm_r rfl ⟨vp_in_nI (by omega) (by decide), vp_in_nI (by omega) (by decide), nm_r rfl ⟨vp_in_nI (by omega) (by decide), nm_r (sr_sw_s ht) (nm_r (nI_1 _) (ih _ rfl))⟩⟩⟩
theorem sr_xpart {post : Int32 → SX → Prop} {cf res : Nat → Int32} {e m : Nat} (he : e < 2) (hm : m ≤ 9) (h : post 0 (sr_U (sr_px (e * 53) (fun s => if sr_z s = m then cf (e * 53 + s) else 0) cf 53) res)) : ∃ n, wX_part_22 post (nI e) (nI m) n 0 sr_xA sr_xB sr_xC sr_xZ sr_xK cf res := by
  refine loop_0 (fun n t f => wX_part_22 post (nI e) (nI m) n (nI t) sr_xA sr_xB sr_xC sr_xZ sr_xK f res) (fun t f => f = sr_px (e * 53) (fun s => if sr_z s = m then cf (e * 53 + s) else 0) cf t) 53 cf sr_px_0.symm ?_ ?_
  · rintro n f rfl
    exact br_t (nI_le (a := 53) (b := 53) (by decide) (by decide)) h
  · rintro n t f ht rfl ih
    have hz := (sr_f1 ht).2.1
    refine br_f (nI_ge (b := 53) ht (by decide)) ⟨vp_in_nI ht (by decide), ?_⟩
    rw [sr_e53, nI_clamp (n := e * 53 + t) (by omega), nI_clamp (n := t) (by omega)]
    refine pk_eq (sr_z t) m (fun z => nm_r (nI_1 _) (ih _ (sr_px_skip (by rw [if_pos z])))) (fun z => ⟨vp_in_nI (by omega) (by decide), nm_r ?_ (nm_r (nI_1 _) (ih _ rfl))⟩)
    have e3 := sr_px_s (o := e * 53) (V := fun s => if sr_z s = m then cf (e * 53 + s) else 0) (f := cf) (t := t)
    rw [if_neg z] at e3
    exact e3
/-- how many are not 0 -/
def sr_nn (c : Nat → Int32) (s : Nat) : Int32 := if c s = 0 then 0 else 1
theorem sr_xshapes {post : Int32 → Prop} {cf res : Nat → Int32} {e : Nat} (he : e < 2) (h : post (sr_s 53 (sr_nn (fun s => cf (e * 53 + s))))) : ∃ n, wX_shapes_14 post (nI e) sr_xA sr_xB sr_xC sr_xZ sr_xK cf res n 0 0 := by
  refine loop_0 (fun n t r => wX_shapes_14 post (nI e) sr_xA sr_xB sr_xC sr_xZ sr_xK cf res n r (nI t)) (fun t r => r = sr_s t (sr_nn (fun s => cf (e * 53 + s)))) 53 0 rfl ?_ ?_
  · rintro n r rfl
    exact br_t (nI_le (a := 53) (b := 53) (by decide) (by decide)) h
  · rintro n t r ht rfl ih
    refine br_f (nI_ge (b := 53) ht (by decide)) ?_
    rw [sr_e53, nI_clamp (by omega)]
    refine ⟨vp_in_nI (by omega) (by decide), br_c (fun z => nm_r (nI_1 _) (ih _ ?_)) (fun z => nm_r (e' := sr_s (t + 1) (sr_nn (fun s => cf (e * 53 + s)))) ?_ (nm_r (nI_1 _) (ih _ rfl)))⟩
    · show _ = sr_s t _ + (if cf (e * 53 + t) = 0 then 0 else 1)
      rw [if_pos z, Int32.add_zero]
    · show _ = sr_s t _ + (if cf (e * 53 + t) = 0 then 0 else 1)
      rw [if_neg z]
theorem sr_xinner {post : Int32 → Prop} {cf res : Nat → Int32} (h : post (sr_s 53 (fun s => cf (0 * 53 + s) * cf (1 * 53 + s)))) : wpX_inner post (sr_U cf res) := by
  refine loop_0 (fun n t r => wX_inner_4 post sr_xA sr_xB sr_xC sr_xZ sr_xK cf res n r (nI t)) (fun t r => r = sr_s t (fun s => cf (0 * 53 + s) * cf (1 * 53 + s))) 53 0 rfl ?_ ?_
  · rintro n r rfl
    exact br_t (nI_le (a := 53) (b := 53) (by decide) (by decide)) h
  · rintro n t r ht rfl ih
    have e : (53 : Int32) + nI t = nI (1 * 53 + t) := nI_add 53 t
    refine br_f (nI_ge (b := 53) ht (by decide)) ?_
    rw [e, nI_clamp (n := 1 * 53 + t) (by omega), nI_clamp (n := t) (by omega)]
    refine ⟨vp_in_nI (by omega) (by decide), vp_in_nI (by omega) (by decide), nm_r (e' := sr_s (t + 1) (fun s => cf (0 * 53 + s) * cf (1 * 53 + s))) ?_ (nm_r (nI_1 _) (ih _ rfl))⟩
    show _ = sr_s t _ + cf (0 * 53 + t) * cf (1 * 53 + t)
    rw [show 0 * 53 + t = t by omega]
/-! the reference: its loops of that kind -/
theorem sr_1000 (e : Nat) : (1000 : Int32) * nI e = nI (1000 * e) := pk_mul 1000 e
theorem sr_yscale {post : Int32 → SY → Prop} {tm ys : Nat → Int32} {e : Nat} {m : Int32} (he : e < 2) (h : post 0 (sr_pw (1000 * e) (fun t => tm (1000 * e + sr_P t) * m) tm 220, sr_yP, sr_yC, ys)) : ∃ n, wY_scale_12 post (nI e) m n 0 tm sr_yP sr_yC ys := by
  refine loop_0 (fun n t f => wY_scale_12 post (nI e) m n (nI t) f sr_yP sr_yC ys) (fun t f => f = sr_pw (1000 * e) (fun t => tm (1000 * e + sr_P t) * m) tm t) 220 tm sr_pw_0.symm ?_ ?_
  · rintro n f rfl
    exact br_t (nI_le (a := 220) (b := 220) (by decide) (by decide)) h
  · rintro n t f ht rfl ih
    have hP := (sr_f5 ht).1
    refine br_f (nI_ge (b := 220) ht (by decide)) ⟨vp_in_nI ht (by decide), ?_⟩
    rw [sr_1000, sr_o1 _ ht, nI_clamp (n := 1000 * e + sr_P t) (by omega), sr_pw_in ht, if_neg (Nat.lt_irrefl t)]
    exact ⟨vp_in_nI (by omega) (by decide), vp_in_nI (by omega) (by decide), nm_r (sr_pw_s (V := fun t => tm (1000 * e + sr_P t) * m) ht) (nm_r (nI_1 _) (ih _ rfl))⟩
theorem sr_pw_skip {o : Nat} {V f : Nat → Int32} {t : Nat} (ht : t < 220) (h : V t = f (o + sr_P t)) : sr_pw o V f t = sr_pw o V f (t + 1) := by
  rw [← sr_pw_s ht, h]
  funext j
  by_cases e : j = o + sr_P t
  · rw [e, pk_us, sr_pw_in ht, if_neg (Nat.lt_irrefl t)]
  · rw [pk_un e]
theorem sr_ypart {post : Int32 → SY → Prop} {tm ys : Nat → Int32} {e m : Nat} (he : e < 2) (hm : m ≤ 9) (h : post 0 (sr_pw (1000 * e) (fun t => if sr_dg (sr_P t) = m then tm (1000 * e + sr_P t) else 0) tm 220, sr_yP, sr_yC, ys)) : ∃ n, wY_part_22 post (nI e) (nI m) n 0 tm sr_yP sr_yC ys := by
  refine loop_0 (fun n t f => wY_part_22 post (nI e) (nI m) n (nI t) f sr_yP sr_yC ys) (fun t f => f = sr_pw (1000 * e) (fun t => if sr_dg (sr_P t) = m then tm (1000 * e + sr_P t) else 0) tm t) 220 tm sr_pw_0.symm ?_ ?_
  · rintro n f rfl
    exact br_t (nI_le (a := 220) (b := 220) (by decide) (by decide)) h
  · rintro n t f ht rfl ih
    have hP := (sr_f5 ht).1
    have hD := (sr_f5 ht).2.1
    have ey : sr_yP (nI t).toNatClampNeg = nI (sr_P t) := by rw [nI_clamp (by omega)]; rfl
    refine br_f (nI_ge (b := 220) ht (by decide)) ⟨vp_in_nI ht (by decide), ?_⟩
    rw [sr_1000, sr_o1 _ ht, nI_clamp (n := 1000 * e + sr_P t) (by omega), ey]
    refine sr_degOf hP (pk_eq (sr_dg (sr_P t)) m (fun z => nm_r (nI_1 _) (ih _ (sr_pw_skip ht (by rw [if_pos z])))) (fun z => ⟨vp_in_nI ht (by decide), vp_in_nI (by omega) (by decide), nm_r ?_ (nm_r (nI_1 _) (ih _ rfl))⟩))
    have e3 := sr_pw_s (o := 1000 * e) (V := fun t => if sr_dg (sr_P t) = m then tm (1000 * e + sr_P t) else 0) (f := tm) (t := t) ht
    rw [if_neg z] at e3
    exact e3
theorem sr_yc_at {t : Nat} (ht : t < 53) : sr_yC (nI t).toNatClampNeg = nI (sr_cd (sr_pi t)) := by
  rw [nI_clamp (by omega), ← (sr_f3 ht).2.1]; rfl
theorem sr_yshapes {post : Int32 → Prop} {tm ys c : Nat → Int32} {e : Nat} (he : e < 2) (R : sr_B (1000 * e) tm c) (h : post (sr_s 53 (sr_nn c))) : ∃ n, wY_shapes_14 post (nI e) tm sr_yP sr_yC ys n 0 0 := by
  rw [← sr_perm (sr_nn c)] at h
  refine loop_0 (fun n t r => wY_shapes_14 post (nI e) tm sr_yP sr_yC ys n r (nI t)) (fun t r => r = sr_s t (fun t => sr_nn c (sr_pi t))) 53 0 rfl ?_ ?_
  · rintro n r rfl
    exact br_t (nI_le (a := 53) (b := 53) (by decide) (by decide)) h
  · rintro n t r ht rfl ih
    refine br_f (nI_ge (b := 53) ht (by decide)) ⟨vp_in_nI ht (by decide), ?_⟩
    rw [sr_1000, sr_yc_at ht]
    refine sr_before R (by omega) (sr_f3 ht).1 (br_c (fun z => nm_r (nI_1 _) (ih _ ?_)) (fun z => nm_r (e' := sr_s (t + 1) (fun t => sr_nn c (sr_pi t))) ?_ (nm_r (nI_1 _) (ih _ rfl))))
    · show _ = sr_s t _ + (if c (sr_pi t) = 0 then 0 else 1)
      rw [if_pos z, Int32.add_zero]
    · show _ = sr_s t _ + (if c (sr_pi t) = 0 then 0 else 1)
      rw [if_neg z]
theorem sr_yinner {post : Int32 → Prop} {tm ys c d : Nat → Int32} (R : sr_B 0 tm c) (R' : sr_B 1000 tm d) (h : post (sr_s 53 (fun s => c s * d s))) : wpY_inner post (tm, sr_yP, sr_yC, ys) := by
  rw [← sr_perm (fun s => c s * d s)] at h
  refine loop_0 (fun n t r => wY_inner_4 post tm sr_yP sr_yC ys n r (nI t)) (fun t r => r = sr_s t (fun t => c (sr_pi t) * d (sr_pi t))) 53 0 rfl ?_ ?_
  · rintro n r rfl
    exact br_t (nI_le (a := 53) (b := 53) (by decide) (by decide)) h
  · rintro n t r ht rfl ih
    refine br_f (nI_ge (b := 53) ht (by decide)) ⟨vp_in_nI ht (by decide), ?_⟩
    rw [sr_yc_at ht]
    exact sr_before (o := 0) R (by omega) (sr_f3 ht).1 ⟨vp_in_nI ht (by decide), sr_before (o := 1000) R' (by omega) (sr_f3 ht).1 (nm_r rfl (nm_r (nI_1 _) (ih _ rfl)))⟩
end
section
/-! the relation, and the frames of both sides' methods -/
def sr_R (cf tm : Nat → Int32) : Prop := ∀ e, e < 2 → sr_B (1000 * e) tm (fun s => cf (e * 53 + s))
theorem sr_R_set {cf tm tm' c' : Nat → Int32} {e : Nat} (R : sr_R cf tm) (he : e < 2) (B : sr_B (1000 * e) tm' c') (hf : ∀ j, j < 2000 → j < 1000 * e ∨ 1000 * e + 1000 ≤ j → tm' j = tm j) : sr_R (sr_px (e * 53) c' cf 53) tm' := by
  intro e' he' i j k h
  by_cases z : e' = e
  · subst z
    rw [B i j k h]
    refine sr_T_congr (fun s hs => ?_) i j k
    rw [sr_px_in, if_pos hs]
  · rw [hf _ (by omega) (by omega), R e' he' i j k h]
    refine sr_T_congr (fun s hs => ?_) i j k
    rw [sr_px_out (by omega)]
theorem sr_R_keep {cf tm tm' : Nat → Int32} (R : sr_R cf tm) (hf : ∀ j, j < 2000 → tm' j = tm j) : sr_R cf tm' := by
  intro e he i j k h
  rw [hf _ (by omega)]
  exact R e he i j k h
theorem sr_pw_W {o : Nat} (W : Nat → Int32) {f : Nat → Int32} {i j k : Nat} (h : i + j + k ≤ 9) : sr_pw o (fun t => W (sr_P t)) f 220 (o + (100 * i + 10 * j + k)) = W (100 * i + 10 * j + k) := by
  obtain ⟨t, ht, e⟩ := sr_at h
  rw [← e, sr_pw_in ht, if_pos ht]
def sr_bad2 (x y : Int32) : Prop := (∀ e, e < 2 → x ≠ nI e) ∨ (∀ s, s < 53 → y ≠ nI (sr_cd s))
theorem sr_args (x y : Int32) : (∃ e s, e < 2 ∧ s < 53 ∧ x = nI e ∧ y = nI (sr_cd s)) ∨ sr_bad2 x y := by
  by_cases h1 : ∃ e, e < 2 ∧ x = nI e
  · by_cases h2 : ∃ s, s < 53 ∧ y = nI (sr_cd s)
    · obtain ⟨e, he, rfl⟩ := h1
      obtain ⟨s, hs, rfl⟩ := h2
      exact Or.inl ⟨e, s, he, hs, rfl, rfl⟩
    · exact Or.inr (Or.inr fun s hs z => h2 ⟨s, hs, z⟩)
  · exact Or.inr (Or.inl fun e he z => h1 ⟨e, he, z⟩)
theorem sr_el (x : Int32) : (∃ e, e < 2 ∧ x = nI e) ∨ (∀ e, e < 2 → x ≠ nI e) := by
  by_cases h1 : ∃ e, e < 2 ∧ x = nI e
  · exact Or.inl h1
  · exact Or.inr fun e he z => h1 ⟨e, he, z⟩
theorem sr_sp (x : Int32) : (∃ s, s < 53 ∧ x = nI (sr_cd s)) ∨ (∀ s, s < 53 → x ≠ nI (sr_cd s)) := by
  by_cases h1 : ∃ s, s < 53 ∧ x = nI (sr_cd s)
  · exact Or.inl h1
  · exact Or.inr fun e he z => h1 ⟨e, he, z⟩
theorem sr_n1 {s : Nat} (hs : s < 53) : ¬ nI s = -1 := by
  intro z
  have := congrArg Int32.toInt z
  rw [nI_toInt (by omega)] at this
  have e : (-1 : Int32).toInt = -1 := by decide
  rw [e] at this
  omega
theorem sr_Xb {A : Prop} {B : Int32 → Prop} {cf res : Nat → Int32} {x y : Int32} (h : sr_bad2 x y) (a : A) : wpX_shapeWithCode (fun r1 => wpX_isNoElement (fun r9 => (r9 = 0 → ((r1 = (-1) → A) ∧ (¬ r1 = (-1) → B r1))) ∧ (¬ r9 = 0 → A)) (sr_U cf res) x) (sr_U cf res) y := by
  rcases sr_el x with ⟨e, he, rfl⟩ | hx
  · rcases h with h | h
    · exact absurd rfl (h e he)
    · exact sr_code_n h (sr_noE_n he (br_t rfl (br_t rfl a)))
  · rcases sr_sp y with ⟨s, hs, rfl⟩ | hy
    · exact sr_code_y hs (sr_noE_y hx (br_f (by decide) a))
    · exact sr_code_n hy (sr_noE_y hx (br_f (by decide) a))
theorem sr_Xg {A : Prop} {B : Int32 → Prop} {cf res : Nat → Int32} {e s : Nat} (he : e < 2) (hs : s < 53) (b : B (nI s)) : wpX_shapeWithCode (fun r1 => wpX_isNoElement (fun r9 => (r9 = 0 → ((r1 = (-1) → A) ∧ (¬ r1 = (-1) → B r1))) ∧ (¬ r9 = 0 → A)) (sr_U cf res) (nI e)) (sr_U cf res) (nI (sr_cd s)) :=
  sr_code_y hs (sr_noE_n he (br_t rfl (br_f (sr_n1 hs) b)))
theorem sr_Yb {A B : Prop} {v : SY} {x y : Int32} (h : sr_bad2 x y) (a : A) : wpY_bad (fun r1 => (r1 = 0 → wpY_isShape (fun r7 => (r7 = 0 → A) ∧ (¬ r7 = 0 → B)) v y) ∧ (¬ r1 = 0 → A)) v x := by
  rcases sr_el x with ⟨e, he, rfl⟩ | hx
  · rcases h with h | h
    · exact absurd rfl (h e he)
    · exact sr_bad_n he (br_t rfl (sr_isS_n h (br_t rfl a)))
  · exact sr_bad_y hx (br_f (by decide) a)
theorem sr_Yg {A B : Prop} {v : SY} {e s : Nat} (he : e < 2) (hs : s < 53) (b : B) : wpY_bad (fun r1 => (r1 = 0 → wpY_isShape (fun r7 => (r7 = 0 → A) ∧ (¬ r7 = 0 → B)) v (nI (sr_cd s))) ∧ (¬ r1 = 0 → A)) v (nI e) :=
  sr_bad_n he (br_t rfl (sr_isS_y hs (br_f (by decide) b)))
theorem sr_size {post : Int32 → Prop} {v : SY} {s : Nat} (hs : s < 53) (h : post (nI (sr_z s))) : wpY_size post v (nI (sr_cd s)) := by
  obtain ⟨h1, h2, h3, h4, _, _, h7⟩ := sr_f1 hs
  obtain ⟨d1, d2, d3⟩ := sr_cd_digits hs
  obtain ⟨e1, e2, e3, e4⟩ := sr_div (p := sr_cd s) (by omega)
  refine ⟨by decide, by decide, by decide, by decide, ?_⟩
  rw [e3, e4, e1, d1, d2, d3, nI_add, nI_add, ← h1]
  exact h
/-- multiply into 3000, copy back: the block then holds the component's gathered coefficients -/
theorem sr_mcB {tm c d : Nat → Int32} {e o2 : Nat} (he : e < 2) (ho : o2 = 2000 ∨ o2 = 1000) (B1 : sr_B (1000 * e) tm c) (B2 : sr_B o2 tm d) (hz : ∀ q, q < 53 → ∀ p, p < 53 → c q ≠ 0 → d p ≠ 0 → sr_z p + sr_z q ≤ 9) : sr_B (1000 * e) (sr_pw (1000 * e) (fun t => sr_mu (1000 * e) o2 3000 tm (3000 + sr_P t)) (sr_mu (1000 * e) o2 3000 tm) 220) (fun r => sr_s 53 (fun p => sr_s 53 (fun q => (d p * c q) * sr_N p q r))) := by
  intro i j k h
  rw [sr_pw_W (fun w => sr_mu (1000 * e) o2 3000 tm (3000 + w)) h, sr_mu_in h, ← sr_main hz]
  exact sr_V_congr (fun a b c ha hb hc => B1 a b c (by omega)) (fun a b c ha hb hc => B2 a b c (by omega))
theorem sr_mcB_out {tm : Nat → Int32} {e o2 j : Nat} (h1 : j < 2000) (h2 : j < 1000 * e ∨ 1000 * e + 1000 ≤ j) : sr_pw (1000 * e) (fun t => sr_mu (1000 * e) o2 3000 tm (3000 + sr_P t)) (sr_mu (1000 * e) o2 3000 tm) 220 j = tm j := by
  rw [sr_pw_out (by decide) h2, sr_mu_out (by omega)]
theorem sr_Bsh {tm : Nat → Int32} {s : Nat} (hs : s < 53) : sr_B 2000 (sr_sh s tm) (fun t => if t = s then 1 else 0) := by
  intro i j k h
  rw [sr_sh_in hs h, sr_T_one hs]
theorem sr_B_keep {o : Nat} {tm tm' c : Nat → Int32} (B : sr_B o tm c) (hf : ∀ j, o ≤ j → j < o + 1000 → tm' j = tm j) : sr_B o tm' c := by
  intro i j k h
  rw [hf _ (by omega) (by omega)]
  exact B i j k h
/-! the product of two shapes, as skew and number reckon it -/
noncomputable def sr_t4 (p q : Nat) (tm : Nat → Int32) : Nat → Int32 := sr_sh q (sr_pw 4000 (fun t => sr_sh p tm (2000 + sr_P t)) (sr_sh p tm) 220)
theorem sr_t4_out {p q : Nat} {tm : Nat → Int32} {j : Nat} (hp : p < 53) (hq : q < 53) (h : j < 2000) : sr_t4 p q tm j = tm j := by
  unfold sr_t4
  rw [sr_sh_out hq (by omega), sr_pw_out (by decide) (by omega), sr_sh_out hp (by omega)]
theorem sr_t4_mu {p q : Nat} {tm : Nat → Int32} (hp : p < 53) (hq : q < 53) (hz : sr_z p + sr_z q ≤ 9) : sr_B 3000 (sr_mu 4000 2000 3000 (sr_t4 p q tm)) (sr_N p q) := by
  intro i j k h
  rw [sr_mu_in h, ← sr_LR hp hq hz]
  refine sr_V_congr (fun a b c ha hb hc => ?_) (fun a b c ha hb hc => ?_)
  · unfold sr_t4
    rw [sr_sh_out hq (by omega), sr_pw_W (fun w => sr_sh p tm (2000 + w)) (by omega), sr_sh_in hp (by omega)]
  · unfold sr_t4
    rw [sr_sh_in hq (by omega)]
/-! skew in the reference -/
theorem sr_ysk95 {post : Int32 → SY → Prop} {J20 : Int32 → (Nat → Int32) → (Nat → Int32) → (Nat → Int32) → (Nat → Int32) → Prop} {tm ys c d : Nat → Int32} {e s : Nat} {x2 : Int32} (he : e < 2) (hs : s < 53) (B : sr_B 3000 tm d) (B' : sr_B (1000 * e) tm c) (hy : ys s = 0) (h : J20 (nI (s + 1)) tm sr_yP sr_yC (upd ys s (sr_s 53 (fun r => d r * c r)))) : ∃ n, wY_skew_95 post J20 (nI e) x2 (nI s) n 0 tm sr_yP sr_yC ys := by
  rw [← sr_perm (fun r => d r * c r)] at h
  refine loop_0 (fun n t y => wY_skew_95 post J20 (nI e) x2 (nI s) n (nI t) tm sr_yP sr_yC y) (fun t y => y = upd ys s (sr_s t (fun t => d (sr_pi t) * c (sr_pi t)))) 53 ys ?_ ?_ ?_
  · funext j
    by_cases z : j = s
    · rw [z, pk_us, hy]; rfl
    · rw [pk_un z]
  · rintro n y rfl
    exact br_t (nI_le (a := 53) (b := 53) (by decide) (by decide)) (nm_r (nI_1 _) h)
  · rintro n t y ht rfl ih
    refine br_f (nI_ge (b := 53) ht (by decide)) ⟨vp_in_nI ht (by decide), ?_⟩
    rw [sr_1000, sr_yc_at ht]
    refine sr_before (o := 3000) B (by decide) (sr_f3 ht).1 ⟨vp_in_nI ht (by decide), sr_before B' (by omega) (sr_f3 ht).1 ⟨vp_in_nI hs (by decide), ?_⟩⟩
    rw [nI_clamp (by omega), pk_us]
    refine ⟨vp_in_nI hs (by decide), nm_e (nm_r (nI_1 _) (ih _ ?_))⟩
    funext j
    by_cases z : j = s
    · rw [z, pk_us, pk_us]; rfl
    · rw [pk_un z, pk_un z, pk_un z]
theorem sr_ysk173 {post : Int32 → SY → Prop} {tm ys : Nat → Int32} {e : Nat} {res : Nat → Int32} (he : e < 2) (hy : ∀ s, s < 53 → ys s = res (sr_pi s)) (h0 : ∀ i j k, i + j + k ≤ 9 → tm (1000 * e + (100 * i + 10 * j + k)) = 0) (h : ∀ tm', sr_B (1000 * e) tm' res → (∀ j, j < 2000 → j < 1000 * e ∨ 1000 * e + 1000 ≤ j → tm' j = tm j) → post 0 (tm', sr_yP, sr_yC, ys)) : ∃ n, wY_skew_173 post (nI e) n 0 tm sr_yP sr_yC ys := by
  refine loop_0 (fun n s tm' => wY_skew_173 post (nI e) n (nI s) tm' sr_yP sr_yC ys) (fun s tm' => (∀ i j k, i + j + k ≤ 9 → tm' (1000 * e + (100 * i + 10 * j + k)) = sr_s s (fun s => res (sr_pi s) * nI (sr_K (sr_pi s) i j k))) ∧ (∀ j, j < 2000 → j < 1000 * e ∨ 1000 * e + 1000 ≤ j → tm' j = tm j)) 53 tm ⟨h0, fun _ _ _ => rfl⟩ ?_ ?_
  · rintro n tm' ⟨h1, h2⟩
    refine br_t (nI_le (a := 53) (b := 53) (by decide) (by decide)) (h tm' (fun i j k hh => ?_) h2)
    rw [h1 i j k hh]
    exact sr_perm (fun s => res s * nI (sr_K s i j k))
  · rintro n s tm' hs ⟨h1, h2⟩ ih
    have hp := (sr_f3 hs).1
    refine br_f (nI_ge (b := 53) hs (by decide)) ⟨vp_in_nI hs (by decide), ?_⟩
    rw [sr_yc_at hs]
    refine sr_shape hp ⟨vp_in_nI hs (by decide), ?_⟩
    rw [sr_1000, nI_clamp (n := s) (by omega), hy s hs]
    refine sr_addT (a := 2000) (by decide) (by omega) (by omega) (nm_r (nI_1 _) (ih _ ⟨fun i j k hh => ?_, fun j hj hj2 => ?_⟩))
    · rw [sr_pw_W (fun w => sr_sh (sr_pi s) tm' (1000 * e + w) + res (sr_pi s) * sr_sh (sr_pi s) tm' (2000 + w)) hh, sr_sh_out hp (by omega), sr_sh_in hp hh, h1 i j k hh]
      rfl
    · rw [sr_pw_out (by decide) hj2, sr_sh_out hp (by omega), h2 j hj hj2]
theorem sr_ysk20 {post : Int32 → SY → Prop} {tm ys c : Nat → Int32} {e p : Nat} (he : e < 2) (hp : p < 53) (B : sr_B (1000 * e) tm c) (h : ∀ tm' ys', sr_B (1000 * e) tm' (fun q => sr_s 53 (fun r => sr_N p q r * c r)) → (∀ j, j < 2000 → j < 1000 * e ∨ 1000 * e + 1000 ≤ j → tm' j = tm j) → post 0 (tm', sr_yP, sr_yC, ys')) : ∃ n, wY_skew_20 post (nI e) (nI (sr_cd p)) n 0 tm sr_yP sr_yC ys := by
  refine loop_0 (fun n s (w : (Nat → Int32) × (Nat → Int32)) => wY_skew_20 post (nI e) (nI (sr_cd p)) n (nI s) w.1 sr_yP sr_yC w.2) (fun s w => (∀ j, j < 2000 → w.1 j = tm j) ∧ (∀ s', s' < s → w.2 s' = sr_s 53 (fun r => sr_N p (sr_pi s') r * c r))) 53 (tm, ys) ⟨fun _ _ => rfl, fun s' hs' => absurd hs' (Nat.not_lt_zero s')⟩ ?_ ?_
  · rintro n ⟨t1, y1⟩ ⟨h1, h2⟩
    dsimp only at h1 h2 ⊢
    refine br_t (nI_le (a := 53) (b := 53) (by decide) (by decide)) ?_
    rw [sr_1000]
    refine sr_clear (by omega) (sr_ysk173 (res := fun q => sr_s 53 (fun r => sr_N p q r * c r)) he h2 (fun i j k hh => sr_pw_W (fun _ => 0) hh) (fun tm' hB hf => h tm' y1 hB fun j hj hj2 => ?_))
    rw [hf j hj hj2, sr_pw_out (by decide) hj2, h1 j hj]
  · rintro n s ⟨t1, y1⟩ hs ⟨h1, h2⟩ ih
    dsimp only at h1 h2 ih ⊢
    obtain ⟨hq, _, _⟩ := sr_f3 hs
    have zp := (sr_f1 hp).2.1
    have zq := (sr_f1 hq).2.1
    refine br_f (nI_ge (b := 53) hs (by decide)) (sr_shape hp (sr_copy (a := 2000) (o := 4000) (by decide) (by decide) (by decide) ⟨vp_in_nI hs (by decide), ?_⟩))
    rw [sr_yc_at hs, nI_clamp (n := s) (by omega)]
    refine sr_shape hq ⟨vp_in_nI hs (by decide), nm_e (sr_size hp ⟨vp_in_nI hs (by decide), ?_⟩)⟩
    have eyc : sr_yC s = nI (sr_cd (sr_pi s)) := by rw [← (sr_f3 hs).2.1]; rfl
    rw [eyc]
    refine sr_size hq ?_
    rw [nI_add]
    refine pk_lt 9 (sr_z p + sr_z (sr_pi s)) (fun z => nm_r (nI_1 _) (ih (sr_t4 p (sr_pi s) t1, upd y1 s 0) ⟨fun j hj => ?_, fun s' hs' => ?_⟩)) (fun z => sr_mult (o1 := 4000) (o2 := 2000) (o3 := 3000) (by decide) (by decide) (by decide) (by decide) (by decide) ?_)
    · exact (sr_t4_out hp hq hj).trans (h1 j hj)
    · by_cases e1 : s' = s
      · subst e1
        dsimp only
        rw [pk_us]
        refine (sr_s_0 fun r hr => ?_).symm
        have := (sr_f1 hr).2.1
        rw [sr_N_n (by omega)]
        exact Int32.zero_mul
      · dsimp only
        rw [pk_un e1]
        exact h2 s' (by omega)
    · refine sr_ysk95 (c := c) (d := sr_N p (sr_pi s)) he hs (sr_t4_mu hp hq z) (sr_B_keep B fun j hj hj2 => ?_) pk_us (ih (sr_mu 4000 2000 3000 (sr_t4 p (sr_pi s) t1), upd (upd y1 s 0) s (sr_s 53 (fun r => sr_N p (sr_pi s) r * c r))) ⟨fun j hj => ?_, fun s' hs' => ?_⟩)
      · rw [sr_mu_out (by omega)]
        exact (sr_t4_out hp hq (by omega)).trans (h1 j (by omega))
      · dsimp only
        rw [sr_mu_out (by omega)]
        exact (sr_t4_out hp hq hj).trans (h1 j hj)
      · by_cases e1 : s' = s
        · subst e1
          dsimp only
          rw [pk_us]
        · dsimp only
          rw [pk_un e1, pk_un e1]
          exact h2 s' (by omega)
end
section
def i_Rel (k : Nat) (u : SX) (v : SY) : Prop := ∃ cf res tm ys : Nat → Int32, u = sr_U cf res ∧ v = (tm, sr_yP, sr_yC, ys) ∧ sr_R cf tm
theorem i_up {k : Nat} {u : SX} {v : SY} (h : i_Rel k u v) : i_Rel (k + 5) u v := h
theorem i_vc0 : wpX_init (fun u => wpY_init (fun v => i_Rel 0 u v)) :=   sr_xinit (sr_yinit ⟨fun _ => 0, fun _ => 0, fun _ => 0, fun _ => 0, rfl, rfl, fun _ _ _ _ _ _ => (sr_s_0 fun _ _ => Int32.zero_mul).symm⟩)
theorem i_vc_add {k : Nat} {u : SX} {v : SY} (I : i_Rel k u v) (hk : k + 5 ≤ 2560) (v1 : Int32) (v2 : Int32) (v3 : Int32) : wpX_add (fun r u' => wpY_add (fun r' v' => r' = r ∧ i_Rel (k + 5) u' v') v v1 v2 v3) u v1 v2 v3 := by
  obtain ⟨cf, res, tm, ys, rfl, rfl, R⟩ := I
  rcases sr_args v1 v2 with ⟨e, s, he, hs, rfl, rfl⟩ | hb
  · unfold wpX_add
    refine sr_Xg he hs ?_
    rw [sr_e53, nI_clamp (by omega)]
    have hv : vp_in (nI (e * 53 + s)) 106 := vp_in_nI (by omega) (by decide)
    have eq : upd cf (e * 53 + s) (cf (e * 53 + s) + v3) = sr_px (e * 53) (fun t => cf (e * 53 + t) + v3 * (if t = s then 1 else 0)) cf 53 := by
      funext j
      by_cases z : j = e * 53 + s
      · rw [z, pk_us, sr_px_in, if_pos hs, if_pos rfl, Int32.mul_one]
      · rw [pk_un z]
        unfold sr_px
        by_cases z2 : e * 53 ≤ j ∧ j < e * 53 + 53
        · rw [if_pos z2]
          show cf j = cf (e * 53 + (j - e * 53)) + v3 * (if j - e * 53 = s then 1 else 0)
          rw [if_neg (show ¬ j - e * 53 = s by omega), Int32.mul_zero, Int32.add_zero, show e * 53 + (j - e * 53) = j by omega]
        · rw [if_neg z2]
    refine ⟨hv, hv, nm_r eq ?_⟩
    unfold wpY_add
    refine sr_Yg he hs (sr_shape hs ?_)
    rw [sr_1000]
    refine sr_addT (a := 2000) (by decide) (by omega) (by omega) ⟨rfl, _, _, _, _, rfl, rfl, sr_R_set R he (fun i j k h => ?_) (fun j h1 h2 => ?_)⟩
    · rw [sr_pw_W (fun w => sr_sh s tm (1000 * e + w) + v3 * sr_sh s tm (2000 + w)) h, sr_sh_out hs (by omega), sr_sh_in hs h, R e he i j k h, sr_T_add, sr_T_mul, sr_T_one hs]
    · rw [sr_pw_out (by decide) h2, sr_sh_out hs (by omega)]
  · unfold wpX_add
    refine sr_Xb hb ?_
    unfold wpY_add
    exact sr_Yb hb ⟨rfl, cf, res, tm, ys, rfl, rfl, R⟩
theorem i_vc_scale {k : Nat} {u : SX} {v : SY} (I : i_Rel k u v) (hk : k + 5 ≤ 2560) (v1 : Int32) (v2 : Int32) : wpX_scale (fun r u' => wpY_scale (fun r' v' => r' = r ∧ i_Rel (k + 5) u' v') v v1 v2) u v1 v2 := by
  obtain ⟨cf, res, tm, ys, rfl, rfl, R⟩ := I
  rcases sr_el v1 with ⟨e, he, rfl⟩ | hb
  · unfold wpX_scale
    refine sr_noE_n he (br_t rfl (sr_xscale he ?_))
    unfold wpY_scale
    refine sr_bad_n he (br_t rfl (sr_yscale he ⟨rfl, _, _, _, _, rfl, rfl, sr_R_set R he (fun i j k h => ?_) (fun j h1 h2 => sr_pw_out (by decide) h2)⟩))
    rw [sr_pw_W (fun w => tm (1000 * e + w) * v2) h, R e he i j k h, Int32.mul_comm, ← sr_T_mul]
    exact sr_T_congr (fun s _ => Int32.mul_comm _ _) i j k
  · unfold wpX_scale
    refine sr_noE_y hb (br_f (by decide) ?_)
    unfold wpY_scale
    exact sr_bad_y hb (br_f (by decide) ⟨rfl, cf, res, tm, ys, rfl, rfl, R⟩)
theorem i_vc_combine {k : Nat} {u : SX} {v : SY} (I : i_Rel k u v) (hk : k + 5 ≤ 2560) (v1 : Int32) : wpX_combine (fun r u' => wpY_combine (fun r' v' => r' = r ∧ i_Rel (k + 5) u' v') v v1) u v1 := by
  obtain ⟨cf, res, tm, ys, rfl, rfl, R⟩ := I
  refine sr_xcombine ?_
  unfold wpY_combine
  refine sr_addT (a := 1000) (o := 0) (by decide) (by decide) (by decide) ⟨rfl, _, _, _, _, rfl, rfl, sr_R_set (e := 0) R (by decide) (fun i j k h => ?_) (fun j h1 h2 => sr_pw_out (o := 0) (by decide) h2)⟩
  have e0 := R 0 (by decide) i j k h
  have e1 := R 1 (by decide) i j k h
  refine (sr_pw_W (o := 0) (fun w => tm (0 + w) + v1 * tm (1000 + w)) h).trans ?_
  rw [sr_T_add, sr_T_mul]
  rw [show 1000 * 0 = 0 from rfl] at e0
  rw [show 1000 * 1 = 1000 from rfl] at e1
  rw [e0, e1]
theorem i_vc_swap {k : Nat} {u : SX} {v : SY} (I : i_Rel k u v) (hk : k + 5 ≤ 2560) : wpX_swap (fun r u' => wpY_swap (fun r' v' => r' = r ∧ i_Rel (k + 5) u' v') v) u := by
  obtain ⟨cf, res, tm, ys, rfl, rfl, R⟩ := I
  refine sr_xswap ?_
  unfold wpY_swap
  refine sr_copy (a := 0) (o := 3000) (by decide) (by decide) (by decide) ?_
  refine sr_copy (a := 1000) (o := 0) (by decide) (by decide) (by decide) ?_
  refine sr_copy (a := 3000) (o := 1000) (by decide) (by decide) (by decide) ⟨rfl, _, _, _, _, rfl, rfl, ?_⟩
  intro e he i j k h
  by_cases z : e = 0
  · subst z
    rw [sr_pw_out (by decide) (by omega)]
    refine (sr_pw_W (o := 0) (fun w => sr_pw 3000 (fun t => tm (0 + sr_P t)) tm 220 (1000 + w)) h).trans ?_
    rw [sr_pw_out (by decide) (by omega)]
    refine (R 1 (by decide) i j k h).trans (sr_T_congr (fun s hs => ?_) i j k)
    unfold sr_sw
    rw [if_pos (by omega)]
    exact congrArg cf (by omega)
  · have : e = 1 := by omega
    subst this
    refine (sr_pw_W (o := 1000) (fun w => sr_pw 0 (fun t => sr_pw 3000 (fun t => tm (0 + sr_P t)) tm 220 (1000 + sr_P t)) (sr_pw 3000 (fun t => tm (0 + sr_P t)) tm 220) 220 (3000 + w)) h).trans ?_
    rw [sr_pw_out (by decide) (by omega), sr_pw_W (fun w => tm (0 + w)) h]
    refine (R 0 (by decide) i j k h).trans (sr_T_congr (fun s hs => ?_) i j k)
    unfold sr_sw
    rw [if_neg (by omega), if_pos (by omega)]
    exact congrArg cf (by omega)
theorem sr_xz {s : Nat} (hs : s < 53) : sr_xZ (nI s).toNatClampNeg = nI (sr_z s) := by
  rw [nI_clamp (by omega)]; rfl
theorem sr_ts47 {post : Int32 → SY → Prop} {cf tm ys : Nat → Int32} {e s : Nat} (he : e < 2) (hs : s < 53) (R : sr_R cf tm) (hz : ∀ q, q < 53 → cf (e * 53 + q) ≠ 0 → sr_z q + sr_z s ≤ 9) (h : ∀ tm', sr_R (sr_px (e * 53) (fun j => 0 + sr_s 53 (fun q => (1 * cf (e * 53 + q)) * sr_N s q j)) cf 53) tm' → post 0 (tm', sr_yP, sr_yC, ys)) : wY_timesShape_47 post (nI e) (nI (sr_cd s)) tm sr_yP sr_yC ys := by
  unfold wY_timesShape_47
  refine sr_shape hs ?_
  rw [sr_1000]
  refine sr_mult (o2 := 2000) (o3 := 3000) (by omega) (by decide) (by decide) (by omega) (by decide) ?_
  refine sr_copy (a := 3000) (by decide) (by omega) (by omega) (h _ ?_)
  have B1 : sr_B (1000 * e) (sr_sh s tm) (fun q => cf (e * 53 + q)) := sr_B_keep (R e he) fun j h1 h2 => sr_sh_out hs (by omega)
  have B := sr_mcB he (Or.inl rfl) B1 (sr_Bsh hs) (fun q hq p hp hc hd => by
    by_cases z : p = s
    · subst z; have := hz q hq hc; omega
    · rw [if_neg z] at hd; exact absurd rfl hd)
  refine sr_R_set R he (fun i j k hh => ?_) (fun j h1 h2 => (sr_mcB_out h1 h2).trans (sr_sh_out hs (by omega)))
  refine (B i j k hh).trans (sr_T_congr (fun r hr => ?_) i j k)
  rw [Int32.zero_add, sr_s_one hs]
  · exact sr_s_congr fun q _ => by rw [if_pos rfl]
  · intro p _ hne
    refine sr_s_0 fun q _ => ?_
    rw [if_neg hne, Int32.zero_mul, Int32.zero_mul]
theorem sr_top_Y {cf tm : Nat → Int32} {e : Nat} {r r' : Int32} (he : e < 2) (R : sr_R cf tm) (H : sr_top (sr_nz sr_z (fun s => cf (e * 53 + s) ≠ 0) 53) r) (H' : sr_top (sr_nz (fun t => sr_dg (sr_P t)) (fun t => tm (1000 * e + sr_P t) ≠ 0) 220) r') : r' = r :=
  sr_top_eq (fun d hd => sr_nz_eq (R e he) d hd) H H'
theorem i_vc_timesShape {k : Nat} {u : SX} {v : SY} (I : i_Rel k u v) (hk : k + 5 ≤ 2560) (v1 : Int32) (v2 : Int32) : wpX_timesShape (fun r u' => wpY_timesShape (fun r' v' => r' = r ∧ i_Rel (k + 5) u' v') v v1 v2) u v1 v2 := by
  obtain ⟨cf, res, tm, ys, rfl, rfl, R⟩ := I
  rcases sr_args v1 v2 with ⟨e, s, he, hs, rfl, rfl⟩ | hb
  · unfold wpX_timesShape
    refine sr_Xg he hs ⟨vp_in_nI hs (by decide), ?_⟩
    rw [sr_xz hs]
    refine sr_tooG he fun r hr => ?_
    rcases sr_full (sr_f1 hs).2.1 hr with ⟨f1, f2, f3⟩ | ⟨g1, g2⟩
    · refine br_f f1 (br_f f3 (br_f (by decide) ?_))
      unfold wpY_timesShape
      refine sr_Yg he hs ?_
      rw [sr_1000]
      refine sr_high (by omega) fun r' hr' => ?_
      rw [sr_top_Y he R hr hr']
      exact br_f f2 (sr_size hs (br_f f3 ⟨rfl, cf, res, tm, ys, rfl, rfl, R⟩))
    · have go : wpX_clearResult (fun u => match u with
        | (a_rowA_30, a_rowB_31, a_rowC_32, a_sizes_33, a_codes_34, a_coefficients_35, a_result_36) => (wpX_gatherTimesShape (fun u => match u with
          | (a_rowA_38, a_rowB_39, a_rowC_40, a_sizes_41, a_codes_42, a_coefficients_43, a_result_44) => (wpX_storeResult (fun u => match u with
            | (a_rowA_46, a_rowB_47, a_rowC_48, a_sizes_49, a_codes_50, a_coefficients_51, a_result_52) => (wpY_timesShape (fun r' v' => r' = 0 ∧ i_Rel (k + 5) (a_rowA_46, a_rowB_47, a_rowC_48, a_sizes_49, a_codes_50, a_coefficients_51, a_result_52) v') (tm, sr_yP, sr_yC, ys) (nI e) (nI (sr_cd s)))) (a_rowA_38, a_rowB_39, a_rowC_40, a_sizes_41, a_codes_42, a_coefficients_43, a_result_44) (nI e))) (a_rowA_30, a_rowB_31, a_rowC_32, a_sizes_33, a_codes_34, a_coefficients_35, a_result_36) (nI e) (nI s) 1)) (sr_U cf res) := by
        refine sr_xclear (sr_gather he hs (sr_xstore he ?_))
        unfold wpY_timesShape
        refine sr_Yg he hs ?_
        rw [sr_1000]
        refine sr_high (by omega) fun r' hr' => ?_
        rw [sr_top_Y he R hr hr']
        have fin := sr_ts47 (ys := ys) (post := fun r' v' => r' = 0 ∧ i_Rel (k + 5) (sr_U (sr_px (e * 53) (fun j => 0 + sr_s 53 (fun q => (1 * cf (e * 53 + q)) * sr_N s q j)) cf 53) (sr_rs (fun j => 0 + sr_s 53 (fun q => (1 * cf (e * 53 + q)) * sr_N s q j)) res)) v') he hs R g1 (fun tm' R' => ⟨rfl, _, _, _, _, rfl, rfl, R'⟩)
        rcases g2 with g2 | ⟨g2, g3, g4⟩
        · exact br_t (by rw [g2]; decide) fin
        · exact br_f g3 (sr_size hs (br_t g4 fin))
      rcases g2 with g2 | ⟨g2, g3, g4⟩
      · exact br_t g2 (br_t rfl go)
      · exact br_f g2 (br_t g4 (br_t rfl go))
  · unfold wpX_timesShape
    refine sr_Xb hb ?_
    unfold wpY_timesShape
    exact sr_Yb hb ⟨rfl, cf, res, tm, ys, rfl, rfl, R⟩
theorem sr_f9 {r i j k : Nat} (h1 : 1 ≤ r) (h2 : r ≤ 9) (h : i + j + k ≤ 9) : cond (Nat.beq (100 * i + 10 * j + k) (100 * r)) 1 (cond (Nat.beq (100 * i + 10 * j + k) (10 * r)) 1 (cond (Nat.beq (100 * i + 10 * j + k) r) 1 0)) + sr_w (r + 9) i j k = sr_w r i j k + sr_w (r + 108) i j k := by
  obtain ⟨r, rfl⟩ : ∃ q, r = q + 1 := ⟨r - 1, by omega⟩
  exact Nat.eq_of_beq_eq_true (sr_al_e (sr_al_e (sr_al_e (sr_al_e sr_q9_t r (by omega)) i (by omega)) j (show j < 10 - i by omega)) k (show k < 10 - i - j by omega))
theorem sr_w_T (cd i j k : Nat) : nI (sr_w cd i j k) = sr_T (sr_gd cd) i j k := by
  unfold sr_w
  rw [sr_s_nI]
  refine sr_s_congr fun p _ => ?_
  unfold sr_gd
  by_cases z : sr_cd p = cd
  · rw [if_pos z, sr_bt z, Int32.one_mul]
    exact congrArg nI (Nat.one_mul _)
  · rw [if_neg z, sr_bf z, Int32.zero_mul]
    exact congrArg nI (Nat.zero_mul _)
def sr_pd (r p : Nat) : Int32 := 1 * sr_gd r p + (-1) * sr_gd (r + 9) p + 1 * sr_gd (r + 108) p
theorem sr_pd_z {r p : Nat} (hp : p < 53) (h1 : 1 ≤ r) (h2 : r ≤ 9) (h : sr_pd r p ≠ 0) : sr_z p = r := by
  obtain ⟨z1, z2, z3, z4, _⟩ := sr_f1 hp
  have e := sr_cd_e p
  apply Classical.byContradiction
  intro hn
  apply h
  have a1 : ¬ sr_cd p = r := by omega
  have a2 : ¬ sr_cd p = r + 9 := by omega
  have a3 : ¬ sr_cd p = r + 108 := by omega
  unfold sr_pd sr_gd
  rw [if_neg a1, if_neg a2, if_neg a3]
  decide
noncomputable def sr_pt (r : Nat) (tm : Nat → Int32) : Nat → Int32 := upd (upd (upd (sr_pw 2000 (fun _ => 0) tm 220) (2000 + 100 * r) 1) (2000 + 10 * r) 1) (2000 + r) 1
theorem sr_pt_B {r : Nat} {tm : Nat → Int32} (h1 : 1 ≤ r) (h2 : r ≤ 9) : sr_B 2000 (sr_pt r tm) (sr_pd r) := by
  intro i j k h
  have e1 : sr_pt r tm (2000 + (100 * i + 10 * j + k)) = nI (cond (Nat.beq (100 * i + 10 * j + k) (100 * r)) 1 (cond (Nat.beq (100 * i + 10 * j + k) (10 * r)) 1 (cond (Nat.beq (100 * i + 10 * j + k) r) 1 0))) := by
    unfold sr_pt
    by_cases z3 : 100 * i + 10 * j + k = r
    · rw [z3, pk_us, sr_bf (by omega), sr_bf (by omega), sr_bt rfl]; rfl
    rw [pk_un (by omega)]
    by_cases z2 : 100 * i + 10 * j + k = 10 * r
    · rw [z2, pk_us, sr_bf (by omega), sr_bt rfl]; rfl
    rw [pk_un (by omega)]
    by_cases z1 : 100 * i + 10 * j + k = 100 * r
    · rw [z1, pk_us, sr_bt rfl]; rfl
    rw [pk_un (by omega), sr_bf z1, sr_bf z2, sr_bf z3]
    exact sr_pw_W (fun _ => 0) h
  have e2 := congrArg nI (sr_f9 h1 h2 h)
  rw [← nI_add, ← nI_add, ← e1, sr_w_T, sr_w_T, sr_w_T] at e2
  have e3 : sr_T (sr_pd r) i j k = sr_T (sr_gd r) i j k + (-1) * sr_T (sr_gd (r + 9)) i j k + sr_T (sr_gd (r + 108)) i j k := by
    unfold sr_pd
    rw [sr_T_add, sr_T_add, sr_T_mul, sr_T_mul, sr_T_mul, Int32.one_mul, Int32.one_mul]
  rw [e3]
  grind
def sr_pR (cf : Nat → Int32) (e r : Nat) (j : Nat) : Int32 := 0 + sr_s 53 (fun p => sr_s 53 (fun q => ((1 * sr_gd r p) * cf (e * 53 + q)) * sr_N p q j)) + sr_s 53 (fun p => sr_s 53 (fun q => (((-1) * sr_gd (r + 9) p) * cf (e * 53 + q)) * sr_N p q j)) + sr_s 53 (fun p => sr_s 53 (fun q => ((1 * sr_gd (r + 108) p) * cf (e * 53 + q)) * sr_N p q j))
theorem sr_pR_e (cf : Nat → Int32) (e r j : Nat) : sr_pR cf e r j = sr_s 53 (fun p => sr_s 53 (fun q => (sr_pd r p * cf (e * 53 + q)) * sr_N p q j)) := by
  unfold sr_pR
  rw [Int32.zero_add, ← sr_s_add, ← sr_s_add]
  refine sr_s_congr fun p _ => ?_
  rw [← sr_s_add, ← sr_s_add]
  refine sr_s_congr fun q _ => ?_
  unfold sr_pd
  grind
theorem sr_tp46 {post : Int32 → SY → Prop} {cf tm ys : Nat → Int32} {e r : Nat} (he : e < 2) (h1 : 1 ≤ r) (h2 : r ≤ 9) (R : sr_R cf tm) (hz : ∀ q, q < 53 → cf (e * 53 + q) ≠ 0 → sr_z q + r ≤ 9) (h : ∀ tm', sr_R (sr_px (e * 53) (sr_pR cf e r) cf 53) tm' → post 0 (tm', sr_yP, sr_yC, ys)) : wY_timesPower_46 post (nI e) (nI r) tm sr_yP sr_yC ys := by
  unfold wY_timesPower_46
  refine sr_clear (o := 2000) (by decide) ?_
  have k1 : (2000 : Int32) + 100 * nI r = nI (2000 + 100 * r) := by rw [← nI_add, ← pk_mul]; rfl
  have k2 : (2000 : Int32) + 10 * nI r = nI (2000 + 10 * r) := by rw [← nI_add, ← pk_mul]; rfl
  have k3 : (2000 : Int32) + nI r = nI (2000 + r) := nI_add 2000 r
  rw [k1, k2, k3, nI_clamp (by omega), nI_clamp (by omega), nI_clamp (by omega), sr_1000]
  refine ⟨vp_in_nI (by omega) (by decide), nm_e ⟨vp_in_nI (by omega) (by decide), nm_e ⟨vp_in_nI (by omega) (by decide), nm_r (e' := sr_pt r tm) rfl ?_⟩⟩⟩
  refine sr_mult (o2 := 2000) (o3 := 3000) (by omega) (by decide) (by decide) (by omega) (by decide) ?_
  refine sr_copy (a := 3000) (by decide) (by omega) (by omega) (h _ ?_)
  have out : ∀ j, j < 2000 → sr_pt r tm j = tm j := fun j hj => by
    unfold sr_pt
    rw [pk_un (by omega), pk_un (by omega), pk_un (by omega), sr_pw_out (by decide) (by omega)]
  have B1 : sr_B (1000 * e) (sr_pt r tm) (fun q => cf (e * 53 + q)) := sr_B_keep (R e he) fun j h1 h2 => out j (by omega)
  have B := sr_mcB he (Or.inl rfl) B1 (sr_pt_B h1 h2) (fun q hq p hp hc hd => by
    have := sr_pd_z hp h1 h2 hd
    have := hz q hq hc
    omega)
  refine sr_R_set R he (fun i j k hh => ?_) (fun j h1 h2 => (sr_mcB_out h1 h2).trans (out j h1))
  exact (B i j k hh).trans (sr_T_congr (fun s _ => (sr_pR_e cf e r s).symm) i j k)
theorem i_vc_timesPower {k : Nat} {u : SX} {v : SY} (I : i_Rel k u v) (hk : k + 5 ≤ 2560) (v1 : Int32) (v2 : Int32) : wpX_timesPower (fun r u' => wpY_timesPower (fun r' v' => r' = r ∧ i_Rel (k + 5) u' v') v v1 v2) u v1 v2 := by
  obtain ⟨cf, res, tm, ys, rfl, rfl, R⟩ := I
  have J : i_Rel (k + 5) (sr_U cf res) (tm, sr_yP, sr_yC, ys) := ⟨cf, res, tm, ys, rfl, rfl, R⟩
  rcases sr_el v1 with ⟨e, he, rfl⟩ | hb
  · unfold wpX_timesPower
    refine sr_noE_n he (br_t rfl ?_)
    by_cases z1 : v2 < 1
    · refine br_t z1 ?_
      unfold wpY_timesPower
      exact sr_bad_n he (br_t rfl (br_t z1 ⟨rfl, J⟩))
    refine br_f z1 ?_
    by_cases z2 : v2 ≤ 9
    · obtain ⟨r, hr9, rfl⟩ := nI_of2 (x := v2) (M := 9) (n := 9) (by decide) (fun z => z1 (Int32.lt_trans z (by decide))) z2
      have h1 : 1 ≤ r := by
        apply Classical.byContradiction
        intro q
        exact z1 (nI_lt (b := 1) (by omega) (by decide))
      refine br_t z2 (sr_tooG he fun x hx => ?_)
      rcases sr_full hr9 hx with ⟨f1, f2, f3⟩ | ⟨g1, g2⟩
      · refine br_f f1 (br_f f3 (br_f (by decide) ?_))
        unfold wpY_timesPower
        refine sr_bad_n he (br_t rfl (br_f z1 (br_t z2 ?_)))
        rw [sr_1000]
        refine sr_high (by omega) fun r' hr' => ?_
        rw [sr_top_Y he R hx hr']
        exact br_f f2 (br_f f3 ⟨rfl, J⟩)
      · have k1 : nI r - 1 + 10 = nI (r + 9) := by
          rw [← nI_add, show nI 9 = (9 : Int32) from rfl]
          grind
        have k2 : nI r - 2 + 110 = nI (r + 108) := by
          rw [← nI_add, show nI 108 = (108 : Int32) from rfl]
          grind
        have go : wpX_clearResult (fun u => wpX_gatherTimesCode (fun u => wpX_gatherTimesCode (fun u => wpX_gatherTimesCode (fun u => wpX_storeResult (fun u => wpY_timesPower (fun r' v' => r' = 0 ∧ i_Rel (k + 5) u v') (tm, sr_yP, sr_yC, ys) (nI e) (nI r)) u (nI e)) u (nI e) ((nI r - 2) + 110) 1) u (nI e) ((nI r - 1) + 10) (-1)) u (nI e) (nI r) 1) (sr_U cf res) := by
          rw [k1, k2]
          refine sr_xclear (sr_gcode he (by omega) (sr_gcode he (by omega) (sr_gcode he (by omega) (sr_xstore he ?_))))
          unfold wpY_timesPower
          refine sr_bad_n he (br_t rfl (br_f z1 (br_t z2 ?_)))
          rw [sr_1000]
          refine sr_high (by omega) fun r' hr' => ?_
          rw [sr_top_Y he R hx hr']
          have fin := sr_tp46 (ys := ys) (post := fun r' v' => r' = 0 ∧ i_Rel (k + 5) (sr_U (sr_px (e * 53) (sr_pR cf e r) cf 53) (sr_rs (sr_pR cf e r) res)) v') he h1 hr9 R g1 (fun tm' R' => ⟨rfl, _, _, _, _, rfl, rfl, R'⟩)
          rcases g2 with g2 | ⟨g2, g3, g4⟩
          · exact br_t (by rw [g2]; decide) fin
          · exact br_f g3 (br_t g4 fin)
        rcases g2 with g2 | ⟨g2, g3, g4⟩
        · exact br_t g2 (br_t rfl go)
        · exact br_f g2 (br_t g4 (br_t rfl go))
    · refine br_f z2 ?_
      unfold wpY_timesPower
      exact sr_bad_n he (br_t rfl (br_f z1 (br_f z2 ⟨rfl, J⟩)))
  · unfold wpX_timesPower
    refine sr_noE_y hb (br_f (by decide) ?_)
    unfold wpY_timesPower
    exact sr_bad_y hb (br_f (by decide) ⟨rfl, J⟩)
def sr_qR (cf : Nat → Int32) (j : Nat) : Int32 := sr_s 53 (fun p => sr_s 53 (fun q => (cf (53 + p) * cf (0 * 53 + q)) * sr_N p q j))
theorem sr_pr33 {post : Int32 → SY → Prop} {cf tm ys : Nat → Int32} (R : sr_R cf tm) (hz : ∀ q, q < 53 → ∀ p, p < 53 → cf (0 * 53 + q) ≠ 0 → cf (1 * 53 + p) ≠ 0 → sr_z p + sr_z q ≤ 9) (h : ∀ tm', sr_R (sr_px (0 * 53) (sr_qR cf) cf 53) tm' → post 0 (tm', sr_yP, sr_yC, ys)) : wY_product_33 post tm sr_yP sr_yC ys := by
  unfold wY_product_33
  refine sr_mult (o1 := 0) (o2 := 1000) (o3 := 3000) (by decide) (by decide) (by decide) (by decide) (by decide) ?_
  refine sr_copy (a := 3000) (o := 0) (by decide) (by decide) (by decide) (h _ ?_)
  have B := sr_mcB (e := 0) (by decide) (Or.inr rfl) (R 0 (by decide)) (R 1 (by decide)) hz
  exact sr_R_set (e := 0) R (by decide) B (fun j h1 h2 => sr_mcB_out (e := 0) h1 h2)
theorem sr_top_c {c : Nat → Int32} {r : Int32} (H : sr_top (sr_nz sr_z (fun s => c s ≠ 0) 53) r) : (r = -4 ∧ ∀ s, s < 53 → c s = 0) ∨ (∃ m, m ≤ 9 ∧ r = nI m ∧ ∀ s, s < 53 → c s ≠ 0 → sr_z s ≤ m) := by
  rcases H with ⟨h1, h2⟩ | ⟨d, h1, h2, h3, h4⟩
  · exact Or.inl ⟨h1, fun s hs => Classical.byContradiction fun hc => h2 (sr_z s) (sr_f1 hs).2.1 ⟨s, hs, rfl, hc⟩⟩
  · exact Or.inr ⟨d, h1, h2, fun s hs hc => h4 (sr_z s) (sr_f1 hs).2.1 ⟨s, hs, rfl, hc⟩⟩
theorem i_vc_product {k : Nat} {u : SX} {v : SY} (I : i_Rel k u v) (hk : k + 5 ≤ 2560) : wpX_product (fun r u' => wpY_product (fun r' v' => r' = r ∧ i_Rel (k + 5) u' v') v) u := by
  obtain ⟨cf, res, tm, ys, rfl, rfl, R⟩ := I
  unfold wpX_product
  refine sr_xtop (e := 1) (by decide) fun r1 H1 => ?_
  have Y0 : ∀ r0, sr_top (sr_nz sr_z (fun s => cf (0 * 53 + s) ≠ 0) 53) r0 → ∀ post : Int32 → SY → Prop, ((r0 < 0 → wY_product_33 post tm sr_yP sr_yC ys) ∧ (¬ r0 < 0 → (r1 < 0 → wY_product_33 post tm sr_yP sr_yC ys) ∧ (¬ r1 < 0 → (r0 + r1 ≤ 9 → wY_product_33 post tm sr_yP sr_yC ys) ∧ (¬ r0 + r1 ≤ 9 → post (-2) (tm, sr_yP, sr_yC, ys))))) → wpY_product post (tm, sr_yP, sr_yC, ys) := by
    intro r0 H0 post h
    unfold wpY_product
    refine sr_high (o := 0) (by decide) fun a Ha => sr_high (o := 1000) (by decide) fun b Hb => ?_
    rw [sr_top_Y (e := 0) (by decide) R H0 Ha, sr_top_Y (e := 1) (by decide) R H1 Hb]
    exact h
  have fin : (∀ q, q < 53 → ∀ p, p < 53 → cf (0 * 53 + q) ≠ 0 → cf (1 * 53 + p) ≠ 0 → sr_z p + sr_z q ≤ 9) → ∀ rr, wY_product_33 (fun r' v' => r' = 0 ∧ i_Rel (k + 5) (sr_U (sr_px (0 * 53) (sr_qR cf) cf 53) rr) v') tm sr_yP sr_yC ys := fun hz rr => sr_pr33 R hz (fun tm' R' => ⟨rfl, _, _, _, _, rfl, rfl, R'⟩)
  have n4 : ∀ d, d ≤ 9 → nI d ≠ -4 := by decide
  rcases sr_top_c H1 with ⟨e1, c1⟩ | ⟨m1, hm1, e1, c1⟩
  · refine br_t e1 (sr_pr24 fun rr => ?_)
    have hz : ∀ q, q < 53 → ∀ p, p < 53 → cf (0 * 53 + q) ≠ 0 → cf (1 * 53 + p) ≠ 0 → sr_z p + sr_z q ≤ 9 := fun q _ p hp _ hd => absurd (c1 p hp) hd
    unfold wpY_product
    refine sr_high (o := 0) (by decide) fun a Ha => sr_high (o := 1000) (by decide) fun b Hb => ?_
    rw [sr_top_Y (e := 1) (by decide) R H1 Hb]
    refine br_c (fun _ => fin hz rr) (fun _ => br_t (by rw [e1]; decide) (fin hz rr))
  · refine br_f (by rw [e1]; exact n4 m1 hm1) (sr_tooG (e := 0) (by decide) fun r0 H0 => ?_)
    have p1 : ¬ r1 < 0 := by rw [e1]; exact nI_pos (by omega)
    rcases sr_top_c H0 with ⟨e0, c0⟩ | ⟨m0, hm0, e0, c0⟩
    · refine br_t e0 (br_t rfl (sr_pr24 fun rr => Y0 r0 H0 _ (br_t (by rw [e0]; decide) (fin (fun q hq p _ hc _ => absurd (c0 q hq) hc) rr))))
    · have p0 : ¬ r0 < 0 := by rw [e0]; exact nI_pos (by omega)
      refine br_f (by rw [e0]; exact n4 m0 hm0) ?_
      by_cases hf : m0 + m1 ≤ 9
      · have hle : r0 + r1 ≤ 9 := by rw [e0, e1, nI_add]; exact nI_le (b := 9) hf (by decide)
        refine br_t hle (br_t rfl (sr_pr24 fun rr => Y0 r0 H0 _ (br_f p0 (br_f p1 (br_t hle (fin (fun q hq p hp hc hd => ?_) rr))))))
        have := c0 q hq hc
        have := c1 p hp hd
        omega
      · have hle : ¬ r0 + r1 ≤ 9 := by rw [e0, e1, nI_add]; exact nI_ge (a := 9) (by omega) (by omega)
        exact br_f hle (br_f (by decide) (Y0 r0 H0 _ (br_f p0 (br_f p1 (br_f hle ⟨rfl, cf, res, tm, ys, rfl, rfl, R⟩)))))
theorem i_vc_skew {k : Nat} {u : SX} {v : SY} (I : i_Rel k u v) (hk : k + 5 ≤ 2560) (v1 : Int32) (v2 : Int32) : wpX_skew (fun r u' => wpY_skew (fun r' v' => r' = r ∧ i_Rel (k + 5) u' v') v v1 v2) u v1 v2 := by
  obtain ⟨cf, res, tm, ys, rfl, rfl, R⟩ := I
  rcases sr_args v1 v2 with ⟨e, s, he, hs, rfl, rfl⟩ | hb
  · unfold wpX_skew
    refine sr_Xg he hs (sr_xclear (sr_sk2 he hs ?_))
    unfold wpY_skew
    exact sr_Yg he hs (sr_ysk20 he hs (R e he) fun tm' ys' hB hf => ⟨rfl, _, _, _, _, rfl, rfl, sr_R_set R he hB hf⟩)
  · unfold wpX_skew
    refine sr_Xb hb ?_
    unfold wpY_skew
    exact sr_Yb hb ⟨rfl, cf, res, tm, ys, rfl, rfl, R⟩
theorem i_vc_part {k : Nat} {u : SX} {v : SY} (I : i_Rel k u v) (hk : k + 5 ≤ 2560) (v1 : Int32) (v2 : Int32) : wpX_part (fun r u' => wpY_part (fun r' v' => r' = r ∧ i_Rel (k + 5) u' v') v v1 v2) u v1 v2 := by
  obtain ⟨cf, res, tm, ys, rfl, rfl, R⟩ := I
  have J : i_Rel (k + 5) (sr_U cf res) (tm, sr_yP, sr_yC, ys) := ⟨cf, res, tm, ys, rfl, rfl, R⟩
  rcases sr_el v1 with ⟨e, he, rfl⟩ | hb
  · unfold wpX_part
    refine sr_noE_n he (br_t rfl ?_)
    by_cases z1 : v2 < 0
    · refine br_t z1 ?_
      unfold wpY_part
      exact sr_bad_n he (br_t rfl (br_t z1 ⟨rfl, J⟩))
    refine br_f z1 ?_
    by_cases z2 : v2 ≤ 9
    · obtain ⟨m, hm, rfl⟩ := nI_of2 (x := v2) (M := 9) (n := 9) (by decide) z1 z2
      refine br_t z2 (sr_xpart he hm ?_)
      unfold wpY_part
      refine sr_bad_n he (br_t rfl (br_f z1 (br_t z2 (sr_ypart he hm ⟨rfl, _, _, _, _, rfl, rfl, sr_R_set R he (fun i j k h => ?_) (fun j h1 h2 => sr_pw_out (by decide) h2)⟩))))
      rw [sr_pw_W (fun w => if sr_dg w = m then tm (1000 * e + w) else 0) h, sr_dg_e i j k h, R e he i j k h]
      by_cases q : i + j + k = m
      · rw [if_pos q]
        refine sr_s_congr fun s hs => ?_
        dsimp only
        by_cases y : sr_z s = m
        · rw [if_pos y]
        · rw [if_neg y, sr_K_n (by omega), Int32.zero_mul]; exact Int32.mul_zero
      · rw [if_neg q]
        refine (sr_s_0 fun s hs => ?_).symm
        dsimp only
        by_cases y : sr_z s = m
        · rw [if_pos y, sr_K_n (by omega)]; exact Int32.mul_zero
        · rw [if_neg y, Int32.zero_mul]
    · refine br_f z2 ?_
      unfold wpY_part
      exact sr_bad_n he (br_t rfl (br_f z1 (br_f z2 ⟨rfl, J⟩)))
  · unfold wpX_part
    refine sr_noE_y hb (br_f (by decide) ?_)
    unfold wpY_part
    exact sr_bad_y hb (br_f (by decide) ⟨rfl, J⟩)
theorem i_vc_coefficient {k : Nat} {u : SX} {v : SY} (I : i_Rel k u v) (hk : k + 5 ≤ 2560) (v1 : Int32) (v2 : Int32) : wpX_coefficient (fun r => wpY_coefficient (fun r' => r' = r ∧ i_Rel (k + 5) u v) v v1 v2) u v1 v2 := by
  obtain ⟨cf, res, tm, ys, rfl, rfl, R⟩ := I
  rcases sr_args v1 v2 with ⟨e, s, he, hs, rfl, rfl⟩ | hb
  · unfold wpX_coefficient
    refine sr_Xg he hs ?_
    rw [sr_e53, nI_clamp (by omega)]
    refine ⟨vp_in_nI (by omega) (by decide), ?_⟩
    unfold wpY_coefficient
    refine sr_Yg he hs ?_
    rw [sr_1000]
    exact sr_before (R e he) (by omega) hs ⟨rfl, cf, res, tm, ys, rfl, rfl, R⟩
  · unfold wpX_coefficient
    refine sr_Xb hb ?_
    unfold wpY_coefficient
    exact sr_Yb hb ⟨rfl, cf, res, tm, ys, rfl, rfl, R⟩
theorem i_vc_degree {k : Nat} {u : SX} {v : SY} (I : i_Rel k u v) (hk : k + 5 ≤ 2560) (v1 : Int32) : wpX_degree (fun r => wpY_degree (fun r' => r' = r ∧ i_Rel (k + 5) u v) v v1) u v1 := by
  obtain ⟨cf, res, tm, ys, rfl, rfl, R⟩ := I
  rcases sr_el v1 with ⟨e, he, rfl⟩ | hb
  · unfold wpX_degree
    refine sr_noE_n he (br_t rfl (sr_xtop he fun r hr => ?_))
    unfold wpY_degree
    refine sr_bad_n he (br_t rfl ?_)
    rw [sr_1000]
    exact sr_high (by omega) fun r' hr' => ⟨sr_top_Y he R hr hr', cf, res, tm, ys, rfl, rfl, R⟩
  · unfold wpX_degree
    refine sr_noE_y hb (br_f (by decide) ?_)
    unfold wpY_degree
    exact sr_bad_y hb (br_f (by decide) ⟨rfl, cf, res, tm, ys, rfl, rfl, R⟩)
theorem i_vc_shapes {k : Nat} {u : SX} {v : SY} (I : i_Rel k u v) (hk : k + 5 ≤ 2560) (v1 : Int32) : wpX_shapes (fun r => wpY_shapes (fun r' => r' = r ∧ i_Rel (k + 5) u v) v v1) u v1 := by
  obtain ⟨cf, res, tm, ys, rfl, rfl, R⟩ := I
  rcases sr_el v1 with ⟨e, he, rfl⟩ | hb
  · unfold wpX_shapes
    refine sr_noE_n he (br_t rfl (sr_xshapes he ?_))
    unfold wpY_shapes
    exact sr_bad_n he (br_t rfl (sr_yshapes he (R e he) ⟨rfl, cf, res, tm, ys, rfl, rfl, R⟩))
  · unfold wpX_shapes
    refine sr_noE_y hb (br_f (by decide) ?_)
    unfold wpY_shapes
    exact sr_bad_y hb (br_f (by decide) ⟨rfl, cf, res, tm, ys, rfl, rfl, R⟩)
theorem sr_term_n {post : Int32 → Prop} {v : SY} {o x y z : Int32} (hn : x < 0 ∨ y < 0 ∨ z < 0) (h : post 0) : wpY_term post v o x y z := by
  refine br_c (fun _ => h) (fun a => br_c (fun _ => h) (fun b => br_c (fun _ => h) (fun c => ?_)))
  rcases hn with q | q | q
  · exact absurd q a
  · exact absurd q b
  · exact absurd q c
theorem sr_term_b {post : Int32 → Prop} {v : SY} {o : Int32} {i j k : Nat} (hi : i < 2 ^ 31) (hj : j < 2 ^ 31) (hk : k < 2 ^ 31) (hn : 9 < i + j + k) (h : post 0) : wpY_term post v o (nI i) (nI j) (nI k) := by
  refine br_f (nI_pos hi) (br_f (nI_pos hj) (br_f (nI_pos hk) (pk_lt 9 i (fun _ => h) (fun a => pk_lt 9 j (fun _ => h) (fun b => pk_lt 9 k (fun _ => h) (fun c => ?_) rfl rfl (by decide) hk) rfl rfl (by decide) hj) rfl rfl (by decide) hi)))
  rw [nI_add, nI_add]
  exact br_f (nI_ge (a := 9) (by omega) (by omega)) h
theorem i_vc_monomial {k : Nat} {u : SX} {v : SY} (I : i_Rel k u v) (hk : k + 5 ≤ 2560) (v1 : Int32) (v2 : Int32) (v3 : Int32) (v4 : Int32) : wpX_monomial (fun r => wpY_monomial (fun r' => r' = r ∧ i_Rel (k + 5) u v) v v1 v2 v3 v4) u v1 v2 v3 v4 := by
  obtain ⟨cf, res, tm, ys, rfl, rfl, R⟩ := I
  have J : i_Rel (k + 5) (sr_U cf res) (tm, sr_yP, sr_yC, ys) := ⟨cf, res, tm, ys, rfl, rfl, R⟩
  rcases sr_el v1 with ⟨e, he, rfl⟩ | hb
  · unfold wpX_monomial
    refine sr_noE_n he (br_t rfl ?_)
    by_cases hn : v2 < 0 ∨ v3 < 0 ∨ v4 < 0
    · refine sr_nbef_n he hn ?_
      unfold wpY_monomial
      exact sr_bad_n he (br_t rfl (sr_term_n hn ⟨rfl, J⟩))
    · obtain ⟨i, hi, rfl⟩ := nI_of (x := v2) (fun z => hn (Or.inl z))
      obtain ⟨j, hj, rfl⟩ := nI_of (x := v3) (fun z => hn (Or.inr (Or.inl z)))
      obtain ⟨l, hl, rfl⟩ := nI_of (x := v4) (fun z => hn (Or.inr (Or.inr z)))
      refine sr_nbef he hi hj hl ?_
      unfold wpY_monomial
      refine sr_bad_n he (br_t rfl ?_)
      rw [sr_1000]
      by_cases h9 : i + j + l ≤ 9
      · exact sr_term0 (by omega) h9 ⟨R e he i j l h9, J⟩
      · refine sr_term_b hi hj hl (by omega) ⟨?_, J⟩
        refine (sr_s_0 fun s hs => ?_).symm
        have := (sr_f1 hs).2.1
        rw [sr_K_n (by omega)]; exact Int32.mul_zero
  · unfold wpX_monomial
    refine sr_noE_y hb (br_f (by decide) ?_)
    unfold wpY_monomial
    exact sr_bad_y hb (br_f (by decide) ⟨rfl, J⟩)
theorem i_vc_value {k : Nat} {u : SX} {v : SY} (I : i_Rel k u v) (hk : k + 5 ≤ 2560) (v1 : Int32) (v2 : Int32) (v3 : Int32) (v4 : Int32) : wpX_value (fun r => wpY_value (fun r' => r' = r ∧ i_Rel (k + 5) u v) v v1 v2 v3 v4) u v1 v2 v3 v4 := by
  obtain ⟨cf, res, tm, ys, rfl, rfl, R⟩ := I
  have J : i_Rel (k + 5) (sr_U cf res) (tm, sr_yP, sr_yC, ys) := ⟨cf, res, tm, ys, rfl, rfl, R⟩
  rcases sr_el v1 with ⟨e, he, rfl⟩ | hb
  · unfold wpX_value
    refine sr_noE_n he (br_t rfl (sr_xv3 he ?_))
    unfold wpY_value
    refine sr_bad_n he (br_t rfl (sr_yval he ⟨?_, J⟩))
    refine (sr_L1 (sr_vt tm (1000 * e) v2 v3 v4)).trans ?_
    refine sr_s_congr fun i hi => sr_s_congr fun j hj => sr_s_congr fun k hk => ?_
    have h : i + j + k ≤ 9 := by omega
    obtain ⟨d1, d2, d3⟩ := sr_digits h
    unfold sr_vt
    rw [d1, d2, d3, R e he i j k h, Int32.mul_assoc, Int32.mul_assoc, Int32.mul_assoc]
  · unfold wpX_value
    refine sr_noE_y hb (br_f (by decide) ?_)
    unfold wpY_value
    exact sr_bad_y hb (br_f (by decide) ⟨rfl, J⟩)
theorem i_vc_inner {k : Nat} {u : SX} {v : SY} (I : i_Rel k u v) (hk : k + 5 ≤ 2560) : wpX_inner (fun r => wpY_inner (fun r' => r' = r ∧ i_Rel (k + 5) u v) v) u := by
  obtain ⟨cf, res, tm, ys, rfl, rfl, R⟩ := I
  refine sr_xinner ?_
  exact sr_yinner (R 0 (by decide)) (R 1 (by decide)) ⟨rfl, cf, res, tm, ys, rfl, rfl, R⟩
theorem i_vc_number {k : Nat} {u : SX} {v : SY} (I : i_Rel k u v) (hk : k + 5 ≤ 2560) (v1 : Int32) (v2 : Int32) (v3 : Int32) : wpX_number (fun r => wpY_number (fun r' v' => r' = r ∧ i_Rel (k + 5) u v') v v1 v2 v3) u v1 v2 v3 := by
  obtain ⟨cf, res, tm, ys, rfl, rfl, R⟩ := I
  have J : i_Rel (k + 5) (sr_U cf res) (tm, sr_yP, sr_yC, ys) := ⟨cf, res, tm, ys, rfl, rfl, R⟩
  rcases sr_sp v1 with ⟨p, hp, rfl⟩ | hb
  · rcases sr_sp v2 with ⟨q, hq, rfl⟩ | hb2
    · rcases sr_sp v3 with ⟨r, hr, rfl⟩ | hb3
      · unfold wpX_number
        refine sr_code_y hp (sr_code_y hq (sr_code_y hr (br_f (sr_n1 hp) (br_f (sr_n1 hq) (br_f (sr_n1 hr) (sr_pnum hp hq hr ?_))))))
        have zp := (sr_f1 hp).2.1
        have zq := (sr_f1 hq).2.1
        have zr := (sr_f1 hr).2.1
        unfold wpY_number
        refine sr_isS_y hp (br_f (by decide) (sr_isS_y hq (br_f (by decide) (sr_isS_y hr (br_f (by decide) (sr_size hp (sr_size hq (sr_size hr ?_))))))))
        rw [nI_add]
        refine pk_eq (sr_z p + sr_z q) (sr_z r) (fun z => sr_shape hp (sr_copy (a := 2000) (o := 4000) (by decide) (by decide) (by decide) (sr_shape hq (sr_mult (o1 := 4000) (o2 := 2000) (o3 := 3000) (by decide) (by decide) (by decide) (by decide) (by decide) ?_)))) (fun z => ⟨(sr_N_n z).symm, J⟩)
        refine sr_before (o := 3000) (sr_t4_mu hp hq (by omega)) (by decide) hr ⟨rfl, _, _, _, _, rfl, rfl, sr_R_keep R fun j hj => ?_⟩
        rw [sr_mu_out (by omega)]
        exact sr_t4_out hp hq hj
      · unfold wpX_number
        refine sr_code_y hp (sr_code_y hq (sr_code_n hb3 (br_f (sr_n1 hp) (br_f (sr_n1 hq) (br_t rfl ?_)))))
        unfold wpY_number
        exact sr_isS_y hp (br_f (by decide) (sr_isS_y hq (br_f (by decide) (sr_isS_n hb3 (br_t rfl ⟨rfl, J⟩)))))
    · unfold wpX_number
      have fin : wpY_number (fun r' v' => r' = -1 ∧ i_Rel (k + 5) (sr_U cf res) v') (tm, sr_yP, sr_yC, ys) (nI (sr_cd p)) v2 v3 := by
        unfold wpY_number
        exact sr_isS_y hp (br_f (by decide) (sr_isS_n hb2 (br_t rfl ⟨rfl, J⟩)))
      rcases sr_sp v3 with ⟨r, hr, rfl⟩ | hb3
      · exact sr_code_y hp (sr_code_n hb2 (sr_code_y hr (br_f (sr_n1 hp) (br_t rfl fin))))
      · exact sr_code_y hp (sr_code_n hb2 (sr_code_n hb3 (br_f (sr_n1 hp) (br_t rfl fin))))
  · unfold wpX_number
    have fin : wpY_number (fun r' v' => r' = -1 ∧ i_Rel (k + 5) (sr_U cf res) v') (tm, sr_yP, sr_yC, ys) v1 v2 v3 := by
      unfold wpY_number
      exact sr_isS_n hb (br_t rfl ⟨rfl, J⟩)
    refine sr_code_n hb ?_
    rcases sr_sp v2 with ⟨q, hq, rfl⟩ | hb2
    · refine sr_code_y hq ?_
      rcases sr_sp v3 with ⟨r, hr, rfl⟩ | hb3
      · exact sr_code_y hr (br_t rfl fin)
      · exact sr_code_n hb3 (br_t rfl fin)
    · refine sr_code_n hb2 ?_
      rcases sr_sp v3 with ⟨r, hr, rfl⟩ | hb3
      · exact sr_code_y hr (br_t rfl fin)
      · exact sr_code_n hb3 (br_t rfl fin)
end
