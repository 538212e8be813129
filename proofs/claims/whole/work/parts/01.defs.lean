theorem pk_us {f : Nat → Int32} {k : Nat} {x : Int32} : upd f k x k = x := if_pos rfl
theorem pk_un {f : Nat → Int32} {k j : Nat} {x : Int32} (h : j ≠ k) : upd f k x j = f j := if_neg h
theorem pk_sub {a b : Nat} (h : b ≤ a) : nI a - nI b = nI (a - b) := by
  obtain ⟨c, rfl⟩ : ∃ c, a = c + b := ⟨a - b, by omega⟩
  rw [← nI_add, Int32.add_sub_cancel, Nat.add_sub_cancel]
theorem pk_m1 (n : Nat) : nI (n + 1) + (-1) = nI n := by
  rw [← nI_1, Int32.add_assoc, show (1 : Int32) + (-1) = 0 from rfl, Int32.add_zero]
theorem pk_mul (a b : Nat) : nI a * nI b = nI (a * b) := (Int32.ofNat_mul a b).symm
theorem pk_div {a d : Nat} (ha : a < 2 ^ 31) (h0 : 0 < d) (hd : d < 2 ^ 31) : nI a / nI d = nI (a / d) := by
  apply Int32.toInt_inj.mp
  rw [lg_idiv_nonneg (by rw [nI_toInt ha]; omega) (by rw [nI_toInt hd]; omega), nI_toInt ha, nI_toInt hd, nI_toInt (Nat.lt_of_le_of_lt (Nat.div_le_self a d) ha)]
  first | rfl | exact (Int.natCast_ediv _ _).symm
theorem pk_rem {a d : Nat} (ha : a < 2 ^ 31) (h0 : 0 < d) (hd : d < 2 ^ 31) : nI a - nI a / nI d * nI d = nI (a % d) := by
  rw [pk_div ha h0 hd, pk_mul, pk_sub (Nat.div_mul_le_self a d)]
  exact congrArg nI (by have := Nat.div_add_mod' a d; omega)
theorem pk_sub_toInt {a b : Nat} (ha : a < 2 ^ 30) (hb : b < 2 ^ 30) : (nI a - nI b).toInt = (a : Int) - b := by
  rw [Int32.toInt_sub, nI_toInt (by omega), nI_toInt (by omega)]
  exact Int.bmod_eq_of_le (by omega) (by omega)
theorem pk_sneg {a b : Nat} (hb : b < 2 ^ 30) (h : a < b) : nI a - nI b < 0 := by
  rw [Int32.lt_iff_toInt_lt, pk_sub_toInt (by omega) hb, show (0 : Int32).toInt = 0 from by decide]
  omega
theorem pk_ix (x : Int32) {n : Nat} (hn : n < 2 ^ 31) : x < 0 ∨ nI n ≤ x ∨ ∃ j : Nat, j < n ∧ x = nI j := by
  by_cases h : x < 0
  · exact Or.inl h
  · obtain ⟨j, hj, rfl⟩ := nI_of h
    by_cases h2 : j < n
    · exact Or.inr (Or.inr ⟨j, h2, rfl⟩)
    · exact Or.inr (Or.inl (nI_le (by omega) hj))
theorem pk_le {x y : Int32} {A B : Prop} (a b : Nat) (f : a ≤ b → A) (g : b < a → B) (hx : x = nI a := by rfl) (hy : y = nI b := by rfl) (ha : a < 2 ^ 31 := by omega) (hb : b < 2 ^ 31 := by omega) : (x ≤ y → A) ∧ (¬ x ≤ y → B) := by
  subst hx hy
  rw [nI_leI ha hb]
  exact ⟨f, fun z => g (by omega)⟩
theorem pk_lt {x y : Int32} {A B : Prop} (a b : Nat) (f : a < b → A) (g : b ≤ a → B) (hx : x = nI a := by rfl) (hy : y = nI b := by rfl) (ha : a < 2 ^ 31 := by omega) (hb : b < 2 ^ 31 := by omega) : (x < y → A) ∧ (¬ x < y → B) := by
  subst hx hy
  rw [nI_ltI ha hb]
  exact ⟨f, fun z => g (by omega)⟩
theorem pk_eq {x y : Int32} {A B : Prop} (a b : Nat) (f : a = b → A) (g : a ≠ b → B) (hx : x = nI a := by rfl) (hy : y = nI b := by rfl) (ha : a < 2 ^ 31 := by omega) (hb : b < 2 ^ 31 := by omega) : (x = y → A) ∧ (¬ x = y → B) := by
  subst hx hy
  rw [nI_eq ha hb]
  exact ⟨f, g⟩
theorem pk_in {x : Int32} (n N : Nat) (h : n < N) (hx : x = nI n := by rfl) (hN : N < 2 ^ 31 := by omega) : vp_in x N := by
  subst hx
  exact vp_in_nI h hN
theorem pk_cl {x : Int32} (n : Nat) (hx : x = nI n := by rfl) (h : n < 2 ^ 31 := by omega) : x.toNatClampNeg = n := by
  subst hx
  exact nI_clamp h
theorem pk_loop {σ : Type} (W : Nat → Nat → σ → Prop) (I : Nat → σ → Prop) (e i0 : Nat) (s : σ) (hi : i0 ≤ e) (h0 : I i0 s) (hx : ∀ n s, I e s → W (n + 1) e s)
    (hs : ∀ n i s, i < e → I i s → (∀ s', I (i + 1) s' → W n (i + 1) s') → W (n + 1) i s) : ∃ n, W n i0 s :=
  ⟨e + 1, loop_i W I e hx hs (e + 1) i0 s hi (by omega) h0⟩

/-! sums and bounded checks, for the kernel -/
noncomputable def sr_zn (n : Nat) (f : Nat → Nat) : Nat := Nat.rec (motive := fun _ => Nat) 0 (fun i acc => Nat.add acc (f i)) n
noncomputable def sr_al (n : Nat) (f : Nat → Bool) : Bool := Nat.rec (motive := fun _ => Bool) true (fun i acc => cond (f i) acc false) n
theorem sr_zn_0 (f : Nat → Nat) : sr_zn 0 f = 0 := rfl
theorem sr_zn_s (n : Nat) (f : Nat → Nat) : sr_zn (n + 1) f = sr_zn n f + f n := rfl
theorem sr_al_e {f : Nat → Bool} : ∀ {n : Nat}, sr_al n f = true → ∀ i, i < n → f i = true := by
  intro n
  induction n with
  | zero => intro _ i hi; exact absurd hi (Nat.not_lt_zero i)
  | succ n ih =>
    intro h i hi
    have h' : cond (f n) (sr_al n f) false = true := h
    cases hf : f n with
    | false => rw [hf] at h'; exact absurd (show false = true from h') Bool.false_ne_true
    | true =>
      rw [hf] at h'
      by_cases e : i = n
      · rw [e]; exact hf
      · exact ih h' i (by omega)
theorem sr_c_t {c : Bool} {x : Bool} (h : cond c x true = true) (hc : c = true) : x = true := by
  rw [hc] at h; exact h
theorem sr_c_f {c : Bool} {x : Bool} (h : cond c x false = true) : c = true ∧ x = true := by
  cases c
  · exact absurd (show false = true from h) Bool.false_ne_true
  · exact ⟨rfl, h⟩
/-! the tables, as digits of one number -/
def sr_dig (B b s : Nat) : Nat := Nat.mod (Nat.div B (Nat.pow b s)) b
theorem sr_dig_big {B b n : Nat} (hb : 0 < b) (h : B < b ^ n) {s : Nat} (hs : n ≤ s) : sr_dig B b s = 0 := by
  show B / b ^ s % b = 0
  rw [Nat.div_eq_of_lt (Nat.lt_of_lt_of_le h (Nat.pow_le_pow_right hb hs))]
  exact Nat.zero_mod b

def sr_a (s : Nat) : Nat := sr_dig 98877776666665555555554444444444433333333332222221110 10 s
theorem sr_a_big {s : Nat} (hs : 53 ≤ s) : sr_a s = 0 := sr_dig_big (n := 53) (by decide) (by decide +kernel) hs
def sr_b (s : Nat) : Nat := sr_dig 1021103221104332221104433322211033332221102221101100 10 s
theorem sr_b_big {s : Nat} (hs : 53 ≤ s) : sr_b s = 0 := sr_dig_big (n := 53) (by decide) (by decide +kernel) hs
def sr_c (s : Nat) : Nat := sr_dig 1000101000102101001021021010032102101002101001000 10 s
theorem sr_c_big {s : Nat} (hs : 53 ≤ s) : sr_c s = 0 := sr_dig_big (n := 53) (by decide) (by decide +kernel) hs
def sr_z (s : Nat) : Nat := sr_dig 99899879988769989877659898787665498767655436544323210 10 s
theorem sr_z_big {s : Nat} (hs : 53 ≤ s) : sr_z s = 0 := sr_dig_big (n := 53) (by decide) (by decide +kernel) hs
def sr_P (s : Nat) : Nat := sr_dig 900810801800720711710702701700630621620612611610603602601600540531530522521520513512511510504503502501500450441440432431430423422421420414413412411410405404403402401400360351350342341340333332331330324323322321320315314313312311310306305304303302301300270261260252251250243242241240234233232231230225224223222221220216215214213212211210207206205204203202201200180171170162161160153152151150144143142141140135134133132131130126125124123122121120117116115114113112111110108107106105104103102101100090081080072071070063062061060054053052051050045044043042041040036035034033032031030027026025024023022021020018017016015014013012011010009008007006005004003002001000 1000 s
theorem sr_P_big {s : Nat} (hs : 220 ≤ s) : sr_P s = 0 := sr_dig_big (n := 220) (by decide) (by decide +kernel) hs
def sr_yc (s : Nat) : Nat := sr_dig 333234233225224223222144135134133126125124123122117116115114113112111045044036035034033027026025024023022018017016015014013012011009008007006005004003002001000 1000 s
theorem sr_yc_big {s : Nat} (hs : 53 ≤ s) : sr_yc s = 0 := sr_dig_big (n := 53) (by decide) (by decide +kernel) hs
def sr_pi (s : Nat) : Nat := sr_dig 1928183625150930382717443524140848423322120603392945372616494334231307514741322111050252504640312010040100 100 s
theorem sr_pi_big {s : Nat} (hs : 53 ≤ s) : sr_pi s = 0 := sr_dig_big (n := 53) (by decide) (by decide +kernel) hs

def sr_cd (s : Nat) : Nat := Nat.add (Nat.add (sr_a s) (Nat.mul 10 (sr_b s))) (Nat.mul 100 (sr_c s))
/-- the sum of a place's digits -/
def sr_dg (p : Nat) : Nat := Nat.add (Nat.add (Nat.div p 100) (Nat.mod (Nat.div p 10) 10)) (Nat.mod p 10)
/-- is the code that of a shape -/
def sr_iS (n : Nat) : Bool := cond (Nat.ble (Nat.mod (Nat.div n 10) 10) (Nat.mod n 10)) (cond (Nat.ble (Nat.div n 100) (Nat.mod (Nat.div n 10) 10)) (Nat.ble (Nat.add (Nat.add (Nat.mod n 10) (Nat.mod (Nat.div n 10) 10)) (Nat.div n 100)) 9) false) false
noncomputable def sr_np (p : Nat) : Nat := sr_zn p (fun q => cond (Nat.ble (sr_dg q) 9) 1 0)
noncomputable def sr_mc (p : Nat) : Nat := sr_zn p (fun q => cond (sr_iS q) 1 0)
noncomputable def sr_ix (n : Nat) : Nat := sr_zn 53 (fun s => cond (Nat.beq (sr_cd s) n) s 0)
/-- the number of shapes ahead of (a, b, c) in the component's order -/
noncomputable def sr_n3 (a b c : Nat) : Nat := Nat.add (Nat.add (sr_zn a (fun a' => sr_zn (Nat.add a' 1) (fun b' => sr_zn (Nat.add b' 1) (fun c' => cond (Nat.ble (Nat.add (Nat.add a' b') c') 9) 1 0)))) (sr_zn b (fun b' => sr_zn (Nat.add b' 1) (fun c' => cond (Nat.ble (Nat.add (Nat.add a b') c') 9) 1 0)))) (sr_zn c (fun c' => cond (Nat.ble (Nat.add (Nat.add a b) c') 9) 1 0))
/-! the fillings -/
def sr_mn (x y : Nat) : Nat := Nat.sub x (Nat.sub x y)
def sr_k5 (a b c i j : Nat) : Nat := Nat.sub (sr_mn (sr_mn (Nat.add b 1) (Nat.sub (Nat.add (Nat.add i j) 1) b)) (sr_mn (Nat.add i 1) (Nat.add j 1))) (Nat.add c (Nat.sub (Nat.sub (Nat.add i j) a) c))
def sr_K (s i j k : Nat) : Nat := cond (Nat.beq (Nat.add (Nat.add i j) k) (sr_z s)) (sr_k5 (sr_a s) (sr_b s) (sr_c s) i j) 0
def sr_D (s u i v j w k : Nat) : Nat := cond (Nat.ble i u) (cond (Nat.ble j v) (cond (Nat.ble k w) (sr_K s (Nat.sub u i) (Nat.sub v j) (Nat.sub w k)) 0) 0) 0
/-- the product number's even and odd halves -/
def sr_E6 (p u v w i j k : Nat) : Nat := Nat.add (Nat.add (sr_D p u i v j w k) (sr_D p v i w j u k)) (sr_D p w i u j v k)
def sr_O6 (p u v w i j k : Nat) : Nat := Nat.add (Nat.add (sr_D p v i u j w k) (sr_D p u i w j v k)) (sr_D p w i v j u k)
def sr_E (p q r : Nat) : Nat := cond (Nat.beq (Nat.add (sr_z p) (sr_z q)) (sr_z r)) (sr_E6 p (Nat.add (sr_a r) 2) (Nat.add (sr_b r) 1) (sr_c r) (Nat.add (sr_a q) 2) (Nat.add (sr_b q) 1) (sr_c q)) 0
def sr_O (p q r : Nat) : Nat := cond (Nat.beq (Nat.add (sr_z p) (sr_z q)) (sr_z r)) (sr_O6 p (Nat.add (sr_a r) 2) (Nat.add (sr_b r) 1) (sr_c r) (Nat.add (sr_a q) 2) (Nat.add (sr_b q) 1) (sr_c q)) 0
/-- the reference's 'before' of a shape's polynomial: its plus and its minus -/
def sr_Bp (t s : Nat) : Nat := Nat.add (Nat.add (sr_D t (sr_a s) 0 (sr_b s) 0 (sr_c s) 0) (sr_D t (Nat.add (sr_a s) 1) 0 (Nat.add (sr_b s) 1) 0 (sr_c s) 2)) (sr_D t (Nat.add (sr_a s) 2) 0 (sr_b s) 1 (sr_c s) 1)
def sr_Bm (t s : Nat) : Nat := Nat.add (Nat.add (sr_D t (sr_a s) 0 (Nat.add (sr_b s) 1) 0 (sr_c s) 1) (sr_D t (Nat.add (sr_a s) 1) 0 (sr_b s) 1 (sr_c s) 0)) (sr_D t (Nat.add (sr_a s) 2) 0 (sr_b s) 0 (sr_c s) 2)
/-- the product of two shapes' polynomials at (i, j, k) -/
noncomputable def sr_Cv (p q i j k : Nat) : Nat := sr_zn (Nat.add i 1) (fun i' => sr_zn (Nat.add j 1) (fun j' => sr_zn (Nat.add k 1) (fun k' => Nat.mul (sr_K p i' j' k') (sr_K q (Nat.sub i i') (Nat.sub j j') (Nat.sub k k')))))
/-- the reference's count of patterns at a place -/
noncomputable def sr_G (a b c w : Nat) : Nat := sr_zn (Nat.sub (Nat.add a 1) b) (fun p => sr_zn (Nat.sub (Nat.add b 1) c) (fun q => sr_zn (Nat.sub (Nat.add (Nat.add b p) 1) (Nat.add c q)) (fun r => cond (Nat.beq (Nat.add (Nat.add (Nat.mul 100 (Nat.add (Nat.add c q) r)) (Nat.mul 10 (Nat.sub (Nat.add b p) r))) (Nat.sub (Nat.sub (Nat.add (Nat.add a b) c) (Nat.add b p)) (Nat.add c q))) w) 1 0)))

