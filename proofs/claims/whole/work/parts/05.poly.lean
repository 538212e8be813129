/-! polynomials: T c is the sum of c s times the shape s, V the product -/
def sr_T (c : Nat → Int32) (i j k : Nat) : Int32 := sr_s 53 (fun s => c s * nI (sr_K s i j k))
def sr_V (F G : Nat → Nat → Nat → Int32) (i j k : Nat) : Int32 := sr_s (i + 1) (fun i' => sr_s (j + 1) (fun j' => sr_s (k + 1) (fun k' => F i' j' k' * G (i - i') (j - j') (k - k'))))
def sr_N (p q r : Nat) : Int32 := nI (sr_E p q r) - nI (sr_O p q r)
def sr_Q (s i j k : Nat) : Int32 := nI (sr_K s i j k)
theorem sr_K_n {s i j k : Nat} (h : i + j + k ≠ sr_z s) : sr_K s i j k = 0 := by
  show cond (Nat.beq (i + j + k) (sr_z s)) _ 0 = 0
  rw [sr_bf h]
  rfl
theorem sr_K_y {s i j k : Nat} (h : i + j + k = sr_z s) : sr_K s i j k = sr_k5 (sr_a s) (sr_b s) (sr_c s) i j := by
  show cond (Nat.beq (i + j + k) (sr_z s)) _ 0 = _
  rw [sr_bt h]
  rfl
theorem sr_E_n {p q r : Nat} (h : sr_z p + sr_z q ≠ sr_z r) : sr_E p q r = 0 := by
  show cond (Nat.beq (sr_z p + sr_z q) (sr_z r)) _ 0 = 0
  rw [sr_bf h]
  rfl
theorem sr_O_n {p q r : Nat} (h : sr_z p + sr_z q ≠ sr_z r) : sr_O p q r = 0 := by
  show cond (Nat.beq (sr_z p + sr_z q) (sr_z r)) _ 0 = 0
  rw [sr_bf h]
  rfl
theorem sr_N_n {p q r : Nat} (h : sr_z p + sr_z q ≠ sr_z r) : sr_N p q r = 0 := by
  show nI (sr_E p q r) - nI (sr_O p q r) = 0
  rw [sr_E_n h, sr_O_n h]
  decide
theorem sr_T_sum (n : Nat) (f : Nat → Nat → Int32) (i j k : Nat) : sr_T (fun r => sr_s n (fun p => f p r)) i j k = sr_s n (fun p => sr_T (f p) i j k) := by
  show sr_s 53 (fun s => sr_s n (fun p => f p s) * nI (sr_K s i j k)) = sr_s n (fun p => sr_s 53 (fun s => f p s * nI (sr_K s i j k)))
  rw [sr_s_swap]
  exact sr_s_congr fun s _ => (sr_s_mulr _ _ _).symm
theorem sr_T_mul (c : Int32) (f : Nat → Int32) (i j k : Nat) : sr_T (fun r => c * f r) i j k = c * sr_T f i j k := by
  show sr_s 53 (fun s => c * f s * nI (sr_K s i j k)) = c * sr_s 53 (fun s => f s * nI (sr_K s i j k))
  rw [← sr_s_mul]
  exact sr_s_congr fun s _ => Int32.mul_assoc _ _ _
theorem sr_T_add (f g : Nat → Int32) (i j k : Nat) : sr_T (fun r => f r + g r) i j k = sr_T f i j k + sr_T g i j k := by
  show sr_s 53 (fun s => (f s + g s) * nI (sr_K s i j k)) = sr_s 53 (fun s => f s * nI (sr_K s i j k)) + sr_s 53 (fun s => g s * nI (sr_K s i j k))
  rw [← sr_s_add]
  exact sr_s_congr fun s _ => Int32.add_mul
theorem sr_T_congr {f g : Nat → Int32} (h : ∀ s, s < 53 → f s = g s) (i j k : Nat) : sr_T f i j k = sr_T g i j k :=
  sr_s_congr fun s hs => by rw [h s hs]
/-- one shape alone -/
theorem sr_T_one {p : Nat} (hp : p < 53) (i j k : Nat) : sr_T (fun s => if s = p then 1 else 0) i j k = sr_Q p i j k := by
  show sr_s 53 (fun s => (if s = p then (1 : Int32) else 0) * nI (sr_K s i j k)) = nI (sr_K p i j k)
  rw [sr_s_one hp]
  · rw [if_pos rfl]; exact Int32.one_mul _
  · intro s _ hs
    rw [if_neg hs]; exact Int32.zero_mul
theorem sr_V_lin (n : Nat) (c : Nat → Int32) (F : Nat → Nat → Nat → Nat → Int32) (G : Nat → Nat → Nat → Int32) (i j k : Nat) : sr_V (fun i j k => sr_s n (fun q => c q * F q i j k)) G i j k = sr_s n (fun q => c q * sr_V (F q) G i j k) := by
  refine Eq.trans (sr_s_congr fun i' _ => ?_) (sr_s_pull (i + 1) n c (fun q i' => sr_s (j + 1) (fun j' => sr_s (k + 1) (fun k' => F q i' j' k' * G (i - i') (j - j') (k - k')))))
  refine Eq.trans (sr_s_congr fun j' _ => ?_) (sr_s_pull (j + 1) n c (fun q j' => sr_s (k + 1) (fun k' => F q i' j' k' * G (i - i') (j - j') (k - k'))))
  refine Eq.trans (sr_s_congr fun k' _ => ?_) (sr_s_pull (k + 1) n c (fun q k' => F q i' j' k' * G (i - i') (j - j') (k - k')))
  rw [← sr_s_mulr]
  exact sr_s_congr fun q _ => Int32.mul_assoc _ _ _
theorem sr_V_comm (F G : Nat → Nat → Nat → Int32) (i j k : Nat) : sr_V F G i j k = sr_V G F i j k := by
  unfold sr_V
  refine (sr_s_rev i _).symm.trans (sr_s_congr fun i' hi => ?_)
  refine (sr_s_rev j _).symm.trans (sr_s_congr fun j' hj => ?_)
  refine (sr_s_rev k _).symm.trans (sr_s_congr fun k' hk => ?_)
  rw [show i - (i - i') = i' by omega, show j - (j - j') = j' by omega, show k - (k - k') = k' by omega]
  exact Int32.mul_comm _ _
theorem sr_V_congr {F F' G G' : Nat → Nat → Nat → Int32} {i j k : Nat} (hF : ∀ a b c, a ≤ i → b ≤ j → c ≤ k → F a b c = F' a b c) (hG : ∀ a b c, a ≤ i → b ≤ j → c ≤ k → G a b c = G' a b c) : sr_V F G i j k = sr_V F' G' i j k := by
  refine sr_s_congr fun i' hi => sr_s_congr fun j' hj => sr_s_congr fun k' hk => ?_
  rw [hF i' j' k' (by omega) (by omega) (by omega), hG _ _ _ (Nat.sub_le i i') (Nat.sub_le j j') (Nat.sub_le k k')]
theorem sr_V_Cv (p q i j k : Nat) : sr_V (sr_Q p) (sr_Q q) i j k = nI (sr_Cv p q i j k) := by
  unfold sr_Cv
  refine Eq.trans ?_ (sr_s_nI _ _).symm
  refine sr_s_congr fun i' _ => Eq.trans ?_ (sr_s_nI _ _).symm
  refine sr_s_congr fun j' _ => Eq.trans ?_ (sr_s_nI _ _).symm
  exact sr_s_congr fun k' _ => pk_mul _ _
theorem sr_m_all {p : Nat} (hp : p < 53) : sr_m2 p = true := by
  by_cases h1 : p < 6
  · exact sr_al_e sr_m_0 p h1
  by_cases h2 : p < 12
  · have := sr_al_e sr_m_6 (p - 6) (by omega)
    rwa [show Nat.add (p - 6) 6 = p from Nat.sub_add_cancel (by omega)] at this
  by_cases h3 : p < 20
  · have := sr_al_e sr_m_12 (p - 12) (by omega)
    rwa [show Nat.add (p - 12) 12 = p from Nat.sub_add_cancel (by omega)] at this
  by_cases h4 : p < 28
  · have := sr_al_e sr_m_20 (p - 20) (by omega)
    rwa [show Nat.add (p - 20) 20 = p from Nat.sub_add_cancel (by omega)] at this
  by_cases h5 : p < 36
  · have := sr_al_e sr_m_28 (p - 28) (by omega)
    rwa [show Nat.add (p - 28) 28 = p from Nat.sub_add_cancel (by omega)] at this
  by_cases h6 : p < 44
  · have := sr_al_e sr_m_36 (p - 36) (by omega)
    rwa [show Nat.add (p - 36) 36 = p from Nat.sub_add_cancel (by omega)] at this
  · have := sr_al_e sr_m_44 (p - 44) (by omega)
    rwa [show Nat.add (p - 44) 44 = p from Nat.sub_add_cancel (by omega)] at this
theorem sr_m_at {p q i j k : Nat} (hp : p < 53) (hq : q < 53) (hz : sr_z p + sr_z q ≤ 9) (h : i + j + k = sr_z p + sr_z q) : sr_Cv p q i j k + sr_zn 53 (fun r => sr_O p q r * sr_K r i j k) = sr_zn 53 (fun r => sr_E p q r * sr_K r i j k) := by
  have h1 := sr_c_t (sr_al_e (sr_m_all hp) q hq) (sr_lt hz)
  have h2 : Nat.beq (sr_Cv p q i j (sr_z p + sr_z q - i - j) + sr_zn 53 (fun r => sr_O p q r * sr_K r i j (sr_z p + sr_z q - i - j))) (sr_zn 53 (fun r => sr_E p q r * sr_K r i j (sr_z p + sr_z q - i - j))) = true := sr_al_e (sr_al_e h1 i (show i < sr_z p + sr_z q + 1 by omega)) j (show j < sr_z p + sr_z q + 1 - i by omega)
  rw [show sr_z p + sr_z q - i - j = k by omega] at h2
  exact Nat.eq_of_beq_eq_true h2
theorem sr_zn_0' {f : Nat → Nat} : ∀ {n : Nat}, (∀ i, i < n → f i = 0) → sr_zn n f = 0 := by
  intro n
  induction n with
  | zero => intro _; rfl
  | succ n ih => intro h; rw [sr_zn_s, ih (fun i hi => h i (by omega)), h n (by omega)]
theorem sr_Cv_n {p q i j k : Nat} (h : i + j + k ≠ sr_z p + sr_z q) : sr_Cv p q i j k = 0 := by
  refine sr_zn_0' fun i' hi => sr_zn_0' fun j' hj => sr_zn_0' fun k' hk => ?_
  have hi : i' < i + 1 := hi
  have hj : j' < j + 1 := hj
  have hk : k' < k + 1 := hk
  show sr_K p i' j' k' * sr_K q (i - i') (j - j') (k - k') = 0
  by_cases e : i' + j' + k' = sr_z p
  · rw [sr_K_n (s := q) (by omega), Nat.mul_zero]
  · rw [sr_K_n e, Nat.zero_mul]
/-- the product of two shapes -/
theorem sr_LR {p q : Nat} (hp : p < 53) (hq : q < 53) (hz : sr_z p + sr_z q ≤ 9) (i j k : Nat) : sr_V (sr_Q p) (sr_Q q) i j k = sr_T (sr_N p q) i j k := by
  rw [sr_V_Cv]
  by_cases h : i + j + k = sr_z p + sr_z q
  · have e := congrArg nI (sr_m_at hp hq hz h)
    rw [← nI_add, sr_s_nI, sr_s_nI] at e
    have e2 : sr_T (sr_N p q) i j k = sr_s 53 (fun r => nI (sr_E p q r * sr_K r i j k)) - sr_s 53 (fun r => nI (sr_O p q r * sr_K r i j k)) := by
      rw [← sr_s_sub]
      refine sr_s_congr fun r _ => ?_
      rw [← pk_mul, ← pk_mul]
      show (nI (sr_E p q r) - nI (sr_O p q r)) * _ = _
      grind
    rw [e2, ← e]
    grind
  · rw [sr_Cv_n h]
    refine (sr_s_0 fun r _ => ?_).symm
    by_cases e : sr_z p + sr_z q = sr_z r
    · rw [sr_K_n (s := r) (by omega)]; exact Int32.mul_zero
    · rw [sr_N_n e]; exact Int32.zero_mul
/-- the product of two elements: what the component gathers is what the reference multiplies -/
theorem sr_main {c d : Nat → Int32} (h : ∀ q, q < 53 → ∀ p, p < 53 → c q ≠ 0 → d p ≠ 0 → sr_z p + sr_z q ≤ 9) (i j k : Nat) : sr_V (sr_T c) (sr_T d) i j k = sr_T (fun r => sr_s 53 (fun p => sr_s 53 (fun q => (d p * c q) * sr_N p q r))) i j k := by
  rw [sr_T_sum, sr_V_comm]
  refine (sr_V_lin 53 d sr_Q (sr_T c) i j k).trans (sr_s_congr fun p hp => ?_)
  rw [sr_T_sum, sr_V_comm]
  refine (congrArg (d p * ·) (sr_V_lin 53 c sr_Q (sr_Q p) i j k)).trans ?_
  show d p * _ = _
  rw [← sr_s_mul]
  refine sr_s_congr fun q hq => ?_
  rw [sr_V_comm, sr_T_mul, ← Int32.mul_assoc]
  by_cases hc : c q = 0
  · rw [hc, Int32.mul_zero, Int32.zero_mul, Int32.zero_mul]
  by_cases hd : d p = 0
  · rw [hd, Int32.zero_mul, Int32.zero_mul, Int32.zero_mul]
  rw [sr_LR hp hq (h q hq p hp hc hd)]
/-- what 'before' takes out -/
theorem sr_bef {c : Nat → Int32} {s : Nat} (hs : s < 53) : sr_s 53 (fun t => c t * (nI (sr_Bp t s) - nI (sr_Bm t s))) = c s := by
  rw [sr_s_one hs]
  · rw [sr_f7 hs hs, sr_bt rfl, ← nI_add]
    show c s * (nI (sr_Bm s s) + 1 - nI (sr_Bm s s)) = c s
    grind
  · intro t ht hts
    rw [sr_f7 ht hs, sr_bf hts]
    show c t * (nI (sr_Bm t s + 0) - nI (sr_Bm t s)) = 0
    rw [Nat.add_zero]
    grind
theorem sr_D_y {s u i v j w k : Nat} (h1 : i ≤ u) (h2 : j ≤ v) (h3 : k ≤ w) : sr_D s u i v j w k = sr_K s (u - i) (v - j) (w - k) := by
  show cond (Nat.ble i u) (cond (Nat.ble j v) (cond (Nat.ble k w) _ 0) 0) 0 = _
  rw [sr_lt h1, sr_lt h2, sr_lt h3]
  rfl
theorem sr_D_n {s u i v j w k : Nat} (h : ¬ (i ≤ u ∧ j ≤ v ∧ k ≤ w)) : sr_D s u i v j w k = 0 := by
  show cond (Nat.ble i u) (cond (Nat.ble j v) (cond (Nat.ble k w) _ 0) 0) 0 = _
  by_cases h1 : i ≤ u
  · rw [sr_lt h1]
    by_cases h2 : j ≤ v
    · rw [sr_lt h2, sr_lf (fun h3 => h ⟨h1, h2, h3⟩)]
      rfl
    · rw [sr_lf h2]
      rfl
  · rw [sr_lf h1]
    rfl
