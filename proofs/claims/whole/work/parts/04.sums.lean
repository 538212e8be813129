/-! sums of ints -/
def sr_s : Nat → (Nat → Int32) → Int32
  | 0, _ => 0
  | n + 1, f => sr_s n f + f n
theorem sr_s_congr {f g : Nat → Int32} : ∀ {n : Nat}, (∀ i, i < n → f i = g i) → sr_s n f = sr_s n g := by
  intro n
  induction n with
  | zero => intro _; rfl
  | succ n ih =>
    intro h
    show sr_s n f + f n = sr_s n g + g n
    rw [ih (fun i hi => h i (by omega)), h n (by omega)]
theorem sr_s_0 {f : Nat → Int32} : ∀ {n : Nat}, (∀ i, i < n → f i = 0) → sr_s n f = 0 := by
  intro n
  induction n with
  | zero => intro _; rfl
  | succ n ih =>
    intro h
    show sr_s n f + f n = 0
    rw [ih (fun i hi => h i (by omega)), h n (by omega)]
    rfl
theorem sr_s_add (f g : Nat → Int32) : ∀ n : Nat, sr_s n (fun i => f i + g i) = sr_s n f + sr_s n g := by
  intro n
  induction n with
  | zero => rfl
  | succ n ih =>
    show sr_s n (fun i => f i + g i) + (f n + g n) = (sr_s n f + f n) + (sr_s n g + g n)
    rw [ih]
    grind
theorem sr_s_sub (f g : Nat → Int32) : ∀ n : Nat, sr_s n (fun i => f i - g i) = sr_s n f - sr_s n g := by
  intro n
  induction n with
  | zero => exact (show (0 : Int32) = 0 - 0 by decide)
  | succ n ih =>
    show sr_s n (fun i => f i - g i) + (f n - g n) = (sr_s n f + f n) - (sr_s n g + g n)
    rw [ih]
    grind
theorem sr_s_mul (c : Int32) (f : Nat → Int32) : ∀ n : Nat, sr_s n (fun i => c * f i) = c * sr_s n f := by
  intro n
  induction n with
  | zero => exact (Int32.mul_zero (a := c)).symm
  | succ n ih =>
    show sr_s n (fun i => c * f i) + c * f n = c * (sr_s n f + f n)
    rw [ih]
    grind
theorem sr_s_mulr (c : Int32) (f : Nat → Int32) (n : Nat) : sr_s n (fun i => f i * c) = sr_s n f * c := by
  rw [Int32.mul_comm (sr_s n f) c, ← sr_s_mul]
  exact sr_s_congr fun i _ => Int32.mul_comm _ _
theorem sr_s_swap (f : Nat → Nat → Int32) (m : Nat) : ∀ n : Nat, sr_s n (fun i => sr_s m (fun j => f i j)) = sr_s m (fun j => sr_s n (fun i => f i j)) := by
  intro n
  induction n with
  | zero => exact (sr_s_0 (fun _ _ => rfl)).symm
  | succ n ih =>
    show sr_s n (fun i => sr_s m (fun j => f i j)) + sr_s m (fun j => f n j) = sr_s m (fun j => sr_s n (fun i => f i j) + f n j)
    rw [sr_s_add, ih]
theorem sr_s_one {f : Nat → Int32} {t : Nat} : ∀ {n : Nat}, t < n → (∀ i, i < n → i ≠ t → f i = 0) → sr_s n f = f t := by
  intro n
  induction n with
  | zero => intro h; exact absurd h (Nat.not_lt_zero t)
  | succ n ih =>
    intro ht h
    show sr_s n f + f n = f t
    by_cases e : t = n
    · subst e
      rw [sr_s_0 (fun i hi => h i (by omega) (by omega)), Int32.zero_add]
    · rw [h n (by omega) (by omega), Int32.add_zero]
      exact ih (by omega) (fun i hi => h i (by omega))
theorem sr_s_trunc {f : Nat → Int32} {m : Nat} : ∀ {n : Nat}, m ≤ n → (∀ i, m ≤ i → i < n → f i = 0) → sr_s n f = sr_s m f := by
  intro n
  induction n with
  | zero => intro h _; rw [show m = 0 by omega]
  | succ n ih =>
    intro hm h
    by_cases e : m = n + 1
    · rw [e]
    · show sr_s n f + f n = _
      rw [h n (by omega) (by omega), Int32.add_zero]
      exact ih (by omega) (fun i h1 h2 => h i h1 (by omega))
theorem sr_s_split (f : Nat → Int32) (n : Nat) : ∀ m : Nat, sr_s (n + m) f = sr_s n f + sr_s m (fun i => f (n + i)) := by
  intro m
  induction m with
  | zero => exact (Int32.add_zero _).symm
  | succ m ih =>
    show sr_s (n + m) f + f (n + m) = sr_s n f + (sr_s m (fun i => f (n + i)) + f (n + m))
    rw [ih, Int32.add_assoc]
theorem sr_s_cat (h : Nat → Nat) (f : Nat → Int32) : ∀ n : Nat, sr_s (sr_zn n h) f = sr_s n (fun i => sr_s (h i) (fun k => f (sr_zn i h + k))) := by
  intro n
  induction n with
  | zero => rfl
  | succ n ih =>
    rw [sr_zn_s, sr_s_split, ih]
    rfl
theorem sr_s_front (f : Nat → Int32) (n : Nat) : sr_s (n + 1) f = f 0 + sr_s n (fun i => f (i + 1)) := by
  rw [Nat.add_comm n 1, sr_s_split]
  have e : sr_s 1 f = f 0 := Int32.zero_add _
  rw [e]
  exact congrArg (f 0 + ·) (sr_s_congr fun i _ => by rw [Nat.add_comm])
theorem sr_s_rev : ∀ (n : Nat) (f : Nat → Int32), sr_s (n + 1) (fun i => f (n - i)) = sr_s (n + 1) f := by
  intro n
  induction n with
  | zero => intro f; rfl
  | succ n ih =>
    intro f
    rw [sr_s_front]
    have e : sr_s (n + 1) (fun i => f (n + 1 - (i + 1))) = sr_s (n + 1) (fun i => f (n - i)) := sr_s_congr fun i _ => by rw [Nat.add_sub_add_right]
    rw [e, ih f]
    show f (n + 1 - 0) + sr_s (n + 1) f = sr_s (n + 1) f + f (n + 1)
    rw [Nat.sub_zero, Int32.add_comm]
theorem sr_s_nI (f : Nat → Nat) : ∀ n : Nat, nI (sr_zn n f) = sr_s n (fun i => nI (f i)) := by
  intro n
  induction n with
  | zero => rfl
  | succ n ih =>
    rw [sr_zn_s, ← nI_add, ih]
    rfl
theorem sr_s_pull (m n : Nat) (c : Nat → Int32) (H : Nat → Nat → Int32) : sr_s m (fun x => sr_s n (fun q => c q * H q x)) = sr_s n (fun q => c q * sr_s m (fun x => H q x)) := by
  rw [sr_s_swap]
  exact sr_s_congr fun q _ => sr_s_mul _ _ _
/-! facts out of the checks -/
theorem sr_bt {x y : Nat} (h : x = y) : Nat.beq x y = true := by rw [h]; exact Nat.beq_refl y
theorem sr_bf {x y : Nat} (h : x ≠ y) : Nat.beq x y = false := by
  cases e : Nat.beq x y with
  | false => rfl
  | true => exact absurd (Nat.eq_of_beq_eq_true e) h
theorem sr_lt {x y : Nat} (h : x ≤ y) : Nat.ble x y = true := Nat.ble_eq_true_of_le h
theorem sr_lf {x y : Nat} (h : ¬ x ≤ y) : Nat.ble x y = false := by
  cases e : Nat.ble x y with
  | false => rfl
  | true => exact absurd (Nat.le_of_ble_eq_true e) h
theorem sr_f1 {s : Nat} (hs : s < 53) : sr_z s = sr_a s + sr_b s + sr_c s ∧ sr_z s ≤ 9 ∧ sr_b s ≤ sr_a s ∧ sr_c s ≤ sr_b s ∧ sr_ix (sr_cd s) = s ∧ sr_iS (sr_cd s) = true ∧ sr_cd s ≤ 999 := by
  have h := sr_al_e sr_q1_t s hs
  obtain ⟨h1, h⟩ := sr_c_f h
  obtain ⟨h2, h⟩ := sr_c_f h
  obtain ⟨h3, h⟩ := sr_c_f h
  obtain ⟨h4, h⟩ := sr_c_f h
  obtain ⟨h5, h⟩ := sr_c_f h
  obtain ⟨h6, h7⟩ := sr_c_f h
  exact ⟨Nat.eq_of_beq_eq_true h1, Nat.le_of_ble_eq_true h2, Nat.le_of_ble_eq_true h3, Nat.le_of_ble_eq_true h4, Nat.eq_of_beq_eq_true h5, h6, Nat.le_of_ble_eq_true h7⟩
theorem sr_cd_inj {s t : Nat} (hs : s < 53) (ht : t < 53) (h : sr_cd s = sr_cd t) : s = t := by
  have a := (sr_f1 hs).2.2.2.2.1
  have b := (sr_f1 ht).2.2.2.2.1
  rw [← a, ← b, h]
theorem sr_cd_e (s : Nat) : sr_cd s = sr_a s + 10 * sr_b s + 100 * sr_c s := rfl
theorem sr_cd_digits {s : Nat} (hs : s < 53) : sr_cd s % 10 = sr_a s ∧ sr_cd s / 10 % 10 = sr_b s ∧ sr_cd s / 100 = sr_c s := by
  obtain ⟨h1, h2, h3, h4, _⟩ := sr_f1 hs
  have e1 : sr_cd s / 10 = sr_b s + 10 * sr_c s := by rw [sr_cd_e]; omega
  have e2 : sr_cd s / 100 = sr_c s := by rw [sr_cd_e]; omega
  have e3 : sr_cd s % 10 = sr_a s := by rw [sr_cd_e]; omega
  exact ⟨e3, by rw [e1]; omega, e2⟩
theorem sr_f2 {n : Nat} (hn : n < 1000) (h : sr_iS n = true) : sr_cd (sr_ix n) = n ∧ sr_ix n < 53 ∧ sr_yc (sr_mc n) = n ∧ sr_mc n < 53 := by
  have h := sr_c_t (sr_al_e sr_q2_t n hn) h
  obtain ⟨h1, h⟩ := sr_c_f h
  obtain ⟨h2, h⟩ := sr_c_f h
  obtain ⟨h3, h4⟩ := sr_c_f h
  exact ⟨Nat.eq_of_beq_eq_true h1, Nat.lt_succ_of_le (Nat.le_of_ble_eq_true h2), Nat.eq_of_beq_eq_true h3, Nat.lt_succ_of_le (Nat.le_of_ble_eq_true h4)⟩
theorem sr_f3 {t : Nat} (ht : t < 53) : sr_pi t < 53 ∧ sr_yc t = sr_cd (sr_pi t) ∧ sr_zn 53 (fun t' => cond (Nat.beq (sr_pi t') t) 1 0) = 1 := by
  have h := sr_al_e sr_q3_t t ht
  obtain ⟨h1, h⟩ := sr_c_f h
  obtain ⟨h2, h3⟩ := sr_c_f h
  exact ⟨Nat.lt_succ_of_le (Nat.le_of_ble_eq_true h1), Nat.eq_of_beq_eq_true h2, Nat.eq_of_beq_eq_true h3⟩
theorem sr_f4 {p : Nat} (hp : p < 1000) (h : sr_dg p ≤ 9) : sr_P (sr_np p) = p ∧ sr_np p < 220 := by
  have h := sr_c_t (sr_al_e sr_q4_t p hp) (sr_lt h)
  obtain ⟨h1, h2⟩ := sr_c_f h
  exact ⟨Nat.eq_of_beq_eq_true h1, Nat.lt_succ_of_le (Nat.le_of_ble_eq_true h2)⟩
theorem sr_f5 {t : Nat} (ht : t < 220) : sr_P t < 1000 ∧ sr_dg (sr_P t) ≤ 9 ∧ sr_np (sr_P t) = t := by
  have h := sr_al_e sr_q5_t t ht
  obtain ⟨h1, h⟩ := sr_c_f h
  obtain ⟨h2, h3⟩ := sr_c_f h
  exact ⟨Nat.lt_succ_of_le (Nat.le_of_ble_eq_true h1), Nat.le_of_ble_eq_true h2, Nat.eq_of_beq_eq_true h3⟩
theorem sr_f6 {a b c : Nat} (ha : a < 10) (hb : b ≤ a) (hc : c ≤ b) (h : a + b + c ≤ 9) : sr_n3 a b c < 53 ∧ sr_a (sr_n3 a b c) = a ∧ sr_b (sr_n3 a b c) = b ∧ sr_c (sr_n3 a b c) = c := by
  have h := sr_c_t (sr_al_e (sr_al_e (sr_al_e sr_q6_t a ha) b (Nat.lt_succ_of_le hb)) c (Nat.lt_succ_of_le hc)) (sr_lt h)
  obtain ⟨h1, h⟩ := sr_c_f h
  obtain ⟨h2, h⟩ := sr_c_f h
  obtain ⟨h3, h4⟩ := sr_c_f h
  exact ⟨Nat.lt_succ_of_le (Nat.le_of_ble_eq_true h1), Nat.eq_of_beq_eq_true h2, Nat.eq_of_beq_eq_true h3, Nat.eq_of_beq_eq_true h4⟩
theorem sr_f7 {t s : Nat} (ht : t < 53) (hs : s < 53) : sr_Bp t s = sr_Bm t s + cond (Nat.beq t s) 1 0 :=
  Nat.eq_of_beq_eq_true (sr_al_e (sr_al_e sr_q7_t t ht) s hs)
theorem sr_f8 {s i j k : Nat} (hs : s < 53) (h : i + j + k ≤ 9) : sr_G (sr_a s) (sr_b s) (sr_c s) (100 * i + 10 * j + k) = sr_K s i j k :=
  Nat.eq_of_beq_eq_true (sr_al_e (sr_al_e (sr_al_e (sr_al_e sr_q8_t s hs) i (by omega)) j (show j < 10 - i by omega)) k (show k < 10 - i - j by omega))
theorem sr_f10 {i j k : Nat} (hi : i < 10) (hj : j < 10 - i) (hk : k < 10 - i - j) : sr_P (sr_zn i sr_h1 + (sr_zn j (sr_h2 i) + k)) = 100 * i + 10 * j + k :=
  Nat.eq_of_beq_eq_true (sr_al_e (sr_al_e (sr_al_e sr_q10_t i hi) j hj) k hk)
theorem sr_P_inj {t u : Nat} (ht : t < 220) (hu : u < 220) (h : sr_P t = sr_P u) : t = u := by
  rw [← (sr_f5 ht).2.2, ← (sr_f5 hu).2.2, h]
theorem sr_dg_e (i j k : Nat) (h : i + j + k ≤ 9) : sr_dg (100 * i + 10 * j + k) = i + j + k := by
  show (100 * i + 10 * j + k) / 100 + (100 * i + 10 * j + k) / 10 % 10 + (100 * i + 10 * j + k) % 10 = i + j + k
  have e1 : (100 * i + 10 * j + k) / 10 = 10 * i + j := by omega
  have e2 : (100 * i + 10 * j + k) / 100 = i := by omega
  have e3 : (100 * i + 10 * j + k) % 10 = k := by omega
  rw [e1, e2, e3]
  omega
/-- a place is three exponents -/
theorem sr_place {t : Nat} (ht : t < 220) : ∃ i j k : Nat, i + j + k ≤ 9 ∧ sr_P t = 100 * i + 10 * j + k ∧ sr_dg (sr_P t) = i + j + k := by
  obtain ⟨h1, h2, _⟩ := sr_f5 ht
  refine ⟨sr_P t / 100, sr_P t / 10 % 10, sr_P t % 10, h2, by omega, rfl⟩
theorem sr_at {i j k : Nat} (h : i + j + k ≤ 9) : ∃ t : Nat, t < 220 ∧ sr_P t = 100 * i + 10 * j + k := by
  have := sr_f4 (p := 100 * i + 10 * j + k) (by omega) (by rw [sr_dg_e i j k h]; exact h)
  exact ⟨_, this.2, this.1⟩
theorem sr_perm (f : Nat → Int32) : sr_s 53 (fun t => f (sr_pi t)) = sr_s 53 f := by
  have e1 : sr_s 53 (fun t => f (sr_pi t)) = sr_s 53 (fun t => sr_s 53 (fun s => f s * nI (cond (Nat.beq (sr_pi t) s) 1 0))) := by
    refine sr_s_congr fun t ht => ?_
    rw [sr_s_one (t := sr_pi t) (sr_f3 ht).1 ?_]
    · rw [sr_bt rfl]
      exact (Int32.mul_one _).symm
    · intro i _ hi
      rw [sr_bf (Ne.symm hi)]
      exact Int32.mul_zero
  rw [e1, sr_s_swap]
  refine sr_s_congr fun s hs => ?_
  rw [sr_s_mul, ← sr_s_nI (fun t => cond (Nat.beq (sr_pi t) s) 1 0), (sr_f3 hs).2.2]
  exact Int32.mul_one _
