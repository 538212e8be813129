/-! sums over the places -/
theorem sr_L1 (H : Nat → Int32) : sr_s 220 (fun t => H (sr_P t)) = sr_s 10 (fun i => sr_s (10 - i) (fun j => sr_s (10 - i - j) (fun k => H (100 * i + 10 * j + k)))) := by
  have e := sr_s_cat sr_h1 (fun t => H (sr_P t)) 10
  rw [sr_h1_e] at e
  refine e.trans ?_
  refine sr_s_congr fun i hi => ?_
  have e2 : sr_s (sr_h1 i) (fun k => H (sr_P (sr_zn i sr_h1 + k))) = _ := sr_s_cat (sr_h2 i) (fun m => H (sr_P (sr_zn i sr_h1 + m))) (10 - i)
  refine e2.trans ?_
  refine sr_s_congr fun j hj => ?_
  show sr_s (sr_h2 i j) (fun k => H (sr_P (sr_zn i sr_h1 + (sr_zn j (sr_h2 i) + k)))) = sr_s (sr_h2 i j) (fun k => H (100 * i + 10 * j + k))
  refine sr_s_congr fun k hk => ?_
  exact congrArg H (sr_f10 hi hj hk)
theorem sr_trunc3 (H : Nat → Nat → Nat → Int32) {i j k : Nat} (h : i + j + k ≤ 9) (hz : ∀ a b c, ¬ (a ≤ i ∧ b ≤ j ∧ c ≤ k) → H a b c = 0) : sr_s 10 (fun a => sr_s (10 - a) (fun b => sr_s (10 - a - b) (fun c => H a b c))) = sr_s (i + 1) (fun a => sr_s (j + 1) (fun b => sr_s (k + 1) (fun c => H a b c))) := by
  have e1 := sr_s_trunc (f := fun a => sr_s (10 - a) (fun b => sr_s (10 - a - b) (fun c => H a b c))) (m := i + 1) (n := 10) (by omega) (fun a h1 _ => sr_s_0 (f := fun b => sr_s (10 - a - b) (fun c => H a b c)) fun b _ => sr_s_0 (f := fun c => H a b c) fun c _ => hz a b c (by omega))
  refine e1.trans (sr_s_congr fun a ha => ?_)
  have e2 := sr_s_trunc (f := fun b => sr_s (10 - a - b) (fun c => H a b c)) (m := j + 1) (n := 10 - a) (by omega) (fun b h1 _ => sr_s_0 (f := fun c => H a b c) fun c _ => hz a b c (by omega))
  refine e2.trans (sr_s_congr fun b hb => ?_)
  exact sr_s_trunc (f := fun c => H a b c) (m := k + 1) (n := 10 - a - b) (by omega) (fun c h1 _ => hz a b c (by omega))
theorem sr_digits {i j k : Nat} (h : i + j + k ≤ 9) : (100 * i + 10 * j + k) / 100 = i ∧ (100 * i + 10 * j + k) / 10 % 10 = j ∧ (100 * i + 10 * j + k) % 10 = k := by
  have d1 : (100 * i + 10 * j + k) / 100 = i := by omega
  have d2 : (100 * i + 10 * j + k) / 10 = 10 * i + j := by omega
  have d3 : (100 * i + 10 * j + k) % 10 = k := by omega
  have d4 : (10 * i + j) % 10 = j := by omega
  exact ⟨d1, by rw [d2, d4], d3⟩
theorem sr_dig_eq {i j k a b c x y z : Nat} (h : a + b + c + (x + y + z) ≤ 9) (h2 : i + j + k ≤ 9) (e : 100 * a + 10 * b + c + (100 * x + 10 * y + z) = 100 * i + 10 * j + k) : a + x = i ∧ b + y = j ∧ c + z = k := by
  have e' : 100 * (a + x) + 10 * (b + y) + (c + z) = 100 * i + 10 * j + k := by omega
  have d := sr_digits (i := a + x) (j := b + y) (k := c + z) (by omega)
  have d' := sr_digits h2
  rw [e'] at d
  exact ⟨d.1.symm.trans d'.1, d.2.1.symm.trans d'.2.1, d.2.2.symm.trans d'.2.2⟩
def sr_H (A B : Nat → Int32) (i j k a b c : Nat) : Int32 := if a ≤ i ∧ b ≤ j ∧ c ≤ k then A (100 * a + 10 * b + c) * B (100 * (i - a) + 10 * (j - b) + (k - c)) else 0
theorem sr_conv1 (A B : Nat → Int32) {i j k : Nat} (h : i + j + k ≤ 9) {s : Nat} (hs : s < 220) : sr_s 220 (fun t => if sr_dg (sr_P s) + sr_dg (sr_P t) ≤ 9 ∧ sr_P s + sr_P t = 100 * i + 10 * j + k then A (sr_P s) * B (sr_P t) else 0) = sr_H A B i j k (sr_P s / 100) (sr_P s / 10 % 10) (sr_P s % 10) := by
  obtain ⟨a, b, c, h', ep, ed⟩ := sr_place hs
  rw [ed, ep]
  obtain ⟨d1, d2, d3⟩ := sr_digits h'
  rw [d1, d2, d3]
  clear ed ep d1 d2 d3
  unfold sr_H
  by_cases hc : a ≤ i ∧ b ≤ j ∧ c ≤ k
  · rw [if_pos hc]
    obtain ⟨t, ht, et⟩ := sr_at (i := i - a) (j := j - b) (k := k - c) (by omega)
    have e2 : sr_dg (sr_P t) = i - a + (j - b) + (k - c) := by rw [et]; exact sr_dg_e _ _ _ (by omega)
    refine (sr_s_one (f := fun t => if a + b + c + sr_dg (sr_P t) ≤ 9 ∧ 100 * a + 10 * b + c + sr_P t = 100 * i + 10 * j + k then A (100 * a + 10 * b + c) * B (sr_P t) else 0) ht ?_).trans ?_
    · intro u hu hne
      refine if_neg fun z => hne (sr_P_inj hu ht ?_)
      have := z.2
      omega
    · rw [e2, et]
      exact if_pos ⟨by omega, by omega⟩
  · rw [if_neg hc]
    refine sr_s_0 fun t ht => if_neg fun z => hc ?_
    obtain ⟨x, y, w, h2, ep2, ed2⟩ := sr_place ht
    rw [ed2, ep2] at z
    have := sr_dig_eq z.1 h z.2
    omega
/-- the reference's double loop is the product -/
theorem sr_conv (A B : Nat → Int32) {i j k : Nat} (h : i + j + k ≤ 9) : sr_s 220 (fun s => sr_s 220 (fun t => if sr_dg (sr_P s) + sr_dg (sr_P t) ≤ 9 ∧ sr_P s + sr_P t = 100 * i + 10 * j + k then A (sr_P s) * B (sr_P t) else 0)) = sr_V (fun i j k => A (100 * i + 10 * j + k)) (fun i j k => B (100 * i + 10 * j + k)) i j k := by
  refine (sr_s_congr fun s hs => sr_conv1 A B h hs).trans ?_
  refine (sr_L1 (fun p => sr_H A B i j k (p / 100) (p / 10 % 10) (p % 10))).trans ?_
  have e0 : sr_s 10 (fun a => sr_s (10 - a) (fun b => sr_s (10 - a - b) (fun c => sr_H A B i j k ((100 * a + 10 * b + c) / 100) ((100 * a + 10 * b + c) / 10 % 10) ((100 * a + 10 * b + c) % 10)))) = sr_s 10 (fun a => sr_s (10 - a) (fun b => sr_s (10 - a - b) (fun c => sr_H A B i j k a b c))) := by
    refine sr_s_congr fun a ha => sr_s_congr fun b hb => sr_s_congr fun c hc => ?_
    obtain ⟨d1, d2, d3⟩ := sr_digits (i := a) (j := b) (k := c) (by omega)
    rw [d1, d2, d3]
  refine e0.trans ((sr_trunc3 (sr_H A B i j k) h (fun a b c hn => if_neg hn)).trans ?_)
  unfold sr_V
  refine sr_s_congr fun a ha => sr_s_congr fun b hb => sr_s_congr fun c hc => ?_
  exact if_pos (by omega)
