/-! the reference: term, before, highest, value -/
def sr_B (o : Nat) (tm c : Nat → Int32) : Prop := ∀ i j k, i + j + k ≤ 9 → tm (o + (100 * i + 10 * j + k)) = sr_T c i j k
def sr_TD (c : Nat → Int32) (u i v j w k : Nat) : Int32 := sr_s 53 (fun t => c t * nI (sr_D t u i v j w k))
theorem sr_TD_y {c : Nat → Int32} {u i v j w k : Nat} (h1 : i ≤ u) (h2 : j ≤ v) (h3 : k ≤ w) : sr_TD c u i v j w k = sr_T c (u - i) (v - j) (w - k) :=
  sr_s_congr fun t _ => by rw [sr_D_y h1 h2 h3]
theorem sr_TD_n {c : Nat → Int32} {u i v j w k : Nat} (h : ¬ (i ≤ u ∧ j ≤ v ∧ k ≤ w)) : sr_TD c u i v j w k = 0 :=
  sr_s_0 fun t _ => by rw [sr_D_n h]; exact Int32.mul_zero
theorem sr_term0 {post : Int32 → Prop} {tm ys : Nat → Int32} {o i j k : Nat} (ho : o ≤ 4000) (hz : i + j + k ≤ 9) (h : post (tm (o + (100 * i + 10 * j + k)))) : wpY_term post (tm, sr_yP, sr_yC, ys) (nI o) (nI i) (nI j) (nI k) := by
  refine br_f (nI_pos (by omega)) (br_f (nI_pos (by omega)) (br_f (nI_pos (by omega)) (br_f (nI_nlt (a := 9) (by omega) (by decide)) (br_f (nI_nlt (a := 9) (by omega) (by decide)) (br_f (nI_nlt (a := 9) (by omega) (by decide)) ?_)))))
  rw [nI_add i j, nI_add (i + j) k]
  refine br_t (nI_le (b := 9) (by omega) (by decide)) ?_
  have e1 : (100 : Int32) * nI i = nI (100 * i) := pk_mul 100 i
  have e2 : (10 : Int32) * nI j = nI (10 * j) := pk_mul 10 j
  rw [e1, e2, nI_add, nI_add, nI_add, nI_clamp (by omega)]
  rw [show o + 100 * i + 10 * j + k = o + (100 * i + 10 * j + k) by omega]
  exact ⟨vp_in_nI (by omega) (by decide), h⟩
theorem sr_term {post : Int32 → Prop} {tm ys c : Nat → Int32} {o u i v j w k z : Nat} {p1 p2 p3 : Int32} (R : sr_B o tm c) (ho : o ≤ 4000) (e1 : p1 = nI u - nI i) (e2 : p2 = nI v - nI j) (e3 : p3 = nI w - nI k) (hi : i ≤ 2) (hj : j ≤ 2) (hk : k ≤ 2) (hz : z ≤ 9) (hs : u + v + w = i + j + k + z) (h : post (sr_TD c u i v j w k)) : wpY_term post (tm, sr_yP, sr_yC, ys) (nI o) p1 p2 p3 := by
  subst e1 e2 e3
  by_cases h1 : i ≤ u
  · rw [pk_sub h1]
    by_cases h2 : j ≤ v
    · rw [pk_sub h2]
      by_cases h3 : k ≤ w
      · rw [pk_sub h3]
        refine sr_term0 ho (by omega) ?_
        rw [R _ _ _ (by omega), ← sr_TD_y h1 h2 h3]
        exact h
      · rw [sr_TD_n (fun z => h3 z.2.2)] at h
        exact br_f (nI_pos (by omega)) (br_f (nI_pos (by omega)) (br_t (pk_sneg (by omega) (by omega)) h))
    · rw [sr_TD_n (fun z => h2 z.2.1)] at h
      exact br_f (nI_pos (by omega)) (br_t (pk_sneg (by omega) (by omega)) h)
  · rw [sr_TD_n (fun z => h1 z.1)] at h
    exact br_t (pk_sneg (by omega) (by omega)) h
theorem sr_six (c : Nat → Int32) {s : Nat} (hs : s < 53) : (sr_TD c (sr_a s) 0 (sr_b s) 0 (sr_c s) 0 + sr_TD c (sr_a s + 1) 0 (sr_b s + 1) 0 (sr_c s) 2 + sr_TD c (sr_a s + 2) 0 (sr_b s) 1 (sr_c s) 1) - (sr_TD c (sr_a s) 0 (sr_b s + 1) 0 (sr_c s) 1 + sr_TD c (sr_a s + 1) 0 (sr_b s) 1 (sr_c s) 0 + sr_TD c (sr_a s + 2) 0 (sr_b s) 0 (sr_c s) 2) = c s := by
  rw [← sr_bef (c := c) hs]
  unfold sr_TD
  rw [← sr_s_add, ← sr_s_add, ← sr_s_add, ← sr_s_add, ← sr_s_sub]
  refine sr_s_congr fun t _ => ?_
  have e1 : nI (sr_Bp t s) = nI (sr_D t (sr_a s) 0 (sr_b s) 0 (sr_c s) 0) + nI (sr_D t (sr_a s + 1) 0 (sr_b s + 1) 0 (sr_c s) 2) + nI (sr_D t (sr_a s + 2) 0 (sr_b s) 1 (sr_c s) 1) := by
    rw [nI_add, nI_add]; rfl
  have e2 : nI (sr_Bm t s) = nI (sr_D t (sr_a s) 0 (sr_b s + 1) 0 (sr_c s) 1) + nI (sr_D t (sr_a s + 1) 0 (sr_b s) 1 (sr_c s) 0) + nI (sr_D t (sr_a s + 2) 0 (sr_b s) 0 (sr_c s) 2) := by
    rw [nI_add, nI_add]; rfl
  rw [e1, e2]
  grind
theorem sr_m0 (n : Nat) : nI n = nI n - nI 0 := (Int32.sub_zero _).symm
theorem sr_before {post : Int32 → Prop} {tm ys c : Nat → Int32} {o s : Nat} (R : sr_B o tm c) (ho : o ≤ 4000) (hs : s < 53) (h : post (c s)) : wpY_before post (tm, sr_yP, sr_yC, ys) (nI o) (nI (sr_cd s)) := by
  obtain ⟨h1, h2, h3, h4, _, _, h7⟩ := sr_f1 hs
  obtain ⟨d1, d2, d3⟩ := sr_cd_digits hs
  obtain ⟨e1, e2, e3, e4⟩ := sr_div (p := sr_cd s) (by omega)
  rw [d3] at e1
  rw [d1] at e3
  rw [d2] at e4
  have k1 : ∀ n : Nat, nI n + 1 = nI (n + 1) - nI 0 := fun n => by rw [← sr_m0]; exact nI_1 n
  have k2 : ∀ n : Nat, nI n + 2 = nI (n + 2) - nI 0 := fun n => by rw [← sr_m0]; exact nI_add n 2
  refine ⟨by decide, nm_r e3 ⟨by decide, by decide, nm_r e4 ⟨by decide, nm_r e1 ?_⟩⟩⟩
  refine sr_term (z := sr_z s) R ho (sr_m0 _) (sr_m0 _) (sr_m0 _) (by omega) (by omega) (by omega) h2 (by omega) ?_
  refine sr_term (z := sr_z s) R ho (k1 _) (k1 _) (k := 2) rfl (by omega) (by omega) (by omega) h2 (by omega) ?_
  refine sr_term (z := sr_z s) R ho (k2 _) (j := 1) rfl (k := 1) rfl (by omega) (by omega) (by omega) h2 (by omega) ?_
  refine nm_e ?_
  refine sr_term (z := sr_z s) R ho (sr_m0 _) (k1 _) (k := 1) rfl (by omega) (by omega) (by omega) h2 (by omega) ?_
  refine sr_term (z := sr_z s) R ho (k1 _) (j := 1) rfl (sr_m0 _) (by omega) (by omega) (by omega) h2 (by omega) ?_
  refine sr_term (z := sr_z s) R ho (k2 _) (sr_m0 _) (k := 2) rfl (by omega) (by omega) (by omega) h2 (by omega) ?_
  refine nm_e ?_
  rw [sr_six c hs]
  exact h
/-! the greatest size -/
def sr_top (nz : Nat → Prop) (r : Int32) : Prop := (r = -4 ∧ ∀ d, d ≤ 9 → ¬ nz d) ∨ (∃ d, d ≤ 9 ∧ r = nI d ∧ nz d ∧ ∀ d', d' ≤ 9 → nz d' → d' ≤ d)
def sr_nz (D : Nat → Nat) (P : Nat → Prop) (t d : Nat) : Prop := ∃ t', t' < t ∧ D t' = d ∧ P t'
theorem sr_top_0 {D : Nat → Nat} {P : Nat → Prop} : sr_top (sr_nz D P 0) (-4) :=
  Or.inl ⟨rfl, fun d _ ⟨t, ht, _⟩ => absurd ht (Nat.not_lt_zero t)⟩
theorem sr_nz_s {D : Nat → Nat} {P : Nat → Prop} {t d : Nat} : sr_nz D P (t + 1) d ↔ sr_nz D P t d ∨ (D t = d ∧ P t) := by
  constructor
  · rintro ⟨t', ht, h1, h2⟩
    by_cases e : t' = t
    · subst e; exact Or.inr ⟨h1, h2⟩
    · exact Or.inl ⟨t', by omega, h1, h2⟩
  · rintro (⟨t', ht, h1, h2⟩ | ⟨h1, h2⟩)
    · exact ⟨t', by omega, h1, h2⟩
    · exact ⟨t, by omega, h1, h2⟩
theorem sr_top_congr {nz nz' : Nat → Prop} {r : Int32} (h : ∀ d, d ≤ 9 → (nz d ↔ nz' d)) (H : sr_top nz r) : sr_top nz' r := by
  rcases H with ⟨h1, h2⟩ | ⟨d, h1, h2, h3, h4⟩
  · exact Or.inl ⟨h1, fun d hd z => h2 d hd ((h d hd).mpr z)⟩
  · exact Or.inr ⟨d, h1, h2, (h d h1).mp h3, fun d' hd z => h4 d' hd ((h d' hd).mpr z)⟩
theorem sr_top_skip {D : Nat → Nat} {P : Nat → Prop} {t : Nat} {r : Int32} (hP : ¬ P t) (H : sr_top (sr_nz D P t) r) : sr_top (sr_nz D P (t + 1)) r :=
  sr_top_congr (fun d _ => ⟨fun z => sr_nz_s.mpr (Or.inl z), fun z => (sr_nz_s.mp z).elim id (fun q => absurd q.2 hP)⟩) H
theorem sr_top_low {D : Nat → Nat} {P : Nat → Prop} {t : Nat} {r : Int32} (hD : D t ≤ 9) (hP : P t) (hr : nI (D t) ≤ r) (H : sr_top (sr_nz D P t) r) : sr_top (sr_nz D P (t + 1)) r := by
  rcases H with ⟨h1, h2⟩ | ⟨d, h1, h2, h3, h4⟩
  · subst h1
    have : ∀ n, n ≤ 9 → ¬ nI n ≤ (-4) := by decide
    exact absurd hr (this _ hD)
  · subst h2
    rw [nI_leI (by omega) (by omega)] at hr
    refine Or.inr ⟨d, h1, rfl, sr_nz_s.mpr (Or.inl h3), fun d' hd z => ?_⟩
    rcases sr_nz_s.mp z with q | ⟨q, _⟩
    · exact h4 d' hd q
    · omega
theorem sr_top_new {D : Nat → Nat} {P : Nat → Prop} {t : Nat} {r : Int32} (hD : D t ≤ 9) (hP : P t) (hr : ¬ nI (D t) ≤ r) (H : sr_top (sr_nz D P t) r) : sr_top (sr_nz D P (t + 1)) (nI (D t)) := by
  refine Or.inr ⟨D t, hD, rfl, sr_nz_s.mpr (Or.inr ⟨rfl, hP⟩), fun d' hd z => ?_⟩
  rcases sr_nz_s.mp z with q | ⟨q, _⟩
  · rcases H with ⟨h1, h2⟩ | ⟨d, h1, h2, h3, h4⟩
    · exact absurd q (h2 d' hd)
    · subst h2
      rw [nI_leI (by omega) (by omega)] at hr
      have := h4 d' hd q
      omega
  · omega
theorem sr_top_eq {nz nz' : Nat → Prop} {r r' : Int32} (h : ∀ d, d ≤ 9 → (nz d ↔ nz' d)) (H : sr_top nz r) (H' : sr_top nz' r') : r' = r := by
  have G := sr_top_congr h H
  rcases G with ⟨h1, h2⟩ | ⟨d, h1, h2, h3, h4⟩ <;> rcases H' with ⟨g1, g2⟩ | ⟨d', g1, g2, g3, g4⟩
  · rw [h1, g1]
  · exact absurd g3 (h2 d' g1)
  · exact absurd h3 (g2 d h1)
  · have a := h4 d' g1 g3
    have b := g4 d h1 h3
    rw [h2, g2, show d = d' by omega]
theorem sr_high {post : Int32 → Prop} {tm ys : Nat → Int32} {o : Nat} (ho : o ≤ 4000) (h : ∀ r, sr_top (sr_nz (fun t => sr_dg (sr_P t)) (fun t => tm (o + sr_P t) ≠ 0) 220) r → post r) : wpY_highest post (tm, sr_yP, sr_yC, ys) (nI o) := by
  refine loop_0 (fun n t r => wY_highest_5 post (nI o) tm sr_yP sr_yC ys n r (nI t)) (fun t r => sr_top (sr_nz (fun t => sr_dg (sr_P t)) (fun t => tm (o + sr_P t) ≠ 0) t) r) 220 (-4) sr_top_0 ?_ ?_
  · intro n r hr
    exact br_t (nI_le (a := 220) (b := 220) (by decide) (by decide)) (h r hr)
  · intro n t r ht hr ih
    have hP := (sr_f5 ht).1
    have hD := (sr_f5 ht).2.1
    refine br_f (nI_ge (b := 220) ht (by decide)) ⟨vp_in_nI ht (by decide), ?_⟩
    have ey : sr_yP (nI t).toNatClampNeg = nI (sr_P t) := by rw [nI_clamp (by omega)]; rfl
    rw [ey]
    refine sr_degOf hP ⟨vp_in_nI ht (by decide), ?_⟩
    rw [nI_add, nI_clamp (by omega)]
    refine ⟨vp_in_nI (by omega) (by decide), br_c (fun z => nm_r (nI_1 _) (ih _ (sr_top_skip (fun q => q z) hr))) (fun z => br_c (fun y => nm_r (nI_1 _) (ih _ (sr_top_low hD z y hr))) (fun y => nm_r (nI_1 _) (ih _ (sr_top_new hD z y hr))))⟩
/-- both sides' elements are empty in the same sizes -/
theorem sr_nz_eq {tm c : Nat → Int32} {o : Nat} (R : sr_B o tm c) (d : Nat) (hd : d ≤ 9) : sr_nz sr_z (fun s => c s ≠ 0) 53 d ↔ sr_nz (fun t => sr_dg (sr_P t)) (fun t => tm (o + sr_P t) ≠ 0) 220 d := by
  constructor
  · rintro ⟨s, hs, h1, h2⟩
    apply Classical.byContradiction
    intro H
    apply h2
    obtain ⟨z1, z2, z3, z4, _⟩ := sr_f1 hs
    have T0 : ∀ i j k, i + j + k = d → sr_T c i j k = 0 := by
      intro i j k e
      apply Classical.byContradiction
      intro H2
      obtain ⟨t, ht, et⟩ := sr_at (i := i) (j := j) (k := k) (by omega)
      refine H ⟨t, ht, ?_, ?_⟩
      · show sr_dg (sr_P t) = d
        rw [et, sr_dg_e _ _ _ (by omega)]
        exact e
      · show tm (o + sr_P t) ≠ 0
        rw [et, R _ _ _ (by omega)]
        exact H2
    have D0 : ∀ u i v j w k, u + v + w = i + j + k + d → sr_TD c u i v j w k = 0 := by
      intro u i v j w k e
      by_cases hf : i ≤ u ∧ j ≤ v ∧ k ≤ w
      · rw [sr_TD_y hf.1 hf.2.1 hf.2.2]
        exact T0 _ _ _ (by omega)
      · exact sr_TD_n hf
    rw [← sr_six c hs, D0 _ _ _ _ _ _ (by omega), D0 _ _ _ _ _ _ (by omega), D0 _ _ _ _ _ _ (by omega), D0 _ _ _ _ _ _ (by omega), D0 _ _ _ _ _ _ (by omega), D0 _ _ _ _ _ _ (by omega)]
    decide
  · rintro ⟨t, ht, h1, h2⟩
    apply Classical.byContradiction
    intro H
    apply h2
    obtain ⟨i, j, k, q1, q2, q3⟩ := sr_place ht
    have h1 : sr_dg (sr_P t) = d := h1
    rw [q2, R _ _ _ q1]
    refine sr_s_0 fun s hs => ?_
    by_cases e : i + j + k = sr_z s
    · have : c s = 0 := Classical.byContradiction fun q => H ⟨s, hs, by omega, q⟩
      rw [this]; exact Int32.zero_mul
    · rw [sr_K_n e]; exact Int32.mul_zero
/-! value -/
def sr_pow (x : Int32) : Nat → Int32
  | 0 => 1
  | n + 1 => sr_pow x n * x
theorem sr_power {post : Int32 → Prop} {tm ys : Nat → Int32} {x : Int32} {m : Nat} (hm : m < 1000) (h : post (sr_pow x m)) : wpY_power post (tm, sr_yP, sr_yC, ys) x (nI m) := by
  refine loop_0 (fun n t r => wY_power_5 post x (nI m) tm sr_yP sr_yC ys n r (nI t)) (fun t r => r = sr_pow x t) m 1 rfl ?_ ?_
  · rintro n r rfl
    exact br_t (nI_le (Nat.le_refl _) (by omega)) h
  · rintro n t r ht rfl ih
    exact br_f (nI_ge ht (by omega)) (nm_r rfl (nm_r (nI_1 _) (ih _ rfl)))
def sr_vt (tm : Nat → Int32) (o : Nat) (x y z : Int32) (p : Nat) : Int32 := ((tm (o + p) * sr_pow x (p / 100)) * sr_pow y (p / 10 % 10)) * sr_pow z (p % 10)
theorem sr_yval {post : Int32 → Prop} {tm ys : Nat → Int32} {e : Nat} {x y z : Int32} (he : e < 2) (h : post (sr_s 220 (fun t => sr_vt tm (1000 * e) x y z (sr_P t)))) : ∃ n, wY_value_16 post (nI e) x y z tm sr_yP sr_yC ys n 0 0 := by
  refine loop_0 (fun n t r => wY_value_16 post (nI e) x y z tm sr_yP sr_yC ys n r (nI t)) (fun t r => r = sr_s t (fun t => sr_vt tm (1000 * e) x y z (sr_P t))) 220 0 rfl ?_ ?_
  · rintro n r rfl
    exact br_t (nI_le (a := 220) (b := 220) (by decide) (by decide)) h
  · rintro n t r ht rfl ih
    have hP := (sr_f5 ht).1
    have ey : sr_yP (nI t).toNatClampNeg = nI (sr_P t) := by rw [nI_clamp (by omega)]; rfl
    obtain ⟨e1, e2, e3, e4⟩ := sr_div (p := sr_P t) (by omega)
    refine br_f (nI_ge (b := 220) ht (by decide)) ⟨vp_in_nI ht (by decide), nm_r ey ⟨by decide, ?_⟩⟩
    rw [e1, e3, e4]
    refine sr_power (by omega) ⟨by decide, by decide, sr_power (by omega) ⟨by decide, sr_power (by omega) ?_⟩⟩
    have e5 : (1000 : Int32) * nI e + nI (sr_P t) = nI (1000 * e + sr_P t) := by
      rw [← nI_add, ← pk_mul]; rfl
    rw [e5, nI_clamp (by omega)]
    exact ⟨vp_in_nI (by omega) (by decide), nm_r rfl (nm_r (nI_1 _) (ih _ rfl))⟩
