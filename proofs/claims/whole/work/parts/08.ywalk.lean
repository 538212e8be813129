/-! the reference's walks -/
theorem sr_o1 (o : Nat) {t : Nat} (ht : t < 220) : nI o + sr_yP (nI t).toNatClampNeg = nI (o + sr_P t) := by
  rw [nI_clamp (by omega)]
  exact nI_add _ _
theorem sr_clear {post : SY → Prop} {tm ys : Nat → Int32} {o : Nat} (ho : o ≤ 4000) (h : post (sr_pw o (fun _ => 0) tm 220, sr_yP, sr_yC, ys)) : wpY_clear post (tm, sr_yP, sr_yC, ys) (nI o) := by
  refine loop_0 (fun n t tm' => wY_clear_2 post (nI o) n (nI t) tm' sr_yP sr_yC ys) (fun t tm' => tm' = sr_pw o (fun _ => 0) tm t) 220 tm sr_pw_0.symm ?_ ?_
  · rintro n s rfl
    exact br_t (nI_le (a := 220) (b := 220) (by decide) (by decide)) h
  · rintro n t s ht rfl ih
    have e := sr_o1 o ht
    have hP := (sr_f5 ht).1
    refine br_f (nI_ge (b := 220) ht (by decide)) ⟨vp_in_nI ht (by decide), ?_⟩
    rw [e, nI_clamp (by omega)]
    exact ⟨vp_in_nI (by omega) (by decide), nm_r (sr_pw_s ht) (nm_r (nI_1 t) (ih _ rfl))⟩
theorem sr_copy {post : SY → Prop} {tm ys : Nat → Int32} {a o : Nat} (ha : a ≤ 4000) (ho : o ≤ 4000) (hd : a + 1000 ≤ o ∨ o + 1000 ≤ a) (h : post (sr_pw o (fun t => tm (a + sr_P t)) tm 220, sr_yP, sr_yC, ys)) : wpY_copy post (tm, sr_yP, sr_yC, ys) (nI a) (nI o) := by
  refine loop_0 (fun n t tm' => wY_copy_2 post (nI a) (nI o) n (nI t) tm' sr_yP sr_yC ys) (fun t tm' => tm' = sr_pw o (fun t => tm (a + sr_P t)) tm t) 220 tm sr_pw_0.symm ?_ ?_
  · rintro n s rfl
    exact br_t (nI_le (a := 220) (b := 220) (by decide) (by decide)) h
  · rintro n t s ht rfl ih
    have hP := (sr_f5 ht).1
    refine br_f (nI_ge (b := 220) ht (by decide)) ⟨vp_in_nI ht (by decide), vp_in_nI ht (by decide), ?_⟩
    rw [sr_o1 o ht, sr_o1 a ht, nI_clamp (n := o + sr_P t) (by omega), nI_clamp (n := a + sr_P t) (by omega), sr_pw_out (j := a + sr_P t) (by omega) (by omega)]
    exact ⟨vp_in_nI (by omega) (by decide), vp_in_nI (by omega) (by decide), nm_r (sr_pw_s (V := fun t => tm (a + sr_P t)) ht) (nm_r (nI_1 t) (ih _ rfl))⟩
theorem sr_addT {post : SY → Prop} {tm ys : Nat → Int32} {a o : Nat} {n : Int32} (ha : a ≤ 4000) (ho : o ≤ 4000) (hd : a + 1000 ≤ o ∨ o + 1000 ≤ a) (h : post (sr_pw o (fun t => tm (o + sr_P t) + n * tm (a + sr_P t)) tm 220, sr_yP, sr_yC, ys)) : wpY_addTimes post (tm, sr_yP, sr_yC, ys) (nI a) (nI o) n := by
  refine loop_0 (fun m t tm' => wY_addTimes_3 post (nI a) (nI o) n m (nI t) tm' sr_yP sr_yC ys) (fun t tm' => tm' = sr_pw o (fun t => tm (o + sr_P t) + n * tm (a + sr_P t)) tm t) 220 tm sr_pw_0.symm ?_ ?_
  · rintro m s rfl
    exact br_t (nI_le (a := 220) (b := 220) (by decide) (by decide)) h
  · rintro m t s ht rfl ih
    have hP := (sr_f5 ht).1
    refine br_f (nI_ge (b := 220) ht (by decide)) ⟨vp_in_nI ht (by decide), ?_⟩
    rw [sr_o1 o ht, sr_o1 a ht, nI_clamp (n := o + sr_P t) (by omega), nI_clamp (n := a + sr_P t) (by omega), sr_pw_out (j := a + sr_P t) (by omega) (by omega), sr_pw_in ht, if_neg (Nat.lt_irrefl t)]
    exact ⟨vp_in_nI (by omega) (by decide), vp_in_nI ht (by decide), vp_in_nI (by omega) (by decide), vp_in_nI (by omega) (by decide), nm_r (sr_pw_s (V := fun t => tm (o + sr_P t) + n * tm (a + sr_P t)) ht) (nm_r (nI_1 t) (ih _ rfl))⟩
theorem sr_div {p : Nat} (hp : p < 2 ^ 31) : nI p / 100 = nI (p / 100) ∧ nI p / 10 = nI (p / 10) ∧ nI p - nI p / 10 * 10 = nI (p % 10) ∧ nI p / 10 - nI p / 10 / 10 * 10 = nI (p / 10 % 10) := by
  have e1 : nI p / 10 = nI (p / 10) := pk_div (d := 10) hp (by decide) (by decide)
  refine ⟨pk_div (d := 100) hp (by decide) (by decide), e1, pk_rem (d := 10) hp (by decide) (by decide), ?_⟩
  rw [e1]
  exact pk_rem (d := 10) (a := p / 10) (by omega) (by decide) (by decide)
theorem sr_degOf {post : Int32 → Prop} {v : SY} {p : Nat} (hp : p < 1000) (h : post (nI (sr_dg p))) : wpY_degreeOf post v (nI p) := by
  obtain ⟨e1, e2, e3, e4⟩ := sr_div (p := p) (by omega)
  refine ⟨by decide, by decide, by decide, by decide, ?_⟩
  rw [e4, e1, e3, nI_add, nI_add]
  exact h
theorem sr_isS {post : Int32 → Prop} {v : SY} {p : Nat} (hp : p < 1000) (h : post (if sr_iS p = true then 1 else 0)) : wpY_isShape post v (nI p) := by
  obtain ⟨e1, e2, e3, e4⟩ := sr_div (p := p) (by omega)
  refine br_f (nI_pos (by omega)) (br_t (nI_le (b := 999) (by omega) (by decide)) ⟨by decide, nm_r e3 ⟨by decide, by decide, nm_r e4 ⟨by decide, nm_r e1 ?_⟩⟩⟩)
  have hi : sr_iS p = cond (Nat.ble (p / 10 % 10) (p % 10)) (cond (Nat.ble (p / 100) (p / 10 % 10)) (Nat.ble (p % 10 + p / 10 % 10 + p / 100) 9) false) false := rfl
  rw [hi] at h
  refine pk_lt (p % 10) (p / 10 % 10) (fun z => ?_) (fun z => ?_)
  · rw [sr_lf (by omega)] at h
    exact h
  rw [sr_lt z] at h
  refine pk_lt (p / 10 % 10) (p / 100) (fun z => ?_) (fun z => ?_)
  · rw [sr_lf (by omega)] at h
    exact h
  rw [sr_lt z] at h
  rw [nI_add, nI_add]
  refine pk_lt 9 (p % 10 + p / 10 % 10 + p / 100) (fun z => ?_) (fun z => ?_)
  · rw [sr_lf (by omega)] at h
    exact h
  · rw [sr_lt z] at h
    exact h
theorem sr_isS_y {post : Int32 → Prop} {v : SY} {s : Nat} (hs : s < 53) (h : post 1) : wpY_isShape post v (nI (sr_cd s)) := by
  obtain ⟨_, _, _, _, _, h6, h7⟩ := sr_f1 hs
  refine sr_isS (by omega) ?_
  rw [if_pos h6]
  exact h
theorem sr_isS_n {post : Int32 → Prop} {v : SY} {x : Int32} (hx : ∀ s, s < 53 → x ≠ nI (sr_cd s)) (h : post 0) : wpY_isShape post v x := by
  rcases pk_ix x (n := 1000) (by decide) with h0 | h0 | ⟨n, hn, rfl⟩
  · exact br_t h0 h
  · have a0 : ¬ x < 0 := fun z => by
      have := Int32.lt_of_lt_of_le z (show (0 : Int32) ≤ nI 1000 by decide)
      exact absurd h0 (Int32.not_le.mpr this)
    obtain ⟨j, hj, rfl⟩ := nI_of a0
    rw [nI_leI (by decide) hj] at h0
    exact br_f a0 (br_f (nI_ge (a := 999) (by omega) hj) h)
  · refine sr_isS hn ?_
    rw [if_neg]
    · exact h
    · intro z
      obtain ⟨h1, h2, _⟩ := sr_f2 hn z
      exact hx _ h2 (by rw [h1])
theorem sr_bad_n {post : Int32 → Prop} {v : SY} {e : Nat} (he : e < 2) (h : post 0) : wpY_bad post v (nI e) :=
  br_f (nI_pos (by omega)) (br_t (nI_le (b := 1) (by omega) (by decide)) h)
theorem sr_bad_y {post : Int32 → Prop} {v : SY} {x : Int32} (hx : ∀ e, e < 2 → x ≠ nI e) (h : post 1) : wpY_bad post v x := by
  by_cases h0 : x < 0
  · exact br_t h0 h
  · obtain ⟨j, hj, rfl⟩ := nI_of h0
    refine br_f h0 (br_f ?_ h)
    have : ¬ j < 2 := fun z => hx j z rfl
    exact nI_ge (a := 1) (by omega) hj
/-! a shape's polynomial -/
def sr_pl (a b c p q r : Nat) : Nat := 100 * (c + q + r) + 10 * (b + p - r) + (a + b + c - (b + p) - (c + q))
theorem sr_pl_b {a b c p q r : Nat} (hz : a + b + c ≤ 9) (hp : p < a + 1 - b) (hq : q < b + 1 - c) (hr : r < b + p + 1 - (c + q)) : sr_pl a b c p q r < 1000 := by
  unfold sr_pl; omega
theorem sr_pl_e {a b c p q r : Nat} (hz : a + b + c ≤ 9) (hp : p < a + 1 - b) (hq : q < b + 1 - c) (hr : r < b + p + 1 - (c + q)) : ((((((100 * nI (c + q + r)) + (10 * ((nI (b + p) + nI (c + q)) - nI (c + q + r)))) + nI a) + nI b) + nI c) - nI (b + p)) - nI (c + q) = nI (sr_pl a b c p q r) := by
  have e1 : (100 : Int32) * nI (c + q + r) = nI (100 * (c + q + r)) := pk_mul 100 _
  have e2 : (nI (b + p) + nI (c + q)) - nI (c + q + r) = nI (b + p - r) := by
    rw [nI_add, pk_sub (by omega)]
    exact congrArg nI (by omega)
  have e3 : (10 : Int32) * nI (b + p - r) = nI (10 * (b + p - r)) := pk_mul 10 _
  rw [e1, e2, e3, nI_add, nI_add, nI_add, nI_add, pk_sub (by omega), pk_sub (by omega)]
  exact congrArg nI (by unfold sr_pl; omega)
