/-! the reference: a shape's polynomial, and the product -/
noncomputable def sr_g1 (a b c p q r w : Nat) : Nat := sr_zn r (fun r => cond (Nat.beq (sr_pl a b c p q r) w) 1 0)
noncomputable def sr_g2 (a b c p q w : Nat) : Nat := sr_zn q (fun q => sr_g1 a b c p q (b + p + 1 - (c + q)) w)
noncomputable def sr_g3 (a b c p w : Nat) : Nat := sr_zn p (fun p => sr_g2 a b c p (b + 1 - c) w)
theorem sr_G_g3 (a b c w : Nat) : sr_G a b c w = sr_g3 a b c (a + 1 - b) w := rfl
theorem sr_sh1 {post : SY → Prop} {J29 J39 : Int32 → (Nat → Int32) → (Nat → Int32) → (Nat → Int32) → (Nat → Int32) → Prop} {tm yp yc ys : Nat → Int32} {g : Nat → Nat} {a b c p q : Nat} (hz : a + b + c ≤ 9) (hp : p < a + 1 - b) (hq : q < b + 1 - c) (h : J39 (nI (c + (q + 1))) (sr_ad tm (fun w => g w + sr_g1 a b c p q (b + p + 1 - (c + q)) w)) yp yc ys) : ∃ n, wY_shape_49 post J29 J39 (nI a) (nI b) (nI c) (nI (b + p)) (nI (c + q)) n (nI (c + q)) (sr_ad tm g) yp yc ys := by
  refine loop_0 (fun n r tm' => wY_shape_49 post J29 J39 (nI a) (nI b) (nI c) (nI (b + p)) (nI (c + q)) n (nI (c + q + r)) tm' yp yc ys) (fun r tm' => tm' = sr_ad tm (fun w => g w + sr_g1 a b c p q r w)) (b + p + 1 - (c + q)) (sr_ad tm g) rfl ?_ ?_
  · rintro n s rfl
    exact br_t (nI_lt (by omega) (by omega)) (nm_r (nI_1 _) h)
  · rintro n r s hr rfl ih
    have hb := sr_pl_b hz hp hq hr
    refine br_f (nI_nlt (by omega) (by omega)) (nm_r (sr_pl_e hz hp hq hr) ?_)
    have e : (2000 : Int32) + nI (sr_pl a b c p q r) = nI (2000 + sr_pl a b c p q r) := nI_add 2000 _
    rw [e, nI_clamp (by omega)]
    refine ⟨vp_in_nI (by omega) (by decide), vp_in_nI (by omega) (by decide), nm_r sr_ad_s (nm_r (nI_1 _) (ih _ ?_))⟩
    exact congrArg (sr_ad tm) (funext fun w => Nat.add_assoc _ _ _)
theorem sr_sh2 {post : SY → Prop} {J29 : Int32 → (Nat → Int32) → (Nat → Int32) → (Nat → Int32) → (Nat → Int32) → Prop} {tm yp yc ys : Nat → Int32} {g : Nat → Nat} {a b c p : Nat} (hz : a + b + c ≤ 9) (hc : c ≤ b) (hp : p < a + 1 - b) (h : J29 (nI (b + (p + 1))) (sr_ad tm (fun w => g w + sr_g2 a b c p (b + 1 - c) w)) yp yc ys) : ∃ n, wY_shape_39 post J29 (nI a) (nI b) (nI c) (nI (b + p)) n (nI c) (sr_ad tm g) yp yc ys := by
  refine loop_0 (fun n q tm' => wY_shape_39 post J29 (nI a) (nI b) (nI c) (nI (b + p)) n (nI (c + q)) tm' yp yc ys) (fun q tm' => tm' = sr_ad tm (fun w => g w + sr_g2 a b c p q w)) (b + 1 - c) (sr_ad tm g) rfl ?_ ?_
  · rintro n s rfl
    exact br_t (nI_lt (by omega) (by omega)) (nm_r (nI_1 _) h)
  · rintro n q s hq rfl ih
    refine br_f (nI_nlt (by omega) (by omega)) (sr_sh1 hz hp hq (ih _ ?_))
    exact congrArg (sr_ad tm) (funext fun w => Nat.add_assoc _ _ _)
theorem sr_sh3 {post : SY → Prop} {tm yp yc ys : Nat → Int32} {a b c : Nat} (hz : a + b + c ≤ 9) (hc : c ≤ b) (hb : b ≤ a) (h : post (sr_ad tm (fun w => sr_G a b c w), yp, yc, ys)) : ∃ n, wY_shape_29 post (nI a) (nI b) (nI c) n (nI b) tm yp yc ys := by
  refine loop_0 (fun n p tm' => wY_shape_29 post (nI a) (nI b) (nI c) n (nI (b + p)) tm' yp yc ys) (fun p tm' => tm' = sr_ad tm (fun w => sr_g3 a b c p w)) (a + 1 - b) tm sr_ad_0.symm ?_ ?_
  · rintro n s rfl
    exact br_t (nI_lt (by omega) (by omega)) h
  · rintro n p s hp rfl ih
    exact br_f (nI_nlt (by omega) (by omega)) (sr_sh2 hz hc hp (ih _ rfl))
noncomputable def sr_sh (s : Nat) (tm : Nat → Int32) : Nat → Int32 := sr_ad (sr_pw 2000 (fun _ => 0) tm 220) (fun w => sr_G (sr_a s) (sr_b s) (sr_c s) w)
theorem sr_shape {post : SY → Prop} {tm ys : Nat → Int32} {s : Nat} (hs : s < 53) (h : post (sr_sh s tm, sr_yP, sr_yC, ys)) : wpY_shape post (tm, sr_yP, sr_yC, ys) (nI (sr_cd s)) := by
  obtain ⟨h1, h2, h3, h4, _, _, h7⟩ := sr_f1 hs
  obtain ⟨d1, d2, d3⟩ := sr_cd_digits hs
  obtain ⟨e1, e2, e3, e4⟩ := sr_div (p := sr_cd s) (by omega)
  rw [d3] at e1
  rw [d1] at e3
  rw [d2] at e4
  refine ⟨by decide, nm_r e3 ⟨by decide, by decide, nm_r e4 ⟨by decide, nm_r e1 ?_⟩⟩⟩
  exact sr_clear (o := 2000) (by decide) (sr_sh3 (by omega) h4 h3 h)
theorem sr_sh_in {tm : Nat → Int32} {s i j k : Nat} (hs : s < 53) (h : i + j + k ≤ 9) : sr_sh s tm (2000 + (100 * i + 10 * j + k)) = sr_Q s i j k := by
  unfold sr_sh
  rw [sr_ad_in, sr_f8 hs h]
  obtain ⟨t, ht, e⟩ := sr_at h
  rw [← e, sr_pw_in ht, if_pos ht]
  exact Int32.zero_add _
theorem sr_sh_out {tm : Nat → Int32} {s j : Nat} (hs : s < 53) (h : j < 2000 ∨ 3000 ≤ j) : sr_sh s tm j = tm j := by
  obtain ⟨h1, h2, h3, h4, _⟩ := sr_f1 hs
  unfold sr_sh
  have e : (if 2000 ≤ j then sr_G (sr_a s) (sr_b s) (sr_c s) (j - 2000) else 0) = 0 := by
    by_cases hj : 2000 ≤ j
    · rw [if_pos hj, sr_G_g3]
      refine sr_zn_0' fun p hp => sr_zn_0' fun q hq => sr_zn_0' fun r hr => ?_
      have hb := sr_pl_b (by omega) hp hq hr
      show cond (Nat.beq (sr_pl (sr_a s) (sr_b s) (sr_c s) p q r) (j - 2000)) 1 0 = 0
      rw [sr_bf (by omega)]
      rfl
    · rw [if_neg hj]
  show sr_pw 2000 (fun _ => 0) tm 220 j + nI (if 2000 ≤ j then sr_G (sr_a s) (sr_b s) (sr_c s) (j - 2000) else 0) = tm j
  rw [e, sr_pw_out (by decide) (by omega)]
  exact Int32.add_zero _
/-! the product of two blocks -/
def sr_mt (A B : Nat → Int32) (w s t : Nat) : Int32 := if sr_dg (sr_P s) + sr_dg (sr_P t) ≤ 9 ∧ sr_P s + sr_P t = w then A (sr_P s) * B (sr_P t) else 0
theorem sr_mt_0 {A B : Nat → Int32} {w s t : Nat} (h : A (sr_P s) * B (sr_P t) = 0) : sr_mt A B w s t = 0 := by
  unfold sr_mt
  rw [h]
  exact ite_self 0
theorem sr_mu1 {post : SY → Prop} {J8 : Int32 → (Nat → Int32) → (Nat → Int32) → (Nat → Int32) → (Nat → Int32) → Prop} {tm ys g : Nat → Int32} {o1 o2 o3 s : Nat} (h1 : o1 ≤ 4000) (h2 : o2 ≤ 4000) (h3 : o3 ≤ 4000) (d1 : o1 + 1000 ≤ o3 ∨ o3 + 1000 ≤ o1) (d2 : o2 + 1000 ≤ o3 ∨ o3 + 1000 ≤ o2) (hs : s < 220) (h : J8 (nI (s + 1)) (sr_ac o3 tm (fun w => g w + sr_s 220 (sr_mt (fun p => tm (o1 + p)) (fun p => tm (o2 + p)) w s))) sr_yP sr_yC ys) : ∃ n, wY_multiply_39 post J8 (nI o1) (nI o2) (nI o3) (nI s) (nI (sr_P s)) (nI (9 - sr_dg (sr_P s))) n 0 (sr_ac o3 tm g) sr_yP sr_yC ys := by
  have hP := (sr_f5 hs).1
  have hD := (sr_f5 hs).2.1
  have eo : nI o1 + nI (sr_P s) = nI (o1 + sr_P s) := nI_add _ _
  refine loop_0 (fun n t tm' => wY_multiply_39 post J8 (nI o1) (nI o2) (nI o3) (nI s) (nI (sr_P s)) (nI (9 - sr_dg (sr_P s))) n (nI t) tm' sr_yP sr_yC ys) (fun t tm' => tm' = sr_ac o3 tm (fun w => g w + sr_s t (sr_mt (fun p => tm (o1 + p)) (fun p => tm (o2 + p)) w s))) 220 (sr_ac o3 tm g) (sr_ac_congr fun w _ => (Int32.add_zero _).symm) ?_ ?_
  · rintro n x rfl
    exact br_t (nI_le (a := 220) (b := 220) (by decide) (by decide)) (nm_r (nI_1 _) h)
  · rintro n t x ht rfl ih
    have hQ := (sr_f5 ht).1
    have hE := (sr_f5 ht).2.1
    refine br_f (nI_ge (b := 220) ht (by decide)) ?_
    rw [eo, nI_clamp (n := o1 + sr_P s) (by omega), sr_ac_out (j := o1 + sr_P s) (by omega)]
    refine ⟨vp_in_nI (by omega) (by decide), br_c (fun z => nm_r (nI_1 _) ?_) (fun z => ⟨vp_in_nI ht (by decide), ?_⟩)⟩
    · refine (sr_ac_congr fun w _ => ?_) ▸ h
      have e : ∀ m, sr_s m (sr_mt (fun p => tm (o1 + p)) (fun p => tm (o2 + p)) w s) = 0 := fun m => sr_s_0 fun u _ => sr_mt_0 (by show tm (o1 + sr_P s) * _ = 0; rw [z]; exact Int32.zero_mul)
      rw [e, e]
    · have ey : sr_yP (nI t).toNatClampNeg = nI (sr_P t) := by rw [nI_clamp (by omega)]; rfl
      refine nm_r ey ?_
      have eo2 : nI o2 + nI (sr_P t) = nI (o2 + sr_P t) := nI_add _ _
      have eo3 : nI o3 + nI (sr_P s) + nI (sr_P t) = nI (o3 + (sr_P s + sr_P t)) := by rw [nI_add, nI_add, Nat.add_assoc]
      rw [eo2, eo3, nI_clamp (n := o2 + sr_P t) (by omega), sr_ac_out (j := o2 + sr_P t) (by omega)]
      have skip : ∀ (k : ∀ w, sr_mt (fun p => tm (o1 + p)) (fun p => tm (o2 + p)) w s t = 0), sr_ac o3 tm (fun w => g w + sr_s t (sr_mt (fun p => tm (o1 + p)) (fun p => tm (o2 + p)) w s)) = sr_ac o3 tm (fun w => g w + sr_s (t + 1) (sr_mt (fun p => tm (o1 + p)) (fun p => tm (o2 + p)) w s)) := fun k => sr_ac_congr fun w _ => by
        show g w + sr_s t _ = g w + (sr_s t _ + sr_mt (fun p => tm (o1 + p)) (fun p => tm (o2 + p)) w s t)
        rw [k w, Int32.add_zero]
      refine ⟨vp_in_nI (by omega) (by decide), br_c (fun z2 => nm_r (nI_1 _) (ih _ (skip fun w => sr_mt_0 (by show _ * tm (o2 + sr_P t) = 0; rw [z2]; exact Int32.mul_zero)))) (fun z2 => sr_degOf hQ ?_)⟩
      refine pk_lt (9 - sr_dg (sr_P s)) (sr_dg (sr_P t)) (fun z3 => nm_r (nI_1 _) (ih _ (skip fun w => if_neg (by omega)))) (fun z3 => ?_)
      have hd : sr_P s + sr_P t < 1000 := by
        obtain ⟨a, b, c, q1, q2, q3⟩ := sr_place hs
        obtain ⟨a', b', c', r1, r2, r3⟩ := sr_place ht
        omega
      rw [nI_clamp (n := o3 + (sr_P s + sr_P t)) (by omega)]
      refine ⟨vp_in_nI (by omega) (by decide), vp_in_nI (by omega) (by decide), vp_in_nI (by omega) (by decide), vp_in_nI (by omega) (by decide), nm_r (sr_ac_s hd) (nm_r (nI_1 _) (ih _ (sr_ac_congr fun w _ => ?_)))⟩
      show g w + sr_s t _ + _ = g w + (sr_s t _ + sr_mt (fun p => tm (o1 + p)) (fun p => tm (o2 + p)) w s t)
      rw [Int32.add_assoc]
      refine congrArg (g w + ·) (congrArg (_ + ·) ?_)
      unfold sr_mt
      by_cases e : sr_P s + sr_P t = w
      · rw [if_pos e, if_pos ⟨by omega, e⟩]
      · rw [if_neg e, if_neg (fun z => e z.2)]
noncomputable def sr_mu (o1 o2 o3 : Nat) (tm : Nat → Int32) : Nat → Int32 := sr_ac o3 (sr_pw o3 (fun _ => 0) tm 220) (fun w => sr_s 220 (fun s => sr_s 220 (sr_mt (fun p => tm (o1 + p)) (fun p => tm (o2 + p)) w s)))
theorem sr_mult {post : SY → Prop} {tm ys : Nat → Int32} {o1 o2 o3 : Nat} (h1 : o1 ≤ 4000) (h2 : o2 ≤ 4000) (h3 : o3 ≤ 4000) (d1 : o1 + 1000 ≤ o3 ∨ o3 + 1000 ≤ o1) (d2 : o2 + 1000 ≤ o3 ∨ o3 + 1000 ≤ o2) (h : post (sr_mu o1 o2 o3 tm, sr_yP, sr_yC, ys)) : wpY_multiply post (tm, sr_yP, sr_yC, ys) (nI o1) (nI o2) (nI o3) := by
  refine sr_clear h3 ?_
  have key : ∀ s, s < 220 → ∀ w, sr_s 220 (sr_mt (fun p => sr_pw o3 (fun _ => 0) tm 220 (o1 + p)) (fun p => sr_pw o3 (fun _ => 0) tm 220 (o2 + p)) w s) = sr_s 220 (sr_mt (fun p => tm (o1 + p)) (fun p => tm (o2 + p)) w s) := by
    intro s hs w
    refine sr_s_congr fun t ht => ?_
    have hP := (sr_f5 hs).1
    have hQ := (sr_f5 ht).1
    unfold sr_mt
    dsimp only
    rw [sr_pw_out (by decide) (by omega), sr_pw_out (by decide) (by omega)]
  refine loop_0 (fun n s tm' => wY_multiply_8 post (nI o1) (nI o2) (nI o3) n (nI s) tm' sr_yP sr_yC ys) (fun s tm' => tm' = sr_ac o3 (sr_pw o3 (fun _ => 0) tm 220) (fun w => sr_s s (fun s => sr_s 220 (sr_mt (fun p => tm (o1 + p)) (fun p => tm (o2 + p)) w s)))) 220 (sr_pw o3 (fun _ => 0) tm 220) (sr_ac_0 fun _ _ => rfl).symm ?_ ?_
  · rintro n x rfl
    exact br_t (nI_le (a := 220) (b := 220) (by decide) (by decide)) h
  · rintro n s x hs rfl ih
    have hP := (sr_f5 hs).1
    have hD := (sr_f5 hs).2.1
    have ey : sr_yP (nI s).toNatClampNeg = nI (sr_P s) := by rw [nI_clamp (by omega)]; rfl
    have e9 : (9 : Int32) - nI (sr_dg (sr_P s)) = nI (9 - sr_dg (sr_P s)) := pk_sub (a := 9) hD
    refine br_f (nI_ge (b := 220) hs (by decide)) ⟨vp_in_nI hs (by decide), nm_r ey (sr_degOf hP (nm_r e9 (sr_mu1 h1 h2 h3 d1 d2 hs (ih _ ?_))))⟩
    exact sr_ac_congr fun w _ => congrArg (_ + ·) (key s hs w)
theorem sr_mu_in {tm : Nat → Int32} {o1 o2 o3 i j k : Nat} (h : i + j + k ≤ 9) : sr_mu o1 o2 o3 tm (o3 + (100 * i + 10 * j + k)) = sr_V (fun i j k => tm (o1 + (100 * i + 10 * j + k))) (fun i j k => tm (o2 + (100 * i + 10 * j + k))) i j k := by
  unfold sr_mu
  rw [sr_ac_in (by omega)]
  obtain ⟨t, ht, e⟩ := sr_at h
  have e2 : sr_pw o3 (fun _ => 0) tm 220 (o3 + (100 * i + 10 * j + k)) = 0 := by rw [← e, sr_pw_in ht, if_pos ht]
  rw [e2, Int32.zero_add]
  exact sr_conv (fun p => tm (o1 + p)) (fun p => tm (o2 + p)) h
theorem sr_mu_out {tm : Nat → Int32} {o1 o2 o3 j : Nat} (h : j < o3 ∨ o3 + 1000 ≤ j) : sr_mu o1 o2 o3 tm j = tm j := by
  unfold sr_mu
  rw [sr_ac_out h, sr_pw_out (by decide) h]
