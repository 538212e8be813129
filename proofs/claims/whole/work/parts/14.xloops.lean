/-! the component: the loops that change or read the coefficients -/
theorem sr_px_skip {o : Nat} {V f : Nat → Int32} {t : Nat} (h : V t = f (o + t)) : sr_px o V f t = sr_px o V f (t + 1) := by
  rw [← sr_px_s, h]
  funext j
  by_cases e : j = o + t
  · rw [e, pk_us, sr_px_out (by omega)]
  · rw [pk_un e]
theorem sr_xscale {post : Int32 → SX → Prop} {cf res : Nat → Int32} {e : Nat} {m : Int32} (he : e < 2) (h : post 0 (sr_U (sr_px (e * 53) (fun s => cf (e * 53 + s) * m) cf 53) res)) : ∃ n, wX_scale_12 post (nI e) m n 0 sr_xA sr_xB sr_xC sr_xZ sr_xK cf res := by
  refine loop_0 (fun n t f => wX_scale_12 post (nI e) m n (nI t) sr_xA sr_xB sr_xC sr_xZ sr_xK f res) (fun t f => f = sr_px (e * 53) (fun s => cf (e * 53 + s) * m) cf t) 53 cf sr_px_0.symm ?_ ?_
  · rintro n f rfl
    exact br_t (nI_le (a := 53) (b := 53) (by decide) (by decide)) h
  · rintro n t f ht rfl ih
    refine br_f (nI_ge (b := 53) ht (by decide)) ?_
    rw [sr_e53, nI_clamp (by omega), sr_px_in, if_neg (Nat.lt_irrefl t)]
    exact ⟨vp_in_nI (by omega) (by decide), vp_in_nI (by omega) (by decide), nm_r (sr_px_s (V := fun s => cf (e * 53 + s) * m)) (nm_r (nI_1 _) (ih _ rfl))⟩
theorem sr_xcombine {post : Int32 → SX → Prop} {cf res : Nat → Int32} {m : Int32} (h : post 0 (sr_U (sr_px (0 * 53) (fun s => cf (0 * 53 + s) + m * cf (1 * 53 + s)) cf 53) res)) : wpX_combine post (sr_U cf res) m := by
  refine loop_0 (fun n t f => wX_combine_2 post m n (nI t) sr_xA sr_xB sr_xC sr_xZ sr_xK f res) (fun t f => f = sr_px (0 * 53) (fun s => cf (0 * 53 + s) + m * cf (1 * 53 + s)) cf t) 53 cf sr_px_0.symm ?_ ?_
  · rintro n f rfl
    exact br_t (nI_le (a := 53) (b := 53) (by decide) (by decide)) h
  · rintro n t f ht rfl ih
    have e : (53 : Int32) + nI t = nI (1 * 53 + t) := nI_add 53 t
    refine br_f (nI_ge (b := 53) ht (by decide)) ?_
    rw [e, nI_clamp (n := 1 * 53 + t) (by omega), nI_clamp (n := t) (by omega), sr_px_out (j := 1 * 53 + t) (by omega)]
    have e2 : sr_px (0 * 53) (fun s => cf (0 * 53 + s) + m * cf (1 * 53 + s)) cf t t = cf (0 * 53 + t) := by
      rw [sr_px_out (j := t) (by omega), Nat.zero_mul, Nat.zero_add]
    rw [e2]
    have e3 := sr_px_s (o := 0 * 53) (V := fun s => cf (0 * 53 + s) + m * cf (1 * 53 + s)) (f := cf) (t := t)
    rw [show 0 * 53 + t = t by omega] at e3 ⊢
    exact ⟨vp_in_nI (by omega) (by decide), vp_in_nI (by omega) (by decide), vp_in_nI (by omega) (by decide), nm_r e3 (nm_r (nI_1 _) (ih _ rfl))⟩
def sr_sw (cf : Nat → Int32) (t : Nat) : Nat → Int32 := fun j => if j < t then cf (53 + j) else if 53 ≤ j ∧ j < 53 + t then cf (j - 53) else cf j
theorem sr_sw_s {cf : Nat → Int32} {t : Nat} (ht : t < 53) : upd (upd (sr_sw cf t) t (cf (53 + t))) (53 + t) (cf t) = sr_sw cf (t + 1) := by
  funext j
  by_cases e1 : j = 53 + t
  · rw [e1, pk_us]
    unfold sr_sw
    rw [if_neg (by omega), if_pos (by omega), Nat.add_sub_cancel_left]
  · rw [pk_un e1]
    by_cases e2 : j = t
    · rw [e2, pk_us]
      unfold sr_sw
      rw [if_pos (by omega)]
    · rw [pk_un e2]
      unfold sr_sw
      by_cases h1 : j < t
      · rw [if_pos h1, if_pos (by omega)]
      · rw [if_neg h1, if_neg (show ¬ j < t + 1 by omega)]
        by_cases h2 : 53 ≤ j ∧ j < 53 + t
        · rw [if_pos h2, if_pos (show 53 ≤ j ∧ j < 53 + (t + 1) by omega)]
        · rw [if_neg h2, if_neg (show ¬ (53 ≤ j ∧ j < 53 + (t + 1)) by omega)]
theorem sr_xswap {post : Int32 → SX → Prop} {cf res : Nat → Int32} (h : post 0 (sr_U (sr_sw cf 53) res)) : wpX_swap post (sr_U cf res) := by
  refine loop_0 (fun n t f => wX_swap_2 post n (nI t) sr_xA sr_xB sr_xC sr_xZ sr_xK f res) (fun t f => f = sr_sw cf t) 53 cf ?_ ?_ ?_
  · funext j
    unfold sr_sw
    rw [if_neg (by omega), if_neg (by omega)]
  · rintro n f rfl
    exact br_t (nI_le (a := 53) (b := 53) (by decide) (by decide)) h
  · rintro n t f ht rfl ih
    have e : (53 : Int32) + nI t = nI (53 + t) := nI_add 53 t
    have e1 : sr_sw cf t t = cf t := by
      unfold sr_sw
      rw [if_neg (by omega), if_neg (by omega)]
    have e2 : sr_sw cf t (53 + t) = cf (53 + t) := by
      unfold sr_sw
      rw [if_neg (by omega), if_neg (by omega)]
    refine br_f (nI_ge (b := 53) ht (by decide)) ?_
    rw [e, nI_clamp (n := 53 + t) (by omega), nI_clamp (n := t) (by omega), e1, e2]
    exact ⟨vp_in_nI (by omega) (by decide), nm_r rfl ⟨vp_in_nI (by omega) (by decide), vp_in_nI (by omega) (by decide), nm_r rfl ⟨vp_in_nI (by omega) (by decide), nm_r (sr_sw_s ht) (nm_r (nI_1 _) (ih _ rfl))⟩⟩⟩
theorem sr_xpart {post : Int32 → SX → Prop} {cf res : Nat → Int32} {e m : Nat} (he : e < 2) (hm : m ≤ 9) (h : post 0 (sr_U (sr_px (e * 53) (fun s => if sr_z s = m then cf (e * 53 + s) else 0) cf 53) res)) : ∃ n, wX_part_22 post (nI e) (nI m) n 0 sr_xA sr_xB sr_xC sr_xZ sr_xK cf res := by
  refine loop_0 (fun n t f => wX_part_22 post (nI e) (nI m) n (nI t) sr_xA sr_xB sr_xC sr_xZ sr_xK f res) (fun t f => f = sr_px (e * 53) (fun s => if sr_z s = m then cf (e * 53 + s) else 0) cf t) 53 cf sr_px_0.symm ?_ ?_
  · rintro n f rfl
    exact br_t (nI_le (a := 53) (b := 53) (by decide) (by decide)) h
  · rintro n t f ht rfl ih
    have hz := (sr_f1 ht).2.1
    refine br_f (nI_ge (b := 53) ht (by decide)) ⟨vp_in_nI ht (by decide), ?_⟩
    rw [sr_e53, nI_clamp (n := e * 53 + t) (by omega), nI_clamp (n := t) (by omega)]
    refine pk_eq (sr_z t) m (fun z => nm_r (nI_1 _) (ih _ (sr_px_skip (by rw [if_pos z])))) (fun z => ⟨vp_in_nI (by omega) (by decide), nm_r ?_ (nm_r (nI_1 _) (ih _ rfl))⟩)
    have e3 := sr_px_s (o := e * 53) (V := fun s => if sr_z s = m then cf (e * 53 + s) else 0) (f := cf) (t := t)
    rw [if_neg z] at e3
    exact e3
/-- how many are not 0 -/
def sr_nn (c : Nat → Int32) (s : Nat) : Int32 := if c s = 0 then 0 else 1
theorem sr_xshapes {post : Int32 → Prop} {cf res : Nat → Int32} {e : Nat} (he : e < 2) (h : post (sr_s 53 (sr_nn (fun s => cf (e * 53 + s))))) : ∃ n, wX_shapes_14 post (nI e) sr_xA sr_xB sr_xC sr_xZ sr_xK cf res n 0 0 := by
  refine loop_0 (fun n t r => wX_shapes_14 post (nI e) sr_xA sr_xB sr_xC sr_xZ sr_xK cf res n r (nI t)) (fun t r => r = sr_s t (sr_nn (fun s => cf (e * 53 + s)))) 53 0 rfl ?_ ?_
  · rintro n r rfl
    exact br_t (nI_le (a := 53) (b := 53) (by decide) (by decide)) h
  · rintro n t r ht rfl ih
    refine br_f (nI_ge (b := 53) ht (by decide)) ?_
    rw [sr_e53, nI_clamp (by omega)]
    refine ⟨vp_in_nI (by omega) (by decide), br_c (fun z => nm_r (nI_1 _) (ih _ ?_)) (fun z => nm_r (e' := sr_s (t + 1) (sr_nn (fun s => cf (e * 53 + s)))) ?_ (nm_r (nI_1 _) (ih _ rfl)))⟩
    · show _ = sr_s t _ + (if cf (e * 53 + t) = 0 then 0 else 1)
      rw [if_pos z, Int32.add_zero]
    · show _ = sr_s t _ + (if cf (e * 53 + t) = 0 then 0 else 1)
      rw [if_neg z]
theorem sr_xinner {post : Int32 → Prop} {cf res : Nat → Int32} (h : post (sr_s 53 (fun s => cf (0 * 53 + s) * cf (1 * 53 + s)))) : wpX_inner post (sr_U cf res) := by
  refine loop_0 (fun n t r => wX_inner_4 post sr_xA sr_xB sr_xC sr_xZ sr_xK cf res n r (nI t)) (fun t r => r = sr_s t (fun s => cf (0 * 53 + s) * cf (1 * 53 + s))) 53 0 rfl ?_ ?_
  · rintro n r rfl
    exact br_t (nI_le (a := 53) (b := 53) (by decide) (by decide)) h
  · rintro n t r ht rfl ih
    have e : (53 : Int32) + nI t = nI (1 * 53 + t) := nI_add 53 t
    refine br_f (nI_ge (b := 53) ht (by decide)) ?_
    rw [e, nI_clamp (n := 1 * 53 + t) (by omega), nI_clamp (n := t) (by omega)]
    refine ⟨vp_in_nI (by omega) (by decide), vp_in_nI (by omega) (by decide), nm_r (e' := sr_s (t + 1) (fun s => cf (0 * 53 + s) * cf (1 * 53 + s))) ?_ (nm_r (nI_1 _) (ih _ rfl))⟩
    show _ = sr_s t _ + cf (0 * 53 + t) * cf (1 * 53 + t)
    rw [show 0 * 53 + t = t by omega]
/-! the reference: its loops of that kind -/
theorem sr_1000 (e : Nat) : (1000 : Int32) * nI e = nI (1000 * e) := pk_mul 1000 e
theorem sr_yscale {post : Int32 → SY → Prop} {tm ys : Nat → Int32} {e : Nat} {m : Int32} (he : e < 2) (h : post 0 (sr_pw (1000 * e) (fun t => tm (1000 * e + sr_P t) * m) tm 220, sr_yP, sr_yC, ys)) : ∃ n, wY_scale_12 post (nI e) m n 0 tm sr_yP sr_yC ys := by
  refine loop_0 (fun n t f => wY_scale_12 post (nI e) m n (nI t) f sr_yP sr_yC ys) (fun t f => f = sr_pw (1000 * e) (fun t => tm (1000 * e + sr_P t) * m) tm t) 220 tm sr_pw_0.symm ?_ ?_
  · rintro n f rfl
    exact br_t (nI_le (a := 220) (b := 220) (by decide) (by decide)) h
  · rintro n t f ht rfl ih
    have hP := (sr_f5 ht).1
    refine br_f (nI_ge (b := 220) ht (by decide)) ⟨vp_in_nI ht (by decide), ?_⟩
    rw [sr_1000, sr_o1 _ ht, nI_clamp (n := 1000 * e + sr_P t) (by omega), sr_pw_in ht, if_neg (Nat.lt_irrefl t)]
    exact ⟨vp_in_nI (by omega) (by decide), vp_in_nI (by omega) (by decide), nm_r (sr_pw_s (V := fun t => tm (1000 * e + sr_P t) * m) ht) (nm_r (nI_1 _) (ih _ rfl))⟩
theorem sr_pw_skip {o : Nat} {V f : Nat → Int32} {t : Nat} (ht : t < 220) (h : V t = f (o + sr_P t)) : sr_pw o V f t = sr_pw o V f (t + 1) := by
  rw [← sr_pw_s ht, h]
  funext j
  by_cases e : j = o + sr_P t
  · rw [e, pk_us, sr_pw_in ht, if_neg (Nat.lt_irrefl t)]
  · rw [pk_un e]
theorem sr_ypart {post : Int32 → SY → Prop} {tm ys : Nat → Int32} {e m : Nat} (he : e < 2) (hm : m ≤ 9) (h : post 0 (sr_pw (1000 * e) (fun t => if sr_dg (sr_P t) = m then tm (1000 * e + sr_P t) else 0) tm 220, sr_yP, sr_yC, ys)) : ∃ n, wY_part_22 post (nI e) (nI m) n 0 tm sr_yP sr_yC ys := by
  refine loop_0 (fun n t f => wY_part_22 post (nI e) (nI m) n (nI t) f sr_yP sr_yC ys) (fun t f => f = sr_pw (1000 * e) (fun t => if sr_dg (sr_P t) = m then tm (1000 * e + sr_P t) else 0) tm t) 220 tm sr_pw_0.symm ?_ ?_
  · rintro n f rfl
    exact br_t (nI_le (a := 220) (b := 220) (by decide) (by decide)) h
  · rintro n t f ht rfl ih
    have hP := (sr_f5 ht).1
    have hD := (sr_f5 ht).2.1
    have ey : sr_yP (nI t).toNatClampNeg = nI (sr_P t) := by rw [nI_clamp (by omega)]; rfl
    refine br_f (nI_ge (b := 220) ht (by decide)) ⟨vp_in_nI ht (by decide), ?_⟩
    rw [sr_1000, sr_o1 _ ht, nI_clamp (n := 1000 * e + sr_P t) (by omega), ey]
    refine sr_degOf hP (pk_eq (sr_dg (sr_P t)) m (fun z => nm_r (nI_1 _) (ih _ (sr_pw_skip ht (by rw [if_pos z])))) (fun z => ⟨vp_in_nI ht (by decide), vp_in_nI (by omega) (by decide), nm_r ?_ (nm_r (nI_1 _) (ih _ rfl))⟩))
    have e3 := sr_pw_s (o := 1000 * e) (V := fun t => if sr_dg (sr_P t) = m then tm (1000 * e + sr_P t) else 0) (f := tm) (t := t) ht
    rw [if_neg z] at e3
    exact e3
theorem sr_yc_at {t : Nat} (ht : t < 53) : sr_yC (nI t).toNatClampNeg = nI (sr_cd (sr_pi t)) := by
  rw [nI_clamp (by omega), ← (sr_f3 ht).2.1]; rfl
theorem sr_yshapes {post : Int32 → Prop} {tm ys c : Nat → Int32} {e : Nat} (he : e < 2) (R : sr_B (1000 * e) tm c) (h : post (sr_s 53 (sr_nn c))) : ∃ n, wY_shapes_14 post (nI e) tm sr_yP sr_yC ys n 0 0 := by
  rw [← sr_perm (sr_nn c)] at h
  refine loop_0 (fun n t r => wY_shapes_14 post (nI e) tm sr_yP sr_yC ys n r (nI t)) (fun t r => r = sr_s t (fun t => sr_nn c (sr_pi t))) 53 0 rfl ?_ ?_
  · rintro n r rfl
    exact br_t (nI_le (a := 53) (b := 53) (by decide) (by decide)) h
  · rintro n t r ht rfl ih
    refine br_f (nI_ge (b := 53) ht (by decide)) ⟨vp_in_nI ht (by decide), ?_⟩
    rw [sr_1000, sr_yc_at ht]
    refine sr_before R (by omega) (sr_f3 ht).1 (br_c (fun z => nm_r (nI_1 _) (ih _ ?_)) (fun z => nm_r (e' := sr_s (t + 1) (fun t => sr_nn c (sr_pi t))) ?_ (nm_r (nI_1 _) (ih _ rfl))))
    · show _ = sr_s t _ + (if c (sr_pi t) = 0 then 0 else 1)
      rw [if_pos z, Int32.add_zero]
    · show _ = sr_s t _ + (if c (sr_pi t) = 0 then 0 else 1)
      rw [if_neg z]
theorem sr_yinner {post : Int32 → Prop} {tm ys c d : Nat → Int32} (R : sr_B 0 tm c) (R' : sr_B 1000 tm d) (h : post (sr_s 53 (fun s => c s * d s))) : wpY_inner post (tm, sr_yP, sr_yC, ys) := by
  rw [← sr_perm (fun s => c s * d s)] at h
  refine loop_0 (fun n t r => wY_inner_4 post tm sr_yP sr_yC ys n r (nI t)) (fun t r => r = sr_s t (fun t => c (sr_pi t) * d (sr_pi t))) 53 0 rfl ?_ ?_
  · rintro n r rfl
    exact br_t (nI_le (a := 53) (b := 53) (by decide) (by decide)) h
  · rintro n t r ht rfl ih
    refine br_f (nI_ge (b := 53) ht (by decide)) ⟨vp_in_nI ht (by decide), ?_⟩
    rw [sr_yc_at ht]
    exact sr_before (o := 0) R (by omega) (sr_f3 ht).1 ⟨vp_in_nI ht (by decide), sr_before (o := 1000) R' (by omega) (sr_f3 ht).1 (nm_r rfl (nm_r (nI_1 _) (ih _ rfl)))⟩
