def i_Rel (k : Nat) (u : SX) (v : SY) : Prop := ∃ cf res tm ys : Nat → Int32, u = sr_U cf res ∧ v = (tm, sr_yP, sr_yC, ys) ∧ sr_R cf tm
theorem i_up {k : Nat} {u : SX} {v : SY} (h : i_Rel k u v) : i_Rel (k + 5) u v := h
theorem i_vc0 : wpX_init (fun u => wpY_init (fun v => i_Rel 0 u v)) :=   sr_xinit (sr_yinit ⟨fun _ => 0, fun _ => 0, fun _ => 0, fun _ => 0, rfl, rfl, fun _ _ _ _ _ _ => (sr_s_0 fun _ _ => Int32.zero_mul).symm⟩)
theorem i_vc_add {k : Nat} {u : SX} {v : SY} (I : i_Rel k u v) (hk : k + 5 ≤ 2560) (v1 : Int32) (v2 : Int32) (v3 : Int32) : wpX_add (fun r u' => wpY_add (fun r' v' => r' = r ∧ i_Rel (k + 5) u' v') v v1 v2 v3) u v1 v2 v3 := by
  obtain ⟨cf, res, tm, ys, rfl, rfl, R⟩ := I
  rcases sr_args v1 v2 with ⟨e, s, he, hs, rfl, rfl⟩ | hb
  · unfold wpX_add
    refine sr_Xg he hs ?_
    rw [sr_e53, nI_clamp (by omega)]
    have hv : vp_in (nI (e * 53 + s)) 106 := vp_in_nI (by omega) (by decide)
    have eq : upd cf (e * 53 + s) (cf (e * 53 + s) + v3) = sr_px (e * 53) (fun t => cf (e * 53 + t) + v3 * (if t = s then 1 else 0)) cf 53 := by
      funext j
      by_cases z : j = e * 53 + s
      · rw [z, pk_us, sr_px_in, if_pos hs, if_pos rfl, Int32.mul_one]
      · rw [pk_un z]
        unfold sr_px
        by_cases z2 : e * 53 ≤ j ∧ j < e * 53 + 53
        · rw [if_pos z2]
          show cf j = cf (e * 53 + (j - e * 53)) + v3 * (if j - e * 53 = s then 1 else 0)
          rw [if_neg (show ¬ j - e * 53 = s by omega), Int32.mul_zero, Int32.add_zero, show e * 53 + (j - e * 53) = j by omega]
        · rw [if_neg z2]
    refine ⟨hv, hv, nm_r eq ?_⟩
    unfold wpY_add
    refine sr_Yg he hs (sr_shape hs ?_)
    rw [sr_1000]
    refine sr_addT (a := 2000) (by decide) (by omega) (by omega) ⟨rfl, _, _, _, _, rfl, rfl, sr_R_set R he (fun i j k h => ?_) (fun j h1 h2 => ?_)⟩
    · rw [sr_pw_W (fun w => sr_sh s tm (1000 * e + w) + v3 * sr_sh s tm (2000 + w)) h, sr_sh_out hs (by omega), sr_sh_in hs h, R e he i j k h, sr_T_add, sr_T_mul, sr_T_one hs]
    · rw [sr_pw_out (by decide) h2, sr_sh_out hs (by omega)]
  · unfold wpX_add
    refine sr_Xb hb ?_
    unfold wpY_add
    exact sr_Yb hb ⟨rfl, cf, res, tm, ys, rfl, rfl, R⟩
theorem i_vc_scale {k : Nat} {u : SX} {v : SY} (I : i_Rel k u v) (hk : k + 5 ≤ 2560) (v1 : Int32) (v2 : Int32) : wpX_scale (fun r u' => wpY_scale (fun r' v' => r' = r ∧ i_Rel (k + 5) u' v') v v1 v2) u v1 v2 := by
  obtain ⟨cf, res, tm, ys, rfl, rfl, R⟩ := I
  rcases sr_el v1 with ⟨e, he, rfl⟩ | hb
  · unfold wpX_scale
    refine sr_noE_n he (br_t rfl (sr_xscale he ?_))
    unfold wpY_scale
    refine sr_bad_n he (br_t rfl (sr_yscale he ⟨rfl, _, _, _, _, rfl, rfl, sr_R_set R he (fun i j k h => ?_) (fun j h1 h2 => sr_pw_out (by decide) h2)⟩))
    rw [sr_pw_W (fun w => tm (1000 * e + w) * v2) h, R e he i j k h, Int32.mul_comm, ← sr_T_mul]
    exact sr_T_congr (fun s _ => Int32.mul_comm _ _) i j k
  · unfold wpX_scale
    refine sr_noE_y hb (br_f (by decide) ?_)
    unfold wpY_scale
    exact sr_bad_y hb (br_f (by decide) ⟨rfl, cf, res, tm, ys, rfl, rfl, R⟩)
theorem i_vc_combine {k : Nat} {u : SX} {v : SY} (I : i_Rel k u v) (hk : k + 5 ≤ 2560) (v1 : Int32) : wpX_combine (fun r u' => wpY_combine (fun r' v' => r' = r ∧ i_Rel (k + 5) u' v') v v1) u v1 := by
  obtain ⟨cf, res, tm, ys, rfl, rfl, R⟩ := I
  refine sr_xcombine ?_
  unfold wpY_combine
  refine sr_addT (a := 1000) (o := 0) (by decide) (by decide) (by decide) ⟨rfl, _, _, _, _, rfl, rfl, sr_R_set (e := 0) R (by decide) (fun i j k h => ?_) (fun j h1 h2 => sr_pw_out (o := 0) (by decide) h2)⟩
  have e0 := R 0 (by decide) i j k h
  have e1 := R 1 (by decide) i j k h
  refine (sr_pw_W (o := 0) (fun w => tm (0 + w) + v1 * tm (1000 + w)) h).trans ?_
  rw [sr_T_add, sr_T_mul]
  rw [show 1000 * 0 = 0 from rfl] at e0
  rw [show 1000 * 1 = 1000 from rfl] at e1
  rw [e0, e1]
theorem i_vc_swap {k : Nat} {u : SX} {v : SY} (I : i_Rel k u v) (hk : k + 5 ≤ 2560) : wpX_swap (fun r u' => wpY_swap (fun r' v' => r' = r ∧ i_Rel (k + 5) u' v') v) u := by
  obtain ⟨cf, res, tm, ys, rfl, rfl, R⟩ := I
  refine sr_xswap ?_
  unfold wpY_swap
  refine sr_copy (a := 0) (o := 3000) (by decide) (by decide) (by decide) ?_
  refine sr_copy (a := 1000) (o := 0) (by decide) (by decide) (by decide) ?_
  refine sr_copy (a := 3000) (o := 1000) (by decide) (by decide) (by decide) ⟨rfl, _, _, _, _, rfl, rfl, ?_⟩
  intro e he i j k h
  by_cases z : e = 0
  · subst z
    rw [sr_pw_out (by decide) (by omega)]
    refine (sr_pw_W (o := 0) (fun w => sr_pw 3000 (fun t => tm (0 + sr_P t)) tm 220 (1000 + w)) h).trans ?_
    rw [sr_pw_out (by decide) (by omega)]
    refine (R 1 (by decide) i j k h).trans (sr_T_congr (fun s hs => ?_) i j k)
    unfold sr_sw
    rw [if_pos (by omega)]
    exact congrArg cf (by omega)
  · have : e = 1 := by omega
    subst this
    refine (sr_pw_W (o := 1000) (fun w => sr_pw 0 (fun t => sr_pw 3000 (fun t => tm (0 + sr_P t)) tm 220 (1000 + sr_P t)) (sr_pw 3000 (fun t => tm (0 + sr_P t)) tm 220) 220 (3000 + w)) h).trans ?_
    rw [sr_pw_out (by decide) (by omega), sr_pw_W (fun w => tm (0 + w)) h]
    refine (R 0 (by decide) i j k h).trans (sr_T_congr (fun s hs => ?_) i j k)
    unfold sr_sw
    rw [if_neg (by omega), if_pos (by omega)]
    exact congrArg cf (by omega)
theorem sr_xz {s : Nat} (hs : s < 53) : sr_xZ (nI s).toNatClampNeg = nI (sr_z s) := by
  rw [nI_clamp (by omega)]; rfl
theorem sr_ts47 {post : Int32 → SY → Prop} {cf tm ys : Nat → Int32} {e s : Nat} (he : e < 2) (hs : s < 53) (R : sr_R cf tm) (hz : ∀ q, q < 53 → cf (e * 53 + q) ≠ 0 → sr_z q + sr_z s ≤ 9) (h : ∀ tm', sr_R (sr_px (e * 53) (fun j => 0 + sr_s 53 (fun q => (1 * cf (e * 53 + q)) * sr_N s q j)) cf 53) tm' → post 0 (tm', sr_yP, sr_yC, ys)) : wY_timesShape_47 post (nI e) (nI (sr_cd s)) tm sr_yP sr_yC ys := by
  unfold wY_timesShape_47
  refine sr_shape hs ?_
  rw [sr_1000]
  refine sr_mult (o2 := 2000) (o3 := 3000) (by omega) (by decide) (by decide) (by omega) (by decide) ?_
  refine sr_copy (a := 3000) (by decide) (by omega) (by omega) (h _ ?_)
  have B1 : sr_B (1000 * e) (sr_sh s tm) (fun q => cf (e * 53 + q)) := sr_B_keep (R e he) fun j h1 h2 => sr_sh_out hs (by omega)
  have B := sr_mcB he (Or.inl rfl) B1 (sr_Bsh hs) (fun q hq p hp hc hd => by
    by_cases z : p = s
    · subst z; have := hz q hq hc; omega
    · rw [if_neg z] at hd; exact absurd rfl hd)
  refine sr_R_set R he (fun i j k hh => ?_) (fun j h1 h2 => (sr_mcB_out h1 h2).trans (sr_sh_out hs (by omega)))
  refine (B i j k hh).trans (sr_T_congr (fun r hr => ?_) i j k)
  rw [Int32.zero_add, sr_s_one hs]
  · exact sr_s_congr fun q _ => by rw [if_pos rfl]
  · intro p _ hne
    refine sr_s_0 fun q _ => ?_
    rw [if_neg hne, Int32.zero_mul, Int32.zero_mul]
theorem sr_top_Y {cf tm : Nat → Int32} {e : Nat} {r r' : Int32} (he : e < 2) (R : sr_R cf tm) (H : sr_top (sr_nz sr_z (fun s => cf (e * 53 + s) ≠ 0) 53) r) (H' : sr_top (sr_nz (fun t => sr_dg (sr_P t)) (fun t => tm (1000 * e + sr_P t) ≠ 0) 220) r') : r' = r :=
  sr_top_eq (fun d hd => sr_nz_eq (R e he) d hd) H H'
theorem i_vc_timesShape {k : Nat} {u : SX} {v : SY} (I : i_Rel k u v) (hk : k + 5 ≤ 2560) (v1 : Int32) (v2 : Int32) : wpX_timesShape (fun r u' => wpY_timesShape (fun r' v' => r' = r ∧ i_Rel (k + 5) u' v') v v1 v2) u v1 v2 := by
  obtain ⟨cf, res, tm, ys, rfl, rfl, R⟩ := I
  rcases sr_args v1 v2 with ⟨e, s, he, hs, rfl, rfl⟩ | hb
  · unfold wpX_timesShape
    refine sr_Xg he hs ⟨vp_in_nI hs (by decide), ?_⟩
    rw [sr_xz hs]
    refine sr_tooG he fun r hr => ?_
    rcases sr_full (sr_f1 hs).2.1 hr with ⟨f1, f2, f3⟩ | ⟨g1, g2⟩
    · refine br_f f1 (br_f f3 (br_f (by decide) ?_))
      unfold wpY_timesShape
      refine sr_Yg he hs ?_
      rw [sr_1000]
      refine sr_high (by omega) fun r' hr' => ?_
      rw [sr_top_Y he R hr hr']
      exact br_f f2 (sr_size hs (br_f f3 ⟨rfl, cf, res, tm, ys, rfl, rfl, R⟩))
    · have go : wpX_clearResult (fun u => match u with
        | (a_rowA_30, a_rowB_31, a_rowC_32, a_sizes_33, a_codes_34, a_coefficients_35, a_result_36) => (wpX_gatherTimesShape (fun u => match u with
          | (a_rowA_38, a_rowB_39, a_rowC_40, a_sizes_41, a_codes_42, a_coefficients_43, a_result_44) => (wpX_storeResult (fun u => match u with
            | (a_rowA_46, a_rowB_47, a_rowC_48, a_sizes_49, a_codes_50, a_coefficients_51, a_result_52) => (wpY_timesShape (fun r' v' => r' = 0 ∧ i_Rel (k + 5) (a_rowA_46, a_rowB_47, a_rowC_48, a_sizes_49, a_codes_50, a_coefficients_51, a_result_52) v') (tm, sr_yP, sr_yC, ys) (nI e) (nI (sr_cd s)))) (a_rowA_38, a_rowB_39, a_rowC_40, a_sizes_41, a_codes_42, a_coefficients_43, a_result_44) (nI e))) (a_rowA_30, a_rowB_31, a_rowC_32, a_sizes_33, a_codes_34, a_coefficients_35, a_result_36) (nI e) (nI s) 1)) (sr_U cf res) := by
        refine sr_xclear (sr_gather he hs (sr_xstore he ?_))
        unfold wpY_timesShape
        refine sr_Yg he hs ?_
        rw [sr_1000]
        refine sr_high (by omega) fun r' hr' => ?_
        rw [sr_top_Y he R hr hr']
        have fin := sr_ts47 (ys := ys) (post := fun r' v' => r' = 0 ∧ i_Rel (k + 5) (sr_U (sr_px (e * 53) (fun j => 0 + sr_s 53 (fun q => (1 * cf (e * 53 + q)) * sr_N s q j)) cf 53) (sr_rs (fun j => 0 + sr_s 53 (fun q => (1 * cf (e * 53 + q)) * sr_N s q j)) res)) v') he hs R g1 (fun tm' R' => ⟨rfl, _, _, _, _, rfl, rfl, R'⟩)
        rcases g2 with g2 | ⟨g2, g3, g4⟩
        · exact br_t (by rw [g2]; decide) fin
        · exact br_f g3 (sr_size hs (br_t g4 fin))
      rcases g2 with g2 | ⟨g2, g3, g4⟩
      · exact br_t g2 (br_t rfl go)
      · exact br_f g2 (br_t g4 (br_t rfl go))
  · unfold wpX_timesShape
    refine sr_Xb hb ?_
    unfold wpY_timesShape
    exact sr_Yb hb ⟨rfl, cf, res, tm, ys, rfl, rfl, R⟩
theorem sr_f9 {r i j k : Nat} (h1 : 1 ≤ r) (h2 : r ≤ 9) (h : i + j + k ≤ 9) : cond (Nat.beq (100 * i + 10 * j + k) (100 * r)) 1 (cond (Nat.beq (100 * i + 10 * j + k) (10 * r)) 1 (cond (Nat.beq (100 * i + 10 * j + k) r) 1 0)) + sr_w (r + 9) i j k = sr_w r i j k + sr_w (r + 108) i j k := by
  obtain ⟨r, rfl⟩ : ∃ q, r = q + 1 := ⟨r - 1, by omega⟩
  exact Nat.eq_of_beq_eq_true (sr_al_e (sr_al_e (sr_al_e (sr_al_e sr_q9_t r (by omega)) i (by omega)) j (show j < 10 - i by omega)) k (show k < 10 - i - j by omega))
theorem sr_w_T (cd i j k : Nat) : nI (sr_w cd i j k) = sr_T (sr_gd cd) i j k := by
  unfold sr_w
  rw [sr_s_nI]
  refine sr_s_congr fun p _ => ?_
  unfold sr_gd
  by_cases z : sr_cd p = cd
  · rw [if_pos z, sr_bt z, Int32.one_mul]
    exact congrArg nI (Nat.one_mul _)
  · rw [if_neg z, sr_bf z, Int32.zero_mul]
    exact congrArg nI (Nat.zero_mul _)
def sr_pd (r p : Nat) : Int32 := 1 * sr_gd r p + (-1) * sr_gd (r + 9) p + 1 * sr_gd (r + 108) p
theorem sr_pd_z {r p : Nat} (hp : p < 53) (h1 : 1 ≤ r) (h2 : r ≤ 9) (h : sr_pd r p ≠ 0) : sr_z p = r := by
  obtain ⟨z1, z2, z3, z4, _⟩ := sr_f1 hp
  have e := sr_cd_e p
  apply Classical.byContradiction
  intro hn
  apply h
  have a1 : ¬ sr_cd p = r := by omega
  have a2 : ¬ sr_cd p = r + 9 := by omega
  have a3 : ¬ sr_cd p = r + 108 := by omega
  unfold sr_pd sr_gd
  rw [if_neg a1, if_neg a2, if_neg a3]
  decide
noncomputable def sr_pt (r : Nat) (tm : Nat → Int32) : Nat → Int32 := upd (upd (upd (sr_pw 2000 (fun _ => 0) tm 220) (2000 + 100 * r) 1) (2000 + 10 * r) 1) (2000 + r) 1
theorem sr_pt_B {r : Nat} {tm : Nat → Int32} (h1 : 1 ≤ r) (h2 : r ≤ 9) : sr_B 2000 (sr_pt r tm) (sr_pd r) := by
  intro i j k h
  have e1 : sr_pt r tm (2000 + (100 * i + 10 * j + k)) = nI (cond (Nat.beq (100 * i + 10 * j + k) (100 * r)) 1 (cond (Nat.beq (100 * i + 10 * j + k) (10 * r)) 1 (cond (Nat.beq (100 * i + 10 * j + k) r) 1 0))) := by
    unfold sr_pt
    by_cases z3 : 100 * i + 10 * j + k = r
    · rw [z3, pk_us, sr_bf (by omega), sr_bf (by omega), sr_bt rfl]; rfl
    rw [pk_un (by omega)]
    by_cases z2 : 100 * i + 10 * j + k = 10 * r
    · rw [z2, pk_us, sr_bf (by omega), sr_bt rfl]; rfl
    rw [pk_un (by omega)]
    by_cases z1 : 100 * i + 10 * j + k = 100 * r
    · rw [z1, pk_us, sr_bt rfl]; rfl
    rw [pk_un (by omega), sr_bf z1, sr_bf z2, sr_bf z3]
    exact sr_pw_W (fun _ => 0) h
  have e2 := congrArg nI (sr_f9 h1 h2 h)
  rw [← nI_add, ← nI_add, ← e1, sr_w_T, sr_w_T, sr_w_T] at e2
  have e3 : sr_T (sr_pd r) i j k = sr_T (sr_gd r) i j k + (-1) * sr_T (sr_gd (r + 9)) i j k + sr_T (sr_gd (r + 108)) i j k := by
    unfold sr_pd
    rw [sr_T_add, sr_T_add, sr_T_mul, sr_T_mul, sr_T_mul, Int32.one_mul, Int32.one_mul]
  rw [e3]
  grind
def sr_pR (cf : Nat → Int32) (e r : Nat) (j : Nat) : Int32 := 0 + sr_s 53 (fun p => sr_s 53 (fun q => ((1 * sr_gd r p) * cf (e * 53 + q)) * sr_N p q j)) + sr_s 53 (fun p => sr_s 53 (fun q => (((-1) * sr_gd (r + 9) p) * cf (e * 53 + q)) * sr_N p q j)) + sr_s 53 (fun p => sr_s 53 (fun q => ((1 * sr_gd (r + 108) p) * cf (e * 53 + q)) * sr_N p q j))
theorem sr_pR_e (cf : Nat → Int32) (e r j : Nat) : sr_pR cf e r j = sr_s 53 (fun p => sr_s 53 (fun q => (sr_pd r p * cf (e * 53 + q)) * sr_N p q j)) := by
  unfold sr_pR
  rw [Int32.zero_add, ← sr_s_add, ← sr_s_add]
  refine sr_s_congr fun p _ => ?_
  rw [← sr_s_add, ← sr_s_add]
  refine sr_s_congr fun q _ => ?_
  unfold sr_pd
  grind
theorem sr_tp46 {post : Int32 → SY → Prop} {cf tm ys : Nat → Int32} {e r : Nat} (he : e < 2) (h1 : 1 ≤ r) (h2 : r ≤ 9) (R : sr_R cf tm) (hz : ∀ q, q < 53 → cf (e * 53 + q) ≠ 0 → sr_z q + r ≤ 9) (h : ∀ tm', sr_R (sr_px (e * 53) (sr_pR cf e r) cf 53) tm' → post 0 (tm', sr_yP, sr_yC, ys)) : wY_timesPower_46 post (nI e) (nI r) tm sr_yP sr_yC ys := by
  unfold wY_timesPower_46
  refine sr_clear (o := 2000) (by decide) ?_
  have k1 : (2000 : Int32) + 100 * nI r = nI (2000 + 100 * r) := by rw [← nI_add, ← pk_mul]; rfl
  have k2 : (2000 : Int32) + 10 * nI r = nI (2000 + 10 * r) := by rw [← nI_add, ← pk_mul]; rfl
  have k3 : (2000 : Int32) + nI r = nI (2000 + r) := nI_add 2000 r
  rw [k1, k2, k3, nI_clamp (by omega), nI_clamp (by omega), nI_clamp (by omega), sr_1000]
  refine ⟨vp_in_nI (by omega) (by decide), nm_e ⟨vp_in_nI (by omega) (by decide), nm_e ⟨vp_in_nI (by omega) (by decide), nm_r (e' := sr_pt r tm) rfl ?_⟩⟩⟩
  refine sr_mult (o2 := 2000) (o3 := 3000) (by omega) (by decide) (by decide) (by omega) (by decide) ?_
  refine sr_copy (a := 3000) (by decide) (by omega) (by omega) (h _ ?_)
  have out : ∀ j, j < 2000 → sr_pt r tm j = tm j := fun j hj => by
    unfold sr_pt
    rw [pk_un (by omega), pk_un (by omega), pk_un (by omega), sr_pw_out (by decide) (by omega)]
  have B1 : sr_B (1000 * e) (sr_pt r tm) (fun q => cf (e * 53 + q)) := sr_B_keep (R e he) fun j h1 h2 => out j (by omega)
  have B := sr_mcB he (Or.inl rfl) B1 (sr_pt_B h1 h2) (fun q hq p hp hc hd => by
    have := sr_pd_z hp h1 h2 hd
    have := hz q hq hc
    omega)
  refine sr_R_set R he (fun i j k hh => ?_) (fun j h1 h2 => (sr_mcB_out h1 h2).trans (out j h1))
  exact (B i j k hh).trans (sr_T_congr (fun s _ => (sr_pR_e cf e r s).symm) i j k)
theorem i_vc_timesPower {k : Nat} {u : SX} {v : SY} (I : i_Rel k u v) (hk : k + 5 ≤ 2560) (v1 : Int32) (v2 : Int32) : wpX_timesPower (fun r u' => wpY_timesPower (fun r' v' => r' = r ∧ i_Rel (k + 5) u' v') v v1 v2) u v1 v2 := by
  obtain ⟨cf, res, tm, ys, rfl, rfl, R⟩ := I
  have J : i_Rel (k + 5) (sr_U cf res) (tm, sr_yP, sr_yC, ys) := ⟨cf, res, tm, ys, rfl, rfl, R⟩
  rcases sr_el v1 with ⟨e, he, rfl⟩ | hb
  · unfold wpX_timesPower
    refine sr_noE_n he (br_t rfl ?_)
    by_cases z1 : v2 < 1
    · refine br_t z1 ?_
      unfold wpY_timesPower
      exact sr_bad_n he (br_t rfl (br_t z1 ⟨rfl, J⟩))
    refine br_f z1 ?_
    by_cases z2 : v2 ≤ 9
    · obtain ⟨r, hr9, rfl⟩ := nI_of2 (x := v2) (M := 9) (n := 9) (by decide) (fun z => z1 (Int32.lt_trans z (by decide))) z2
      have h1 : 1 ≤ r := by
        apply Classical.byContradiction
        intro q
        exact z1 (nI_lt (b := 1) (by omega) (by decide))
      refine br_t z2 (sr_tooG he fun x hx => ?_)
      rcases sr_full hr9 hx with ⟨f1, f2, f3⟩ | ⟨g1, g2⟩
      · refine br_f f1 (br_f f3 (br_f (by decide) ?_))
        unfold wpY_timesPower
        refine sr_bad_n he (br_t rfl (br_f z1 (br_t z2 ?_)))
        rw [sr_1000]
        refine sr_high (by omega) fun r' hr' => ?_
        rw [sr_top_Y he R hx hr']
        exact br_f f2 (br_f f3 ⟨rfl, J⟩)
      · have k1 : nI r - 1 + 10 = nI (r + 9) := by
          rw [← nI_add, show nI 9 = (9 : Int32) from rfl]
          grind
        have k2 : nI r - 2 + 110 = nI (r + 108) := by
          rw [← nI_add, show nI 108 = (108 : Int32) from rfl]
          grind
        have go : wpX_clearResult (fun u => wpX_gatherTimesCode (fun u => wpX_gatherTimesCode (fun u => wpX_gatherTimesCode (fun u => wpX_storeResult (fun u => wpY_timesPower (fun r' v' => r' = 0 ∧ i_Rel (k + 5) u v') (tm, sr_yP, sr_yC, ys) (nI e) (nI r)) u (nI e)) u (nI e) ((nI r - 2) + 110) 1) u (nI e) ((nI r - 1) + 10) (-1)) u (nI e) (nI r) 1) (sr_U cf res) := by
          rw [k1, k2]
          refine sr_xclear (sr_gcode he (by omega) (sr_gcode he (by omega) (sr_gcode he (by omega) (sr_xstore he ?_))))
          unfold wpY_timesPower
          refine sr_bad_n he (br_t rfl (br_f z1 (br_t z2 ?_)))
          rw [sr_1000]
          refine sr_high (by omega) fun r' hr' => ?_
          rw [sr_top_Y he R hx hr']
          have fin := sr_tp46 (ys := ys) (post := fun r' v' => r' = 0 ∧ i_Rel (k + 5) (sr_U (sr_px (e * 53) (sr_pR cf e r) cf 53) (sr_rs (sr_pR cf e r) res)) v') he h1 hr9 R g1 (fun tm' R' => ⟨rfl, _, _, _, _, rfl, rfl, R'⟩)
          rcases g2 with g2 | ⟨g2, g3, g4⟩
          · exact br_t (by rw [g2]; decide) fin
          · exact br_f g3 (br_t g4 fin)
        rcases g2 with g2 | ⟨g2, g3, g4⟩
        · exact br_t g2 (br_t rfl go)
        · exact br_f g2 (br_t g4 (br_t rfl go))
    · refine br_f z2 ?_
      unfold wpY_timesPower
      exact sr_bad_n he (br_t rfl (br_f z1 (br_f z2 ⟨rfl, J⟩)))
  · unfold wpX_timesPower
    refine sr_noE_y hb (br_f (by decide) ?_)
    unfold wpY_timesPower
    exact sr_bad_y hb (br_f (by decide) ⟨rfl, J⟩)
def sr_qR (cf : Nat → Int32) (j : Nat) : Int32 := sr_s 53 (fun p => sr_s 53 (fun q => (cf (53 + p) * cf (0 * 53 + q)) * sr_N p q j))
theorem sr_pr33 {post : Int32 → SY → Prop} {cf tm ys : Nat → Int32} (R : sr_R cf tm) (hz : ∀ q, q < 53 → ∀ p, p < 53 → cf (0 * 53 + q) ≠ 0 → cf (1 * 53 + p) ≠ 0 → sr_z p + sr_z q ≤ 9) (h : ∀ tm', sr_R (sr_px (0 * 53) (sr_qR cf) cf 53) tm' → post 0 (tm', sr_yP, sr_yC, ys)) : wY_product_33 post tm sr_yP sr_yC ys := by
  unfold wY_product_33
  refine sr_mult (o1 := 0) (o2 := 1000) (o3 := 3000) (by decide) (by decide) (by decide) (by decide) (by decide) ?_
  refine sr_copy (a := 3000) (o := 0) (by decide) (by decide) (by decide) (h _ ?_)
  have B := sr_mcB (e := 0) (by decide) (Or.inr rfl) (R 0 (by decide)) (R 1 (by decide)) hz
  exact sr_R_set (e := 0) R (by decide) B (fun j h1 h2 => sr_mcB_out (e := 0) h1 h2)
theorem sr_top_c {c : Nat → Int32} {r : Int32} (H : sr_top (sr_nz sr_z (fun s => c s ≠ 0) 53) r) : (r = -4 ∧ ∀ s, s < 53 → c s = 0) ∨ (∃ m, m ≤ 9 ∧ r = nI m ∧ ∀ s, s < 53 → c s ≠ 0 → sr_z s ≤ m) := by
  rcases H with ⟨h1, h2⟩ | ⟨d, h1, h2, h3, h4⟩
  · exact Or.inl ⟨h1, fun s hs => Classical.byContradiction fun hc => h2 (sr_z s) (sr_f1 hs).2.1 ⟨s, hs, rfl, hc⟩⟩
  · exact Or.inr ⟨d, h1, h2, fun s hs hc => h4 (sr_z s) (sr_f1 hs).2.1 ⟨s, hs, rfl, hc⟩⟩
theorem i_vc_product {k : Nat} {u : SX} {v : SY} (I : i_Rel k u v) (hk : k + 5 ≤ 2560) : wpX_product (fun r u' => wpY_product (fun r' v' => r' = r ∧ i_Rel (k + 5) u' v') v) u := by
  obtain ⟨cf, res, tm, ys, rfl, rfl, R⟩ := I
  unfold wpX_product
  refine sr_xtop (e := 1) (by decide) fun r1 H1 => ?_
  have Y0 : ∀ r0, sr_top (sr_nz sr_z (fun s => cf (0 * 53 + s) ≠ 0) 53) r0 → ∀ post : Int32 → SY → Prop, ((r0 < 0 → wY_product_33 post tm sr_yP sr_yC ys) ∧ (¬ r0 < 0 → (r1 < 0 → wY_product_33 post tm sr_yP sr_yC ys) ∧ (¬ r1 < 0 → (r0 + r1 ≤ 9 → wY_product_33 post tm sr_yP sr_yC ys) ∧ (¬ r0 + r1 ≤ 9 → post (-2) (tm, sr_yP, sr_yC, ys))))) → wpY_product post (tm, sr_yP, sr_yC, ys) := by
    intro r0 H0 post h
    unfold wpY_product
    refine sr_high (o := 0) (by decide) fun a Ha => sr_high (o := 1000) (by decide) fun b Hb => ?_
    rw [sr_top_Y (e := 0) (by decide) R H0 Ha, sr_top_Y (e := 1) (by decide) R H1 Hb]
    exact h
  have fin : (∀ q, q < 53 → ∀ p, p < 53 → cf (0 * 53 + q) ≠ 0 → cf (1 * 53 + p) ≠ 0 → sr_z p + sr_z q ≤ 9) → ∀ rr, wY_product_33 (fun r' v' => r' = 0 ∧ i_Rel (k + 5) (sr_U (sr_px (0 * 53) (sr_qR cf) cf 53) rr) v') tm sr_yP sr_yC ys := fun hz rr => sr_pr33 R hz (fun tm' R' => ⟨rfl, _, _, _, _, rfl, rfl, R'⟩)
  have n4 : ∀ d, d ≤ 9 → nI d ≠ -4 := by decide
  rcases sr_top_c H1 with ⟨e1, c1⟩ | ⟨m1, hm1, e1, c1⟩
  · refine br_t e1 (sr_pr24 fun rr => ?_)
    have hz : ∀ q, q < 53 → ∀ p, p < 53 → cf (0 * 53 + q) ≠ 0 → cf (1 * 53 + p) ≠ 0 → sr_z p + sr_z q ≤ 9 := fun q _ p hp _ hd => absurd (c1 p hp) hd
    unfold wpY_product
    refine sr_high (o := 0) (by decide) fun a Ha => sr_high (o := 1000) (by decide) fun b Hb => ?_
    rw [sr_top_Y (e := 1) (by decide) R H1 Hb]
    refine br_c (fun _ => fin hz rr) (fun _ => br_t (by rw [e1]; decide) (fin hz rr))
  · refine br_f (by rw [e1]; exact n4 m1 hm1) (sr_tooG (e := 0) (by decide) fun r0 H0 => ?_)
    have p1 : ¬ r1 < 0 := by rw [e1]; exact nI_pos (by omega)
    rcases sr_top_c H0 with ⟨e0, c0⟩ | ⟨m0, hm0, e0, c0⟩
    · refine br_t e0 (br_t rfl (sr_pr24 fun rr => Y0 r0 H0 _ (br_t (by rw [e0]; decide) (fin (fun q hq p _ hc _ => absurd (c0 q hq) hc) rr))))
    · have p0 : ¬ r0 < 0 := by rw [e0]; exact nI_pos (by omega)
      refine br_f (by rw [e0]; exact n4 m0 hm0) ?_
      by_cases hf : m0 + m1 ≤ 9
      · have hle : r0 + r1 ≤ 9 := by rw [e0, e1, nI_add]; exact nI_le (b := 9) hf (by decide)
        refine br_t hle (br_t rfl (sr_pr24 fun rr => Y0 r0 H0 _ (br_f p0 (br_f p1 (br_t hle (fin (fun q hq p hp hc hd => ?_) rr))))))
        have := c0 q hq hc
        have := c1 p hp hd
        omega
      · have hle : ¬ r0 + r1 ≤ 9 := by rw [e0, e1, nI_add]; exact nI_ge (a := 9) (by omega) (by omega)
        exact br_f hle (br_f (by decide) (Y0 r0 H0 _ (br_f p0 (br_f p1 (br_f hle ⟨rfl, cf, res, tm, ys, rfl, rfl, R⟩)))))
theorem i_vc_skew {k : Nat} {u : SX} {v : SY} (I : i_Rel k u v) (hk : k + 5 ≤ 2560) (v1 : Int32) (v2 : Int32) : wpX_skew (fun r u' => wpY_skew (fun r' v' => r' = r ∧ i_Rel (k + 5) u' v') v v1 v2) u v1 v2 := by
  obtain ⟨cf, res, tm, ys, rfl, rfl, R⟩ := I
  rcases sr_args v1 v2 with ⟨e, s, he, hs, rfl, rfl⟩ | hb
  · unfold wpX_skew
    refine sr_Xg he hs (sr_xclear (sr_sk2 he hs ?_))
    unfold wpY_skew
    exact sr_Yg he hs (sr_ysk20 he hs (R e he) fun tm' ys' hB hf => ⟨rfl, _, _, _, _, rfl, rfl, sr_R_set R he hB hf⟩)
  · unfold wpX_skew
    refine sr_Xb hb ?_
    unfold wpY_skew
    exact sr_Yb hb ⟨rfl, cf, res, tm, ys, rfl, rfl, R⟩
theorem i_vc_part {k : Nat} {u : SX} {v : SY} (I : i_Rel k u v) (hk : k + 5 ≤ 2560) (v1 : Int32) (v2 : Int32) : wpX_part (fun r u' => wpY_part (fun r' v' => r' = r ∧ i_Rel (k + 5) u' v') v v1 v2) u v1 v2 := by
  obtain ⟨cf, res, tm, ys, rfl, rfl, R⟩ := I
  have J : i_Rel (k + 5) (sr_U cf res) (tm, sr_yP, sr_yC, ys) := ⟨cf, res, tm, ys, rfl, rfl, R⟩
  rcases sr_el v1 with ⟨e, he, rfl⟩ | hb
  · unfold wpX_part
    refine sr_noE_n he (br_t rfl ?_)
    by_cases z1 : v2 < 0
    · refine br_t z1 ?_
      unfold wpY_part
      exact sr_bad_n he (br_t rfl (br_t z1 ⟨rfl, J⟩))
    refine br_f z1 ?_
    by_cases z2 : v2 ≤ 9
    · obtain ⟨m, hm, rfl⟩ := nI_of2 (x := v2) (M := 9) (n := 9) (by decide) z1 z2
      refine br_t z2 (sr_xpart he hm ?_)
      unfold wpY_part
      refine sr_bad_n he (br_t rfl (br_f z1 (br_t z2 (sr_ypart he hm ⟨rfl, _, _, _, _, rfl, rfl, sr_R_set R he (fun i j k h => ?_) (fun j h1 h2 => sr_pw_out (by decide) h2)⟩))))
      rw [sr_pw_W (fun w => if sr_dg w = m then tm (1000 * e + w) else 0) h, sr_dg_e i j k h, R e he i j k h]
      by_cases q : i + j + k = m
      · rw [if_pos q]
        refine sr_s_congr fun s hs => ?_
        dsimp only
        by_cases y : sr_z s = m
        · rw [if_pos y]
        · rw [if_neg y, sr_K_n (by omega), Int32.zero_mul]; exact Int32.mul_zero
      · rw [if_neg q]
        refine (sr_s_0 fun s hs => ?_).symm
        dsimp only
        by_cases y : sr_z s = m
        · rw [if_pos y, sr_K_n (by omega)]; exact Int32.mul_zero
        · rw [if_neg y, Int32.zero_mul]
    · refine br_f z2 ?_
      unfold wpY_part
      exact sr_bad_n he (br_t rfl (br_f z1 (br_f z2 ⟨rfl, J⟩)))
  · unfold wpX_part
    refine sr_noE_y hb (br_f (by decide) ?_)
    unfold wpY_part
    exact sr_bad_y hb (br_f (by decide) ⟨rfl, J⟩)
theorem i_vc_coefficient {k : Nat} {u : SX} {v : SY} (I : i_Rel k u v) (hk : k + 5 ≤ 2560) (v1 : Int32) (v2 : Int32) : wpX_coefficient (fun r => wpY_coefficient (fun r' => r' = r ∧ i_Rel (k + 5) u v) v v1 v2) u v1 v2 := by
  obtain ⟨cf, res, tm, ys, rfl, rfl, R⟩ := I
  rcases sr_args v1 v2 with ⟨e, s, he, hs, rfl, rfl⟩ | hb
  · unfold wpX_coefficient
    refine sr_Xg he hs ?_
    rw [sr_e53, nI_clamp (by omega)]
    refine ⟨vp_in_nI (by omega) (by decide), ?_⟩
    unfold wpY_coefficient
    refine sr_Yg he hs ?_
    rw [sr_1000]
    exact sr_before (R e he) (by omega) hs ⟨rfl, cf, res, tm, ys, rfl, rfl, R⟩
  · unfold wpX_coefficient
    refine sr_Xb hb ?_
    unfold wpY_coefficient
    exact sr_Yb hb ⟨rfl, cf, res, tm, ys, rfl, rfl, R⟩
theorem i_vc_degree {k : Nat} {u : SX} {v : SY} (I : i_Rel k u v) (hk : k + 5 ≤ 2560) (v1 : Int32) : wpX_degree (fun r => wpY_degree (fun r' => r' = r ∧ i_Rel (k + 5) u v) v v1) u v1 := by
  obtain ⟨cf, res, tm, ys, rfl, rfl, R⟩ := I
  rcases sr_el v1 with ⟨e, he, rfl⟩ | hb
  · unfold wpX_degree
    refine sr_noE_n he (br_t rfl (sr_xtop he fun r hr => ?_))
    unfold wpY_degree
    refine sr_bad_n he (br_t rfl ?_)
    rw [sr_1000]
    exact sr_high (by omega) fun r' hr' => ⟨sr_top_Y he R hr hr', cf, res, tm, ys, rfl, rfl, R⟩
  · unfold wpX_degree
    refine sr_noE_y hb (br_f (by decide) ?_)
    unfold wpY_degree
    exact sr_bad_y hb (br_f (by decide) ⟨rfl, cf, res, tm, ys, rfl, rfl, R⟩)
theorem i_vc_shapes {k : Nat} {u : SX} {v : SY} (I : i_Rel k u v) (hk : k + 5 ≤ 2560) (v1 : Int32) : wpX_shapes (fun r => wpY_shapes (fun r' => r' = r ∧ i_Rel (k + 5) u v) v v1) u v1 := by
  obtain ⟨cf, res, tm, ys, rfl, rfl, R⟩ := I
  rcases sr_el v1 with ⟨e, he, rfl⟩ | hb
  · unfold wpX_shapes
    refine sr_noE_n he (br_t rfl (sr_xshapes he ?_))
    unfold wpY_shapes
    exact sr_bad_n he (br_t rfl (sr_yshapes he (R e he) ⟨rfl, cf, res, tm, ys, rfl, rfl, R⟩))
  · unfold wpX_shapes
    refine sr_noE_y hb (br_f (by decide) ?_)
    unfold wpY_shapes
    exact sr_bad_y hb (br_f (by decide) ⟨rfl, cf, res, tm, ys, rfl, rfl, R⟩)
theorem sr_term_n {post : Int32 → Prop} {v : SY} {o x y z : Int32} (hn : x < 0 ∨ y < 0 ∨ z < 0) (h : post 0) : wpY_term post v o x y z := by
  refine br_c (fun _ => h) (fun a => br_c (fun _ => h) (fun b => br_c (fun _ => h) (fun c => ?_)))
  rcases hn with q | q | q
  · exact absurd q a
  · exact absurd q b
  · exact absurd q c
theorem sr_term_b {post : Int32 → Prop} {v : SY} {o : Int32} {i j k : Nat} (hi : i < 2 ^ 31) (hj : j < 2 ^ 31) (hk : k < 2 ^ 31) (hn : 9 < i + j + k) (h : post 0) : wpY_term post v o (nI i) (nI j) (nI k) := by
  refine br_f (nI_pos hi) (br_f (nI_pos hj) (br_f (nI_pos hk) (pk_lt 9 i (fun _ => h) (fun a => pk_lt 9 j (fun _ => h) (fun b => pk_lt 9 k (fun _ => h) (fun c => ?_) rfl rfl (by decide) hk) rfl rfl (by decide) hj) rfl rfl (by decide) hi)))
  rw [nI_add, nI_add]
  exact br_f (nI_ge (a := 9) (by omega) (by omega)) h
theorem i_vc_monomial {k : Nat} {u : SX} {v : SY} (I : i_Rel k u v) (hk : k + 5 ≤ 2560) (v1 : Int32) (v2 : Int32) (v3 : Int32) (v4 : Int32) : wpX_monomial (fun r => wpY_monomial (fun r' => r' = r ∧ i_Rel (k + 5) u v) v v1 v2 v3 v4) u v1 v2 v3 v4 := by
  obtain ⟨cf, res, tm, ys, rfl, rfl, R⟩ := I
  have J : i_Rel (k + 5) (sr_U cf res) (tm, sr_yP, sr_yC, ys) := ⟨cf, res, tm, ys, rfl, rfl, R⟩
  rcases sr_el v1 with ⟨e, he, rfl⟩ | hb
  · unfold wpX_monomial
    refine sr_noE_n he (br_t rfl ?_)
    by_cases hn : v2 < 0 ∨ v3 < 0 ∨ v4 < 0
    · refine sr_nbef_n he hn ?_
      unfold wpY_monomial
      exact sr_bad_n he (br_t rfl (sr_term_n hn ⟨rfl, J⟩))
    · obtain ⟨i, hi, rfl⟩ := nI_of (x := v2) (fun z => hn (Or.inl z))
      obtain ⟨j, hj, rfl⟩ := nI_of (x := v3) (fun z => hn (Or.inr (Or.inl z)))
      obtain ⟨l, hl, rfl⟩ := nI_of (x := v4) (fun z => hn (Or.inr (Or.inr z)))
      refine sr_nbef he hi hj hl ?_
      unfold wpY_monomial
      refine sr_bad_n he (br_t rfl ?_)
      rw [sr_1000]
      by_cases h9 : i + j + l ≤ 9
      · exact sr_term0 (by omega) h9 ⟨R e he i j l h9, J⟩
      · refine sr_term_b hi hj hl (by omega) ⟨?_, J⟩
        refine (sr_s_0 fun s hs => ?_).symm
        have := (sr_f1 hs).2.1
        rw [sr_K_n (by omega)]; exact Int32.mul_zero
  · unfold wpX_monomial
    refine sr_noE_y hb (br_f (by decide) ?_)
    unfold wpY_monomial
    exact sr_bad_y hb (br_f (by decide) ⟨rfl, J⟩)
theorem i_vc_value {k : Nat} {u : SX} {v : SY} (I : i_Rel k u v) (hk : k + 5 ≤ 2560) (v1 : Int32) (v2 : Int32) (v3 : Int32) (v4 : Int32) : wpX_value (fun r => wpY_value (fun r' => r' = r ∧ i_Rel (k + 5) u v) v v1 v2 v3 v4) u v1 v2 v3 v4 := by
  obtain ⟨cf, res, tm, ys, rfl, rfl, R⟩ := I
  have J : i_Rel (k + 5) (sr_U cf res) (tm, sr_yP, sr_yC, ys) := ⟨cf, res, tm, ys, rfl, rfl, R⟩
  rcases sr_el v1 with ⟨e, he, rfl⟩ | hb
  · unfold wpX_value
    refine sr_noE_n he (br_t rfl (sr_xv3 he ?_))
    unfold wpY_value
    refine sr_bad_n he (br_t rfl (sr_yval he ⟨?_, J⟩))
    refine (sr_L1 (sr_vt tm (1000 * e) v2 v3 v4)).trans ?_
    refine sr_s_congr fun i hi => sr_s_congr fun j hj => sr_s_congr fun k hk => ?_
    have h : i + j + k ≤ 9 := by omega
    obtain ⟨d1, d2, d3⟩ := sr_digits h
    unfold sr_vt
    rw [d1, d2, d3, R e he i j k h, Int32.mul_assoc, Int32.mul_assoc, Int32.mul_assoc]
  · unfold wpX_value
    refine sr_noE_y hb (br_f (by decide) ?_)
    unfold wpY_value
    exact sr_bad_y hb (br_f (by decide) ⟨rfl, J⟩)
theorem i_vc_inner {k : Nat} {u : SX} {v : SY} (I : i_Rel k u v) (hk : k + 5 ≤ 2560) : wpX_inner (fun r => wpY_inner (fun r' => r' = r ∧ i_Rel (k + 5) u v) v) u := by
  obtain ⟨cf, res, tm, ys, rfl, rfl, R⟩ := I
  refine sr_xinner ?_
  exact sr_yinner (R 0 (by decide)) (R 1 (by decide)) ⟨rfl, cf, res, tm, ys, rfl, rfl, R⟩
theorem i_vc_number {k : Nat} {u : SX} {v : SY} (I : i_Rel k u v) (hk : k + 5 ≤ 2560) (v1 : Int32) (v2 : Int32) (v3 : Int32) : wpX_number (fun r => wpY_number (fun r' v' => r' = r ∧ i_Rel (k + 5) u v') v v1 v2 v3) u v1 v2 v3 := by
  obtain ⟨cf, res, tm, ys, rfl, rfl, R⟩ := I
  have J : i_Rel (k + 5) (sr_U cf res) (tm, sr_yP, sr_yC, ys) := ⟨cf, res, tm, ys, rfl, rfl, R⟩
  rcases sr_sp v1 with ⟨p, hp, rfl⟩ | hb
  · rcases sr_sp v2 with ⟨q, hq, rfl⟩ | hb2
    · rcases sr_sp v3 with ⟨r, hr, rfl⟩ | hb3
      · unfold wpX_number
        refine sr_code_y hp (sr_code_y hq (sr_code_y hr (br_f (sr_n1 hp) (br_f (sr_n1 hq) (br_f (sr_n1 hr) (sr_pnum hp hq hr ?_))))))
        have zp := (sr_f1 hp).2.1
        have zq := (sr_f1 hq).2.1
        have zr := (sr_f1 hr).2.1
        unfold wpY_number
        refine sr_isS_y hp (br_f (by decide) (sr_isS_y hq (br_f (by decide) (sr_isS_y hr (br_f (by decide) (sr_size hp (sr_size hq (sr_size hr ?_))))))))
        rw [nI_add]
        refine pk_eq (sr_z p + sr_z q) (sr_z r) (fun z => sr_shape hp (sr_copy (a := 2000) (o := 4000) (by decide) (by decide) (by decide) (sr_shape hq (sr_mult (o1 := 4000) (o2 := 2000) (o3 := 3000) (by decide) (by decide) (by decide) (by decide) (by decide) ?_)))) (fun z => ⟨(sr_N_n z).symm, J⟩)
        refine sr_before (o := 3000) (sr_t4_mu hp hq (by omega)) (by decide) hr ⟨rfl, _, _, _, _, rfl, rfl, sr_R_keep R fun j hj => ?_⟩
        rw [sr_mu_out (by omega)]
        exact sr_t4_out hp hq hj
      · unfold wpX_number
        refine sr_code_y hp (sr_code_y hq (sr_code_n hb3 (br_f (sr_n1 hp) (br_f (sr_n1 hq) (br_t rfl ?_)))))
        unfold wpY_number
        exact sr_isS_y hp (br_f (by decide) (sr_isS_y hq (br_f (by decide) (sr_isS_n hb3 (br_t rfl ⟨rfl, J⟩)))))
    · unfold wpX_number
      have fin : wpY_number (fun r' v' => r' = -1 ∧ i_Rel (k + 5) (sr_U cf res) v') (tm, sr_yP, sr_yC, ys) (nI (sr_cd p)) v2 v3 := by
        unfold wpY_number
        exact sr_isS_y hp (br_f (by decide) (sr_isS_n hb2 (br_t rfl ⟨rfl, J⟩)))
      rcases sr_sp v3 with ⟨r, hr, rfl⟩ | hb3
      · exact sr_code_y hp (sr_code_n hb2 (sr_code_y hr (br_f (sr_n1 hp) (br_t rfl fin))))
      · exact sr_code_y hp (sr_code_n hb2 (sr_code_n hb3 (br_f (sr_n1 hp) (br_t rfl fin))))
  · unfold wpX_number
    have fin : wpY_number (fun r' v' => r' = -1 ∧ i_Rel (k + 5) (sr_U cf res) v') (tm, sr_yP, sr_yC, ys) v1 v2 v3 := by
      unfold wpY_number
      exact sr_isS_n hb (br_t rfl ⟨rfl, J⟩)
    refine sr_code_n hb ?_
    rcases sr_sp v2 with ⟨q, hq, rfl⟩ | hb2
    · refine sr_code_y hq ?_
      rcases sr_sp v3 with ⟨r, hr, rfl⟩ | hb3
      · exact sr_code_y hr (br_t rfl fin)
      · exact sr_code_n hb3 (br_t rfl fin)
    · refine sr_code_n hb2 ?_
      rcases sr_sp v3 with ⟨r, hr, rfl⟩ | hb3
      · exact sr_code_y hr (br_t rfl fin)
      · exact sr_code_n hb3 (br_t rfl fin)
