/-! the component: gathering -/
theorem sr_ga1 {post : SX → Prop} {J3 : Int32 → (Nat → Int32) → (Nat → Int32) → (Nat → Int32) → (Nat → Int32) → (Nat → Int32) → (Nat → Int32) → (Nat → Int32) → Prop} {cf R r0 : Nat → Int32} {p q : Nat} {x1 x3 f : Int32} (hp : p < 53) (hq : q < 53) (h : J3 (nI (q + 1)) sr_xA sr_xB sr_xC sr_xZ sr_xK cf (sr_rs (fun j => R j + f * sr_N p q j) r0)) : ∃ n, wX_gatherTimesShape_34 post J3 x1 (nI p) x3 (nI q) f n 0 sr_xA sr_xB sr_xC sr_xZ sr_xK cf (sr_rs R r0) := by
  refine loop_0 (fun n t r => wX_gatherTimesShape_34 post J3 x1 (nI p) x3 (nI q) f n (nI t) sr_xA sr_xB sr_xC sr_xZ sr_xK cf r) (fun t r => r = sr_rs (sr_px 0 (fun j => R j + f * sr_N p q j) R t) r0) 53 (sr_rs R r0) (by rw [sr_px_0]) ?_ ?_
  · rintro n r rfl
    have e : sr_rs (sr_px 0 (fun j => R j + f * sr_N p q j) R 53) r0 = sr_rs (fun j => R j + f * sr_N p q j) r0 := sr_rs_congr fun j hj => sr_rs_in (r0 := R) hj
    rw [e]
    exact br_t (nI_le (a := 53) (b := 53) (by decide) (by decide)) (nm_r (nI_1 _) h)
  · rintro n t r ht rfl ih
    refine br_f (nI_ge (b := 53) ht (by decide)) ⟨vp_in_nI ht (by decide), sr_pnum hp hq ht ⟨vp_in_nI ht (by decide), ?_⟩⟩
    rw [nI_clamp (by omega), sr_rs_u ht, sr_rs_in ht]
    have e1 := sr_px_in (o := 0) (V := fun j => R j + f * sr_N p q j) (f := R) (t := t) (u := t)
    rw [Nat.zero_add, if_neg (Nat.lt_irrefl t)] at e1
    have e2 := sr_px_s (o := 0) (V := fun j => R j + f * sr_N p q j) (f := R) (t := t)
    rw [Nat.zero_add] at e2
    rw [e1]
    exact nm_r (congrArg (fun a => sr_rs a r0) e2) (nm_r (nI_1 _) (ih _ rfl))
theorem sr_gather {post : SX → Prop} {cf R r0 : Nat → Int32} {e p : Nat} {n : Int32} (he : e < 2) (hp : p < 53) (h : post (sr_U cf (sr_rs (fun j => R j + sr_s 53 (fun q => (n * cf (e * 53 + q)) * sr_N p q j)) r0))) : wpX_gatherTimesShape post (sr_U cf (sr_rs R r0)) (nI e) (nI p) n := by
  refine loop_0 (fun m t r => wX_gatherTimesShape_3 post (nI e) (nI p) n m (nI t) sr_xA sr_xB sr_xC sr_xZ sr_xK cf r) (fun t r => r = sr_rs (fun j => R j + sr_s t (fun q => (n * cf (e * 53 + q)) * sr_N p q j)) r0) 53 (sr_rs R r0) (sr_rs_congr fun j _ => (Int32.add_zero _).symm) ?_ ?_
  · rintro m r rfl
    exact br_t (nI_le (a := 53) (b := 53) (by decide) (by decide)) h
  · rintro m t r ht rfl ih
    refine br_f (nI_ge (b := 53) ht (by decide)) ?_
    rw [sr_e53, nI_clamp (by omega)]
    refine ⟨vp_in_nI (by omega) (by decide), nm_e (br_c (fun z => nm_r (nI_1 _) (ih _ (sr_rs_congr fun j _ => ?_))) (fun z => sr_ga1 hp ht (ih _ (sr_rs_congr fun j _ => ?_))))⟩
    · show R j + sr_s t _ = R j + (sr_s t _ + (n * cf (e * 53 + t)) * sr_N p t j)
      rw [z, Int32.zero_mul, Int32.add_zero]
    · exact Int32.add_assoc _ _ _
theorem sr_gcode_y {post : SX → Prop} {cf R r0 : Nat → Int32} {e p : Nat} {n : Int32} (he : e < 2) (hp : p < 53) (h : post (sr_U cf (sr_rs (fun j => R j + sr_s 53 (fun q => (n * cf (e * 53 + q)) * sr_N p q j)) r0))) : wpX_gatherTimesCode post (sr_U cf (sr_rs R r0)) (nI e) (nI (sr_cd p)) n :=
  sr_code_y hp (br_f (show ¬ nI p = -1 from fun z => by
    have := congrArg Int32.toInt z
    rw [nI_toInt (by omega)] at this
    have e : (-1 : Int32).toInt = -1 := by decide
    rw [e] at this
    omega) (sr_gather he hp h))
theorem sr_gcode_n {post : SX → Prop} {cf R r0 : Nat → Int32} {e : Nat} {x n : Int32} (hx : ∀ s, s < 53 → x ≠ nI (sr_cd s)) (h : post (sr_U cf (sr_rs R r0))) : wpX_gatherTimesCode post (sr_U cf (sr_rs R r0)) (nI e) x n :=
  sr_code_n hx (br_t rfl h)
/-- one of timesPower's three gatherings, whether the code is a shape's or not -/
def sr_gd (cd : Nat) (p : Nat) : Int32 := if sr_cd p = cd then 1 else 0
theorem sr_gcode {post : SX → Prop} {cf R r0 : Nat → Int32} {e cd : Nat} {n : Int32} (he : e < 2) (hc : cd < 1000) (h : post (sr_U cf (sr_rs (fun j => R j + sr_s 53 (fun p => sr_s 53 (fun q => ((n * sr_gd cd p) * cf (e * 53 + q)) * sr_N p q j))) r0))) : wpX_gatherTimesCode post (sr_U cf (sr_rs R r0)) (nI e) (nI cd) n := by
  by_cases hs : ∃ s, s < 53 ∧ sr_cd s = cd
  · obtain ⟨s, hs, rfl⟩ := hs
    refine sr_gcode_y he hs ?_
    have e : (fun j => R j + sr_s 53 (fun q => (n * cf (e * 53 + q)) * sr_N s q j)) = (fun j => R j + sr_s 53 (fun p => sr_s 53 (fun q => ((n * sr_gd (sr_cd s) p) * cf (e * 53 + q)) * sr_N p q j))) := by
      funext j
      refine congrArg (R j + ·) ?_
      refine Eq.trans ?_ (sr_s_one (f := fun p => sr_s 53 (fun q => ((n * sr_gd (sr_cd s) p) * cf (e * 53 + q)) * sr_N p q j)) hs ?_).symm
      · refine sr_s_congr fun q _ => ?_
        unfold sr_gd
        rw [if_pos rfl, Int32.mul_one]
      · intro p hp hne
        refine sr_s_0 fun q _ => ?_
        unfold sr_gd
        rw [if_neg (fun z => hne (sr_cd_inj hp hs z)), Int32.mul_zero, Int32.zero_mul, Int32.zero_mul]
    rw [e]
    exact h
  · have hx : ∀ s, s < 53 → nI cd ≠ nI (sr_cd s) := fun s hs' z => by
      have := (sr_f1 hs').2.2.2.2.2.2
      rw [nI_eq (by omega) (by omega)] at z
      exact hs ⟨s, hs', z.symm⟩
    refine sr_gcode_n hx ?_
    have e : R = (fun j => R j + sr_s 53 (fun p => sr_s 53 (fun q => ((n * sr_gd cd p) * cf (e * 53 + q)) * sr_N p q j))) := by
      funext j
      rw [sr_s_0]
      · exact (Int32.add_zero _).symm
      · intro p hp
        refine sr_s_0 fun q _ => ?_
        unfold sr_gd
        rw [if_neg (fun z => hs ⟨p, hp, z⟩), Int32.mul_zero, Int32.zero_mul, Int32.zero_mul]
    rw [← e] at h
    exact h
/-! the component: skew's two loops, product's loop -/
theorem sr_sk1 {post : Int32 → SX → Prop} {J28 : Int32 → (Nat → Int32) → (Nat → Int32) → (Nat → Int32) → (Nat → Int32) → (Nat → Int32) → (Nat → Int32) → (Nat → Int32) → Prop} {cf R r0 : Nat → Int32} {e p q : Nat} (he : e < 2) (hp : p < 53) (hq : q < 53) (hR : R q = 0) (h : J28 (nI (q + 1)) sr_xA sr_xB sr_xC sr_xZ sr_xK cf (sr_rs (upd R q (sr_s 53 (fun r => sr_N p q r * cf (e * 53 + r)))) r0)) : ∃ n, wX_skew_38 post J28 (nI e) (nI p) (nI q) n 0 sr_xA sr_xB sr_xC sr_xZ sr_xK cf (sr_rs R r0) := by
  refine loop_0 (fun n t r => wX_skew_38 post J28 (nI e) (nI p) (nI q) n (nI t) sr_xA sr_xB sr_xC sr_xZ sr_xK cf r) (fun t r => r = sr_rs (upd R q (sr_s t (fun r => sr_N p q r * cf (e * 53 + r)))) r0) 53 (sr_rs R r0) (sr_rs_congr fun j _ => ?_) ?_ ?_
  · show R j = upd R q 0 j
    by_cases z : j = q
    · rw [z, pk_us, hR]
    · rw [pk_un z]
  · rintro n r rfl
    exact br_t (nI_le (a := 53) (b := 53) (by decide) (by decide)) (nm_r (nI_1 _) h)
  · rintro n t r ht rfl ih
    refine br_f (nI_ge (b := 53) ht (by decide)) ⟨vp_in_nI hq (by decide), sr_pnum hp hq ht ?_⟩
    rw [sr_e53, nI_clamp (n := e * 53 + t) (by omega), nI_clamp (n := q) (by omega), sr_rs_u hq, sr_rs_in hq, pk_us]
    refine ⟨vp_in_nI (by omega) (by decide), vp_in_nI hq (by decide), nm_e (nm_r (nI_1 _) (ih _ (sr_rs_congr fun j _ => ?_)))⟩
    by_cases z : j = q
    · rw [z, pk_us, pk_us]; rfl
    · rw [pk_un z, pk_un z, pk_un z]
theorem sr_sk2 {post : Int32 → SX → Prop} {cf r0 : Nat → Int32} {e p : Nat} (he : e < 2) (hp : p < 53) (h : post 0 (sr_U (sr_px (e * 53) (fun q => sr_s 53 (fun r => sr_N p q r * cf (e * 53 + r))) cf 53) (sr_rs (fun q => sr_s 53 (fun r => sr_N p q r * cf (e * 53 + r))) r0))) : ∃ n, wX_skew_28 post (nI e) (nI p) n 0 sr_xA sr_xB sr_xC sr_xZ sr_xK cf (sr_rs (fun _ => 0) r0) := by
  refine loop_0 (fun n t r => wX_skew_28 post (nI e) (nI p) n (nI t) sr_xA sr_xB sr_xC sr_xZ sr_xK cf r) (fun t r => r = sr_rs (sr_px 0 (fun q => sr_s 53 (fun r => sr_N p q r * cf (e * 53 + r))) (fun _ => 0) t) r0) 53 (sr_rs (fun _ => 0) r0) (by rw [sr_px_0]) ?_ ?_
  · rintro n r rfl
    have e : sr_rs (sr_px 0 (fun q => sr_s 53 (fun r => sr_N p q r * cf (e * 53 + r))) (fun _ => 0) 53) r0 = sr_rs (fun q => sr_s 53 (fun r => sr_N p q r * cf (e * 53 + r))) r0 := sr_rs_congr fun j hj => sr_rs_in (r0 := fun _ => 0) hj
    rw [e]
    exact br_t (nI_le (a := 53) (b := 53) (by decide) (by decide)) (sr_xstore he h)
  · rintro n t r ht rfl ih
    have e1 := sr_px_in (o := 0) (V := fun q => sr_s 53 (fun r => sr_N p q r * cf (e * 53 + r))) (f := fun _ => 0) (t := t) (u := t)
    rw [Nat.zero_add, if_neg (Nat.lt_irrefl t)] at e1
    have e2 := sr_px_s (o := 0) (V := fun q => sr_s 53 (fun r => sr_N p q r * cf (e * 53 + r))) (f := fun _ => 0) (t := t)
    rw [Nat.zero_add] at e2
    exact br_f (nI_ge (b := 53) ht (by decide)) (sr_sk1 he hp ht e1 (ih _ (congrArg (fun a => sr_rs a r0) e2)))
theorem sr_pr30 {post : Int32 → SX → Prop} {cf r0 : Nat → Int32} (h : post 0 (sr_U (sr_px (0 * 53) (fun j => sr_s 53 (fun p => sr_s 53 (fun q => (cf (53 + p) * cf (0 * 53 + q)) * sr_N p q j))) cf 53) (sr_rs (fun j => sr_s 53 (fun p => sr_s 53 (fun q => (cf (53 + p) * cf (0 * 53 + q)) * sr_N p q j))) r0))) : ∃ n, wX_product_30 post n 0 sr_xA sr_xB sr_xC sr_xZ sr_xK cf (sr_rs (fun _ => 0) r0) := by
  refine loop_0 (fun n t r => wX_product_30 post n (nI t) sr_xA sr_xB sr_xC sr_xZ sr_xK cf r) (fun t r => r = sr_rs (fun j => sr_s t (fun p => sr_s 53 (fun q => (cf (53 + p) * cf (0 * 53 + q)) * sr_N p q j))) r0) 53 (sr_rs (fun _ => 0) r0) rfl ?_ ?_
  · rintro n r rfl
    exact br_t (nI_le (a := 53) (b := 53) (by decide) (by decide)) (sr_xstore (e := 0) (by decide) h)
  · rintro n t r ht rfl ih
    have e : (53 : Int32) + nI t = nI (53 + t) := nI_add 53 t
    refine br_f (nI_ge (b := 53) ht (by decide)) ?_
    rw [e, nI_clamp (by omega)]
    exact ⟨vp_in_nI (by omega) (by decide), sr_gather (e := 0) (by decide) ht (nm_r (nI_1 _) (ih _ rfl))⟩
theorem sr_pr24 {post : Int32 → SX → Prop} {cf res : Nat → Int32} (h : ∀ r0, post 0 (sr_U (sr_px (0 * 53) (fun j => sr_s 53 (fun p => sr_s 53 (fun q => (cf (53 + p) * cf (0 * 53 + q)) * sr_N p q j))) cf 53) r0)) : wX_product_24 post sr_xA sr_xB sr_xC sr_xZ sr_xK cf res :=
  sr_xclear (sr_pr30 (h _))
/-! the component: numberBefore, value, shapes, inner -/
theorem sr_nbef {post : Int32 → Prop} {cf res : Nat → Int32} {e i j k : Nat} (he : e < 2) (hi : i < 2 ^ 31) (hj : j < 2 ^ 31) (hk : k < 2 ^ 31) (h : post (sr_T (fun s => cf (e * 53 + s)) i j k)) : wpX_numberBefore post (sr_U cf res) (nI e) (nI i) (nI j) (nI k) := by
  refine loop_0 (fun n t r => wX_numberBefore_6 post (nI e) (nI i) (nI j) (nI k) sr_xA sr_xB sr_xC sr_xZ sr_xK cf res n r (nI t)) (fun t r => r = sr_s t (fun s => cf (e * 53 + s) * nI (sr_K s i j k))) 53 0 rfl ?_ ?_
  · rintro n r rfl
    exact br_t (nI_le (a := 53) (b := 53) (by decide) (by decide)) h
  · rintro n t r ht rfl ih
    refine br_f (nI_ge (b := 53) ht (by decide)) ?_
    rw [sr_e53, nI_clamp (by omega)]
    exact ⟨vp_in_nI (by omega) (by decide), sr_fill ht hi hj hk (nm_r rfl (nm_r (nI_1 _) (ih _ rfl)))⟩
theorem sr_nbef_n {post : Int32 → Prop} {cf res : Nat → Int32} {e : Nat} {x y z : Int32} (he : e < 2) (hn : x < 0 ∨ y < 0 ∨ z < 0) (h : post 0) : wpX_numberBefore post (sr_U cf res) (nI e) x y z := by
  refine loop_0 (fun n t r => wX_numberBefore_6 post (nI e) x y z sr_xA sr_xB sr_xC sr_xZ sr_xK cf res n r (nI t)) (fun t r => r = 0) 53 0 rfl ?_ ?_
  · rintro n r rfl
    exact br_t (nI_le (a := 53) (b := 53) (by decide) (by decide)) h
  · rintro n t r ht rfl ih
    refine br_f (nI_ge (b := 53) ht (by decide)) ?_
    rw [sr_e53, nI_clamp (by omega)]
    exact ⟨vp_in_nI (by omega) (by decide), sr_fill_n ht hn (nm_r (e' := 0) (by rw [Int32.mul_zero, Int32.add_zero]) (nm_r (nI_1 _) (ih _ rfl)))⟩
section
variable {post : Int32 → Prop} {cf res : Nat → Int32} {e : Nat} {x y z : Int32}
theorem sr_xv1 {J19 J33 : Int32 → Int32 → Int32 → Prop} {i j : Nat} {s x6 x8 : Int32} (he : e < 2) (hij : i + j ≤ 9) (h : J33 (s + sr_s (10 - i - j) (fun k => sr_T (fun s => cf (e * 53 + s)) i j k * (x8 * sr_pow z k))) (x8 * y) (nI (j + 1))) : ∃ n, wX_value_50 post J19 J33 (nI e) x y z x6 (nI i) x8 (nI j) sr_xA sr_xB sr_xC sr_xZ sr_xK cf res n s x8 0 := by
  refine loop_0 (fun n k (p : Int32 × Int32) => wX_value_50 post J19 J33 (nI e) x y z x6 (nI i) x8 (nI j) sr_xA sr_xB sr_xC sr_xZ sr_xK cf res n p.1 p.2 (nI k)) (fun k p => p = (s + sr_s k (fun k => sr_T (fun s => cf (e * 53 + s)) i j k * (x8 * sr_pow z k)), x8 * sr_pow z k)) (10 - i - j) (s, x8) (by show (s, x8) = (s + 0, x8 * 1); rw [Int32.add_zero, Int32.mul_one]) ?_ ?_
  · rintro n p rfl
    dsimp only
    refine br_t ?_ (nm_r rfl (nm_r (nI_1 _) h))
    rw [nI_add, nI_add]
    exact nI_lt (a := 9) (by omega) (by omega)
  · rintro n k p hk rfl ih
    dsimp only
    refine br_f ?_ (sr_nbef he (by omega) (by omega) (by omega) (nm_r rfl (nm_r rfl (nm_r (nI_1 _) (ih (_, _) ?_)))))
    · rw [nI_add, nI_add]
      exact nI_nlt (a := 9) (by omega) (by decide)
    · exact Prod.ext (Int32.add_assoc _ _ _) (Int32.mul_assoc _ _ _)
theorem sr_xv2 {J19 : Int32 → Int32 → Int32 → Prop} {i : Nat} {s x6 : Int32} (he : e < 2) (hi : i ≤ 9) (h : J19 (s + sr_s (10 - i) (fun j => sr_s (10 - i - j) (fun k => sr_T (fun s => cf (e * 53 + s)) i j k * (x6 * sr_pow y j * sr_pow z k)))) (x6 * x) (nI (i + 1))) : ∃ n, wX_value_33 post J19 (nI e) x y z x6 (nI i) sr_xA sr_xB sr_xC sr_xZ sr_xK cf res n s x6 0 := by
  refine loop_0 (fun n j (p : Int32 × Int32) => wX_value_33 post J19 (nI e) x y z x6 (nI i) sr_xA sr_xB sr_xC sr_xZ sr_xK cf res n p.1 p.2 (nI j)) (fun j p => p = (s + sr_s j (fun j => sr_s (10 - i - j) (fun k => sr_T (fun s => cf (e * 53 + s)) i j k * (x6 * sr_pow y j * sr_pow z k))), x6 * sr_pow y j)) (10 - i) (s, x6) (by show (s, x6) = (s + 0, x6 * 1); rw [Int32.add_zero, Int32.mul_one]) ?_ ?_
  · rintro n p rfl
    dsimp only
    refine br_t ?_ (nm_r rfl (nm_r (nI_1 _) h))
    rw [nI_add]
    exact nI_lt (a := 9) (by omega) (by omega)
  · rintro n j p hj rfl ih
    dsimp only
    refine br_f ?_ (sr_xv1 he (by omega) (ih (_, _) ?_))
    · rw [nI_add]
      exact nI_nlt (a := 9) (by omega) (by decide)
    · exact Prod.ext (Int32.add_assoc _ _ _) (Int32.mul_assoc _ _ _)
theorem sr_xv3 (he : e < 2) (h : post (sr_s 10 (fun i => sr_s (10 - i) (fun j => sr_s (10 - i - j) (fun k => sr_T (fun s => cf (e * 53 + s)) i j k * (sr_pow x i * sr_pow y j * sr_pow z k)))))) : ∃ n, wX_value_19 post (nI e) x y z sr_xA sr_xB sr_xC sr_xZ sr_xK cf res n 0 1 0 := by
  refine loop_0 (fun n i (p : Int32 × Int32) => wX_value_19 post (nI e) x y z sr_xA sr_xB sr_xC sr_xZ sr_xK cf res n p.1 p.2 (nI i)) (fun i p => p = (sr_s i (fun i => sr_s (10 - i) (fun j => sr_s (10 - i - j) (fun k => sr_T (fun s => cf (e * 53 + s)) i j k * (sr_pow x i * sr_pow y j * sr_pow z k)))), sr_pow x i)) 10 (0, 1) rfl ?_ ?_
  · rintro n p rfl
    dsimp only
    exact br_t (nI_lt (a := 9) (b := 10) (by decide) (by decide)) h
  · rintro n i p hi rfl ih
    dsimp only
    exact br_f (nI_nlt (a := 9) (by omega) (by decide)) (sr_xv2 he (by omega) (ih (_, _) rfl))
end
