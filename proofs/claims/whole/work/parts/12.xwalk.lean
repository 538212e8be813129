/-! the component's walks -/
abbrev sr_U (cf res : Nat → Int32) : SX := (sr_xA, sr_xB, sr_xC, sr_xZ, sr_xK, cf, res)
theorem sr_noE_n {post : Int32 → Prop} {u : SX} {e : Nat} (he : e < 2) (h : post 0) : wpX_isNoElement post u (nI e) := by
  by_cases z : e = 0
  · subst z; exact br_t nI_0 h
  · have : e = 1 := by omega
    subst this
    exact br_f (by decide) (br_t (by decide) h)
theorem sr_noE_y {post : Int32 → Prop} {u : SX} {x : Int32} (hx : ∀ e, e < 2 → x ≠ nI e) (h : post 1) : wpX_isNoElement post u x :=
  br_f (hx 0 (by decide)) (br_f (hx 1 (by decide)) h)
theorem sr_code_y {post : Int32 → Prop} {cf res : Nat → Int32} {s : Nat} (hs : s < 53) (h : post (nI s)) : wpX_shapeWithCode post (sr_U cf res) (nI (sr_cd s)) := by
  refine loop_0 (fun n t (_ : Unit) => wX_shapeWithCode_2 post (nI (sr_cd s)) sr_xA sr_xB sr_xC sr_xZ sr_xK cf res n (nI t)) (fun _ _ => True) s () trivial ?_ ?_
  · intro n _ _
    refine br_f (nI_ge (b := 53) hs (by decide)) ⟨vp_in_nI hs (by decide), ?_⟩
    rw [nI_clamp (by omega)]
    exact br_t rfl h
  · intro n t _ ht _ ih
    refine br_f (nI_ge (b := 53) (by omega) (by decide)) ⟨vp_in_nI (by omega) (by decide), ?_⟩
    rw [nI_clamp (by omega)]
    refine br_f (fun z => ?_) (nm_r (nI_1 _) (ih () trivial))
    have h1 := (sr_f1 hs).2.2.2.2.2.2
    have h2 := (sr_f1 (s := t) (by omega)).2.2.2.2.2.2
    have z : nI (sr_cd t) = nI (sr_cd s) := z
    rw [nI_eq (by omega) (by omega)] at z
    have := sr_cd_inj (by omega) hs z
    omega
theorem sr_code_n {post : Int32 → Prop} {cf res : Nat → Int32} {x : Int32} (hx : ∀ s, s < 53 → x ≠ nI (sr_cd s)) (h : post (-1)) : wpX_shapeWithCode post (sr_U cf res) x := by
  refine loop_0 (fun n t (_ : Unit) => wX_shapeWithCode_2 post x sr_xA sr_xB sr_xC sr_xZ sr_xK cf res n (nI t)) (fun _ _ => True) 53 () trivial ?_ ?_
  · intro n _ _
    exact br_t (nI_le (a := 53) (b := 53) (by decide) (by decide)) h
  · intro n t _ ht _ ih
    refine br_f (nI_ge (b := 53) ht (by decide)) ⟨vp_in_nI ht (by decide), ?_⟩
    rw [nI_clamp (by omega)]
    exact br_f (fun z => hx t ht z.symm) (nm_r (nI_1 _) (ih () trivial))
theorem sr_e53 (e s : Nat) : nI e * 53 + nI s = nI (e * 53 + s) := by
  rw [← nI_add, ← pk_mul]; rfl
theorem sr_xtop {post : Int32 → Prop} {cf res : Nat → Int32} {e : Nat} (he : e < 2) (h : ∀ r, sr_top (sr_nz sr_z (fun s => cf (e * 53 + s) ≠ 0) 53) r → post r) : wpX_topSize post (sr_U cf res) (nI e) := by
  refine loop_0 (fun n t r => wX_topSize_5 post (nI e) sr_xA sr_xB sr_xC sr_xZ sr_xK cf res n r (nI t)) (fun t r => sr_top (sr_nz sr_z (fun s => cf (e * 53 + s) ≠ 0) t) r) 53 (-4) sr_top_0 ?_ ?_
  · intro n r hr
    exact br_t (nI_le (a := 53) (b := 53) (by decide) (by decide)) (h r hr)
  · intro n t r ht hr ih
    have hD := (sr_f1 ht).2.1
    have hz : sr_xZ (nI t).toNatClampNeg = nI (sr_z t) := by rw [nI_clamp (by omega)]; rfl
    refine br_f (nI_ge (b := 53) ht (by decide)) ?_
    rw [sr_e53, nI_clamp (n := e * 53 + t) (by omega), hz]
    exact ⟨vp_in_nI (by omega) (by decide), br_c (fun z => nm_r (nI_1 _) (ih _ (sr_top_skip (fun q => q z) hr))) (fun z => ⟨vp_in_nI ht (by decide), br_c (fun y => nm_r (nI_1 _) (ih _ (sr_top_low hD z y hr))) (fun y => ⟨vp_in_nI ht (by decide), nm_r rfl (nm_r (nI_1 _) (ih _ (sr_top_new hD z y hr)))⟩)⟩)⟩
/-- too great, or not -/
theorem sr_full {c : Nat → Int32} {r : Int32} {m : Nat} (hm : m ≤ 9) (H : sr_top (sr_nz sr_z (fun s => c s ≠ 0) 53) r) : (r ≠ -4 ∧ ¬ r < 0 ∧ ¬ r + nI m ≤ 9) ∨ ((∀ s, s < 53 → c s ≠ 0 → sr_z s + m ≤ 9) ∧ (r = -4 ∨ (r ≠ -4 ∧ ¬ r < 0 ∧ r + nI m ≤ 9))) := by
  rcases H with ⟨h1, h2⟩ | ⟨d, h1, h2, h3, h4⟩
  · exact Or.inr ⟨fun s hs hc => absurd ⟨s, hs, rfl, hc⟩ (h2 (sr_z s) (sr_f1 hs).2.1), Or.inl h1⟩
  · subst h2
    have n4 : ∀ d, d ≤ 9 → nI d ≠ -4 := by decide
    by_cases hf : d + m ≤ 9
    · refine Or.inr ⟨fun s hs hc => ?_, Or.inr ⟨n4 d h1, nI_pos (by omega), ?_⟩⟩
      · have := h4 (sr_z s) (sr_f1 hs).2.1 ⟨s, hs, rfl, hc⟩
        omega
      · rw [nI_add]; exact nI_le (b := 9) hf (by decide)
    · refine Or.inl ⟨n4 d h1, nI_pos (by omega), ?_⟩
      rw [nI_add]; exact nI_ge (a := 9) (by omega) (by omega)
theorem sr_tooG {post : Int32 → Prop} {cf res : Nat → Int32} {e : Nat} {x : Int32} (he : e < 2) (h : ∀ r, sr_top (sr_nz sr_z (fun s => cf (e * 53 + s) ≠ 0) 53) r → (r = -4 → post 0) ∧ (¬ r = -4 → (r + x ≤ 9 → post 0) ∧ (¬ r + x ≤ 9 → post 1))) : wpX_isTooGreat post (sr_U cf res) (nI e) x :=
  sr_xtop he h
/-! the gathered result -/
def sr_rs (R r0 : Nat → Int32) : Nat → Int32 := sr_px 0 R r0 53
theorem sr_rs_in {R r0 : Nat → Int32} {j : Nat} (h : j < 53) : sr_rs R r0 j = R j := by
  have := sr_px_in (o := 0) (V := R) (f := r0) (t := 53) (u := j)
  rw [Nat.zero_add, if_pos h] at this
  exact this
theorem sr_rs_congr {R R' r0 : Nat → Int32} (h : ∀ j, j < 53 → R j = R' j) : sr_rs R r0 = sr_rs R' r0 := by
  funext j
  by_cases hj : j < 53
  · rw [sr_rs_in hj, sr_rs_in hj, h j hj]
  · unfold sr_rs
    rw [sr_px_out (by omega), sr_px_out (by omega)]
theorem sr_rs_u {R r0 : Nat → Int32} {r : Nat} {v : Int32} (h : r < 53) : upd (sr_rs R r0) r v = sr_rs (upd R r v) r0 := by
  funext j
  by_cases e : j = r
  · rw [e, pk_us, sr_rs_in h, pk_us]
  · rw [pk_un e]
    by_cases hj : j < 53
    · rw [sr_rs_in hj, sr_rs_in hj, pk_un e]
    · unfold sr_rs
      rw [sr_px_out (by omega), sr_px_out (by omega)]
theorem sr_xclear {post : SX → Prop} {cf res : Nat → Int32} (h : post (sr_U cf (sr_rs (fun _ => 0) res))) : wpX_clearResult post (sr_U cf res) := by
  refine loop_0 (fun n t r => wX_clearResult_2 post n (nI t) sr_xA sr_xB sr_xC sr_xZ sr_xK cf r) (fun t r => r = sr_px 0 (fun _ => 0) res t) 53 res sr_px_0.symm ?_ ?_
  · rintro n r rfl
    exact br_t (nI_le (a := 53) (b := 53) (by decide) (by decide)) h
  · rintro n t r ht rfl ih
    refine br_f (nI_ge (b := 53) ht (by decide)) ⟨vp_in_nI ht (by decide), ?_⟩
    rw [nI_clamp (by omega)]
    have e := sr_px_s (o := 0) (V := fun _ => 0) (f := res) (t := t)
    rw [Nat.zero_add] at e
    exact nm_r e (nm_r (nI_1 _) (ih _ rfl))
theorem sr_xstore {post : SX → Prop} {cf R r0 : Nat → Int32} {e : Nat} (he : e < 2) (h : post (sr_U (sr_px (e * 53) R cf 53) (sr_rs R r0))) : wpX_storeResult post (sr_U cf (sr_rs R r0)) (nI e) := by
  refine loop_0 (fun n t f => wX_storeResult_2 post (nI e) n (nI t) sr_xA sr_xB sr_xC sr_xZ sr_xK f (sr_rs R r0)) (fun t f => f = sr_px (e * 53) R cf t) 53 cf sr_px_0.symm ?_ ?_
  · rintro n f rfl
    exact br_t (nI_le (a := 53) (b := 53) (by decide) (by decide)) h
  · rintro n t f ht rfl ih
    refine br_f (nI_ge (b := 53) ht (by decide)) ⟨vp_in_nI ht (by decide), ?_⟩
    rw [sr_e53, nI_clamp (n := e * 53 + t) (by omega), nI_clamp (n := t) (by omega), sr_rs_in ht]
    exact ⟨vp_in_nI (by omega) (by decide), nm_r sr_px_s (nm_r (nI_1 _) (ih _ rfl))⟩
/-! fillings -/
def sr_mi (x y : Nat) : Nat := if x ≤ y then x else y
theorem sr_k5_e (a b c i j : Nat) : sr_k5 a b c i j = sr_mi (sr_mi (b + 1) (i + j + 1 - b)) (sr_mi (i + 1) (j + 1)) - (c + (i + j - a - c)) := by
  have e : ∀ x y, sr_mn x y = sr_mi x y := by
    intro x y
    show x - (x - y) = if x ≤ y then x else y
    by_cases h : x ≤ y
    · rw [if_pos h]; omega
    · rw [if_neg h]; omega
  show sr_mn (sr_mn (b + 1) (i + j + 1 - b)) (sr_mn (i + 1) (j + 1)) - (c + (i + j - a - c)) = _
  rw [e, e, e]
def sr_kc (a b c i j x : Nat) : Nat := sr_mi x (sr_mi (i + j + 1 - b) (sr_mi (i + 1) (j + 1))) - (c + (i + j - a - c))
theorem sr_kc_0 (a b c i j : Nat) : sr_kc a b c i j c = 0 := by
  unfold sr_kc sr_mi
  repeat' split
  all_goals omega
theorem sr_kc_e (a b c i j : Nat) : sr_kc a b c i j (b + 1) = sr_k5 a b c i j := by
  rw [sr_k5_e]
  unfold sr_kc sr_mi
  repeat' split
  all_goals omega
theorem sr_kc_n {a b c i j x : Nat} (h : i + j < b + x ∨ a + x < i + j ∨ i < x ∨ j < x) (hc : c ≤ x) : sr_kc a b c i j (x + 1) = sr_kc a b c i j x := by
  unfold sr_kc sr_mi
  repeat' split
  all_goals omega
theorem sr_kc_y {a b c i j x : Nat} (h1 : b + x ≤ i + j) (h2 : i + j ≤ a + x) (h3 : x ≤ i) (h4 : x ≤ j) (hc : c ≤ x) : sr_kc a b c i j (x + 1) = sr_kc a b c i j x + 1 := by
  unfold sr_kc sr_mi
  repeat' split
  all_goals omega
theorem sr_subT {a b : Nat} (ha : a < 2 ^ 20) (hb : b < 2 ^ 20) : (nI a - nI b).toInt = (a : Int) - b := pk_sub_toInt (by omega) (by omega)
theorem sr_fill1 {post : Int32 → Prop} {cf res : Nat → Int32} {s i j : Nat} (hs : s < 53) (hij : i + j ≤ 9) (h : post (nI (sr_k5 (sr_a s) (sr_b s) (sr_c s) i j))) : ∃ n, wX_fillings_51 post (nI s) (nI i) (nI j) sr_xA sr_xB sr_xC sr_xZ sr_xK cf res n 0 (nI (sr_c s)) := by
  obtain ⟨h1, h2, h3, h4, _⟩ := sr_f1 hs
  have eA : sr_xA (nI s).toNatClampNeg = nI (sr_a s) := by rw [nI_clamp (by omega)]; rfl
  have eB : sr_xB (nI s).toNatClampNeg = nI (sr_b s) := by rw [nI_clamp (by omega)]; rfl
  have hv : vp_in (nI s) 53 := vp_in_nI hs (by decide)
  refine loop_0 (fun n x r => wX_fillings_51 post (nI s) (nI i) (nI j) sr_xA sr_xB sr_xC sr_xZ sr_xK cf res n r (nI (sr_c s + x))) (fun x r => r = nI (sr_kc (sr_a s) (sr_b s) (sr_c s) i j (sr_c s + x))) (sr_b s + 1 - sr_c s) 0 (by show (0 : Int32) = nI (sr_kc _ _ _ _ _ (sr_c s + 0)); rw [Nat.add_zero, sr_kc_0]; rfl) ?_ ?_
  · rintro n r rfl
    refine ⟨hv, ?_⟩
    rw [eB]
    refine br_t (nI_lt (by omega) (by omega)) ?_
    rw [show sr_c s + (sr_b s + 1 - sr_c s) = sr_b s + 1 by omega, sr_kc_e]
    exact h
  · rintro n x r hx rfl ih
    refine ⟨hv, ?_⟩
    rw [eB, eA]
    refine br_f (nI_nlt (by omega) (by omega)) (nm_r (show nI i + nI j - nI (sr_c s + x) = nI (i + j) - nI (sr_c s + x) by rw [nI_add]) ⟨hv, ?_⟩)
    have tI := sr_subT (a := i + j) (b := sr_c s + x) (by omega) (by omega)
    generalize hy : nI (i + j) - nI (sr_c s + x) = y at tI
    have lt1 : ∀ m, m < 100 → (y < nI m ↔ i + j < m + (sr_c s + x)) := fun m hm => by
      rw [Int32.lt_iff_toInt_lt, tI, nI_toInt (by omega)]; omega
    have lt2 : ∀ m, m < 100 → (nI m < y ↔ m + (sr_c s + x) < i + j) := fun m hm => by
      rw [Int32.lt_iff_toInt_lt, tI, nI_toInt (by omega)]; omega
    refine br_c (fun z => nm_r (nI_1 _) (ih _ ?_)) (fun z => ⟨hv, br_c (fun w => nm_r (nI_1 _) (ih _ ?_)) (fun w => br_c (fun v => nm_r (nI_1 _) (ih _ ?_)) (fun v => br_c (fun t => nm_r (nI_1 _) (ih _ ?_)) (fun t => nm_r (nI_1 _) (nm_r (nI_1 _) (ih _ ?_)))))⟩)
    · rw [lt1 _ (by omega)] at z
      exact congrArg nI (sr_kc_n (x := sr_c s + x) (by omega) (by omega)).symm
    · rw [lt2 _ (by omega)] at w
      exact congrArg nI (sr_kc_n (x := sr_c s + x) (by omega) (by omega)).symm
    · rw [nI_ltI (by omega) (by omega)] at v
      exact congrArg nI (sr_kc_n (x := sr_c s + x) (by omega) (by omega)).symm
    · rw [lt1 _ (by omega)] at t
      exact congrArg nI (sr_kc_n (x := sr_c s + x) (by omega) (by omega)).symm
    · rw [lt1 _ (by omega)] at z t
      rw [lt2 _ (by omega)] at w
      rw [nI_ltI (by omega) (by omega)] at v
      exact congrArg nI (sr_kc_y (x := sr_c s + x) (by omega) (by omega) (by omega) (by omega) (by omega)).symm
theorem sr_fill {post : Int32 → Prop} {cf res : Nat → Int32} {s i j k : Nat} (hs : s < 53) (hi : i < 2 ^ 31) (hj : j < 2 ^ 31) (hk : k < 2 ^ 31) (h : post (nI (sr_K s i j k))) : wpX_fillings post (sr_U cf res) (nI s) (nI i) (nI j) (nI k) := by
  obtain ⟨h1, h2, h3, h4, _⟩ := sr_f1 hs
  have hv : vp_in (nI s) 53 := vp_in_nI hs (by decide)
  have eZ : sr_xZ (nI s).toNatClampNeg = nI (sr_z s) := by rw [nI_clamp (by omega)]; rfl
  have eC : sr_xC (nI s).toNatClampNeg = nI (sr_c s) := by rw [nI_clamp (by omega)]; rfl
  refine ⟨hv, nm_r (show _ = nI (sr_z s) - nI i by rw [eZ]) (br_f (nI_pos hi) (br_f (nI_pos hj) (br_f (nI_pos hk) ?_)))⟩
  by_cases hz : i ≤ sr_z s
  · rw [pk_sub hz]
    refine pk_lt (sr_z s - i) j (fun z => ?_) (fun z => ?_) rfl rfl (by omega) hj
    · rw [sr_K_n (by omega)] at h
      exact h
    · rw [pk_sub z]
      refine pk_eq k (sr_z s - i - j) (fun q => ⟨hv, nm_r eC (sr_fill1 hs (by omega) ?_)⟩) (fun q => ?_) rfl rfl hk (by omega)
      · rw [sr_K_y (by omega)] at h
        exact h
      · rw [sr_K_n (by omega)] at h
        exact h
  · rw [sr_K_n (by omega)] at h
    refine br_t ?_ h
    rw [Int32.lt_iff_toInt_lt, Int32.toInt_sub, nI_toInt (n := sr_z s) (by omega), nI_toInt hi, nI_toInt hj, Int.bmod_eq_of_le (by omega) (by omega)]
    omega
theorem sr_fill_n {post : Int32 → Prop} {cf res : Nat → Int32} {s : Nat} {x y z : Int32} (hs : s < 53) (hn : x < 0 ∨ y < 0 ∨ z < 0) (h : post 0) : wpX_fillings post (sr_U cf res) (nI s) x y z := by
  refine ⟨vp_in_nI hs (by decide), nm_e (br_c (fun _ => h) (fun a => br_c (fun _ => h) (fun b => br_c (fun _ => h) (fun c => ?_))))⟩
  rcases hn with q | q | q
  · exact absurd q a
  · exact absurd q b
  · exact absurd q c
theorem sr_fillD {post : Int32 → Prop} {cf res : Nat → Int32} {s u i v j w k : Nat} (hs : s < 53) (hu : u < 100) (hv : v < 100) (hw : w < 100) (hi : i < 100) (hj : j < 100) (hk : k < 100) (h : post (nI (sr_D s u i v j w k))) : wpX_fillings post (sr_U cf res) (nI s) (nI u - nI i) (nI v - nI j) (nI w - nI k) := by
  by_cases hf : i ≤ u ∧ j ≤ v ∧ k ≤ w
  · rw [sr_D_y hf.1 hf.2.1 hf.2.2] at h
    rw [pk_sub hf.1, pk_sub hf.2.1, pk_sub hf.2.2]
    exact sr_fill hs (by omega) (by omega) (by omega) h
  · rw [sr_D_n hf] at h
    refine sr_fill_n hs ?_ h
    by_cases h1 : i ≤ u
    · by_cases h2 : j ≤ v
      · exact Or.inr (Or.inr (pk_sneg (by omega) (by omega)))
      · exact Or.inr (Or.inl (pk_sneg (by omega) (by omega)))
    · exact Or.inl (pk_sneg (by omega) (by omega))
theorem sr_pnum {post : Int32 → Prop} {cf res : Nat → Int32} {p q r : Nat} (hp : p < 53) (hq : q < 53) (hr : r < 53) (h : post (sr_N p q r)) : wpX_productNumber post (sr_U cf res) (nI p) (nI q) (nI r) := by
  have vp := vp_in_nI hp (N := 53) (by decide)
  have vq := vp_in_nI hq (N := 53) (by decide)
  have vr := vp_in_nI hr (N := 53) (by decide)
  obtain ⟨p1, p2, p3, p4, _⟩ := sr_f1 hp
  obtain ⟨q1, q2, q3, q4, _⟩ := sr_f1 hq
  obtain ⟨r1, r2, r3, r4, _⟩ := sr_f1 hr
  refine ⟨vp, vq, vr, ?_⟩
  rw [nI_clamp (n := p) (by omega), nI_clamp (n := q) (by omega), nI_clamp (n := r) (by omega)]
  refine pk_eq (sr_z p + sr_z q) (sr_z r) (fun z => ?_) (fun z => ?_) (nI_add _ _) rfl (by omega) (by omega)
  · have eE : sr_E p q r = sr_E6 p (sr_a r + 2) (sr_b r + 1) (sr_c r) (sr_a q + 2) (sr_b q + 1) (sr_c q) := by
      show cond (Nat.beq (sr_z p + sr_z q) (sr_z r)) _ 0 = _
      rw [sr_bt z]; rfl
    have eO : sr_O p q r = sr_O6 p (sr_a r + 2) (sr_b r + 1) (sr_c r) (sr_a q + 2) (sr_b q + 1) (sr_c q) := by
      show cond (Nat.beq (sr_z p + sr_z q) (sr_z r)) _ 0 = _
      rw [sr_bt z]; rfl
    refine ⟨vr, nm_r (nI_add (sr_a r) 2) ⟨vr, nm_r (nI_1 (sr_b r)) ⟨vr, nm_r (e' := nI (sr_c r)) rfl ⟨vq, nm_r (nI_add (sr_a q) 2) ⟨vq, nm_r (nI_1 (sr_b q)) ⟨vq, nm_r (e' := nI (sr_c q)) rfl ?_⟩⟩⟩⟩⟩⟩
    refine sr_fillD hp (by omega) (by omega) (by omega) (by omega) (by omega) (by omega) ?_
    refine sr_fillD hp (by omega) (by omega) (by omega) (by omega) (by omega) (by omega) ?_
    refine sr_fillD hp (by omega) (by omega) (by omega) (by omega) (by omega) (by omega) ?_
    refine nm_e ?_
    refine sr_fillD hp (by omega) (by omega) (by omega) (by omega) (by omega) (by omega) ?_
    refine sr_fillD hp (by omega) (by omega) (by omega) (by omega) (by omega) (by omega) ?_
    refine sr_fillD hp (by omega) (by omega) (by omega) (by omega) (by omega) (by omega) ?_
    refine nm_e ?_
    rw [nI_add, nI_add, nI_add, nI_add]
    have e : sr_N p q r = nI (sr_E6 p (sr_a r + 2) (sr_b r + 1) (sr_c r) (sr_a q + 2) (sr_b q + 1) (sr_c q)) - nI (sr_O6 p (sr_a r + 2) (sr_b r + 1) (sr_c r) (sr_a q + 2) (sr_b q + 1) (sr_c q)) := by
      show nI (sr_E p q r) - nI (sr_O p q r) = _
      rw [eE, eO]
    rw [e] at h
    exact h
  · rw [sr_N_n z] at h
    exact h
