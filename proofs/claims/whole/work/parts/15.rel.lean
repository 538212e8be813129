/-! the relation, and the frames of both sides' methods -/
def sr_R (cf tm : Nat → Int32) : Prop := ∀ e, e < 2 → sr_B (1000 * e) tm (fun s => cf (e * 53 + s))
theorem sr_R_set {cf tm tm' c' : Nat → Int32} {e : Nat} (R : sr_R cf tm) (he : e < 2) (B : sr_B (1000 * e) tm' c') (hf : ∀ j, j < 2000 → j < 1000 * e ∨ 1000 * e + 1000 ≤ j → tm' j = tm j) : sr_R (sr_px (e * 53) c' cf 53) tm' := by
  intro e' he' i j k h
  by_cases z : e' = e
  · subst z
    rw [B i j k h]
    refine sr_T_congr (fun s hs => ?_) i j k
    rw [sr_px_in, if_pos hs]
  · rw [hf _ (by omega) (by omega), R e' he' i j k h]
    refine sr_T_congr (fun s hs => ?_) i j k
    rw [sr_px_out (by omega)]
theorem sr_R_keep {cf tm tm' : Nat → Int32} (R : sr_R cf tm) (hf : ∀ j, j < 2000 → tm' j = tm j) : sr_R cf tm' := by
  intro e he i j k h
  rw [hf _ (by omega)]
  exact R e he i j k h
theorem sr_pw_W {o : Nat} (W : Nat → Int32) {f : Nat → Int32} {i j k : Nat} (h : i + j + k ≤ 9) : sr_pw o (fun t => W (sr_P t)) f 220 (o + (100 * i + 10 * j + k)) = W (100 * i + 10 * j + k) := by
  obtain ⟨t, ht, e⟩ := sr_at h
  rw [← e, sr_pw_in ht, if_pos ht]
def sr_bad2 (x y : Int32) : Prop := (∀ e, e < 2 → x ≠ nI e) ∨ (∀ s, s < 53 → y ≠ nI (sr_cd s))
theorem sr_args (x y : Int32) : (∃ e s, e < 2 ∧ s < 53 ∧ x = nI e ∧ y = nI (sr_cd s)) ∨ sr_bad2 x y := by
  by_cases h1 : ∃ e, e < 2 ∧ x = nI e
  · by_cases h2 : ∃ s, s < 53 ∧ y = nI (sr_cd s)
    · obtain ⟨e, he, rfl⟩ := h1
      obtain ⟨s, hs, rfl⟩ := h2
      exact Or.inl ⟨e, s, he, hs, rfl, rfl⟩
    · exact Or.inr (Or.inr fun s hs z => h2 ⟨s, hs, z⟩)
  · exact Or.inr (Or.inl fun e he z => h1 ⟨e, he, z⟩)
theorem sr_el (x : Int32) : (∃ e, e < 2 ∧ x = nI e) ∨ (∀ e, e < 2 → x ≠ nI e) := by
  by_cases h1 : ∃ e, e < 2 ∧ x = nI e
  · exact Or.inl h1
  · exact Or.inr fun e he z => h1 ⟨e, he, z⟩
theorem sr_sp (x : Int32) : (∃ s, s < 53 ∧ x = nI (sr_cd s)) ∨ (∀ s, s < 53 → x ≠ nI (sr_cd s)) := by
  by_cases h1 : ∃ s, s < 53 ∧ x = nI (sr_cd s)
  · exact Or.inl h1
  · exact Or.inr fun e he z => h1 ⟨e, he, z⟩
theorem sr_n1 {s : Nat} (hs : s < 53) : ¬ nI s = -1 := by
  intro z
  have := congrArg Int32.toInt z
  rw [nI_toInt (by omega)] at this
  have e : (-1 : Int32).toInt = -1 := by decide
  rw [e] at this
  omega
theorem sr_Xb {A : Prop} {B : Int32 → Prop} {cf res : Nat → Int32} {x y : Int32} (h : sr_bad2 x y) (a : A) : wpX_shapeWithCode (fun r1 => wpX_isNoElement (fun r9 => (r9 = 0 → ((r1 = (-1) → A) ∧ (¬ r1 = (-1) → B r1))) ∧ (¬ r9 = 0 → A)) (sr_U cf res) x) (sr_U cf res) y := by
  rcases sr_el x with ⟨e, he, rfl⟩ | hx
  · rcases h with h | h
    · exact absurd rfl (h e he)
    · exact sr_code_n h (sr_noE_n he (br_t rfl (br_t rfl a)))
  · rcases sr_sp y with ⟨s, hs, rfl⟩ | hy
    · exact sr_code_y hs (sr_noE_y hx (br_f (by decide) a))
    · exact sr_code_n hy (sr_noE_y hx (br_f (by decide) a))
theorem sr_Xg {A : Prop} {B : Int32 → Prop} {cf res : Nat → Int32} {e s : Nat} (he : e < 2) (hs : s < 53) (b : B (nI s)) : wpX_shapeWithCode (fun r1 => wpX_isNoElement (fun r9 => (r9 = 0 → ((r1 = (-1) → A) ∧ (¬ r1 = (-1) → B r1))) ∧ (¬ r9 = 0 → A)) (sr_U cf res) (nI e)) (sr_U cf res) (nI (sr_cd s)) :=
  sr_code_y hs (sr_noE_n he (br_t rfl (br_f (sr_n1 hs) b)))
theorem sr_Yb {A B : Prop} {v : SY} {x y : Int32} (h : sr_bad2 x y) (a : A) : wpY_bad (fun r1 => (r1 = 0 → wpY_isShape (fun r7 => (r7 = 0 → A) ∧ (¬ r7 = 0 → B)) v y) ∧ (¬ r1 = 0 → A)) v x := by
  rcases sr_el x with ⟨e, he, rfl⟩ | hx
  · rcases h with h | h
    · exact absurd rfl (h e he)
    · exact sr_bad_n he (br_t rfl (sr_isS_n h (br_t rfl a)))
  · exact sr_bad_y hx (br_f (by decide) a)
theorem sr_Yg {A B : Prop} {v : SY} {e s : Nat} (he : e < 2) (hs : s < 53) (b : B) : wpY_bad (fun r1 => (r1 = 0 → wpY_isShape (fun r7 => (r7 = 0 → A) ∧ (¬ r7 = 0 → B)) v (nI (sr_cd s))) ∧ (¬ r1 = 0 → A)) v (nI e) :=
  sr_bad_n he (br_t rfl (sr_isS_y hs (br_f (by decide) b)))
theorem sr_size {post : Int32 → Prop} {v : SY} {s : Nat} (hs : s < 53) (h : post (nI (sr_z s))) : wpY_size post v (nI (sr_cd s)) := by
  obtain ⟨h1, h2, h3, h4, _, _, h7⟩ := sr_f1 hs
  obtain ⟨d1, d2, d3⟩ := sr_cd_digits hs
  obtain ⟨e1, e2, e3, e4⟩ := sr_div (p := sr_cd s) (by omega)
  refine ⟨by decide, by decide, by decide, by decide, ?_⟩
  rw [e3, e4, e1, d1, d2, d3, nI_add, nI_add, ← h1]
  exact h
/-- multiply into 3000, copy back: the block then holds the component's gathered coefficients -/
theorem sr_mcB {tm c d : Nat → Int32} {e o2 : Nat} (he : e < 2) (ho : o2 = 2000 ∨ o2 = 1000) (B1 : sr_B (1000 * e) tm c) (B2 : sr_B o2 tm d) (hz : ∀ q, q < 53 → ∀ p, p < 53 → c q ≠ 0 → d p ≠ 0 → sr_z p + sr_z q ≤ 9) : sr_B (1000 * e) (sr_pw (1000 * e) (fun t => sr_mu (1000 * e) o2 3000 tm (3000 + sr_P t)) (sr_mu (1000 * e) o2 3000 tm) 220) (fun r => sr_s 53 (fun p => sr_s 53 (fun q => (d p * c q) * sr_N p q r))) := by
  intro i j k h
  rw [sr_pw_W (fun w => sr_mu (1000 * e) o2 3000 tm (3000 + w)) h, sr_mu_in h, ← sr_main hz]
  exact sr_V_congr (fun a b c ha hb hc => B1 a b c (by omega)) (fun a b c ha hb hc => B2 a b c (by omega))
theorem sr_mcB_out {tm : Nat → Int32} {e o2 j : Nat} (h1 : j < 2000) (h2 : j < 1000 * e ∨ 1000 * e + 1000 ≤ j) : sr_pw (1000 * e) (fun t => sr_mu (1000 * e) o2 3000 tm (3000 + sr_P t)) (sr_mu (1000 * e) o2 3000 tm) 220 j = tm j := by
  rw [sr_pw_out (by decide) h2, sr_mu_out (by omega)]
theorem sr_Bsh {tm : Nat → Int32} {s : Nat} (hs : s < 53) : sr_B 2000 (sr_sh s tm) (fun t => if t = s then 1 else 0) := by
  intro i j k h
  rw [sr_sh_in hs h, sr_T_one hs]
theorem sr_B_keep {o : Nat} {tm tm' c : Nat → Int32} (B : sr_B o tm c) (hf : ∀ j, o ≤ j → j < o + 1000 → tm' j = tm j) : sr_B o tm' c := by
  intro i j k h
  rw [hf _ (by omega) (by omega)]
  exact B i j k h
/-! the product of two shapes, as skew and number reckon it -/
noncomputable def sr_t4 (p q : Nat) (tm : Nat → Int32) : Nat → Int32 := sr_sh q (sr_pw 4000 (fun t => sr_sh p tm (2000 + sr_P t)) (sr_sh p tm) 220)
theorem sr_t4_out {p q : Nat} {tm : Nat → Int32} {j : Nat} (hp : p < 53) (hq : q < 53) (h : j < 2000) : sr_t4 p q tm j = tm j := by
  unfold sr_t4
  rw [sr_sh_out hq (by omega), sr_pw_out (by decide) (by omega), sr_sh_out hp (by omega)]
theorem sr_t4_mu {p q : Nat} {tm : Nat → Int32} (hp : p < 53) (hq : q < 53) (hz : sr_z p + sr_z q ≤ 9) : sr_B 3000 (sr_mu 4000 2000 3000 (sr_t4 p q tm)) (sr_N p q) := by
  intro i j k h
  rw [sr_mu_in h, ← sr_LR hp hq hz]
  refine sr_V_congr (fun a b c ha hb hc => ?_) (fun a b c ha hb hc => ?_)
  · unfold sr_t4
    rw [sr_sh_out hq (by omega), sr_pw_W (fun w => sr_sh p tm (2000 + w)) (by omega), sr_sh_in hp (by omega)]
  · unfold sr_t4
    rw [sr_sh_in hq (by omega)]
/-! skew in the reference -/
theorem sr_ysk95 {post : Int32 → SY → Prop} {J20 : Int32 → (Nat → Int32) → (Nat → Int32) → (Nat → Int32) → (Nat → Int32) → Prop} {tm ys c d : Nat → Int32} {e s : Nat} {x2 : Int32} (he : e < 2) (hs : s < 53) (B : sr_B 3000 tm d) (B' : sr_B (1000 * e) tm c) (hy : ys s = 0) (h : J20 (nI (s + 1)) tm sr_yP sr_yC (upd ys s (sr_s 53 (fun r => d r * c r)))) : ∃ n, wY_skew_95 post J20 (nI e) x2 (nI s) n 0 tm sr_yP sr_yC ys := by
  rw [← sr_perm (fun r => d r * c r)] at h
  refine loop_0 (fun n t y => wY_skew_95 post J20 (nI e) x2 (nI s) n (nI t) tm sr_yP sr_yC y) (fun t y => y = upd ys s (sr_s t (fun t => d (sr_pi t) * c (sr_pi t)))) 53 ys ?_ ?_ ?_
  · funext j
    by_cases z : j = s
    · rw [z, pk_us, hy]; rfl
    · rw [pk_un z]
  · rintro n y rfl
    exact br_t (nI_le (a := 53) (b := 53) (by decide) (by decide)) (nm_r (nI_1 _) h)
  · rintro n t y ht rfl ih
    refine br_f (nI_ge (b := 53) ht (by decide)) ⟨vp_in_nI ht (by decide), ?_⟩
    rw [sr_1000, sr_yc_at ht]
    refine sr_before (o := 3000) B (by decide) (sr_f3 ht).1 ⟨vp_in_nI ht (by decide), sr_before B' (by omega) (sr_f3 ht).1 ⟨vp_in_nI hs (by decide), ?_⟩⟩
    rw [nI_clamp (by omega), pk_us]
    refine ⟨vp_in_nI hs (by decide), nm_e (nm_r (nI_1 _) (ih _ ?_))⟩
    funext j
    by_cases z : j = s
    · rw [z, pk_us, pk_us]; rfl
    · rw [pk_un z, pk_un z, pk_un z]
theorem sr_ysk173 {post : Int32 → SY → Prop} {tm ys : Nat → Int32} {e : Nat} {res : Nat → Int32} (he : e < 2) (hy : ∀ s, s < 53 → ys s = res (sr_pi s)) (h0 : ∀ i j k, i + j + k ≤ 9 → tm (1000 * e + (100 * i + 10 * j + k)) = 0) (h : ∀ tm', sr_B (1000 * e) tm' res → (∀ j, j < 2000 → j < 1000 * e ∨ 1000 * e + 1000 ≤ j → tm' j = tm j) → post 0 (tm', sr_yP, sr_yC, ys)) : ∃ n, wY_skew_173 post (nI e) n 0 tm sr_yP sr_yC ys := by
  refine loop_0 (fun n s tm' => wY_skew_173 post (nI e) n (nI s) tm' sr_yP sr_yC ys) (fun s tm' => (∀ i j k, i + j + k ≤ 9 → tm' (1000 * e + (100 * i + 10 * j + k)) = sr_s s (fun s => res (sr_pi s) * nI (sr_K (sr_pi s) i j k))) ∧ (∀ j, j < 2000 → j < 1000 * e ∨ 1000 * e + 1000 ≤ j → tm' j = tm j)) 53 tm ⟨h0, fun _ _ _ => rfl⟩ ?_ ?_
  · rintro n tm' ⟨h1, h2⟩
    refine br_t (nI_le (a := 53) (b := 53) (by decide) (by decide)) (h tm' (fun i j k hh => ?_) h2)
    rw [h1 i j k hh]
    exact sr_perm (fun s => res s * nI (sr_K s i j k))
  · rintro n s tm' hs ⟨h1, h2⟩ ih
    have hp := (sr_f3 hs).1
    refine br_f (nI_ge (b := 53) hs (by decide)) ⟨vp_in_nI hs (by decide), ?_⟩
    rw [sr_yc_at hs]
    refine sr_shape hp ⟨vp_in_nI hs (by decide), ?_⟩
    rw [sr_1000, nI_clamp (n := s) (by omega), hy s hs]
    refine sr_addT (a := 2000) (by decide) (by omega) (by omega) (nm_r (nI_1 _) (ih _ ⟨fun i j k hh => ?_, fun j hj hj2 => ?_⟩))
    · rw [sr_pw_W (fun w => sr_sh (sr_pi s) tm' (1000 * e + w) + res (sr_pi s) * sr_sh (sr_pi s) tm' (2000 + w)) hh, sr_sh_out hp (by omega), sr_sh_in hp hh, h1 i j k hh]
      rfl
    · rw [sr_pw_out (by decide) hj2, sr_sh_out hp (by omega), h2 j hj hj2]
theorem sr_ysk20 {post : Int32 → SY → Prop} {tm ys c : Nat → Int32} {e p : Nat} (he : e < 2) (hp : p < 53) (B : sr_B (1000 * e) tm c) (h : ∀ tm' ys', sr_B (1000 * e) tm' (fun q => sr_s 53 (fun r => sr_N p q r * c r)) → (∀ j, j < 2000 → j < 1000 * e ∨ 1000 * e + 1000 ≤ j → tm' j = tm j) → post 0 (tm', sr_yP, sr_yC, ys')) : ∃ n, wY_skew_20 post (nI e) (nI (sr_cd p)) n 0 tm sr_yP sr_yC ys := by
  refine loop_0 (fun n s (w : (Nat → Int32) × (Nat → Int32)) => wY_skew_20 post (nI e) (nI (sr_cd p)) n (nI s) w.1 sr_yP sr_yC w.2) (fun s w => (∀ j, j < 2000 → w.1 j = tm j) ∧ (∀ s', s' < s → w.2 s' = sr_s 53 (fun r => sr_N p (sr_pi s') r * c r))) 53 (tm, ys) ⟨fun _ _ => rfl, fun s' hs' => absurd hs' (Nat.not_lt_zero s')⟩ ?_ ?_
  · rintro n ⟨t1, y1⟩ ⟨h1, h2⟩
    dsimp only at h1 h2 ⊢
    refine br_t (nI_le (a := 53) (b := 53) (by decide) (by decide)) ?_
    rw [sr_1000]
    refine sr_clear (by omega) (sr_ysk173 (res := fun q => sr_s 53 (fun r => sr_N p q r * c r)) he h2 (fun i j k hh => sr_pw_W (fun _ => 0) hh) (fun tm' hB hf => h tm' y1 hB fun j hj hj2 => ?_))
    rw [hf j hj hj2, sr_pw_out (by decide) hj2, h1 j hj]
  · rintro n s ⟨t1, y1⟩ hs ⟨h1, h2⟩ ih
    dsimp only at h1 h2 ih ⊢
    obtain ⟨hq, _, _⟩ := sr_f3 hs
    have zp := (sr_f1 hp).2.1
    have zq := (sr_f1 hq).2.1
    refine br_f (nI_ge (b := 53) hs (by decide)) (sr_shape hp (sr_copy (a := 2000) (o := 4000) (by decide) (by decide) (by decide) ⟨vp_in_nI hs (by decide), ?_⟩))
    rw [sr_yc_at hs, nI_clamp (n := s) (by omega)]
    refine sr_shape hq ⟨vp_in_nI hs (by decide), nm_e (sr_size hp ⟨vp_in_nI hs (by decide), ?_⟩)⟩
    have eyc : sr_yC s = nI (sr_cd (sr_pi s)) := by rw [← (sr_f3 hs).2.1]; rfl
    rw [eyc]
    refine sr_size hq ?_
    rw [nI_add]
    refine pk_lt 9 (sr_z p + sr_z (sr_pi s)) (fun z => nm_r (nI_1 _) (ih (sr_t4 p (sr_pi s) t1, upd y1 s 0) ⟨fun j hj => ?_, fun s' hs' => ?_⟩)) (fun z => sr_mult (o1 := 4000) (o2 := 2000) (o3 := 3000) (by decide) (by decide) (by decide) (by decide) (by decide) ?_)
    · exact (sr_t4_out hp hq hj).trans (h1 j hj)
    · by_cases e1 : s' = s
      · subst e1
        dsimp only
        rw [pk_us]
        refine (sr_s_0 fun r hr => ?_).symm
        have := (sr_f1 hr).2.1
        rw [sr_N_n (by omega)]
        exact Int32.zero_mul
      · dsimp only
        rw [pk_un e1]
        exact h2 s' (by omega)
    · refine sr_ysk95 (c := c) (d := sr_N p (sr_pi s)) he hs (sr_t4_mu hp hq z) (sr_B_keep B fun j hj hj2 => ?_) pk_us (ih (sr_mu 4000 2000 3000 (sr_t4 p (sr_pi s) t1), upd (upd y1 s 0) s (sr_s 53 (fun r => sr_N p (sr_pi s) r * c r))) ⟨fun j hj => ?_, fun s' hs' => ?_⟩)
      · rw [sr_mu_out (by omega)]
        exact (sr_t4_out hp hq (by omega)).trans (h1 j (by omega))
      · dsimp only
        rw [sr_mu_out (by omega)]
        exact (sr_t4_out hp hq hj).trans (h1 j hj)
      · by_cases e1 : s' = s
        · subst e1
          dsimp only
          rw [pk_us]
        · dsimp only
          rw [pk_un e1, pk_un e1]
          exact h2 s' (by omega)
