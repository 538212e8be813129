/-! the constructors -/
theorem sr_px_all {V : Nat → Int32} {n : Nat} (h : ∀ s, n ≤ s → V s = 0) : sr_px 0 V (fun _ => 0) n = V := by
  funext j
  by_cases hj : j < n
  · have := sr_px_in (o := 0) (V := V) (f := fun _ => 0) (t := n) (u := j)
    rw [Nat.zero_add, if_pos hj] at this
    exact this
  · rw [sr_px_out (by omega), h j (by omega)]
theorem sr_px_up {V : Nat → Int32} {n : Nat} {x : Int32} (h : x = V n) : upd (sr_px 0 V (fun _ => 0) n) n x = sr_px 0 V (fun _ => 0) (n + 1) := by
  have := sr_px_s (o := 0) (V := V) (f := fun _ => 0) (t := n)
  rw [Nat.zero_add] at this
  rw [h]
  exact this
theorem sr_yP_big : sr_px 0 sr_yP (fun _ => 0) 220 = sr_yP := sr_px_all fun s hs => by
  show nI (sr_P s) = 0
  rw [sr_P_big hs]; rfl
theorem sr_yC_big : sr_px 0 sr_yC (fun _ => 0) 53 = sr_yC := sr_px_all fun s hs => by
  show nI (sr_yc s) = 0
  rw [sr_yc_big hs]; rfl
theorem sr_xA_big : sr_px 0 sr_xA (fun _ => 0) 53 = sr_xA := sr_px_all fun s hs => by
  show nI (sr_a s) = 0
  rw [sr_a_big hs]; rfl
theorem sr_xB_big : sr_px 0 sr_xB (fun _ => 0) 53 = sr_xB := sr_px_all fun s hs => by
  show nI (sr_b s) = 0
  rw [sr_b_big hs]; rfl
theorem sr_xC_big : sr_px 0 sr_xC (fun _ => 0) 53 = sr_xC := sr_px_all fun s hs => by
  show nI (sr_c s) = 0
  rw [sr_c_big hs]; rfl
theorem sr_xZ_big : sr_px 0 sr_xZ (fun _ => 0) 53 = sr_xZ := sr_px_all fun s hs => by
  show nI (sr_z s) = 0
  rw [sr_z_big hs]; rfl
theorem sr_xK_big : sr_px 0 sr_xK (fun _ => 0) 53 = sr_xK := sr_px_all fun s hs => by
  show nI (sr_cd s) = 0
  rw [sr_cd_e, sr_a_big hs, sr_b_big hs, sr_c_big hs]; rfl
theorem sr_np_s (p : Nat) : sr_np (p + 1) = sr_np p + cond (Nat.ble (sr_dg p) 9) 1 0 := rfl
theorem sr_mc_s (p : Nat) : sr_mc (p + 1) = sr_mc p + cond (sr_iS p) 1 0 := rfl
theorem sr_yinit2 {post : SY → Prop} (h : post (fun _ => 0, sr_yP, sr_yC, fun _ => 0)) : ∃ n, wY_init_79 post n 0 0 (fun _ => 0) sr_yP (fun _ => 0) (fun _ => 0) := by
  refine loop_0 (fun n p m => wY_init_79 post n (nI m) (nI p) (fun _ => 0) sr_yP (sr_px 0 sr_yC (fun _ => 0) m) (fun _ => 0)) (fun p m => m = sr_mc p) 1000 0 rfl ?_ ?_ |> fun ⟨n, hn⟩ => ⟨n, by rw [← sr_px_0 (o := 0) (V := sr_yC) (f := fun _ => 0)]; exact hn⟩
  · rintro n m rfl
    rw [sr_mc_e, sr_yC_big]
    exact br_t (nI_le (a := 1000) (b := 1000) (by decide) (by decide)) h
  · rintro n p m hp rfl ih
    refine br_f (nI_ge (b := 1000) hp (by decide)) (sr_isS hp ?_)
    have e := sr_mc_s p
    cases hc : sr_iS p with
    | false =>
      rw [hc] at e
      have ih := ih _ e.symm
      rw [if_neg (by decide)]
      exact br_t rfl (nm_r (nI_1 _) ih)
    | true =>
      rw [hc] at e
      obtain ⟨_, _, h3, h4⟩ := sr_f2 hp hc
      have ih := ih _ e.symm
      rw [if_pos rfl]
      refine br_f (by decide) ⟨vp_in_nI h4 (by decide), ?_⟩
      rw [nI_clamp (by omega)]
      exact nm_r (sr_px_up (by show nI p = nI (sr_yc (sr_mc p)); rw [h3])) (nm_r (nI_1 _) (nm_r (nI_1 _) ih))
theorem sr_yinit {post : SY → Prop} (h : post (fun _ => 0, sr_yP, sr_yC, fun _ => 0)) : wpY_init post := by
  refine loop_0 (fun n p m => wY_init_42 post n (nI m) (nI p) (fun _ => 0) (sr_px 0 sr_yP (fun _ => 0) m) (fun _ => 0) (fun _ => 0)) (fun p m => m = sr_np p) 1000 0 rfl ?_ ?_ |> fun ⟨n, hn⟩ => ⟨n, by rw [sr_px_0 (o := 0) (V := sr_yP) (f := fun _ => 0)] at hn; exact hn⟩
  · rintro n m rfl
    rw [sr_np_e, sr_yP_big]
    exact br_t (nI_le (a := 1000) (b := 1000) (by decide) (by decide)) (sr_yinit2 h)
  · rintro n p m hp rfl ih
    have hd : sr_dg p < 2 ^ 31 := by
      show p / 100 + p / 10 % 10 + p % 10 < 2 ^ 31
      omega
    refine br_f (nI_ge (b := 1000) hp (by decide)) (sr_degOf hp (pk_lt 9 (sr_dg p) (fun z => ?_) (fun z => ?_) rfl rfl (by decide) hd))
    · have e := sr_np_s p
      rw [sr_lf (by omega)] at e
      exact nm_r (nI_1 _) (ih _ e.symm)
    · have e := sr_np_s p
      rw [sr_lt z] at e
      obtain ⟨h3, h4⟩ := sr_f4 hp z
      have ih := ih _ e.symm
      refine ⟨vp_in_nI h4 (by decide), ?_⟩
      rw [nI_clamp (by omega)]
      exact nm_r (sr_px_up (by show nI p = nI (sr_P (sr_np p)); rw [h3])) (nm_r (nI_1 _) (nm_r (nI_1 _) ih))
theorem sr_n3_c (a b c : Nat) : sr_n3 a b (c + 1) = sr_n3 a b c + cond (Nat.ble (a + b + c) 9) 1 0 := (Nat.add_assoc _ _ _).symm
theorem sr_n3_b (a b : Nat) : sr_n3 a b (b + 1) = sr_n3 a (b + 1) 0 := Nat.add_assoc _ _ _
theorem sr_n3_a (a : Nat) : sr_n3 a (a + 1) 0 = sr_n3 (a + 1) 0 0 := rfl
def sr_W7 (F : Int32 → Int32 → (Nat → Int32) → (Nat → Int32) → (Nat → Int32) → (Nat → Int32) → (Nat → Int32) → (Nat → Int32) → (Nat → Int32) → Prop) (m c : Nat) : Prop := F (nI m) (nI c) (sr_px 0 sr_xA (fun _ => 0) m) (sr_px 0 sr_xB (fun _ => 0) m) (sr_px 0 sr_xC (fun _ => 0) m) (sr_px 0 sr_xZ (fun _ => 0) m) (sr_px 0 sr_xK (fun _ => 0) m) (fun _ => 0) (fun _ => 0)
theorem sr_xi80 {post : SX → Prop} {J64 J72 : Int32 → Int32 → (Nat → Int32) → (Nat → Int32) → (Nat → Int32) → (Nat → Int32) → (Nat → Int32) → (Nat → Int32) → (Nat → Int32) → Prop} {a b : Nat} (ha : a < 10) (hb : b ≤ a) (h : sr_W7 J72 (sr_n3 a (b + 1) 0) (b + 1)) : ∃ n, sr_W7 (wX_init_80 post J64 J72 (nI a) (nI b) n) (sr_n3 a b 0) 0 := by
  refine loop_0 (fun n c m => sr_W7 (wX_init_80 post J64 J72 (nI a) (nI b) n) m c) (fun c m => m = sr_n3 a b c) (b + 1) (sr_n3 a b 0) rfl ?_ ?_
  · rintro n m rfl
    rw [sr_n3_b]
    exact br_t (nI_lt (by omega) (by omega)) (nm_r (nI_1 _) h)
  · rintro n c m hc rfl ih
    have e := sr_n3_c a b c
    have e1 : nI a + nI b + nI c = nI (a + b + c) := by rw [nI_add, nI_add]
    have e2 : nI a + 10 * nI b + 100 * nI c = nI (a + 10 * b + 100 * c) := by
      rw [← nI_add, ← nI_add, ← pk_mul, ← pk_mul]; rfl
    refine br_f (nI_nlt (by omega) (by omega)) ?_
    rw [e1, e2]
    refine pk_lt 9 (a + b + c) (fun z => ?_) (fun z => ?_)
    · rw [sr_lf (by omega)] at e
      exact nm_r (nI_1 _) (ih _ e.symm)
    · rw [sr_lt z] at e
      obtain ⟨h1, h2, h3, h4⟩ := sr_f6 ha hb (by omega) z
      have ih := ih _ e.symm
      have hv : vp_in (nI (sr_n3 a b c)) 53 := vp_in_nI h1 (by decide)
      refine br_f (nI_ge (b := 53) h1 (by decide)) ⟨hv, ?_⟩
      rw [nI_clamp (by omega)]
      refine nm_r (sr_px_up (V := sr_xA) (by show nI a = nI (sr_a _); rw [h2])) ⟨hv, nm_r (sr_px_up (V := sr_xB) (by show nI b = nI (sr_b _); rw [h3])) ⟨hv, nm_r (sr_px_up (V := sr_xC) (by show nI c = nI (sr_c _); rw [h4])) ⟨hv, nm_r (sr_px_up (V := sr_xZ) (by show nI (a + b + c) = nI (sr_z _); rw [(sr_f1 h1).1, h2, h3, h4])) ⟨hv, nm_r (sr_px_up (V := sr_xK) (by show nI (a + 10 * b + 100 * c) = nI (sr_cd _); rw [sr_cd_e, h2, h3, h4])) (nm_r (nI_1 _) (nm_r (nI_1 _) ih))⟩⟩⟩⟩
theorem sr_xi72 {post : SX → Prop} {J64 : Int32 → Int32 → (Nat → Int32) → (Nat → Int32) → (Nat → Int32) → (Nat → Int32) → (Nat → Int32) → (Nat → Int32) → (Nat → Int32) → Prop} {a : Nat} (ha : a < 10) (h : sr_W7 J64 (sr_n3 (a + 1) 0 0) (a + 1)) : ∃ n, sr_W7 (wX_init_72 post J64 (nI a) n) (sr_n3 a 0 0) 0 := by
  refine loop_0 (fun n b m => sr_W7 (wX_init_72 post J64 (nI a) n) m b) (fun b m => m = sr_n3 a b 0) (a + 1) (sr_n3 a 0 0) rfl ?_ ?_
  · rintro n m rfl
    rw [sr_n3_a]
    exact br_t (nI_lt (by omega) (by omega)) (nm_r (nI_1 _) h)
  · rintro n b m hb rfl ih
    exact br_f (nI_nlt (by omega) (by omega)) (sr_xi80 ha (by omega) (ih _ rfl))
theorem sr_xinit {post : SX → Prop} (h : post (sr_xA, sr_xB, sr_xC, sr_xZ, sr_xK, fun _ => 0, fun _ => 0)) : wpX_init post := by
  have H : ∃ n, sr_W7 (wX_init_64 post n) (sr_n3 0 0 0) 0 := by
    refine loop_0 (fun n a m => sr_W7 (wX_init_64 post n) m a) (fun a m => m = sr_n3 a 0 0) 10 (sr_n3 0 0 0) rfl ?_ ?_
    · rintro n m rfl
      rw [sr_q6_e]
      unfold sr_W7
      rw [sr_xA_big, sr_xB_big, sr_xC_big, sr_xZ_big, sr_xK_big]
      exact br_t (nI_lt (a := 9) (b := 10) (by decide) (by decide)) h
    · rintro n a m ha rfl ih
      exact br_f (nI_nlt (a := 9) (by omega) (by decide)) (sr_xi72 ha (ih _ rfl))
  obtain ⟨n, hn⟩ := H
  refine ⟨n, ?_⟩
  have e : sr_n3 0 0 0 = 0 := rfl
  unfold sr_W7 at hn
  rw [e, sr_px_0, sr_px_0, sr_px_0, sr_px_0, sr_px_0] at hn
  exact hn
