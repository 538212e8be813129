/-! arrays: a block of places, a run of cells, counts added to a block -/
def sr_xA : Nat → Int32 := fun s => nI (sr_a s)
def sr_xB : Nat → Int32 := fun s => nI (sr_b s)
def sr_xC : Nat → Int32 := fun s => nI (sr_c s)
def sr_xZ : Nat → Int32 := fun s => nI (sr_z s)
def sr_xK : Nat → Int32 := fun s => nI (sr_cd s)
def sr_yP : Nat → Int32 := fun t => nI (sr_P t)
def sr_yC : Nat → Int32 := fun t => nI (sr_yc t)
noncomputable def sr_pw (o : Nat) (V : Nat → Int32) (f : Nat → Int32) (t : Nat) : Nat → Int32 := fun j => if o ≤ j ∧ sr_np (j - o) < t ∧ o + sr_P (sr_np (j - o)) = j then V (sr_np (j - o)) else f j
theorem sr_pw_0 {o : Nat} {V f : Nat → Int32} : sr_pw o V f 0 = f := by
  funext j
  exact if_neg (fun h => absurd h.2.1 (Nat.not_lt_zero _))
theorem sr_pw_in {o : Nat} {V f : Nat → Int32} {t u : Nat} (hu : u < 220) : sr_pw o V f t (o + sr_P u) = if u < t then V u else f (o + sr_P u) := by
  unfold sr_pw
  rw [Nat.add_sub_cancel_left, (sr_f5 hu).2.2]
  by_cases h : u < t
  · rw [if_pos ⟨Nat.le_add_right _ _, h, rfl⟩, if_pos h]
  · rw [if_neg (fun z => h z.2.1), if_neg h]
theorem sr_pw_s {o : Nat} {V f : Nat → Int32} {t : Nat} (ht : t < 220) : upd (sr_pw o V f t) (o + sr_P t) (V t) = sr_pw o V f (t + 1) := by
  funext j
  by_cases e : j = o + sr_P t
  · rw [e, pk_us, sr_pw_in ht, if_pos (Nat.lt_succ_self t)]
  · rw [pk_un e]
    unfold sr_pw
    by_cases h : o ≤ j ∧ sr_np (j - o) < t ∧ o + sr_P (sr_np (j - o)) = j
    · rw [if_pos h, if_pos ⟨h.1, by omega, h.2.2⟩]
    · rw [if_neg h, if_neg]
      intro z
      by_cases e2 : sr_np (j - o) = t
      · rw [e2] at z
        exact e z.2.2.symm
      · exact h ⟨z.1, by omega, z.2.2⟩
theorem sr_pw_out {o : Nat} {V f : Nat → Int32} {t j : Nat} (ht : t ≤ 220) (h : j < o ∨ o + 1000 ≤ j) : sr_pw o V f t j = f j := by
  refine if_neg fun z => ?_
  have := (sr_f5 (t := sr_np (j - o)) (by omega)).1
  omega
def sr_px (o : Nat) (V : Nat → Int32) (f : Nat → Int32) (t : Nat) : Nat → Int32 := fun j => if o ≤ j ∧ j < o + t then V (j - o) else f j
theorem sr_px_0 {o : Nat} {V f : Nat → Int32} : sr_px o V f 0 = f := by
  funext j
  exact if_neg (by omega)
theorem sr_px_in {o : Nat} {V f : Nat → Int32} {t u : Nat} : sr_px o V f t (o + u) = if u < t then V u else f (o + u) := by
  unfold sr_px
  rw [Nat.add_sub_cancel_left]
  by_cases h : u < t
  · rw [if_pos (by omega), if_pos h]
  · rw [if_neg (by omega), if_neg h]
theorem sr_px_s {o : Nat} {V f : Nat → Int32} {t : Nat} : upd (sr_px o V f t) (o + t) (V t) = sr_px o V f (t + 1) := by
  funext j
  by_cases e : j = o + t
  · rw [e, pk_us, sr_px_in, if_pos (Nat.lt_succ_self t)]
  · rw [pk_un e]
    unfold sr_px
    by_cases h : o ≤ j ∧ j < o + t
    · rw [if_pos h, if_pos (by omega)]
    · rw [if_neg h, if_neg (by omega)]
theorem sr_px_out {o : Nat} {V f : Nat → Int32} {t j : Nat} (h : j < o ∨ o + t ≤ j) : sr_px o V f t j = f j :=
  if_neg (by omega)
/-- counts added from 2000 on -/
def sr_ad (f : Nat → Int32) (g : Nat → Nat) : Nat → Int32 := fun j => f j + nI (if 2000 ≤ j then g (j - 2000) else 0)
theorem sr_ad_0 {f : Nat → Int32} : sr_ad f (fun _ => 0) = f := by
  funext j
  unfold sr_ad
  rw [ite_self]
  exact Int32.add_zero _
theorem sr_ad_in {f : Nat → Int32} {g : Nat → Nat} {w : Nat} : sr_ad f g (2000 + w) = f (2000 + w) + nI (g w) := by
  unfold sr_ad
  rw [if_pos (Nat.le_add_right _ _), Nat.add_sub_cancel_left]
theorem sr_ad_s {f : Nat → Int32} {g : Nat → Nat} {w : Nat} : upd (sr_ad f g) (2000 + w) (sr_ad f g (2000 + w) + 1) = sr_ad f (fun x => g x + cond (Nat.beq w x) 1 0) := by
  funext j
  by_cases e : j = 2000 + w
  · rw [e, pk_us, sr_ad_in, sr_ad_in, sr_bt rfl]
    show f (2000 + w) + nI (g w) + 1 = f (2000 + w) + nI (g w + 1)
    rw [← nI_1, Int32.add_assoc]
  · rw [pk_un e]
    unfold sr_ad
    by_cases h : 2000 ≤ j
    · rw [if_pos h, if_pos h]
      show f j + nI (g (j - 2000)) = f j + nI (g (j - 2000) + cond (Nat.beq w (j - 2000)) 1 0)
      rw [sr_bf (show w ≠ j - 2000 by omega)]
      rfl
    · rw [if_neg h, if_neg h]
/-- numbers added to a block -/
def sr_ac (o : Nat) (f : Nat → Int32) (g : Nat → Int32) : Nat → Int32 := fun j => if o ≤ j ∧ j < o + 1000 then f j + g (j - o) else f j
theorem sr_ac_0 {o : Nat} {f g : Nat → Int32} (h : ∀ w, w < 1000 → g w = 0) : sr_ac o f g = f := by
  funext j
  unfold sr_ac
  by_cases e : o ≤ j ∧ j < o + 1000
  · rw [if_pos e, h (j - o) (by omega), Int32.add_zero]
  · rw [if_neg e]
theorem sr_ac_in {o : Nat} {f g : Nat → Int32} {w : Nat} (hw : w < 1000) : sr_ac o f g (o + w) = f (o + w) + g w := by
  unfold sr_ac
  rw [if_pos (by omega), Nat.add_sub_cancel_left]
theorem sr_ac_out {o : Nat} {f g : Nat → Int32} {j : Nat} (h : j < o ∨ o + 1000 ≤ j) : sr_ac o f g j = f j := if_neg (by omega)
theorem sr_ac_congr {o : Nat} {f g g' : Nat → Int32} (h : ∀ w, w < 1000 → g w = g' w) : sr_ac o f g = sr_ac o f g' := by
  funext j
  unfold sr_ac
  by_cases e : o ≤ j ∧ j < o + 1000
  · rw [if_pos e, if_pos e, h (j - o) (by omega)]
  · rw [if_neg e, if_neg e]
theorem sr_ac_s {o : Nat} {f g : Nat → Int32} {w : Nat} {v : Int32} (hw : w < 1000) : upd (sr_ac o f g) (o + w) (sr_ac o f g (o + w) + v) = sr_ac o f (fun x => g x + if w = x then v else 0) := by
  funext j
  by_cases e : j = o + w
  · rw [e, pk_us, sr_ac_in hw, sr_ac_in hw, if_pos rfl, Int32.add_assoc]
  · rw [pk_un e]
    unfold sr_ac
    by_cases h : o ≤ j ∧ j < o + 1000
    · rw [if_pos h, if_pos h]
      show f j + g (j - o) = f j + (g (j - o) + if w = j - o then v else 0)
      rw [if_neg (show ¬ w = j - o by omega), Int32.add_zero]
    · rw [if_neg h, if_neg h]
