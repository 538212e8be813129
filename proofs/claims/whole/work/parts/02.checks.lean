/-! closed tables, checked by the kernel -/
noncomputable def sr_q1 : Bool := sr_al 53 (fun s => cond (Nat.beq (sr_z s) (Nat.add (Nat.add (sr_a s) (sr_b s)) (sr_c s))) (cond (Nat.ble (sr_z s) 9) (cond (Nat.ble (sr_b s) (sr_a s)) (cond (Nat.ble (sr_c s) (sr_b s)) (cond (Nat.beq (sr_ix (sr_cd s)) s) (cond (sr_iS (sr_cd s)) (Nat.ble (sr_cd s) 999) false) false) false) false) false) false)
theorem sr_q1_t : sr_q1 = true := by decide +kernel
noncomputable def sr_q2 : Bool := sr_al 1000 (fun n => cond (sr_iS n) (cond (Nat.beq (sr_cd (sr_ix n)) n) (cond (Nat.ble (sr_ix n) 52) (cond (Nat.beq (sr_yc (sr_mc n)) n) (Nat.ble (sr_mc n) 52) false) false) false) true)
theorem sr_q2_t : sr_q2 = true := by decide +kernel
noncomputable def sr_q3 : Bool := sr_al 53 (fun t => cond (Nat.ble (sr_pi t) 52) (cond (Nat.beq (sr_yc t) (sr_cd (sr_pi t))) (Nat.beq (sr_zn 53 (fun t' => cond (Nat.beq (sr_pi t') t) 1 0)) 1) false) false)
theorem sr_q3_t : sr_q3 = true := by decide +kernel
noncomputable def sr_q4 : Bool := sr_al 1000 (fun p => cond (Nat.ble (sr_dg p) 9) (cond (Nat.beq (sr_P (sr_np p)) p) (Nat.ble (sr_np p) 219) false) true)
theorem sr_q4_t : sr_q4 = true := by decide +kernel
noncomputable def sr_q5 : Bool := sr_al 220 (fun t => cond (Nat.ble (sr_P t) 999) (cond (Nat.ble (sr_dg (sr_P t)) 9) (Nat.beq (sr_np (sr_P t)) t) false) false)
theorem sr_q5_t : sr_q5 = true := by decide +kernel
noncomputable def sr_q6 : Bool := sr_al 10 (fun a => sr_al (Nat.add a 1) (fun b => sr_al (Nat.add b 1) (fun c => cond (Nat.ble (Nat.add (Nat.add a b) c) 9) (cond (Nat.ble (sr_n3 a b c) 52) (cond (Nat.beq (sr_a (sr_n3 a b c)) a) (cond (Nat.beq (sr_b (sr_n3 a b c)) b) (Nat.beq (sr_c (sr_n3 a b c)) c) false) false) false) true)))
theorem sr_q6_t : sr_q6 = true := by decide +kernel
theorem sr_q6_e : sr_n3 10 0 0 = 53 := by decide +kernel
theorem sr_np_e : sr_np 1000 = 220 := by decide +kernel
theorem sr_mc_e : sr_mc 1000 = 53 := by decide +kernel
/-- before takes a shape's coefficient out -/
noncomputable def sr_q7 : Bool := sr_al 53 (fun t => sr_al 53 (fun s => Nat.beq (sr_Bp t s) (Nat.add (sr_Bm t s) (cond (Nat.beq t s) 1 0))))
theorem sr_q7_t : sr_q7 = true := by decide +kernel
/-- the reference's patterns are the component's fillings -/
noncomputable def sr_q8 : Bool := sr_al 53 (fun s => sr_al 10 (fun i => sr_al (Nat.sub 10 i) (fun j => sr_al (Nat.sub (Nat.sub 10 i) j) (fun k => Nat.beq (sr_G (sr_a s) (sr_b s) (sr_c s) (Nat.add (Nat.add (Nat.mul 100 i) (Nat.mul 10 j)) k)) (sr_K s i j k)))))
theorem sr_q8_t : sr_q8 = true := by decide +kernel
/-- a power sum is one of hooks -/
noncomputable def sr_w (cd i j k : Nat) : Nat := sr_zn 53 (fun p => Nat.mul (cond (Nat.beq (sr_cd p) cd) 1 0) (sr_K p i j k))
noncomputable def sr_q9 : Bool := sr_al 9 (fun r => sr_al 10 (fun i => sr_al (Nat.sub 10 i) (fun j => sr_al (Nat.sub (Nat.sub 10 i) j) (fun k => Nat.beq (Nat.add (cond (Nat.beq (Nat.add (Nat.add (Nat.mul 100 i) (Nat.mul 10 j)) k) (Nat.mul 100 (Nat.add r 1))) 1 (cond (Nat.beq (Nat.add (Nat.add (Nat.mul 100 i) (Nat.mul 10 j)) k) (Nat.mul 10 (Nat.add r 1))) 1 (cond (Nat.beq (Nat.add (Nat.add (Nat.mul 100 i) (Nat.mul 10 j)) k) (Nat.add r 1)) 1 0))) (sr_w (Nat.add r 10) i j k)) (Nat.add (sr_w (Nat.add r 1) i j k) (sr_w (Nat.add r 109) i j k))))))
theorem sr_q9_t : sr_q9 = true := by decide +kernel
/-- the places in order -/
noncomputable def sr_h2 (i j : Nat) : Nat := Nat.sub (Nat.sub 10 i) j
noncomputable def sr_h1 (i : Nat) : Nat := sr_zn (Nat.sub 10 i) (sr_h2 i)
theorem sr_h1_e : sr_zn 10 sr_h1 = 220 := by decide +kernel
noncomputable def sr_q10 : Bool := sr_al 10 (fun i => sr_al (Nat.sub 10 i) (fun j => sr_al (sr_h2 i j) (fun k => Nat.beq (sr_P (Nat.add (sr_zn i sr_h1) (Nat.add (sr_zn j (sr_h2 i)) k))) (Nat.add (Nat.add (Nat.mul 100 i) (Nat.mul 10 j)) k))))
theorem sr_q10_t : sr_q10 = true := by decide +kernel
