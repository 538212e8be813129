/-! products of shapes, checked by the kernel: the fillings with their signs are the product's numbers -/
noncomputable def sr_m1 (p q n : Nat) : Bool := sr_al (Nat.add n 1) (fun i => sr_al (Nat.sub (Nat.add n 1) i) (fun j => Nat.beq (Nat.add (sr_Cv p q i j (Nat.sub (Nat.sub n i) j)) (sr_zn 53 (fun r => Nat.mul (sr_O p q r) (sr_K r i j (Nat.sub (Nat.sub n i) j))))) (sr_zn 53 (fun r => Nat.mul (sr_E p q r) (sr_K r i j (Nat.sub (Nat.sub n i) j))))))
noncomputable def sr_m2 (p : Nat) : Bool := sr_al 53 (fun q => cond (Nat.ble (Nat.add (sr_z p) (sr_z q)) 9) (sr_m1 p q (Nat.add (sr_z p) (sr_z q))) true)
theorem sr_m_0 : sr_al 6 (fun p => sr_m2 (Nat.add p 0)) = true := by decide +kernel
theorem sr_m_6 : sr_al 6 (fun p => sr_m2 (Nat.add p 6)) = true := by decide +kernel
theorem sr_m_12 : sr_al 8 (fun p => sr_m2 (Nat.add p 12)) = true := by decide +kernel
theorem sr_m_20 : sr_al 8 (fun p => sr_m2 (Nat.add p 20)) = true := by decide +kernel
theorem sr_m_28 : sr_al 8 (fun p => sr_m2 (Nat.add p 28)) = true := by decide +kernel
theorem sr_m_36 : sr_al 8 (fun p => sr_m2 (Nat.add p 36)) = true := by decide +kernel
theorem sr_m_44 : sr_al 9 (fun p => sr_m2 (Nat.add p 44)) = true := by decide +kernel
