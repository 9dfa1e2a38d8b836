/-! X12_yearsLine -/
set_option maxRecDepth 20000 in
set_option maxHeartbeats 8000000 in
theorem v_182 {X : PX} {σ : Sg} {Q : Option PV → Sg → Prop}   (H : CI X 174 [vR (some 170), vI 5, vI 10] σ (fun r1 τ1 => CI X 181 [vI r1] τ1 (fun r2 τ2 => InR (τ2.1 170 8) ∧ (τ2.1 170 8 ≠ 0 → InR r2 ∧ (r2 ≠ 0 → (3 ≤ r2 → (5 ≤ r2 → CI X 173 [vR (some 170), vI 0, vI 9] τ2 (fun r5 τ3 => InR (τ3.2 173 0) ∧ (40 ≤ τ3.2 173 0 → CV X 175 [vR (some 170)] τ3 (fun τ4 => Q none τ4)) ∧ (¬ 40 ≤ τ3.2 173 0 → (0 ≤ 1 + (2 * (τ3.2 173 0)) ∧ 1 + (2 * (τ3.2 173 0)) < 81) ∧ (0 ≤ 2 + (2 * ((up2 τ3.2 173 (1 + (2 * (τ3.2 173 0))).toNat r2) 173 0)) ∧ 2 + (2 * ((up2 τ3.2 173 (1 + (2 * (τ3.2 173 0))).toNat r2) 173 0)) < 81) ∧ CV X 175 [vR (some 170)] (τ3.1, up2 (up2 (up2 τ3.2 173 (1 + (2 * (τ3.2 173 0))).toNat r2) 173 (2 + (2 * ((up2 τ3.2 173 (1 + (2 * (τ3.2 173 0))).toNat r2) 173 0))).toNat r5) 173 0 (((up2 (up2 τ3.2 173 (1 + (2 * (τ3.2 173 0))).toNat r2) 173 (2 + (2 * ((up2 τ3.2 173 (1 + (2 * (τ3.2 173 0))).toNat r2) 173 0))).toNat r5) 173 0) + 1)) (fun τ5 => Q none τ5)))) ∧ (¬ 5 ≤ r2 → CI X 173 [vR (some 170), vI 0, vI 99] τ2 (fun r9 τ6 => InR (τ6.2 173 0) ∧ (40 ≤ τ6.2 173 0 → CV X 175 [vR (some 170)] τ6 (fun τ7 => Q none τ7)) ∧ (¬ 40 ≤ τ6.2 173 0 → (0 ≤ 1 + (2 * (τ6.2 173 0)) ∧ 1 + (2 * (τ6.2 173 0)) < 81) ∧ (0 ≤ 2 + (2 * ((up2 τ6.2 173 (1 + (2 * (τ6.2 173 0))).toNat r2) 173 0)) ∧ 2 + (2 * ((up2 τ6.2 173 (1 + (2 * (τ6.2 173 0))).toNat r2) 173 0)) < 81) ∧ CV X 175 [vR (some 170)] (τ6.1, up2 (up2 (up2 τ6.2 173 (1 + (2 * (τ6.2 173 0))).toNat r2) 173 (2 + (2 * ((up2 τ6.2 173 (1 + (2 * (τ6.2 173 0))).toNat r2) 173 0))).toNat r9) 173 0 (((up2 (up2 τ6.2 173 (1 + (2 * (τ6.2 173 0))).toNat r2) 173 (2 + (2 * ((up2 τ6.2 173 (1 + (2 * (τ6.2 173 0))).toNat r2) 173 0))).toNat r9) 173 0) + 1)) (fun τ8 => Q none τ8))))) ∧ (¬ 3 ≤ r2 → CI X 173 [vR (some 170), vI 0, vI 6] τ2 (fun r13 τ9 => InR (τ9.2 173 0) ∧ (40 ≤ τ9.2 173 0 → CV X 175 [vR (some 170)] τ9 (fun τ10 => Q none τ10)) ∧ (¬ 40 ≤ τ9.2 173 0 → (0 ≤ 1 + (2 * (τ9.2 173 0)) ∧ 1 + (2 * (τ9.2 173 0)) < 81) ∧ (0 ≤ 2 + (2 * ((up2 τ9.2 173 (1 + (2 * (τ9.2 173 0))).toNat r2) 173 0)) ∧ 2 + (2 * ((up2 τ9.2 173 (1 + (2 * (τ9.2 173 0))).toNat r2) 173 0)) < 81) ∧ CV X 175 [vR (some 170)] (τ9.1, up2 (up2 (up2 τ9.2 173 (1 + (2 * (τ9.2 173 0))).toNat r2) 173 (2 + (2 * ((up2 τ9.2 173 (1 + (2 * (τ9.2 173 0))).toNat r2) 173 0))).toNat r13) 173 0 (((up2 (up2 τ9.2 173 (1 + (2 * (τ9.2 173 0))).toNat r2) 173 (2 + (2 * ((up2 τ9.2 173 (1 + (2 * (τ9.2 173 0))).toNat r2) 173 0))).toNat r13) 173 0) + 1)) (fun τ11 => Q none τ11))))) ∧ (¬ r2 ≠ 0 → InR (τ2.2 173 0) ∧ (40 ≤ τ2.2 173 0 → CV X 175 [vR (some 170)] τ2 (fun τ12 => Q none τ12)) ∧ (¬ 40 ≤ τ2.2 173 0 → (0 ≤ 1 + (2 * (τ2.2 173 0)) ∧ 1 + (2 * (τ2.2 173 0)) < 81) ∧ (0 ≤ 2 + (2 * ((up2 τ2.2 173 (1 + (2 * (τ2.2 173 0))).toNat r2) 173 0)) ∧ 2 + (2 * ((up2 τ2.2 173 (1 + (2 * (τ2.2 173 0))).toNat r2) 173 0)) < 81) ∧ CV X 175 [vR (some 170)] (τ2.1, up2 (up2 (up2 τ2.2 173 (1 + (2 * (τ2.2 173 0))).toNat r2) 173 (2 + (2 * ((up2 τ2.2 173 (1 + (2 * (τ2.2 173 0))).toNat r2) 173 0))).toNat (-1)) 173 0 (((up2 (up2 τ2.2 173 (1 + (2 * (τ2.2 173 0))).toNat r2) 173 (2 + (2 * ((up2 τ2.2 173 (1 + (2 * (τ2.2 173 0))).toNat r2) 173 0))).toNat (-1)) 173 0) + 1)) (fun τ13 => Q none τ13)))) ∧ (¬ τ2.1 170 8 ≠ 0 → InR (τ2.2 173 0) ∧ (τ2.2 173 0 < 40 → InR r2 ∧ (r2 ≠ 0 → (3 ≤ r2 → (5 ≤ r2 → CI X 173 [vR (some 170), vI 0, vI 9] τ2 (fun r22 τ14 => InR (τ14.2 173 0) ∧ (40 ≤ τ14.2 173 0 → CV X 175 [vR (some 170)] τ14 (fun τ15 => Q none τ15)) ∧ (¬ 40 ≤ τ14.2 173 0 → (0 ≤ 1 + (2 * (τ14.2 173 0)) ∧ 1 + (2 * (τ14.2 173 0)) < 81) ∧ (0 ≤ 2 + (2 * ((up2 τ14.2 173 (1 + (2 * (τ14.2 173 0))).toNat r2) 173 0)) ∧ 2 + (2 * ((up2 τ14.2 173 (1 + (2 * (τ14.2 173 0))).toNat r2) 173 0)) < 81) ∧ CV X 175 [vR (some 170)] (τ14.1, up2 (up2 (up2 τ14.2 173 (1 + (2 * (τ14.2 173 0))).toNat r2) 173 (2 + (2 * ((up2 τ14.2 173 (1 + (2 * (τ14.2 173 0))).toNat r2) 173 0))).toNat r22) 173 0 (((up2 (up2 τ14.2 173 (1 + (2 * (τ14.2 173 0))).toNat r2) 173 (2 + (2 * ((up2 τ14.2 173 (1 + (2 * (τ14.2 173 0))).toNat r2) 173 0))).toNat r22) 173 0) + 1)) (fun τ16 => Q none τ16)))) ∧ (¬ 5 ≤ r2 → CI X 173 [vR (some 170), vI 0, vI 99] τ2 (fun r26 τ17 => InR (τ17.2 173 0) ∧ (40 ≤ τ17.2 173 0 → CV X 175 [vR (some 170)] τ17 (fun τ18 => Q none τ18)) ∧ (¬ 40 ≤ τ17.2 173 0 → (0 ≤ 1 + (2 * (τ17.2 173 0)) ∧ 1 + (2 * (τ17.2 173 0)) < 81) ∧ (0 ≤ 2 + (2 * ((up2 τ17.2 173 (1 + (2 * (τ17.2 173 0))).toNat r2) 173 0)) ∧ 2 + (2 * ((up2 τ17.2 173 (1 + (2 * (τ17.2 173 0))).toNat r2) 173 0)) < 81) ∧ CV X 175 [vR (some 170)] (τ17.1, up2 (up2 (up2 τ17.2 173 (1 + (2 * (τ17.2 173 0))).toNat r2) 173 (2 + (2 * ((up2 τ17.2 173 (1 + (2 * (τ17.2 173 0))).toNat r2) 173 0))).toNat r26) 173 0 (((up2 (up2 τ17.2 173 (1 + (2 * (τ17.2 173 0))).toNat r2) 173 (2 + (2 * ((up2 τ17.2 173 (1 + (2 * (τ17.2 173 0))).toNat r2) 173 0))).toNat r26) 173 0) + 1)) (fun τ19 => Q none τ19))))) ∧ (¬ 3 ≤ r2 → CI X 173 [vR (some 170), vI 0, vI 6] τ2 (fun r30 τ20 => InR (τ20.2 173 0) ∧ (40 ≤ τ20.2 173 0 → CV X 175 [vR (some 170)] τ20 (fun τ21 => Q none τ21)) ∧ (¬ 40 ≤ τ20.2 173 0 → (0 ≤ 1 + (2 * (τ20.2 173 0)) ∧ 1 + (2 * (τ20.2 173 0)) < 81) ∧ (0 ≤ 2 + (2 * ((up2 τ20.2 173 (1 + (2 * (τ20.2 173 0))).toNat r2) 173 0)) ∧ 2 + (2 * ((up2 τ20.2 173 (1 + (2 * (τ20.2 173 0))).toNat r2) 173 0)) < 81) ∧ CV X 175 [vR (some 170)] (τ20.1, up2 (up2 (up2 τ20.2 173 (1 + (2 * (τ20.2 173 0))).toNat r2) 173 (2 + (2 * ((up2 τ20.2 173 (1 + (2 * (τ20.2 173 0))).toNat r2) 173 0))).toNat r30) 173 0 (((up2 (up2 τ20.2 173 (1 + (2 * (τ20.2 173 0))).toNat r2) 173 (2 + (2 * ((up2 τ20.2 173 (1 + (2 * (τ20.2 173 0))).toNat r2) 173 0))).toNat r30) 173 0) + 1)) (fun τ22 => Q none τ22))))) ∧ (¬ r2 ≠ 0 → (40 ≤ τ2.2 173 0 → CV X 175 [vR (some 170)] τ2 (fun τ23 => Q none τ23)) ∧ (¬ 40 ≤ τ2.2 173 0 → (0 ≤ 1 + (2 * (τ2.2 173 0)) ∧ 1 + (2 * (τ2.2 173 0)) < 81) ∧ (0 ≤ 2 + (2 * ((up2 τ2.2 173 (1 + (2 * (τ2.2 173 0))).toNat r2) 173 0)) ∧ 2 + (2 * ((up2 τ2.2 173 (1 + (2 * (τ2.2 173 0))).toNat r2) 173 0)) < 81) ∧ CV X 175 [vR (some 170)] (τ2.1, up2 (up2 (up2 τ2.2 173 (1 + (2 * (τ2.2 173 0))).toNat r2) 173 (2 + (2 * ((up2 τ2.2 173 (1 + (2 * (τ2.2 173 0))).toNat r2) 173 0))).toNat (-1)) 173 0 (((up2 (up2 τ2.2 173 (1 + (2 * (τ2.2 173 0))).toNat r2) 173 (2 + (2 * ((up2 τ2.2 173 (1 + (2 * (τ2.2 173 0))).toNat r2) 173 0))).toNat (-1)) 173 0) + 1)) (fun τ24 => Q none τ24)))) ∧ (¬ τ2.2 173 0 < 40 → CV X 172 [vR (some 170), vI 3, vI (σ.1 170 4)] τ2 (fun τ25 => InR r2 ∧ (r2 ≠ 0 → (3 ≤ r2 → (5 ≤ r2 → CI X 173 [vR (some 170), vI 0, vI 9] τ25 (fun r37 τ26 => InR (τ26.2 173 0) ∧ (40 ≤ τ26.2 173 0 → CV X 175 [vR (some 170)] τ26 (fun τ27 => Q none τ27)) ∧ (¬ 40 ≤ τ26.2 173 0 → (0 ≤ 1 + (2 * (τ26.2 173 0)) ∧ 1 + (2 * (τ26.2 173 0)) < 81) ∧ (0 ≤ 2 + (2 * ((up2 τ26.2 173 (1 + (2 * (τ26.2 173 0))).toNat r2) 173 0)) ∧ 2 + (2 * ((up2 τ26.2 173 (1 + (2 * (τ26.2 173 0))).toNat r2) 173 0)) < 81) ∧ CV X 175 [vR (some 170)] (τ26.1, up2 (up2 (up2 τ26.2 173 (1 + (2 * (τ26.2 173 0))).toNat r2) 173 (2 + (2 * ((up2 τ26.2 173 (1 + (2 * (τ26.2 173 0))).toNat r2) 173 0))).toNat r37) 173 0 (((up2 (up2 τ26.2 173 (1 + (2 * (τ26.2 173 0))).toNat r2) 173 (2 + (2 * ((up2 τ26.2 173 (1 + (2 * (τ26.2 173 0))).toNat r2) 173 0))).toNat r37) 173 0) + 1)) (fun τ28 => Q none τ28)))) ∧ (¬ 5 ≤ r2 → CI X 173 [vR (some 170), vI 0, vI 99] τ25 (fun r41 τ29 => InR (τ29.2 173 0) ∧ (40 ≤ τ29.2 173 0 → CV X 175 [vR (some 170)] τ29 (fun τ30 => Q none τ30)) ∧ (¬ 40 ≤ τ29.2 173 0 → (0 ≤ 1 + (2 * (τ29.2 173 0)) ∧ 1 + (2 * (τ29.2 173 0)) < 81) ∧ (0 ≤ 2 + (2 * ((up2 τ29.2 173 (1 + (2 * (τ29.2 173 0))).toNat r2) 173 0)) ∧ 2 + (2 * ((up2 τ29.2 173 (1 + (2 * (τ29.2 173 0))).toNat r2) 173 0)) < 81) ∧ CV X 175 [vR (some 170)] (τ29.1, up2 (up2 (up2 τ29.2 173 (1 + (2 * (τ29.2 173 0))).toNat r2) 173 (2 + (2 * ((up2 τ29.2 173 (1 + (2 * (τ29.2 173 0))).toNat r2) 173 0))).toNat r41) 173 0 (((up2 (up2 τ29.2 173 (1 + (2 * (τ29.2 173 0))).toNat r2) 173 (2 + (2 * ((up2 τ29.2 173 (1 + (2 * (τ29.2 173 0))).toNat r2) 173 0))).toNat r41) 173 0) + 1)) (fun τ31 => Q none τ31))))) ∧ (¬ 3 ≤ r2 → CI X 173 [vR (some 170), vI 0, vI 6] τ25 (fun r45 τ32 => InR (τ32.2 173 0) ∧ (40 ≤ τ32.2 173 0 → CV X 175 [vR (some 170)] τ32 (fun τ33 => Q none τ33)) ∧ (¬ 40 ≤ τ32.2 173 0 → (0 ≤ 1 + (2 * (τ32.2 173 0)) ∧ 1 + (2 * (τ32.2 173 0)) < 81) ∧ (0 ≤ 2 + (2 * ((up2 τ32.2 173 (1 + (2 * (τ32.2 173 0))).toNat r2) 173 0)) ∧ 2 + (2 * ((up2 τ32.2 173 (1 + (2 * (τ32.2 173 0))).toNat r2) 173 0)) < 81) ∧ CV X 175 [vR (some 170)] (τ32.1, up2 (up2 (up2 τ32.2 173 (1 + (2 * (τ32.2 173 0))).toNat r2) 173 (2 + (2 * ((up2 τ32.2 173 (1 + (2 * (τ32.2 173 0))).toNat r2) 173 0))).toNat r45) 173 0 (((up2 (up2 τ32.2 173 (1 + (2 * (τ32.2 173 0))).toNat r2) 173 (2 + (2 * ((up2 τ32.2 173 (1 + (2 * (τ32.2 173 0))).toNat r2) 173 0))).toNat r45) 173 0) + 1)) (fun τ34 => Q none τ34))))) ∧ (¬ r2 ≠ 0 → InR (τ25.2 173 0) ∧ (40 ≤ τ25.2 173 0 → CV X 175 [vR (some 170)] τ25 (fun τ35 => Q none τ35)) ∧ (¬ 40 ≤ τ25.2 173 0 → (0 ≤ 1 + (2 * (τ25.2 173 0)) ∧ 1 + (2 * (τ25.2 173 0)) < 81) ∧ (0 ≤ 2 + (2 * ((up2 τ25.2 173 (1 + (2 * (τ25.2 173 0))).toNat r2) 173 0)) ∧ 2 + (2 * ((up2 τ25.2 173 (1 + (2 * (τ25.2 173 0))).toNat r2) 173 0)) < 81) ∧ CV X 175 [vR (some 170)] (τ25.1, up2 (up2 (up2 τ25.2 173 (1 + (2 * (τ25.2 173 0))).toNat r2) 173 (2 + (2 * ((up2 τ25.2 173 (1 + (2 * (τ25.2 173 0))).toNat r2) 173 0))).toNat (-1)) 173 0 (((up2 (up2 τ25.2 173 (1 + (2 * (τ25.2 173 0))).toNat r2) 173 (2 + (2 * ((up2 τ25.2 173 (1 + (2 * (τ25.2 173 0))).toNat r2) 173 0))).toNat (-1)) 173 0) + 1)) (fun τ36 => Q none τ36))))))))) : Cl X 182 [vR (some 170)] σ Q := by
  have hcd : cds 182 = cd_182 := rfl
  refine c_in (Nat.le_of_ble_eq_true rfl) rfl rfl ?_
  show Ev X 182 0 [some (vR (some 170)), none, none, none] [] σ Q
  refine e_nx hcd rfl rfl ?_
  refine r_getI hcd rfl rfl rfl ?_
  refine e_nx hcd rfl rfl ?_
  show Ev X 182 3 [some (vR (some 170)), some (vI (σ.1 170 4)), none, none] [] _ Q
  iterate 3 (refine e_nx hcd rfl rfl ?_)
  refine r_cv hcd rfl (by omega) rfl rfl rfl (Nat.le_of_ble_eq_true rfl) ?_
  refine Cl.mono H (fun v τ1 hq => ?_)
  obtain ⟨r1, rfl, H⟩ := hq
  show Ev X 182 7 _ [vI r1] τ1 Q
  refine r_cs hcd rfl (by omega) (Nat.le_of_ble_eq_true rfl) rfl rfl (Nat.le_of_ble_eq_true rfl) ?_
  refine Cl.mono H (fun v τ2 hq => ?_)
  obtain ⟨r2, rfl, H⟩ := hq
  show Ev X 182 8 _ [vI r2] τ2 Q
  refine e_nx hcd rfl rfl ?_
  show Ev X 182 9 [some (vR (some 170)), some (vI (σ.1 170 4)), some (vI r2), none] [] _ Q
  refine e_nx hcd rfl rfl ?_
  refine r_getI hcd rfl rfl rfl ?_
  obtain ⟨h3, H⟩ := H
  refine r_if hcd rfl h3 (fun hc => ?_) (fun hc => ?_)
  · replace H := H.1 hc
    refine e_nx hcd rfl rfl ?_
    obtain ⟨h4, H⟩ := H
    refine r_if hcd rfl h4 (fun hc => ?_) (fun hc => ?_)
    · replace H := H.1 hc
      iterate 4 (refine e_nx hcd rfl rfl ?_)
      refine r_icmp hcd rfl h4 (by omega) (fun hc => ?_) (fun hc => ?_)
      · replace H := H.1 hc
        iterate 2 (refine e_nx hcd rfl rfl ?_)
        refine r_icmp hcd rfl h4 (by omega) (fun hc => ?_) (fun hc => ?_)
        · replace H := H.1 hc
          refine e_nx hcd rfl rfl ?_
          refine r_cv hcd rfl (by omega) rfl rfl rfl (Nat.le_of_ble_eq_true rfl) ?_
          refine Cl.mono H (fun v τ3 hq => ?_)
          obtain ⟨r5, rfl, H⟩ := hq
          show Ev X 182 40 _ [vI r5] τ3 Q
          refine e_nx hcd rfl rfl ?_
          show Ev X 182 41 [some (vR (some 170)), some (vI (σ.1 170 4)), some (vI r2), some (vI r5)] [] _ Q
          refine e_nx hcd rfl rfl ?_
          refine r_getR hcd rfl rfl rfl ?_
          refine e_nx hcd rfl rfl ?_
          refine r_ild hcd rfl rfl (by omega) (by omega) ?_
          refine e_nx hcd rfl rfl ?_
          obtain ⟨h6, H⟩ := H
          refine r_icmp hcd rfl h6 (by omega) (fun hc => ?_) (fun hc => ?_)
          · replace H := H.1 hc
            refine e_nx hcd rfl rfl ?_
            refine r_cv hcd rfl (by omega) rfl rfl rfl (Nat.le_of_ble_eq_true rfl) ?_
            refine Cl.mono H (fun v τ4 hq => ?_)
            obtain ⟨rfl, H⟩ := hq
            show Ev X 182 81 _ [] τ4 Q
            exact r_vret hcd rfl rfl rfl H
          · replace H := H.2 hc
            refine e_nx hcd rfl rfl ?_
            refine r_getR hcd rfl rfl rfl ?_
            iterate 3 (refine e_nx hcd rfl rfl ?_)
            refine r_getR hcd rfl rfl rfl ?_
            refine e_nx hcd rfl rfl ?_
            refine r_ild hcd rfl rfl (by omega) (by omega) ?_
            iterate 3 (refine e_nx hcd rfl rfl ?_)
            obtain ⟨h7, H⟩ := H
            refine r_ist hcd rfl rfl (by omega) h7 ?_
            refine e_nx hcd rfl rfl ?_
            refine r_getR hcd rfl rfl rfl ?_
            iterate 3 (refine e_nx hcd rfl rfl ?_)
            refine r_getR hcd rfl rfl rfl ?_
            refine e_nx hcd rfl rfl ?_
            refine r_ild hcd rfl rfl (by omega) (by omega) ?_
            iterate 3 (refine e_nx hcd rfl rfl ?_)
            obtain ⟨h8, H⟩ := H
            refine r_ist hcd rfl rfl (by omega) h8 ?_
            refine e_nx hcd rfl rfl ?_
            refine r_getR hcd rfl rfl rfl ?_
            iterate 2 (refine e_nx hcd rfl rfl ?_)
            refine r_ild hcd rfl rfl (by omega) (by omega) ?_
            iterate 2 (refine e_nx hcd rfl rfl ?_)
            refine r_ist hcd rfl rfl (by omega) (by omega) ?_
            refine e_nx hcd rfl rfl ?_
            refine r_cv hcd rfl (by omega) rfl rfl rfl (Nat.le_of_ble_eq_true rfl) ?_
            refine Cl.mono H (fun v τ5 hq => ?_)
            obtain ⟨rfl, H⟩ := hq
            show Ev X 182 81 _ [] τ5 Q
            exact r_vret hcd rfl rfl rfl H
        · replace H := H.2 hc
          iterate 2 (refine e_nx hcd rfl rfl ?_)
          refine r_cv hcd rfl (by omega) rfl rfl rfl (Nat.le_of_ble_eq_true rfl) ?_
          refine Cl.mono H (fun v τ6 hq => ?_)
          obtain ⟨r9, rfl, H⟩ := hq
          show Ev X 182 40 _ [vI r9] τ6 Q
          refine e_nx hcd rfl rfl ?_
          show Ev X 182 41 [some (vR (some 170)), some (vI (σ.1 170 4)), some (vI r2), some (vI r9)] [] _ Q
          refine e_nx hcd rfl rfl ?_
          refine r_getR hcd rfl rfl rfl ?_
          refine e_nx hcd rfl rfl ?_
          refine r_ild hcd rfl rfl (by omega) (by omega) ?_
          refine e_nx hcd rfl rfl ?_
          obtain ⟨h10, H⟩ := H
          refine r_icmp hcd rfl h10 (by omega) (fun hc => ?_) (fun hc => ?_)
          · replace H := H.1 hc
            refine e_nx hcd rfl rfl ?_
            refine r_cv hcd rfl (by omega) rfl rfl rfl (Nat.le_of_ble_eq_true rfl) ?_
            refine Cl.mono H (fun v τ7 hq => ?_)
            obtain ⟨rfl, H⟩ := hq
            show Ev X 182 81 _ [] τ7 Q
            exact r_vret hcd rfl rfl rfl H
          · replace H := H.2 hc
            refine e_nx hcd rfl rfl ?_
            refine r_getR hcd rfl rfl rfl ?_
            iterate 3 (refine e_nx hcd rfl rfl ?_)
            refine r_getR hcd rfl rfl rfl ?_
            refine e_nx hcd rfl rfl ?_
            refine r_ild hcd rfl rfl (by omega) (by omega) ?_
            iterate 3 (refine e_nx hcd rfl rfl ?_)
            obtain ⟨h11, H⟩ := H
            refine r_ist hcd rfl rfl (by omega) h11 ?_
            refine e_nx hcd rfl rfl ?_
            refine r_getR hcd rfl rfl rfl ?_
            iterate 3 (refine e_nx hcd rfl rfl ?_)
            refine r_getR hcd rfl rfl rfl ?_
            refine e_nx hcd rfl rfl ?_
            refine r_ild hcd rfl rfl (by omega) (by omega) ?_
            iterate 3 (refine e_nx hcd rfl rfl ?_)
            obtain ⟨h12, H⟩ := H
            refine r_ist hcd rfl rfl (by omega) h12 ?_
            refine e_nx hcd rfl rfl ?_
            refine r_getR hcd rfl rfl rfl ?_
            iterate 2 (refine e_nx hcd rfl rfl ?_)
            refine r_ild hcd rfl rfl (by omega) (by omega) ?_
            iterate 2 (refine e_nx hcd rfl rfl ?_)
            refine r_ist hcd rfl rfl (by omega) (by omega) ?_
            refine e_nx hcd rfl rfl ?_
            refine r_cv hcd rfl (by omega) rfl rfl rfl (Nat.le_of_ble_eq_true rfl) ?_
            refine Cl.mono H (fun v τ8 hq => ?_)
            obtain ⟨rfl, H⟩ := hq
            show Ev X 182 81 _ [] τ8 Q
            exact r_vret hcd rfl rfl rfl H
      · replace H := H.2 hc
        iterate 2 (refine e_nx hcd rfl rfl ?_)
        refine r_cv hcd rfl (by omega) rfl rfl rfl (Nat.le_of_ble_eq_true rfl) ?_
        refine Cl.mono H (fun v τ9 hq => ?_)
        obtain ⟨r13, rfl, H⟩ := hq
        show Ev X 182 40 _ [vI r13] τ9 Q
        refine e_nx hcd rfl rfl ?_
        show Ev X 182 41 [some (vR (some 170)), some (vI (σ.1 170 4)), some (vI r2), some (vI r13)] [] _ Q
        refine e_nx hcd rfl rfl ?_
        refine r_getR hcd rfl rfl rfl ?_
        refine e_nx hcd rfl rfl ?_
        refine r_ild hcd rfl rfl (by omega) (by omega) ?_
        refine e_nx hcd rfl rfl ?_
        obtain ⟨h14, H⟩ := H
        refine r_icmp hcd rfl h14 (by omega) (fun hc => ?_) (fun hc => ?_)
        · replace H := H.1 hc
          refine e_nx hcd rfl rfl ?_
          refine r_cv hcd rfl (by omega) rfl rfl rfl (Nat.le_of_ble_eq_true rfl) ?_
          refine Cl.mono H (fun v τ10 hq => ?_)
          obtain ⟨rfl, H⟩ := hq
          show Ev X 182 81 _ [] τ10 Q
          exact r_vret hcd rfl rfl rfl H
        · replace H := H.2 hc
          refine e_nx hcd rfl rfl ?_
          refine r_getR hcd rfl rfl rfl ?_
          iterate 3 (refine e_nx hcd rfl rfl ?_)
          refine r_getR hcd rfl rfl rfl ?_
          refine e_nx hcd rfl rfl ?_
          refine r_ild hcd rfl rfl (by omega) (by omega) ?_
          iterate 3 (refine e_nx hcd rfl rfl ?_)
          obtain ⟨h15, H⟩ := H
          refine r_ist hcd rfl rfl (by omega) h15 ?_
          refine e_nx hcd rfl rfl ?_
          refine r_getR hcd rfl rfl rfl ?_
          iterate 3 (refine e_nx hcd rfl rfl ?_)
          refine r_getR hcd rfl rfl rfl ?_
          refine e_nx hcd rfl rfl ?_
          refine r_ild hcd rfl rfl (by omega) (by omega) ?_
          iterate 3 (refine e_nx hcd rfl rfl ?_)
          obtain ⟨h16, H⟩ := H
          refine r_ist hcd rfl rfl (by omega) h16 ?_
          refine e_nx hcd rfl rfl ?_
          refine r_getR hcd rfl rfl rfl ?_
          iterate 2 (refine e_nx hcd rfl rfl ?_)
          refine r_ild hcd rfl rfl (by omega) (by omega) ?_
          iterate 2 (refine e_nx hcd rfl rfl ?_)
          refine r_ist hcd rfl rfl (by omega) (by omega) ?_
          refine e_nx hcd rfl rfl ?_
          refine r_cv hcd rfl (by omega) rfl rfl rfl (Nat.le_of_ble_eq_true rfl) ?_
          refine Cl.mono H (fun v τ11 hq => ?_)
          obtain ⟨rfl, H⟩ := hq
          show Ev X 182 81 _ [] τ11 Q
          exact r_vret hcd rfl rfl rfl H
    · replace H := H.2 hc
      iterate 3 (refine e_nx hcd rfl rfl ?_)
      show Ev X 182 41 [some (vR (some 170)), some (vI (σ.1 170 4)), some (vI r2), some (vI (-1))] [] _ Q
      refine e_nx hcd rfl rfl ?_
      refine r_getR hcd rfl rfl rfl ?_
      refine e_nx hcd rfl rfl ?_
      refine r_ild hcd rfl rfl (by omega) (by omega) ?_
      refine e_nx hcd rfl rfl ?_
      obtain ⟨h17, H⟩ := H
      refine r_icmp hcd rfl h17 (by omega) (fun hc => ?_) (fun hc => ?_)
      · replace H := H.1 hc
        refine e_nx hcd rfl rfl ?_
        refine r_cv hcd rfl (by omega) rfl rfl rfl (Nat.le_of_ble_eq_true rfl) ?_
        refine Cl.mono H (fun v τ12 hq => ?_)
        obtain ⟨rfl, H⟩ := hq
        show Ev X 182 81 _ [] τ12 Q
        exact r_vret hcd rfl rfl rfl H
      · replace H := H.2 hc
        refine e_nx hcd rfl rfl ?_
        refine r_getR hcd rfl rfl rfl ?_
        iterate 3 (refine e_nx hcd rfl rfl ?_)
        refine r_getR hcd rfl rfl rfl ?_
        refine e_nx hcd rfl rfl ?_
        refine r_ild hcd rfl rfl (by omega) (by omega) ?_
        iterate 3 (refine e_nx hcd rfl rfl ?_)
        obtain ⟨h18, H⟩ := H
        refine r_ist hcd rfl rfl (by omega) h18 ?_
        refine e_nx hcd rfl rfl ?_
        refine r_getR hcd rfl rfl rfl ?_
        iterate 3 (refine e_nx hcd rfl rfl ?_)
        refine r_getR hcd rfl rfl rfl ?_
        refine e_nx hcd rfl rfl ?_
        refine r_ild hcd rfl rfl (by omega) (by omega) ?_
        iterate 3 (refine e_nx hcd rfl rfl ?_)
        obtain ⟨h19, H⟩ := H
        refine r_ist hcd rfl rfl (by omega) h19 ?_
        refine e_nx hcd rfl rfl ?_
        refine r_getR hcd rfl rfl rfl ?_
        iterate 2 (refine e_nx hcd rfl rfl ?_)
        refine r_ild hcd rfl rfl (by omega) (by omega) ?_
        iterate 2 (refine e_nx hcd rfl rfl ?_)
        refine r_ist hcd rfl rfl (by omega) (by omega) ?_
        refine e_nx hcd rfl rfl ?_
        refine r_cv hcd rfl (by omega) rfl rfl rfl (Nat.le_of_ble_eq_true rfl) ?_
        refine Cl.mono H (fun v τ13 hq => ?_)
        obtain ⟨rfl, H⟩ := hq
        show Ev X 182 81 _ [] τ13 Q
        exact r_vret hcd rfl rfl rfl H
  · replace H := H.2 hc
    refine e_nx hcd rfl rfl ?_
    refine r_getR hcd rfl rfl rfl ?_
    refine e_nx hcd rfl rfl ?_
    refine r_ild hcd rfl rfl (by omega) (by omega) ?_
    refine e_nx hcd rfl rfl ?_
    obtain ⟨h20, H⟩ := H
    refine r_icmp hcd rfl h20 (by omega) (fun hc => ?_) (fun hc => ?_)
    · replace H := H.1 hc
      refine e_nx hcd rfl rfl ?_
      obtain ⟨h21, H⟩ := H
      refine r_if hcd rfl h21 (fun hc => ?_) (fun hc => ?_)
      · replace H := H.1 hc
        iterate 4 (refine e_nx hcd rfl rfl ?_)
        refine r_icmp hcd rfl h21 (by omega) (fun hc => ?_) (fun hc => ?_)
        · replace H := H.1 hc
          iterate 2 (refine e_nx hcd rfl rfl ?_)
          refine r_icmp hcd rfl h21 (by omega) (fun hc => ?_) (fun hc => ?_)
          · replace H := H.1 hc
            refine e_nx hcd rfl rfl ?_
            refine r_cv hcd rfl (by omega) rfl rfl rfl (Nat.le_of_ble_eq_true rfl) ?_
            refine Cl.mono H (fun v τ14 hq => ?_)
            obtain ⟨r22, rfl, H⟩ := hq
            show Ev X 182 40 _ [vI r22] τ14 Q
            refine e_nx hcd rfl rfl ?_
            show Ev X 182 41 [some (vR (some 170)), some (vI (σ.1 170 4)), some (vI r2), some (vI r22)] [] _ Q
            refine e_nx hcd rfl rfl ?_
            refine r_getR hcd rfl rfl rfl ?_
            refine e_nx hcd rfl rfl ?_
            refine r_ild hcd rfl rfl (by omega) (by omega) ?_
            refine e_nx hcd rfl rfl ?_
            obtain ⟨h23, H⟩ := H
            refine r_icmp hcd rfl h23 (by omega) (fun hc => ?_) (fun hc => ?_)
            · replace H := H.1 hc
              refine e_nx hcd rfl rfl ?_
              refine r_cv hcd rfl (by omega) rfl rfl rfl (Nat.le_of_ble_eq_true rfl) ?_
              refine Cl.mono H (fun v τ15 hq => ?_)
              obtain ⟨rfl, H⟩ := hq
              show Ev X 182 81 _ [] τ15 Q
              exact r_vret hcd rfl rfl rfl H
            · replace H := H.2 hc
              refine e_nx hcd rfl rfl ?_
              refine r_getR hcd rfl rfl rfl ?_
              iterate 3 (refine e_nx hcd rfl rfl ?_)
              refine r_getR hcd rfl rfl rfl ?_
              refine e_nx hcd rfl rfl ?_
              refine r_ild hcd rfl rfl (by omega) (by omega) ?_
              iterate 3 (refine e_nx hcd rfl rfl ?_)
              obtain ⟨h24, H⟩ := H
              refine r_ist hcd rfl rfl (by omega) h24 ?_
              refine e_nx hcd rfl rfl ?_
              refine r_getR hcd rfl rfl rfl ?_
              iterate 3 (refine e_nx hcd rfl rfl ?_)
              refine r_getR hcd rfl rfl rfl ?_
              refine e_nx hcd rfl rfl ?_
              refine r_ild hcd rfl rfl (by omega) (by omega) ?_
              iterate 3 (refine e_nx hcd rfl rfl ?_)
              obtain ⟨h25, H⟩ := H
              refine r_ist hcd rfl rfl (by omega) h25 ?_
              refine e_nx hcd rfl rfl ?_
              refine r_getR hcd rfl rfl rfl ?_
              iterate 2 (refine e_nx hcd rfl rfl ?_)
              refine r_ild hcd rfl rfl (by omega) (by omega) ?_
              iterate 2 (refine e_nx hcd rfl rfl ?_)
              refine r_ist hcd rfl rfl (by omega) (by omega) ?_
              refine e_nx hcd rfl rfl ?_
              refine r_cv hcd rfl (by omega) rfl rfl rfl (Nat.le_of_ble_eq_true rfl) ?_
              refine Cl.mono H (fun v τ16 hq => ?_)
              obtain ⟨rfl, H⟩ := hq
              show Ev X 182 81 _ [] τ16 Q
              exact r_vret hcd rfl rfl rfl H
          · replace H := H.2 hc
            iterate 2 (refine e_nx hcd rfl rfl ?_)
            refine r_cv hcd rfl (by omega) rfl rfl rfl (Nat.le_of_ble_eq_true rfl) ?_
            refine Cl.mono H (fun v τ17 hq => ?_)
            obtain ⟨r26, rfl, H⟩ := hq
            show Ev X 182 40 _ [vI r26] τ17 Q
            refine e_nx hcd rfl rfl ?_
            show Ev X 182 41 [some (vR (some 170)), some (vI (σ.1 170 4)), some (vI r2), some (vI r26)] [] _ Q
            refine e_nx hcd rfl rfl ?_
            refine r_getR hcd rfl rfl rfl ?_
            refine e_nx hcd rfl rfl ?_
            refine r_ild hcd rfl rfl (by omega) (by omega) ?_
            refine e_nx hcd rfl rfl ?_
            obtain ⟨h27, H⟩ := H
            refine r_icmp hcd rfl h27 (by omega) (fun hc => ?_) (fun hc => ?_)
            · replace H := H.1 hc
              refine e_nx hcd rfl rfl ?_
              refine r_cv hcd rfl (by omega) rfl rfl rfl (Nat.le_of_ble_eq_true rfl) ?_
              refine Cl.mono H (fun v τ18 hq => ?_)
              obtain ⟨rfl, H⟩ := hq
              show Ev X 182 81 _ [] τ18 Q
              exact r_vret hcd rfl rfl rfl H
            · replace H := H.2 hc
              refine e_nx hcd rfl rfl ?_
              refine r_getR hcd rfl rfl rfl ?_
              iterate 3 (refine e_nx hcd rfl rfl ?_)
              refine r_getR hcd rfl rfl rfl ?_
              refine e_nx hcd rfl rfl ?_
              refine r_ild hcd rfl rfl (by omega) (by omega) ?_
              iterate 3 (refine e_nx hcd rfl rfl ?_)
              obtain ⟨h28, H⟩ := H
              refine r_ist hcd rfl rfl (by omega) h28 ?_
              refine e_nx hcd rfl rfl ?_
              refine r_getR hcd rfl rfl rfl ?_
              iterate 3 (refine e_nx hcd rfl rfl ?_)
              refine r_getR hcd rfl rfl rfl ?_
              refine e_nx hcd rfl rfl ?_
              refine r_ild hcd rfl rfl (by omega) (by omega) ?_
              iterate 3 (refine e_nx hcd rfl rfl ?_)
              obtain ⟨h29, H⟩ := H
              refine r_ist hcd rfl rfl (by omega) h29 ?_
              refine e_nx hcd rfl rfl ?_
              refine r_getR hcd rfl rfl rfl ?_
              iterate 2 (refine e_nx hcd rfl rfl ?_)
              refine r_ild hcd rfl rfl (by omega) (by omega) ?_
              iterate 2 (refine e_nx hcd rfl rfl ?_)
              refine r_ist hcd rfl rfl (by omega) (by omega) ?_
              refine e_nx hcd rfl rfl ?_
              refine r_cv hcd rfl (by omega) rfl rfl rfl (Nat.le_of_ble_eq_true rfl) ?_
              refine Cl.mono H (fun v τ19 hq => ?_)
              obtain ⟨rfl, H⟩ := hq
              show Ev X 182 81 _ [] τ19 Q
              exact r_vret hcd rfl rfl rfl H
        · replace H := H.2 hc
          iterate 2 (refine e_nx hcd rfl rfl ?_)
          refine r_cv hcd rfl (by omega) rfl rfl rfl (Nat.le_of_ble_eq_true rfl) ?_
          refine Cl.mono H (fun v τ20 hq => ?_)
          obtain ⟨r30, rfl, H⟩ := hq
          show Ev X 182 40 _ [vI r30] τ20 Q
          refine e_nx hcd rfl rfl ?_
          show Ev X 182 41 [some (vR (some 170)), some (vI (σ.1 170 4)), some (vI r2), some (vI r30)] [] _ Q
          refine e_nx hcd rfl rfl ?_
          refine r_getR hcd rfl rfl rfl ?_
          refine e_nx hcd rfl rfl ?_
          refine r_ild hcd rfl rfl (by omega) (by omega) ?_
          refine e_nx hcd rfl rfl ?_
          obtain ⟨h31, H⟩ := H
          refine r_icmp hcd rfl h31 (by omega) (fun hc => ?_) (fun hc => ?_)
          · replace H := H.1 hc
            refine e_nx hcd rfl rfl ?_
            refine r_cv hcd rfl (by omega) rfl rfl rfl (Nat.le_of_ble_eq_true rfl) ?_
            refine Cl.mono H (fun v τ21 hq => ?_)
            obtain ⟨rfl, H⟩ := hq
            show Ev X 182 81 _ [] τ21 Q
            exact r_vret hcd rfl rfl rfl H
          · replace H := H.2 hc
            refine e_nx hcd rfl rfl ?_
            refine r_getR hcd rfl rfl rfl ?_
            iterate 3 (refine e_nx hcd rfl rfl ?_)
            refine r_getR hcd rfl rfl rfl ?_
            refine e_nx hcd rfl rfl ?_
            refine r_ild hcd rfl rfl (by omega) (by omega) ?_
            iterate 3 (refine e_nx hcd rfl rfl ?_)
            obtain ⟨h32, H⟩ := H
            refine r_ist hcd rfl rfl (by omega) h32 ?_
            refine e_nx hcd rfl rfl ?_
            refine r_getR hcd rfl rfl rfl ?_
            iterate 3 (refine e_nx hcd rfl rfl ?_)
            refine r_getR hcd rfl rfl rfl ?_
            refine e_nx hcd rfl rfl ?_
            refine r_ild hcd rfl rfl (by omega) (by omega) ?_
            iterate 3 (refine e_nx hcd rfl rfl ?_)
            obtain ⟨h33, H⟩ := H
            refine r_ist hcd rfl rfl (by omega) h33 ?_
            refine e_nx hcd rfl rfl ?_
            refine r_getR hcd rfl rfl rfl ?_
            iterate 2 (refine e_nx hcd rfl rfl ?_)
            refine r_ild hcd rfl rfl (by omega) (by omega) ?_
            iterate 2 (refine e_nx hcd rfl rfl ?_)
            refine r_ist hcd rfl rfl (by omega) (by omega) ?_
            refine e_nx hcd rfl rfl ?_
            refine r_cv hcd rfl (by omega) rfl rfl rfl (Nat.le_of_ble_eq_true rfl) ?_
            refine Cl.mono H (fun v τ22 hq => ?_)
            obtain ⟨rfl, H⟩ := hq
            show Ev X 182 81 _ [] τ22 Q
            exact r_vret hcd rfl rfl rfl H
      · replace H := H.2 hc
        iterate 3 (refine e_nx hcd rfl rfl ?_)
        show Ev X 182 41 [some (vR (some 170)), some (vI (σ.1 170 4)), some (vI r2), some (vI (-1))] [] _ Q
        refine e_nx hcd rfl rfl ?_
        refine r_getR hcd rfl rfl rfl ?_
        refine e_nx hcd rfl rfl ?_
        refine r_ild hcd rfl rfl (by omega) (by omega) ?_
        refine e_nx hcd rfl rfl ?_
        refine r_icmp hcd rfl h20 (by omega) (fun hc => ?_) (fun hc => ?_)
        · replace H := H.1 hc
          refine e_nx hcd rfl rfl ?_
          refine r_cv hcd rfl (by omega) rfl rfl rfl (Nat.le_of_ble_eq_true rfl) ?_
          refine Cl.mono H (fun v τ23 hq => ?_)
          obtain ⟨rfl, H⟩ := hq
          show Ev X 182 81 _ [] τ23 Q
          exact r_vret hcd rfl rfl rfl H
        · replace H := H.2 hc
          refine e_nx hcd rfl rfl ?_
          refine r_getR hcd rfl rfl rfl ?_
          iterate 3 (refine e_nx hcd rfl rfl ?_)
          refine r_getR hcd rfl rfl rfl ?_
          refine e_nx hcd rfl rfl ?_
          refine r_ild hcd rfl rfl (by omega) (by omega) ?_
          iterate 3 (refine e_nx hcd rfl rfl ?_)
          obtain ⟨h34, H⟩ := H
          refine r_ist hcd rfl rfl (by omega) h34 ?_
          refine e_nx hcd rfl rfl ?_
          refine r_getR hcd rfl rfl rfl ?_
          iterate 3 (refine e_nx hcd rfl rfl ?_)
          refine r_getR hcd rfl rfl rfl ?_
          refine e_nx hcd rfl rfl ?_
          refine r_ild hcd rfl rfl (by omega) (by omega) ?_
          iterate 3 (refine e_nx hcd rfl rfl ?_)
          obtain ⟨h35, H⟩ := H
          refine r_ist hcd rfl rfl (by omega) h35 ?_
          refine e_nx hcd rfl rfl ?_
          refine r_getR hcd rfl rfl rfl ?_
          iterate 2 (refine e_nx hcd rfl rfl ?_)
          refine r_ild hcd rfl rfl (by omega) (by omega) ?_
          iterate 2 (refine e_nx hcd rfl rfl ?_)
          refine r_ist hcd rfl rfl (by omega) (by omega) ?_
          refine e_nx hcd rfl rfl ?_
          refine r_cv hcd rfl (by omega) rfl rfl rfl (Nat.le_of_ble_eq_true rfl) ?_
          refine Cl.mono H (fun v τ24 hq => ?_)
          obtain ⟨rfl, H⟩ := hq
          show Ev X 182 81 _ [] τ24 Q
          exact r_vret hcd rfl rfl rfl H
    · replace H := H.2 hc
      iterate 3 (refine e_nx hcd rfl rfl ?_)
      refine r_cv hcd rfl (by omega) rfl rfl rfl (Nat.le_of_ble_eq_true rfl) ?_
      refine Cl.mono H (fun v τ25 hq => ?_)
      obtain ⟨rfl, H⟩ := hq
      show Ev X 182 22 _ [] τ25 Q
      refine e_nx hcd rfl rfl ?_
      obtain ⟨h36, H⟩ := H
      refine r_if hcd rfl h36 (fun hc => ?_) (fun hc => ?_)
      · replace H := H.1 hc
        iterate 4 (refine e_nx hcd rfl rfl ?_)
        refine r_icmp hcd rfl h36 (by omega) (fun hc => ?_) (fun hc => ?_)
        · replace H := H.1 hc
          iterate 2 (refine e_nx hcd rfl rfl ?_)
          refine r_icmp hcd rfl h36 (by omega) (fun hc => ?_) (fun hc => ?_)
          · replace H := H.1 hc
            refine e_nx hcd rfl rfl ?_
            refine r_cv hcd rfl (by omega) rfl rfl rfl (Nat.le_of_ble_eq_true rfl) ?_
            refine Cl.mono H (fun v τ26 hq => ?_)
            obtain ⟨r37, rfl, H⟩ := hq
            show Ev X 182 40 _ [vI r37] τ26 Q
            refine e_nx hcd rfl rfl ?_
            show Ev X 182 41 [some (vR (some 170)), some (vI (σ.1 170 4)), some (vI r2), some (vI r37)] [] _ Q
            refine e_nx hcd rfl rfl ?_
            refine r_getR hcd rfl rfl rfl ?_
            refine e_nx hcd rfl rfl ?_
            refine r_ild hcd rfl rfl (by omega) (by omega) ?_
            refine e_nx hcd rfl rfl ?_
            obtain ⟨h38, H⟩ := H
            refine r_icmp hcd rfl h38 (by omega) (fun hc => ?_) (fun hc => ?_)
            · replace H := H.1 hc
              refine e_nx hcd rfl rfl ?_
              refine r_cv hcd rfl (by omega) rfl rfl rfl (Nat.le_of_ble_eq_true rfl) ?_
              refine Cl.mono H (fun v τ27 hq => ?_)
              obtain ⟨rfl, H⟩ := hq
              show Ev X 182 81 _ [] τ27 Q
              exact r_vret hcd rfl rfl rfl H
            · replace H := H.2 hc
              refine e_nx hcd rfl rfl ?_
              refine r_getR hcd rfl rfl rfl ?_
              iterate 3 (refine e_nx hcd rfl rfl ?_)
              refine r_getR hcd rfl rfl rfl ?_
              refine e_nx hcd rfl rfl ?_
              refine r_ild hcd rfl rfl (by omega) (by omega) ?_
              iterate 3 (refine e_nx hcd rfl rfl ?_)
              obtain ⟨h39, H⟩ := H
              refine r_ist hcd rfl rfl (by omega) h39 ?_
              refine e_nx hcd rfl rfl ?_
              refine r_getR hcd rfl rfl rfl ?_
              iterate 3 (refine e_nx hcd rfl rfl ?_)
              refine r_getR hcd rfl rfl rfl ?_
              refine e_nx hcd rfl rfl ?_
              refine r_ild hcd rfl rfl (by omega) (by omega) ?_
              iterate 3 (refine e_nx hcd rfl rfl ?_)
              obtain ⟨h40, H⟩ := H
              refine r_ist hcd rfl rfl (by omega) h40 ?_
              refine e_nx hcd rfl rfl ?_
              refine r_getR hcd rfl rfl rfl ?_
              iterate 2 (refine e_nx hcd rfl rfl ?_)
              refine r_ild hcd rfl rfl (by omega) (by omega) ?_
              iterate 2 (refine e_nx hcd rfl rfl ?_)
              refine r_ist hcd rfl rfl (by omega) (by omega) ?_
              refine e_nx hcd rfl rfl ?_
              refine r_cv hcd rfl (by omega) rfl rfl rfl (Nat.le_of_ble_eq_true rfl) ?_
              refine Cl.mono H (fun v τ28 hq => ?_)
              obtain ⟨rfl, H⟩ := hq
              show Ev X 182 81 _ [] τ28 Q
              exact r_vret hcd rfl rfl rfl H
          · replace H := H.2 hc
            iterate 2 (refine e_nx hcd rfl rfl ?_)
            refine r_cv hcd rfl (by omega) rfl rfl rfl (Nat.le_of_ble_eq_true rfl) ?_
            refine Cl.mono H (fun v τ29 hq => ?_)
            obtain ⟨r41, rfl, H⟩ := hq
            show Ev X 182 40 _ [vI r41] τ29 Q
            refine e_nx hcd rfl rfl ?_
            show Ev X 182 41 [some (vR (some 170)), some (vI (σ.1 170 4)), some (vI r2), some (vI r41)] [] _ Q
            refine e_nx hcd rfl rfl ?_
            refine r_getR hcd rfl rfl rfl ?_
            refine e_nx hcd rfl rfl ?_
            refine r_ild hcd rfl rfl (by omega) (by omega) ?_
            refine e_nx hcd rfl rfl ?_
            obtain ⟨h42, H⟩ := H
            refine r_icmp hcd rfl h42 (by omega) (fun hc => ?_) (fun hc => ?_)
            · replace H := H.1 hc
              refine e_nx hcd rfl rfl ?_
              refine r_cv hcd rfl (by omega) rfl rfl rfl (Nat.le_of_ble_eq_true rfl) ?_
              refine Cl.mono H (fun v τ30 hq => ?_)
              obtain ⟨rfl, H⟩ := hq
              show Ev X 182 81 _ [] τ30 Q
              exact r_vret hcd rfl rfl rfl H
            · replace H := H.2 hc
              refine e_nx hcd rfl rfl ?_
              refine r_getR hcd rfl rfl rfl ?_
              iterate 3 (refine e_nx hcd rfl rfl ?_)
              refine r_getR hcd rfl rfl rfl ?_
              refine e_nx hcd rfl rfl ?_
              refine r_ild hcd rfl rfl (by omega) (by omega) ?_
              iterate 3 (refine e_nx hcd rfl rfl ?_)
              obtain ⟨h43, H⟩ := H
              refine r_ist hcd rfl rfl (by omega) h43 ?_
              refine e_nx hcd rfl rfl ?_
              refine r_getR hcd rfl rfl rfl ?_
              iterate 3 (refine e_nx hcd rfl rfl ?_)
              refine r_getR hcd rfl rfl rfl ?_
              refine e_nx hcd rfl rfl ?_
              refine r_ild hcd rfl rfl (by omega) (by omega) ?_
              iterate 3 (refine e_nx hcd rfl rfl ?_)
              obtain ⟨h44, H⟩ := H
              refine r_ist hcd rfl rfl (by omega) h44 ?_
              refine e_nx hcd rfl rfl ?_
              refine r_getR hcd rfl rfl rfl ?_
              iterate 2 (refine e_nx hcd rfl rfl ?_)
              refine r_ild hcd rfl rfl (by omega) (by omega) ?_
              iterate 2 (refine e_nx hcd rfl rfl ?_)
              refine r_ist hcd rfl rfl (by omega) (by omega) ?_
              refine e_nx hcd rfl rfl ?_
              refine r_cv hcd rfl (by omega) rfl rfl rfl (Nat.le_of_ble_eq_true rfl) ?_
              refine Cl.mono H (fun v τ31 hq => ?_)
              obtain ⟨rfl, H⟩ := hq
              show Ev X 182 81 _ [] τ31 Q
              exact r_vret hcd rfl rfl rfl H
        · replace H := H.2 hc
          iterate 2 (refine e_nx hcd rfl rfl ?_)
          refine r_cv hcd rfl (by omega) rfl rfl rfl (Nat.le_of_ble_eq_true rfl) ?_
          refine Cl.mono H (fun v τ32 hq => ?_)
          obtain ⟨r45, rfl, H⟩ := hq
          show Ev X 182 40 _ [vI r45] τ32 Q
          refine e_nx hcd rfl rfl ?_
          show Ev X 182 41 [some (vR (some 170)), some (vI (σ.1 170 4)), some (vI r2), some (vI r45)] [] _ Q
          refine e_nx hcd rfl rfl ?_
          refine r_getR hcd rfl rfl rfl ?_
          refine e_nx hcd rfl rfl ?_
          refine r_ild hcd rfl rfl (by omega) (by omega) ?_
          refine e_nx hcd rfl rfl ?_
          obtain ⟨h46, H⟩ := H
          refine r_icmp hcd rfl h46 (by omega) (fun hc => ?_) (fun hc => ?_)
          · replace H := H.1 hc
            refine e_nx hcd rfl rfl ?_
            refine r_cv hcd rfl (by omega) rfl rfl rfl (Nat.le_of_ble_eq_true rfl) ?_
            refine Cl.mono H (fun v τ33 hq => ?_)
            obtain ⟨rfl, H⟩ := hq
            show Ev X 182 81 _ [] τ33 Q
            exact r_vret hcd rfl rfl rfl H
          · replace H := H.2 hc
            refine e_nx hcd rfl rfl ?_
            refine r_getR hcd rfl rfl rfl ?_
            iterate 3 (refine e_nx hcd rfl rfl ?_)
            refine r_getR hcd rfl rfl rfl ?_
            refine e_nx hcd rfl rfl ?_
            refine r_ild hcd rfl rfl (by omega) (by omega) ?_
            iterate 3 (refine e_nx hcd rfl rfl ?_)
            obtain ⟨h47, H⟩ := H
            refine r_ist hcd rfl rfl (by omega) h47 ?_
            refine e_nx hcd rfl rfl ?_
            refine r_getR hcd rfl rfl rfl ?_
            iterate 3 (refine e_nx hcd rfl rfl ?_)
            refine r_getR hcd rfl rfl rfl ?_
            refine e_nx hcd rfl rfl ?_
            refine r_ild hcd rfl rfl (by omega) (by omega) ?_
            iterate 3 (refine e_nx hcd rfl rfl ?_)
            obtain ⟨h48, H⟩ := H
            refine r_ist hcd rfl rfl (by omega) h48 ?_
            refine e_nx hcd rfl rfl ?_
            refine r_getR hcd rfl rfl rfl ?_
            iterate 2 (refine e_nx hcd rfl rfl ?_)
            refine r_ild hcd rfl rfl (by omega) (by omega) ?_
            iterate 2 (refine e_nx hcd rfl rfl ?_)
            refine r_ist hcd rfl rfl (by omega) (by omega) ?_
            refine e_nx hcd rfl rfl ?_
            refine r_cv hcd rfl (by omega) rfl rfl rfl (Nat.le_of_ble_eq_true rfl) ?_
            refine Cl.mono H (fun v τ34 hq => ?_)
            obtain ⟨rfl, H⟩ := hq
            show Ev X 182 81 _ [] τ34 Q
            exact r_vret hcd rfl rfl rfl H
      · replace H := H.2 hc
        iterate 3 (refine e_nx hcd rfl rfl ?_)
        show Ev X 182 41 [some (vR (some 170)), some (vI (σ.1 170 4)), some (vI r2), some (vI (-1))] [] _ Q
        refine e_nx hcd rfl rfl ?_
        refine r_getR hcd rfl rfl rfl ?_
        refine e_nx hcd rfl rfl ?_
        refine r_ild hcd rfl rfl (by omega) (by omega) ?_
        refine e_nx hcd rfl rfl ?_
        obtain ⟨h49, H⟩ := H
        refine r_icmp hcd rfl h49 (by omega) (fun hc => ?_) (fun hc => ?_)
        · replace H := H.1 hc
          refine e_nx hcd rfl rfl ?_
          refine r_cv hcd rfl (by omega) rfl rfl rfl (Nat.le_of_ble_eq_true rfl) ?_
          refine Cl.mono H (fun v τ35 hq => ?_)
          obtain ⟨rfl, H⟩ := hq
          show Ev X 182 81 _ [] τ35 Q
          exact r_vret hcd rfl rfl rfl H
        · replace H := H.2 hc
          refine e_nx hcd rfl rfl ?_
          refine r_getR hcd rfl rfl rfl ?_
          iterate 3 (refine e_nx hcd rfl rfl ?_)
          refine r_getR hcd rfl rfl rfl ?_
          refine e_nx hcd rfl rfl ?_
          refine r_ild hcd rfl rfl (by omega) (by omega) ?_
          iterate 3 (refine e_nx hcd rfl rfl ?_)
          obtain ⟨h50, H⟩ := H
          refine r_ist hcd rfl rfl (by omega) h50 ?_
          refine e_nx hcd rfl rfl ?_
          refine r_getR hcd rfl rfl rfl ?_
          iterate 3 (refine e_nx hcd rfl rfl ?_)
          refine r_getR hcd rfl rfl rfl ?_
          refine e_nx hcd rfl rfl ?_
          refine r_ild hcd rfl rfl (by omega) (by omega) ?_
          iterate 3 (refine e_nx hcd rfl rfl ?_)
          obtain ⟨h51, H⟩ := H
          refine r_ist hcd rfl rfl (by omega) h51 ?_
          refine e_nx hcd rfl rfl ?_
          refine r_getR hcd rfl rfl rfl ?_
          iterate 2 (refine e_nx hcd rfl rfl ?_)
          refine r_ild hcd rfl rfl (by omega) (by omega) ?_
          iterate 2 (refine e_nx hcd rfl rfl ?_)
          refine r_ist hcd rfl rfl (by omega) (by omega) ?_
          refine e_nx hcd rfl rfl ?_
          refine r_cv hcd rfl (by omega) rfl rfl rfl (Nat.le_of_ble_eq_true rfl) ?_
          refine Cl.mono H (fun v τ36 hq => ?_)
          obtain ⟨rfl, H⟩ := hq
          show Ev X 182 81 _ [] τ36 Q
          exact r_vret hcd rfl rfl rfl H
/-! X12_logLine -/
set_option maxRecDepth 20000 in
set_option maxHeartbeats 8000000 in
theorem v_183 {X : PX} {σ : Sg} {Q : Option PV → Sg → Prop}   (H : CI X 174 [vR (some 170), vI 11, vI 11] σ (fun r1 τ1 => InR (τ1.1 170 8) ∧ (τ1.1 170 8 ≠ 0 → CI X 173 [vR (some 170), vI 0, vI 6] τ1 (fun r3 τ2 => CI X 173 [vR (some 170), vI 0, vI 99] τ2 (fun r4 τ3 => InR (τ3.2 173 0) ∧ (8 ≤ τ3.2 173 0 → CV X 175 [vR (some 170)] τ3 (fun τ4 => Q none τ4)) ∧ (¬ 8 ≤ τ3.2 173 0 → (0 ≤ 1 + (2 * (τ3.2 173 0)) ∧ 1 + (2 * (τ3.2 173 0)) < 81) ∧ (0 ≤ 2 + (2 * ((up2 τ3.2 173 (1 + (2 * (τ3.2 173 0))).toNat r3) 173 0)) ∧ 2 + (2 * ((up2 τ3.2 173 (1 + (2 * (τ3.2 173 0))).toNat r3) 173 0)) < 81) ∧ CV X 175 [vR (some 170)] (τ3.1, up2 (up2 (up2 τ3.2 173 (1 + (2 * (τ3.2 173 0))).toNat r3) 173 (2 + (2 * ((up2 τ3.2 173 (1 + (2 * (τ3.2 173 0))).toNat r3) 173 0))).toNat r4) 173 0 (((up2 (up2 τ3.2 173 (1 + (2 * (τ3.2 173 0))).toNat r3) 173 (2 + (2 * ((up2 τ3.2 173 (1 + (2 * (τ3.2 173 0))).toNat r3) 173 0))).toNat r4) 173 0) + 1)) (fun τ5 => Q none τ5))))) ∧ (¬ τ1.1 170 8 ≠ 0 → InR (τ1.2 173 0) ∧ (τ1.2 173 0 < 8 → CI X 173 [vR (some 170), vI 0, vI 6] τ1 (fun r9 τ6 => CI X 173 [vR (some 170), vI 0, vI 99] τ6 (fun r10 τ7 => InR (τ7.2 173 0) ∧ (8 ≤ τ7.2 173 0 → CV X 175 [vR (some 170)] τ7 (fun τ8 => Q none τ8)) ∧ (¬ 8 ≤ τ7.2 173 0 → (0 ≤ 1 + (2 * (τ7.2 173 0)) ∧ 1 + (2 * (τ7.2 173 0)) < 81) ∧ (0 ≤ 2 + (2 * ((up2 τ7.2 173 (1 + (2 * (τ7.2 173 0))).toNat r9) 173 0)) ∧ 2 + (2 * ((up2 τ7.2 173 (1 + (2 * (τ7.2 173 0))).toNat r9) 173 0)) < 81) ∧ CV X 175 [vR (some 170)] (τ7.1, up2 (up2 (up2 τ7.2 173 (1 + (2 * (τ7.2 173 0))).toNat r9) 173 (2 + (2 * ((up2 τ7.2 173 (1 + (2 * (τ7.2 173 0))).toNat r9) 173 0))).toNat r10) 173 0 (((up2 (up2 τ7.2 173 (1 + (2 * (τ7.2 173 0))).toNat r9) 173 (2 + (2 * ((up2 τ7.2 173 (1 + (2 * (τ7.2 173 0))).toNat r9) 173 0))).toNat r10) 173 0) + 1)) (fun τ9 => Q none τ9))))) ∧ (¬ τ1.2 173 0 < 8 → CV X 172 [vR (some 170), vI 3, vI (σ.1 170 4)] τ1 (fun τ10 => CI X 173 [vR (some 170), vI 0, vI 6] τ10 (fun r14 τ11 => CI X 173 [vR (some 170), vI 0, vI 99] τ11 (fun r15 τ12 => InR (τ12.2 173 0) ∧ (8 ≤ τ12.2 173 0 → CV X 175 [vR (some 170)] τ12 (fun τ13 => Q none τ13)) ∧ (¬ 8 ≤ τ12.2 173 0 → (0 ≤ 1 + (2 * (τ12.2 173 0)) ∧ 1 + (2 * (τ12.2 173 0)) < 81) ∧ (0 ≤ 2 + (2 * ((up2 τ12.2 173 (1 + (2 * (τ12.2 173 0))).toNat r14) 173 0)) ∧ 2 + (2 * ((up2 τ12.2 173 (1 + (2 * (τ12.2 173 0))).toNat r14) 173 0)) < 81) ∧ CV X 175 [vR (some 170)] (τ12.1, up2 (up2 (up2 τ12.2 173 (1 + (2 * (τ12.2 173 0))).toNat r14) 173 (2 + (2 * ((up2 τ12.2 173 (1 + (2 * (τ12.2 173 0))).toNat r14) 173 0))).toNat r15) 173 0 (((up2 (up2 τ12.2 173 (1 + (2 * (τ12.2 173 0))).toNat r14) 173 (2 + (2 * ((up2 τ12.2 173 (1 + (2 * (τ12.2 173 0))).toNat r14) 173 0))).toNat r15) 173 0) + 1)) (fun τ14 => Q none τ14))))))))) : Cl X 183 [vR (some 170)] σ Q := by
  have hcd : cds 183 = cd_183 := rfl
  refine c_in (Nat.le_of_ble_eq_true rfl) rfl rfl ?_
  show Ev X 183 0 [some (vR (some 170)), none, none, none] [] σ Q
  refine e_nx hcd rfl rfl ?_
  refine r_getI hcd rfl rfl rfl ?_
  refine e_nx hcd rfl rfl ?_
  show Ev X 183 3 [some (vR (some 170)), some (vI (σ.1 170 4)), none, none] [] _ Q
  iterate 3 (refine e_nx hcd rfl rfl ?_)
  refine r_cv hcd rfl (by omega) rfl rfl rfl (Nat.le_of_ble_eq_true rfl) ?_
  refine Cl.mono H (fun v τ1 hq => ?_)
  obtain ⟨r1, rfl, H⟩ := hq
  show Ev X 183 7 _ [vI r1] τ1 Q
  iterate 2 (refine e_nx hcd rfl rfl ?_)
  refine r_getI hcd rfl rfl rfl ?_
  obtain ⟨h2, H⟩ := H
  refine r_if hcd rfl h2 (fun hc => ?_) (fun hc => ?_)
  · replace H := H.1 hc
    iterate 3 (refine e_nx hcd rfl rfl ?_)
    refine r_cv hcd rfl (by omega) rfl rfl rfl (Nat.le_of_ble_eq_true rfl) ?_
    refine Cl.mono H (fun v τ2 hq => ?_)
    obtain ⟨r3, rfl, H⟩ := hq
    show Ev X 183 25 _ [vI r3] τ2 Q
    refine e_nx hcd rfl rfl ?_
    show Ev X 183 26 [some (vR (some 170)), some (vI (σ.1 170 4)), some (vI r3), none] [] _ Q
    iterate 3 (refine e_nx hcd rfl rfl ?_)
    refine r_cv hcd rfl (by omega) rfl rfl rfl (Nat.le_of_ble_eq_true rfl) ?_
    refine Cl.mono H (fun v τ3 hq => ?_)
    obtain ⟨r4, rfl, H⟩ := hq
    show Ev X 183 30 _ [vI r4] τ3 Q
    refine e_nx hcd rfl rfl ?_
    show Ev X 183 31 [some (vR (some 170)), some (vI (σ.1 170 4)), some (vI r3), some (vI r4)] [] _ Q
    refine e_nx hcd rfl rfl ?_
    refine r_getR hcd rfl rfl rfl ?_
    refine e_nx hcd rfl rfl ?_
    refine r_ild hcd rfl rfl (by omega) (by omega) ?_
    refine e_nx hcd rfl rfl ?_
    obtain ⟨h5, H⟩ := H
    refine r_icmp hcd rfl h5 (by omega) (fun hc => ?_) (fun hc => ?_)
    · replace H := H.1 hc
      refine e_nx hcd rfl rfl ?_
      refine r_cv hcd rfl (by omega) rfl rfl rfl (Nat.le_of_ble_eq_true rfl) ?_
      refine Cl.mono H (fun v τ4 hq => ?_)
      obtain ⟨rfl, H⟩ := hq
      show Ev X 183 71 _ [] τ4 Q
      exact r_vret hcd rfl rfl rfl H
    · replace H := H.2 hc
      refine e_nx hcd rfl rfl ?_
      refine r_getR hcd rfl rfl rfl ?_
      iterate 3 (refine e_nx hcd rfl rfl ?_)
      refine r_getR hcd rfl rfl rfl ?_
      refine e_nx hcd rfl rfl ?_
      refine r_ild hcd rfl rfl (by omega) (by omega) ?_
      iterate 3 (refine e_nx hcd rfl rfl ?_)
      obtain ⟨h6, H⟩ := H
      refine r_ist hcd rfl rfl (by omega) h6 ?_
      refine e_nx hcd rfl rfl ?_
      refine r_getR hcd rfl rfl rfl ?_
      iterate 3 (refine e_nx hcd rfl rfl ?_)
      refine r_getR hcd rfl rfl rfl ?_
      refine e_nx hcd rfl rfl ?_
      refine r_ild hcd rfl rfl (by omega) (by omega) ?_
      iterate 3 (refine e_nx hcd rfl rfl ?_)
      obtain ⟨h7, H⟩ := H
      refine r_ist hcd rfl rfl (by omega) h7 ?_
      refine e_nx hcd rfl rfl ?_
      refine r_getR hcd rfl rfl rfl ?_
      iterate 2 (refine e_nx hcd rfl rfl ?_)
      refine r_ild hcd rfl rfl (by omega) (by omega) ?_
      iterate 2 (refine e_nx hcd rfl rfl ?_)
      refine r_ist hcd rfl rfl (by omega) (by omega) ?_
      refine e_nx hcd rfl rfl ?_
      refine r_cv hcd rfl (by omega) rfl rfl rfl (Nat.le_of_ble_eq_true rfl) ?_
      refine Cl.mono H (fun v τ5 hq => ?_)
      obtain ⟨rfl, H⟩ := hq
      show Ev X 183 71 _ [] τ5 Q
      exact r_vret hcd rfl rfl rfl H
  · replace H := H.2 hc
    refine e_nx hcd rfl rfl ?_
    refine r_getR hcd rfl rfl rfl ?_
    refine e_nx hcd rfl rfl ?_
    refine r_ild hcd rfl rfl (by omega) (by omega) ?_
    refine e_nx hcd rfl rfl ?_
    obtain ⟨h8, H⟩ := H
    refine r_icmp hcd rfl h8 (by omega) (fun hc => ?_) (fun hc => ?_)
    · replace H := H.1 hc
      iterate 3 (refine e_nx hcd rfl rfl ?_)
      refine r_cv hcd rfl (by omega) rfl rfl rfl (Nat.le_of_ble_eq_true rfl) ?_
      refine Cl.mono H (fun v τ6 hq => ?_)
      obtain ⟨r9, rfl, H⟩ := hq
      show Ev X 183 25 _ [vI r9] τ6 Q
      refine e_nx hcd rfl rfl ?_
      show Ev X 183 26 [some (vR (some 170)), some (vI (σ.1 170 4)), some (vI r9), none] [] _ Q
      iterate 3 (refine e_nx hcd rfl rfl ?_)
      refine r_cv hcd rfl (by omega) rfl rfl rfl (Nat.le_of_ble_eq_true rfl) ?_
      refine Cl.mono H (fun v τ7 hq => ?_)
      obtain ⟨r10, rfl, H⟩ := hq
      show Ev X 183 30 _ [vI r10] τ7 Q
      refine e_nx hcd rfl rfl ?_
      show Ev X 183 31 [some (vR (some 170)), some (vI (σ.1 170 4)), some (vI r9), some (vI r10)] [] _ Q
      refine e_nx hcd rfl rfl ?_
      refine r_getR hcd rfl rfl rfl ?_
      refine e_nx hcd rfl rfl ?_
      refine r_ild hcd rfl rfl (by omega) (by omega) ?_
      refine e_nx hcd rfl rfl ?_
      obtain ⟨h11, H⟩ := H
      refine r_icmp hcd rfl h11 (by omega) (fun hc => ?_) (fun hc => ?_)
      · replace H := H.1 hc
        refine e_nx hcd rfl rfl ?_
        refine r_cv hcd rfl (by omega) rfl rfl rfl (Nat.le_of_ble_eq_true rfl) ?_
        refine Cl.mono H (fun v τ8 hq => ?_)
        obtain ⟨rfl, H⟩ := hq
        show Ev X 183 71 _ [] τ8 Q
        exact r_vret hcd rfl rfl rfl H
      · replace H := H.2 hc
        refine e_nx hcd rfl rfl ?_
        refine r_getR hcd rfl rfl rfl ?_
        iterate 3 (refine e_nx hcd rfl rfl ?_)
        refine r_getR hcd rfl rfl rfl ?_
        refine e_nx hcd rfl rfl ?_
        refine r_ild hcd rfl rfl (by omega) (by omega) ?_
        iterate 3 (refine e_nx hcd rfl rfl ?_)
        obtain ⟨h12, H⟩ := H
        refine r_ist hcd rfl rfl (by omega) h12 ?_
        refine e_nx hcd rfl rfl ?_
        refine r_getR hcd rfl rfl rfl ?_
        iterate 3 (refine e_nx hcd rfl rfl ?_)
        refine r_getR hcd rfl rfl rfl ?_
        refine e_nx hcd rfl rfl ?_
        refine r_ild hcd rfl rfl (by omega) (by omega) ?_
        iterate 3 (refine e_nx hcd rfl rfl ?_)
        obtain ⟨h13, H⟩ := H
        refine r_ist hcd rfl rfl (by omega) h13 ?_
        refine e_nx hcd rfl rfl ?_
        refine r_getR hcd rfl rfl rfl ?_
        iterate 2 (refine e_nx hcd rfl rfl ?_)
        refine r_ild hcd rfl rfl (by omega) (by omega) ?_
        iterate 2 (refine e_nx hcd rfl rfl ?_)
        refine r_ist hcd rfl rfl (by omega) (by omega) ?_
        refine e_nx hcd rfl rfl ?_
        refine r_cv hcd rfl (by omega) rfl rfl rfl (Nat.le_of_ble_eq_true rfl) ?_
        refine Cl.mono H (fun v τ9 hq => ?_)
        obtain ⟨rfl, H⟩ := hq
        show Ev X 183 71 _ [] τ9 Q
        exact r_vret hcd rfl rfl rfl H
    · replace H := H.2 hc
      iterate 3 (refine e_nx hcd rfl rfl ?_)
      refine r_cv hcd rfl (by omega) rfl rfl rfl (Nat.le_of_ble_eq_true rfl) ?_
      refine Cl.mono H (fun v τ10 hq => ?_)
      obtain ⟨rfl, H⟩ := hq
      show Ev X 183 21 _ [] τ10 Q
      iterate 3 (refine e_nx hcd rfl rfl ?_)
      refine r_cv hcd rfl (by omega) rfl rfl rfl (Nat.le_of_ble_eq_true rfl) ?_
      refine Cl.mono H (fun v τ11 hq => ?_)
      obtain ⟨r14, rfl, H⟩ := hq
      show Ev X 183 25 _ [vI r14] τ11 Q
      refine e_nx hcd rfl rfl ?_
      show Ev X 183 26 [some (vR (some 170)), some (vI (σ.1 170 4)), some (vI r14), none] [] _ Q
      iterate 3 (refine e_nx hcd rfl rfl ?_)
      refine r_cv hcd rfl (by omega) rfl rfl rfl (Nat.le_of_ble_eq_true rfl) ?_
      refine Cl.mono H (fun v τ12 hq => ?_)
      obtain ⟨r15, rfl, H⟩ := hq
      show Ev X 183 30 _ [vI r15] τ12 Q
      refine e_nx hcd rfl rfl ?_
      show Ev X 183 31 [some (vR (some 170)), some (vI (σ.1 170 4)), some (vI r14), some (vI r15)] [] _ Q
      refine e_nx hcd rfl rfl ?_
      refine r_getR hcd rfl rfl rfl ?_
      refine e_nx hcd rfl rfl ?_
      refine r_ild hcd rfl rfl (by omega) (by omega) ?_
      refine e_nx hcd rfl rfl ?_
      obtain ⟨h16, H⟩ := H
      refine r_icmp hcd rfl h16 (by omega) (fun hc => ?_) (fun hc => ?_)
      · replace H := H.1 hc
        refine e_nx hcd rfl rfl ?_
        refine r_cv hcd rfl (by omega) rfl rfl rfl (Nat.le_of_ble_eq_true rfl) ?_
        refine Cl.mono H (fun v τ13 hq => ?_)
        obtain ⟨rfl, H⟩ := hq
        show Ev X 183 71 _ [] τ13 Q
        exact r_vret hcd rfl rfl rfl H
      · replace H := H.2 hc
        refine e_nx hcd rfl rfl ?_
        refine r_getR hcd rfl rfl rfl ?_
        iterate 3 (refine e_nx hcd rfl rfl ?_)
        refine r_getR hcd rfl rfl rfl ?_
        refine e_nx hcd rfl rfl ?_
        refine r_ild hcd rfl rfl (by omega) (by omega) ?_
        iterate 3 (refine e_nx hcd rfl rfl ?_)
        obtain ⟨h17, H⟩ := H
        refine r_ist hcd rfl rfl (by omega) h17 ?_
        refine e_nx hcd rfl rfl ?_
        refine r_getR hcd rfl rfl rfl ?_
        iterate 3 (refine e_nx hcd rfl rfl ?_)
        refine r_getR hcd rfl rfl rfl ?_
        refine e_nx hcd rfl rfl ?_
        refine r_ild hcd rfl rfl (by omega) (by omega) ?_
        iterate 3 (refine e_nx hcd rfl rfl ?_)
        obtain ⟨h18, H⟩ := H
        refine r_ist hcd rfl rfl (by omega) h18 ?_
        refine e_nx hcd rfl rfl ?_
        refine r_getR hcd rfl rfl rfl ?_
        iterate 2 (refine e_nx hcd rfl rfl ?_)
        refine r_ild hcd rfl rfl (by omega) (by omega) ?_
        iterate 2 (refine e_nx hcd rfl rfl ?_)
        refine r_ist hcd rfl rfl (by omega) (by omega) ?_
        refine e_nx hcd rfl rfl ?_
        refine r_cv hcd rfl (by omega) rfl rfl rfl (Nat.le_of_ble_eq_true rfl) ?_
        refine Cl.mono H (fun v τ14 hq => ?_)
        obtain ⟨rfl, H⟩ := hq
        show Ev X 183 71 _ [] τ14 Q
        exact r_vret hcd rfl rfl rfl H
/-! X12_placeOf -/
theorem v_184 {X : PX} {σ : Sg} {Q : Option PV → Sg → Prop} {a1 : Int} {a2 : Int}  (H : InR a1 ∧ (a1 ≠ 0 → (a1 ≠ 1 → Q (some (vI (870 + (17 * a2)))) σ) ∧ (¬ a1 ≠ 1 → Q (some (vI (708 + (81 * a2)))) σ)) ∧ (¬ a1 ≠ 0 → Q (some (vI (610 + (49 * a2)))) σ)) : Cl X 184 [vI a1, vI a2] σ Q := by
  have hcd : cds 184 = cd_184 := rfl
  refine c_in (Nat.le_of_ble_eq_true rfl) rfl rfl ?_
  show Ev X 184 0 [some (vI a1), some (vI a2)] [] σ Q
  refine e_nx hcd rfl rfl ?_
  obtain ⟨h1, H⟩ := H
  refine r_if hcd rfl h1 (fun hc => ?_) (fun hc => ?_)
  · replace H := H.1 hc
    iterate 2 (refine e_nx hcd rfl rfl ?_)
    refine r_icmp hcd rfl h1 (by omega) (fun hc => ?_) (fun hc => ?_)
    · replace H := H.1 hc
      iterate 5 (refine e_nx hcd rfl rfl ?_)
      exact r_iret hcd rfl rfl rfl H
    · replace H := H.2 hc
      iterate 6 (refine e_nx hcd rfl rfl ?_)
      exact r_iret hcd rfl rfl rfl H
  · replace H := H.2 hc
    iterate 6 (refine e_nx hcd rfl rfl ?_)
    exact r_iret hcd rfl rfl rfl H
/-! X12_sizeOf -/
theorem v_185 {X : PX} {σ : Sg} {Q : Option PV → Sg → Prop} {a1 : Int}  (H : InR a1 ∧ (a1 ≠ 0 → (a1 ≠ 1 → Q (some (vI 17)) σ) ∧ (¬ a1 ≠ 1 → Q (some (vI 81)) σ)) ∧ (¬ a1 ≠ 0 → Q (some (vI 49)) σ)) : Cl X 185 [vI a1] σ Q := by
  have hcd : cds 185 = cd_185 := rfl
  refine c_in (Nat.le_of_ble_eq_true rfl) rfl rfl ?_
  show Ev X 185 0 [some (vI a1)] [] σ Q
  refine e_nx hcd rfl rfl ?_
  obtain ⟨h1, H⟩ := H
  refine r_if hcd rfl h1 (fun hc => ?_) (fun hc => ?_)
  · replace H := H.1 hc
    iterate 2 (refine e_nx hcd rfl rfl ?_)
    refine r_icmp hcd rfl h1 (by omega) (fun hc => ?_) (fun hc => ?_)
    · replace H := H.1 hc
      refine e_nx hcd rfl rfl ?_
      exact r_iret hcd rfl rfl rfl H
    · replace H := H.2 hc
      iterate 2 (refine e_nx hcd rfl rfl ?_)
      exact r_iret hcd rfl rfl rfl H
  · replace H := H.2 hc
    iterate 2 (refine e_nx hcd rfl rfl ?_)
    exact r_iret hcd rfl rfl rfl H
/-! X12_isOf -/
theorem v_186 {X : PX} {σ : Sg} {Q : Option PV → Sg → Prop} {a1 : Int} {a2 : Int}  (H : (0 ≤ a1 ∧ a1 < 3616) ∧ CI X 161 [vI a2, vI 0, vI ((σ.2 171 a1.toNat) - 1)] σ (fun r2 τ1 => (r2 = 0 ∨ r2 = 1) ∧ Q (some (vI r2)) τ1)) : Cl X 186 [vR (some 170), vI a1, vI a2] σ Q := by
  have hcd : cds 186 = cd_186 := rfl
  refine c_in (Nat.le_of_ble_eq_true rfl) rfl rfl ?_
  show Ev X 186 0 [some (vR (some 170)), some (vI a1), some (vI a2)] [] σ Q
  iterate 3 (refine e_nx hcd rfl rfl ?_)
  refine r_getR hcd rfl rfl rfl ?_
  refine e_nx hcd rfl rfl ?_
  obtain ⟨h1, H⟩ := H
  refine r_ild hcd rfl rfl (by omega) h1 ?_
  iterate 2 (refine e_nx hcd rfl rfl ?_)
  refine r_cs hcd rfl (by omega) (Nat.le_of_ble_eq_true rfl) rfl rfl (Nat.le_of_ble_eq_true rfl) ?_
  refine Cl.mono H (fun v τ1 hq => ?_)
  obtain ⟨r2, rfl, H⟩ := hq
  show Ev X 186 9 _ [vI r2] τ1 Q
  obtain ⟨h3, H⟩ := H
  exact r_zret hcd rfl rfl rfl h3 H
/-! X12_text -/
set_option maxRecDepth 20000 in
set_option maxHeartbeats 8000000 in
theorem v_187 {X : PX} {σ : Sg} {Q : Option PV → Sg → Prop} {a1 : Int} {a2 : Int}  (H : CI X 161 [vI a1, vI 0, vI 2] (up2 σ.1 170 2 (σ.2 171 4), up2 (up2 (up2 σ.2 171 4 0) 171 5 0) 171 6 (-1)) (fun r1 τ1 => InR r1 ∧ (r1 = 0 → Q (some (vI (-2))) τ1) ∧ (¬ r1 = 0 → InR a2 ∧ (a2 ≠ (-1) → CI X 186 [vR (some 170), vI a1, vI a2] τ1 (fun r4 τ2 => InR r4 ∧ (r4 ≠ 0 → Ev X 187 54 [some (vR (some 170)), some (vI a1), some (vI a2), some (vI 0), none] [] (up2 (up2 (up2 τ2.1 170 3 0) 170 8 0) 170 9 (-1), τ2.2) Q) ∧ (¬ r4 ≠ 0 → Q (some (vI (-2))) τ2))) ∧ (¬ a2 ≠ (-1) → (0 ≤ a1 ∧ a1 < 3616) ∧ InR (τ1.2 171 a1.toNat) ∧ (τ1.2 171 a1.toNat < 2 → Ev X 187 54 [some (vR (some 170)), some (vI a1), some (vI a2), some (vI 0), none] [] (up2 (up2 (up2 τ1.1 170 3 0) 170 8 0) 170 9 (-1), τ1.2) Q) ∧ (¬ τ1.2 171 a1.toNat < 2 → Q (some (vI (-2))) τ1))))) : Cl X 187 [vR (some 170), vI a1, vI a2] σ Q := by
  have hcd : cds 187 = cd_187 := rfl
  refine c_in (Nat.le_of_ble_eq_true rfl) rfl rfl ?_
  show Ev X 187 0 [some (vR (some 170)), some (vI a1), some (vI a2), none, none] [] σ Q
  iterate 2 (refine e_nx hcd rfl rfl ?_)
  refine r_getR hcd rfl rfl rfl ?_
  refine e_nx hcd rfl rfl ?_
  refine r_ild hcd rfl rfl (by omega) (by omega) ?_
  refine r_putI hcd rfl rfl rfl rfl ?_
  refine e_nx hcd rfl rfl ?_
  refine r_getR hcd rfl rfl rfl ?_
  iterate 2 (refine e_nx hcd rfl rfl ?_)
  refine r_ist hcd rfl rfl (by omega) (by omega) ?_
  refine e_nx hcd rfl rfl ?_
  refine r_getR hcd rfl rfl rfl ?_
  iterate 2 (refine e_nx hcd rfl rfl ?_)
  refine r_ist hcd rfl rfl (by omega) (by omega) ?_
  refine e_nx hcd rfl rfl ?_
  refine r_getR hcd rfl rfl rfl ?_
  iterate 2 (refine e_nx hcd rfl rfl ?_)
  refine r_ist hcd rfl rfl (by omega) (by omega) ?_
  iterate 3 (refine e_nx hcd rfl rfl ?_)
  refine r_cs hcd rfl (by omega) (Nat.le_of_ble_eq_true rfl) rfl rfl (Nat.le_of_ble_eq_true rfl) ?_
  refine Cl.mono H (fun v τ1 hq => ?_)
  obtain ⟨r1, rfl, H⟩ := hq
  show Ev X 187 25 _ [vI r1] τ1 Q
  obtain ⟨h2, H⟩ := H
  refine r_if hcd rfl h2 (fun hc => ?_) (fun hc => ?_)
  · replace H := H.1 hc
    refine e_nx hcd rfl rfl ?_
    exact r_iret hcd rfl rfl rfl H
  · replace H := H.2 hc
    iterate 2 (refine e_nx hcd rfl rfl ?_)
    obtain ⟨h3, H⟩ := H
    refine r_icmp hcd rfl h3 (by omega) (fun hc => ?_) (fun hc => ?_)
    · replace H := H.1 hc
      iterate 3 (refine e_nx hcd rfl rfl ?_)
      refine r_cv hcd rfl (by omega) rfl rfl rfl (Nat.le_of_ble_eq_true rfl) ?_
      refine Cl.mono H (fun v τ2 hq => ?_)
      obtain ⟨r4, rfl, H⟩ := hq
      show Ev X 187 40 _ [vI r4] τ2 Q
      obtain ⟨h5, H⟩ := H
      refine r_if hcd rfl h5 (fun hc => ?_) (fun hc => ?_)
      · replace H := H.1 hc
        iterate 2 (refine e_nx hcd rfl rfl ?_)
        refine r_putI hcd rfl rfl rfl rfl ?_
        iterate 2 (refine e_nx hcd rfl rfl ?_)
        refine r_putI hcd rfl rfl rfl rfl ?_
        iterate 2 (refine e_nx hcd rfl rfl ?_)
        refine r_putI hcd rfl rfl rfl rfl ?_
        iterate 2 (refine e_nx hcd rfl rfl ?_)
        show Ev X 187 54 [some (vR (some 170)), some (vI a1), some (vI a2), some (vI 0), none] [] _ Q
        exact H
      · replace H := H.2 hc
        refine e_nx hcd rfl rfl ?_
        exact r_iret hcd rfl rfl rfl H
    · replace H := H.2 hc
      refine e_nx hcd rfl rfl ?_
      refine r_getR hcd rfl rfl rfl ?_
      refine e_nx hcd rfl rfl ?_
      obtain ⟨h6, H⟩ := H
      refine r_ild hcd rfl rfl (by omega) h6 ?_
      refine e_nx hcd rfl rfl ?_
      obtain ⟨h7, H⟩ := H
      refine r_icmp hcd rfl h7 (by omega) (fun hc => ?_) (fun hc => ?_)
      · replace H := H.1 hc
        iterate 2 (refine e_nx hcd rfl rfl ?_)
        refine r_putI hcd rfl rfl rfl rfl ?_
        iterate 2 (refine e_nx hcd rfl rfl ?_)
        refine r_putI hcd rfl rfl rfl rfl ?_
        iterate 2 (refine e_nx hcd rfl rfl ?_)
        refine r_putI hcd rfl rfl rfl rfl ?_
        iterate 2 (refine e_nx hcd rfl rfl ?_)
        show Ev X 187 54 [some (vR (some 170)), some (vI a1), some (vI a2), some (vI 0), none] [] _ Q
        exact H
      · replace H := H.2 hc
        iterate 2 (refine e_nx hcd rfl rfl ?_)
        exact r_iret hcd rfl rfl rfl H
set_option maxRecDepth 20000 in
set_option maxHeartbeats 8000000 in
theorem v_187_54 {X : PX} {σ : Sg} {Q : Option PV → Sg → Prop} {x1 : Int} {x2 : Int} {x3 : Int}  (H : InR x3 ∧ (81 ≤ x3 → InR x1 ∧ (x1 ≠ 0 → CV X 170 [vR (some 170)] σ (fun τ1 => Ev X 187 78 [some (vR (some 170)), some (vI x1), some (vI x2), none, none] [] τ1 Q)) ∧ (¬ x1 ≠ 0 → CV X 170 [vR (some 170)] (σ.1, up2 (up2 σ.2 173 0 10) 173 1 10) (fun τ2 => Ev X 187 78 [some (vR (some 170)), some (vI x1), some (vI x2), none, none] [] τ2 Q))) ∧ (¬ 81 ≤ x3 → (0 ≤ x3 ∧ x3 < 81) ∧ Ev X 187 54 [some (vR (some 170)), some (vI x1), some (vI x2), some (vI (x3 + 1)), none] [] (σ.1, up2 σ.2 173 x3.toNat 0) Q)) : Ev X 187 54 [some (vR (some 170)), some (vI x1), some (vI x2), some (vI x3), none] [] σ Q := by
  have hcd : cds 187 = cd_187 := rfl
  iterate 2 (refine e_nx hcd rfl rfl ?_)
  obtain ⟨h1, H⟩ := H
  refine r_icmp hcd rfl h1 (by omega) (fun hc => ?_) (fun hc => ?_)
  · replace H := H.1 hc
    refine e_nx hcd rfl rfl ?_
    obtain ⟨h2, H⟩ := H
    refine r_if hcd rfl h2 (fun hc => ?_) (fun hc => ?_)
    · replace H := H.1 hc
      refine e_nx hcd rfl rfl ?_
      refine r_cv hcd rfl (by omega) rfl rfl rfl (Nat.le_of_ble_eq_true rfl) ?_
      refine Cl.mono H (fun v τ1 hq => ?_)
      obtain ⟨rfl, H⟩ := hq
      show Ev X 187 78 _ [] τ1 Q
      refine e_fg [3] ?_
      exact H
    · replace H := H.2 hc
      refine e_nx hcd rfl rfl ?_
      refine r_getR hcd rfl rfl rfl ?_
      iterate 2 (refine e_nx hcd rfl rfl ?_)
      refine r_ist hcd rfl rfl (by omega) (by omega) ?_
      refine e_nx hcd rfl rfl ?_
      refine r_getR hcd rfl rfl rfl ?_
      iterate 2 (refine e_nx hcd rfl rfl ?_)
      refine r_ist hcd rfl rfl (by omega) (by omega) ?_
      refine e_nx hcd rfl rfl ?_
      refine r_cv hcd rfl (by omega) rfl rfl rfl (Nat.le_of_ble_eq_true rfl) ?_
      refine Cl.mono H (fun v τ2 hq => ?_)
      obtain ⟨rfl, H⟩ := hq
      show Ev X 187 78 _ [] τ2 Q
      refine e_fg [3] ?_
      exact H
  · replace H := H.2 hc
    refine e_nx hcd rfl rfl ?_
    refine r_getR hcd rfl rfl rfl ?_
    iterate 2 (refine e_nx hcd rfl rfl ?_)
    obtain ⟨h3, H⟩ := H
    refine r_ist hcd rfl rfl (by omega) h3 ?_
    refine e_nx hcd rfl rfl ?_
    show Ev X 187 63 [some (vR (some 170)), some (vI x1), some (vI x2), some (vI (x3 + 1)), none] [] _ Q
    refine e_nx hcd rfl rfl ?_
    exact H
set_option maxRecDepth 20000 in
set_option maxHeartbeats 8000000 in
theorem v_187_78 {X : PX} {σ : Sg} {Q : Option PV → Sg → Prop} {x1 : Int} {x2 : Int}  (H : InR (σ.1 170 8) ∧ (σ.1 170 8 ≠ 0 → InR x1 ∧ (x1 ≠ 0 → InR (σ.2 171 5) ∧ (σ.2 171 5 = 0 → InR x2 ∧ (x2 ≠ (-1) → (x2 ≠ (-1) → Ev X 187 144 [some (vR (some 170)), some (vI x1), none, some (vI x2), some (vI 0)] [] σ Q) ∧ (¬ x2 ≠ (-1) → (0 ≤ x1 ∧ x1 < 3616) ∧ Ev X 187 144 [some (vR (some 170)), some (vI x1), none, some (vI x2), some (vI 0)] [] (σ.1, up2 σ.2 171 x1.toNat ((σ.2 171 x1.toNat) + 1)) Q)) ∧ (¬ x2 ≠ (-1) → (0 ≤ x1 ∧ x1 < 3616) ∧ (x2 ≠ (-1) → Ev X 187 144 [some (vR (some 170)), some (vI x1), none, some (vI (σ.2 171 x1.toNat)), some (vI 0)] [] σ Q) ∧ (¬ x2 ≠ (-1) → Ev X 187 144 [some (vR (some 170)), some (vI x1), none, some (vI (σ.2 171 x1.toNat)), some (vI 0)] [] (σ.1, up2 σ.2 171 x1.toNat ((σ.2 171 x1.toNat) + 1)) Q))) ∧ (¬ σ.2 171 5 = 0 → Q (some (vI (-1))) σ)) ∧ (¬ x1 ≠ 0 → InR (σ.2 171 5) ∧ (σ.2 171 5 ≠ 0 → (σ.2 171 5 = 0 → InR x2 ∧ (x2 ≠ (-1) → (x2 ≠ (-1) → Ev X 187 144 [some (vR (some 170)), some (vI x1), none, some (vI x2), some (vI 0)] [] σ Q) ∧ (¬ x2 ≠ (-1) → (0 ≤ x1 ∧ x1 < 3616) ∧ Ev X 187 144 [some (vR (some 170)), some (vI x1), none, some (vI x2), some (vI 0)] [] (σ.1, up2 σ.2 171 x1.toNat ((σ.2 171 x1.toNat) + 1)) Q)) ∧ (¬ x2 ≠ (-1) → (0 ≤ x1 ∧ x1 < 3616) ∧ (x2 ≠ (-1) → Ev X 187 144 [some (vR (some 170)), some (vI x1), none, some (vI (σ.2 171 x1.toNat)), some (vI 0)] [] σ Q) ∧ (¬ x2 ≠ (-1) → Ev X 187 144 [some (vR (some 170)), some (vI x1), none, some (vI (σ.2 171 x1.toNat)), some (vI 0)] [] (σ.1, up2 σ.2 171 x1.toNat ((σ.2 171 x1.toNat) + 1)) Q))) ∧ (¬ σ.2 171 5 = 0 → Q (some (vI (-1))) σ)) ∧ (¬ σ.2 171 5 ≠ 0 → InR (σ.1 170 9) ∧ InR (σ.2 173 2) ∧ (σ.1 170 9 < σ.2 173 2 → (σ.2 171 5 = 0 → InR x2 ∧ (x2 ≠ (-1) → (x2 ≠ (-1) → Ev X 187 144 [some (vR (some 170)), some (vI x1), none, some (vI x2), some (vI 0)] [] σ Q) ∧ (¬ x2 ≠ (-1) → (0 ≤ x1 ∧ x1 < 3616) ∧ Ev X 187 144 [some (vR (some 170)), some (vI x1), none, some (vI x2), some (vI 0)] [] (σ.1, up2 σ.2 171 x1.toNat ((σ.2 171 x1.toNat) + 1)) Q)) ∧ (¬ x2 ≠ (-1) → (0 ≤ x1 ∧ x1 < 3616) ∧ (x2 ≠ (-1) → Ev X 187 144 [some (vR (some 170)), some (vI x1), none, some (vI (σ.2 171 x1.toNat)), some (vI 0)] [] σ Q) ∧ (¬ x2 ≠ (-1) → Ev X 187 144 [some (vR (some 170)), some (vI x1), none, some (vI (σ.2 171 x1.toNat)), some (vI 0)] [] (σ.1, up2 σ.2 171 x1.toNat ((σ.2 171 x1.toNat) + 1)) Q))) ∧ (¬ σ.2 171 5 = 0 → Q (some (vI (-1))) σ)) ∧ (¬ σ.1 170 9 < σ.2 173 2 → CV X 172 [vR (some 170), vI 4, vI (σ.1 170 4)] σ (fun τ1 => InR (τ1.2 171 5) ∧ (τ1.2 171 5 = 0 → InR x2 ∧ (x2 ≠ (-1) → (x2 ≠ (-1) → Ev X 187 144 [some (vR (some 170)), some (vI x1), none, some (vI x2), some (vI 0)] [] τ1 Q) ∧ (¬ x2 ≠ (-1) → (0 ≤ x1 ∧ x1 < 3616) ∧ Ev X 187 144 [some (vR (some 170)), some (vI x1), none, some (vI x2), some (vI 0)] [] (τ1.1, up2 τ1.2 171 x1.toNat ((τ1.2 171 x1.toNat) + 1)) Q)) ∧ (¬ x2 ≠ (-1) → (0 ≤ x1 ∧ x1 < 3616) ∧ (x2 ≠ (-1) → Ev X 187 144 [some (vR (some 170)), some (vI x1), none, some (vI (τ1.2 171 x1.toNat)), some (vI 0)] [] τ1 Q) ∧ (¬ x2 ≠ (-1) → Ev X 187 144 [some (vR (some 170)), some (vI x1), none, some (vI (τ1.2 171 x1.toNat)), some (vI 0)] [] (τ1.1, up2 τ1.2 171 x1.toNat ((τ1.2 171 x1.toNat) + 1)) Q))) ∧ (¬ τ1.2 171 5 = 0 → Q (some (vI (-1))) τ1)))))) ∧ (¬ σ.1 170 8 ≠ 0 → InR (σ.1 170 5) ∧ (σ.1 170 5 = 0 → InR x1 ∧ (x1 ≠ 0 → InR (σ.2 171 5) ∧ (σ.2 171 5 = 0 → InR x2 ∧ (x2 ≠ (-1) → (x2 ≠ (-1) → Ev X 187 144 [some (vR (some 170)), some (vI x1), none, some (vI x2), some (vI 0)] [] σ Q) ∧ (¬ x2 ≠ (-1) → (0 ≤ x1 ∧ x1 < 3616) ∧ Ev X 187 144 [some (vR (some 170)), some (vI x1), none, some (vI x2), some (vI 0)] [] (σ.1, up2 σ.2 171 x1.toNat ((σ.2 171 x1.toNat) + 1)) Q)) ∧ (¬ x2 ≠ (-1) → (0 ≤ x1 ∧ x1 < 3616) ∧ (x2 ≠ (-1) → Ev X 187 144 [some (vR (some 170)), some (vI x1), none, some (vI (σ.2 171 x1.toNat)), some (vI 0)] [] σ Q) ∧ (¬ x2 ≠ (-1) → Ev X 187 144 [some (vR (some 170)), some (vI x1), none, some (vI (σ.2 171 x1.toNat)), some (vI 0)] [] (σ.1, up2 σ.2 171 x1.toNat ((σ.2 171 x1.toNat) + 1)) Q))) ∧ (¬ σ.2 171 5 = 0 → Q (some (vI (-1))) σ)) ∧ (¬ x1 ≠ 0 → InR (σ.2 171 5) ∧ (σ.2 171 5 ≠ 0 → (σ.2 171 5 = 0 → InR x2 ∧ (x2 ≠ (-1) → (x2 ≠ (-1) → Ev X 187 144 [some (vR (some 170)), some (vI x1), none, some (vI x2), some (vI 0)] [] σ Q) ∧ (¬ x2 ≠ (-1) → (0 ≤ x1 ∧ x1 < 3616) ∧ Ev X 187 144 [some (vR (some 170)), some (vI x1), none, some (vI x2), some (vI 0)] [] (σ.1, up2 σ.2 171 x1.toNat ((σ.2 171 x1.toNat) + 1)) Q)) ∧ (¬ x2 ≠ (-1) → (0 ≤ x1 ∧ x1 < 3616) ∧ (x2 ≠ (-1) → Ev X 187 144 [some (vR (some 170)), some (vI x1), none, some (vI (σ.2 171 x1.toNat)), some (vI 0)] [] σ Q) ∧ (¬ x2 ≠ (-1) → Ev X 187 144 [some (vR (some 170)), some (vI x1), none, some (vI (σ.2 171 x1.toNat)), some (vI 0)] [] (σ.1, up2 σ.2 171 x1.toNat ((σ.2 171 x1.toNat) + 1)) Q))) ∧ (¬ σ.2 171 5 = 0 → Q (some (vI (-1))) σ)) ∧ (¬ σ.2 171 5 ≠ 0 → InR (σ.1 170 9) ∧ InR (σ.2 173 2) ∧ (σ.1 170 9 < σ.2 173 2 → (σ.2 171 5 = 0 → InR x2 ∧ (x2 ≠ (-1) → (x2 ≠ (-1) → Ev X 187 144 [some (vR (some 170)), some (vI x1), none, some (vI x2), some (vI 0)] [] σ Q) ∧ (¬ x2 ≠ (-1) → (0 ≤ x1 ∧ x1 < 3616) ∧ Ev X 187 144 [some (vR (some 170)), some (vI x1), none, some (vI x2), some (vI 0)] [] (σ.1, up2 σ.2 171 x1.toNat ((σ.2 171 x1.toNat) + 1)) Q)) ∧ (¬ x2 ≠ (-1) → (0 ≤ x1 ∧ x1 < 3616) ∧ (x2 ≠ (-1) → Ev X 187 144 [some (vR (some 170)), some (vI x1), none, some (vI (σ.2 171 x1.toNat)), some (vI 0)] [] σ Q) ∧ (¬ x2 ≠ (-1) → Ev X 187 144 [some (vR (some 170)), some (vI x1), none, some (vI (σ.2 171 x1.toNat)), some (vI 0)] [] (σ.1, up2 σ.2 171 x1.toNat ((σ.2 171 x1.toNat) + 1)) Q))) ∧ (¬ σ.2 171 5 = 0 → Q (some (vI (-1))) σ)) ∧ (¬ σ.1 170 9 < σ.2 173 2 → CV X 172 [vR (some 170), vI 4, vI (σ.1 170 4)] σ (fun τ2 => InR (τ2.2 171 5) ∧ (τ2.2 171 5 = 0 → InR x2 ∧ (x2 ≠ (-1) → (x2 ≠ (-1) → Ev X 187 144 [some (vR (some 170)), some (vI x1), none, some (vI x2), some (vI 0)] [] τ2 Q) ∧ (¬ x2 ≠ (-1) → (0 ≤ x1 ∧ x1 < 3616) ∧ Ev X 187 144 [some (vR (some 170)), some (vI x1), none, some (vI x2), some (vI 0)] [] (τ2.1, up2 τ2.2 171 x1.toNat ((τ2.2 171 x1.toNat) + 1)) Q)) ∧ (¬ x2 ≠ (-1) → (0 ≤ x1 ∧ x1 < 3616) ∧ (x2 ≠ (-1) → Ev X 187 144 [some (vR (some 170)), some (vI x1), none, some (vI (τ2.2 171 x1.toNat)), some (vI 0)] [] τ2 Q) ∧ (¬ x2 ≠ (-1) → Ev X 187 144 [some (vR (some 170)), some (vI x1), none, some (vI (τ2.2 171 x1.toNat)), some (vI 0)] [] (τ2.1, up2 τ2.2 171 x1.toNat ((τ2.2 171 x1.toNat) + 1)) Q))) ∧ (¬ τ2.2 171 5 = 0 → Q (some (vI (-1))) τ2)))))) ∧ (¬ σ.1 170 5 = 0 → InR x1 ∧ (x1 = 0 → CV X 180 [vR (some 170)] σ (fun τ3 => Ev X 187 78 [some (vR (some 170)), some (vI x1), some (vI x2), none, none] [] τ3 Q)) ∧ (x1 = 1 → CV X 182 [vR (some 170)] σ (fun τ4 => Ev X 187 78 [some (vR (some 170)), some (vI x1), some (vI x2), none, none] [] τ4 Q)) ∧ (x1 ≠ 0 ∧ x1 ≠ 1 → CV X 183 [vR (some 170)] σ (fun τ5 => Ev X 187 78 [some (vR (some 170)), some (vI x1), some (vI x2), none, none] [] τ5 Q))))) : Ev X 187 78 [some (vR (some 170)), some (vI x1), some (vI x2), none, none] [] σ Q := by
  have hcd : cds 187 = cd_187 := rfl
  refine e_nx hcd rfl rfl ?_
  refine r_getI hcd rfl rfl rfl ?_
  obtain ⟨h1, H⟩ := H
  refine r_if hcd rfl h1 (fun hc => ?_) (fun hc => ?_)
  · replace H := H.1 hc
    refine e_nx hcd rfl rfl ?_
    obtain ⟨h2, H⟩ := H
    refine r_if hcd rfl h2 (fun hc => ?_) (fun hc => ?_)
    · replace H := H.1 hc
      refine e_nx hcd rfl rfl ?_
      refine r_getR hcd rfl rfl rfl ?_
      refine e_nx hcd rfl rfl ?_
      refine r_ild hcd rfl rfl (by omega) (by omega) ?_
      obtain ⟨h3, H⟩ := H
      refine r_if hcd rfl h3 (fun hc => ?_) (fun hc => ?_)
      · replace H := H.1 hc
        iterate 2 (refine e_nx hcd rfl rfl ?_)
        obtain ⟨h4, H⟩ := H
        refine r_icmp hcd rfl h4 (by omega) (fun hc => ?_) (fun hc => ?_)
        · replace H := H.1 hc
          iterate 2 (refine e_nx hcd rfl rfl ?_)
          show Ev X 187 131 [some (vR (some 170)), some (vI x1), some (vI x2), some (vI x2), none] [] _ Q
          iterate 2 (refine e_nx hcd rfl rfl ?_)
          refine r_icmp hcd rfl h4 (by omega) (fun hc => ?_) (fun hc => ?_)
          · replace H := H.1 hc
            iterate 2 (refine e_nx hcd rfl rfl ?_)
            show Ev X 187 144 [some (vR (some 170)), some (vI x1), some (vI x2), some (vI x2), some (vI 0)] [] _ Q
            refine e_fg [2] ?_
            exact H
          · replace H := H.2 hc
            refine e_nx hcd rfl rfl ?_
            refine r_getR hcd rfl rfl rfl ?_
            iterate 2 (refine e_nx hcd rfl rfl ?_)
            obtain ⟨h5, H⟩ := H
            refine r_ild hcd rfl rfl (by omega) h5 ?_
            iterate 2 (refine e_nx hcd rfl rfl ?_)
            refine r_ist hcd rfl rfl (by omega) h5 ?_
            iterate 2 (refine e_nx hcd rfl rfl ?_)
            show Ev X 187 144 [some (vR (some 170)), some (vI x1), some (vI x2), some (vI x2), some (vI 0)] [] _ Q
            refine e_fg [2] ?_
            exact H
        · replace H := H.2 hc
          refine e_nx hcd rfl rfl ?_
          refine r_getR hcd rfl rfl rfl ?_
          refine e_nx hcd rfl rfl ?_
          obtain ⟨h6, H⟩ := H
          refine r_ild hcd rfl rfl (by omega) h6 ?_
          iterate 2 (refine e_nx hcd rfl rfl ?_)
          show Ev X 187 131 [some (vR (some 170)), some (vI x1), some (vI x2), some (vI (σ.2 171 x1.toNat)), none] [] _ Q
          iterate 2 (refine e_nx hcd rfl rfl ?_)
          refine r_icmp hcd rfl h4 (by omega) (fun hc => ?_) (fun hc => ?_)
          · replace H := H.1 hc
            iterate 2 (refine e_nx hcd rfl rfl ?_)
            show Ev X 187 144 [some (vR (some 170)), some (vI x1), some (vI x2), some (vI (σ.2 171 x1.toNat)), some (vI 0)] [] _ Q
            refine e_fg [2] ?_
            exact H
          · replace H := H.2 hc
            refine e_nx hcd rfl rfl ?_
            refine r_getR hcd rfl rfl rfl ?_
            iterate 2 (refine e_nx hcd rfl rfl ?_)
            refine r_ild hcd rfl rfl (by omega) h6 ?_
            iterate 2 (refine e_nx hcd rfl rfl ?_)
            refine r_ist hcd rfl rfl (by omega) h6 ?_
            iterate 2 (refine e_nx hcd rfl rfl ?_)
            show Ev X 187 144 [some (vR (some 170)), some (vI x1), some (vI x2), some (vI (σ.2 171 x1.toNat)), some (vI 0)] [] _ Q
            refine e_fg [2] ?_
            exact H
      · replace H := H.2 hc
        refine e_nx hcd rfl rfl ?_
        exact r_iret hcd rfl rfl rfl H
    · replace H := H.2 hc
      refine e_nx hcd rfl rfl ?_
      refine r_getR hcd rfl rfl rfl ?_
      refine e_nx hcd rfl rfl ?_
      refine r_ild hcd rfl rfl (by omega) (by omega) ?_
      obtain ⟨h7, H⟩ := H
      refine r_if hcd rfl h7 (fun hc => ?_) (fun hc => ?_)
      · replace H := H.1 hc
        refine e_nx hcd rfl rfl ?_
        refine r_getR hcd rfl rfl rfl ?_
        refine e_nx hcd rfl rfl ?_
        refine r_ild hcd rfl rfl (by omega) (by omega) ?_
        refine r_if hcd rfl h7 (fun hc => ?_) (fun hc => ?_)
        · replace H := H.1 hc
          iterate 2 (refine e_nx hcd rfl rfl ?_)
          obtain ⟨h8, H⟩ := H
          refine r_icmp hcd rfl h8 (by omega) (fun hc => ?_) (fun hc => ?_)
          · replace H := H.1 hc
            iterate 2 (refine e_nx hcd rfl rfl ?_)
            show Ev X 187 131 [some (vR (some 170)), some (vI x1), some (vI x2), some (vI x2), none] [] _ Q
            iterate 2 (refine e_nx hcd rfl rfl ?_)
            refine r_icmp hcd rfl h8 (by omega) (fun hc => ?_) (fun hc => ?_)
            · replace H := H.1 hc
              iterate 2 (refine e_nx hcd rfl rfl ?_)
              show Ev X 187 144 [some (vR (some 170)), some (vI x1), some (vI x2), some (vI x2), some (vI 0)] [] _ Q
              refine e_fg [2] ?_
              exact H
            · replace H := H.2 hc
              refine e_nx hcd rfl rfl ?_
              refine r_getR hcd rfl rfl rfl ?_
              iterate 2 (refine e_nx hcd rfl rfl ?_)
              obtain ⟨h9, H⟩ := H
              refine r_ild hcd rfl rfl (by omega) h9 ?_
              iterate 2 (refine e_nx hcd rfl rfl ?_)
              refine r_ist hcd rfl rfl (by omega) h9 ?_
              iterate 2 (refine e_nx hcd rfl rfl ?_)
              show Ev X 187 144 [some (vR (some 170)), some (vI x1), some (vI x2), some (vI x2), some (vI 0)] [] _ Q
              refine e_fg [2] ?_
              exact H
          · replace H := H.2 hc
            refine e_nx hcd rfl rfl ?_
            refine r_getR hcd rfl rfl rfl ?_
            refine e_nx hcd rfl rfl ?_
            obtain ⟨h10, H⟩ := H
            refine r_ild hcd rfl rfl (by omega) h10 ?_
            iterate 2 (refine e_nx hcd rfl rfl ?_)
            show Ev X 187 131 [some (vR (some 170)), some (vI x1), some (vI x2), some (vI (σ.2 171 x1.toNat)), none] [] _ Q
            iterate 2 (refine e_nx hcd rfl rfl ?_)
            refine r_icmp hcd rfl h8 (by omega) (fun hc => ?_) (fun hc => ?_)
            · replace H := H.1 hc
              iterate 2 (refine e_nx hcd rfl rfl ?_)
              show Ev X 187 144 [some (vR (some 170)), some (vI x1), some (vI x2), some (vI (σ.2 171 x1.toNat)), some (vI 0)] [] _ Q
              refine e_fg [2] ?_
              exact H
            · replace H := H.2 hc
              refine e_nx hcd rfl rfl ?_
              refine r_getR hcd rfl rfl rfl ?_
              iterate 2 (refine e_nx hcd rfl rfl ?_)
              refine r_ild hcd rfl rfl (by omega) h10 ?_
              iterate 2 (refine e_nx hcd rfl rfl ?_)
              refine r_ist hcd rfl rfl (by omega) h10 ?_
              iterate 2 (refine e_nx hcd rfl rfl ?_)
              show Ev X 187 144 [some (vR (some 170)), some (vI x1), some (vI x2), some (vI (σ.2 171 x1.toNat)), some (vI 0)] [] _ Q
              refine e_fg [2] ?_
              exact H
        · replace H := H.2 hc
          refine e_nx hcd rfl rfl ?_
          exact r_iret hcd rfl rfl rfl H
      · replace H := H.2 hc
        refine e_nx hcd rfl rfl ?_
        refine r_getI hcd rfl rfl rfl ?_
        refine e_nx hcd rfl rfl ?_
        refine r_getR hcd rfl rfl rfl ?_
        refine e_nx hcd rfl rfl ?_
        refine r_ild hcd rfl rfl (by omega) (by omega) ?_
        obtain ⟨h11, H⟩ := H
        obtain ⟨h12, H⟩ := H
        refine r_icmp hcd rfl h11 h12 (fun hc => ?_) (fun hc => ?_)
        · replace H := H.1 hc
          refine e_nx hcd rfl rfl ?_
          refine r_getR hcd rfl rfl rfl ?_
          refine e_nx hcd rfl rfl ?_
          refine r_ild hcd rfl rfl (by omega) (by omega) ?_
          refine r_if hcd rfl h7 (fun hc => ?_) (fun hc => ?_)
          · replace H := H.1 hc
            iterate 2 (refine e_nx hcd rfl rfl ?_)
            obtain ⟨h13, H⟩ := H
            refine r_icmp hcd rfl h13 (by omega) (fun hc => ?_) (fun hc => ?_)
            · replace H := H.1 hc
              iterate 2 (refine e_nx hcd rfl rfl ?_)
              show Ev X 187 131 [some (vR (some 170)), some (vI x1), some (vI x2), some (vI x2), none] [] _ Q
              iterate 2 (refine e_nx hcd rfl rfl ?_)
              refine r_icmp hcd rfl h13 (by omega) (fun hc => ?_) (fun hc => ?_)
              · replace H := H.1 hc
                iterate 2 (refine e_nx hcd rfl rfl ?_)
                show Ev X 187 144 [some (vR (some 170)), some (vI x1), some (vI x2), some (vI x2), some (vI 0)] [] _ Q
                refine e_fg [2] ?_
                exact H
              · replace H := H.2 hc
                refine e_nx hcd rfl rfl ?_
                refine r_getR hcd rfl rfl rfl ?_
                iterate 2 (refine e_nx hcd rfl rfl ?_)
                obtain ⟨h14, H⟩ := H
                refine r_ild hcd rfl rfl (by omega) h14 ?_
                iterate 2 (refine e_nx hcd rfl rfl ?_)
                refine r_ist hcd rfl rfl (by omega) h14 ?_
                iterate 2 (refine e_nx hcd rfl rfl ?_)
                show Ev X 187 144 [some (vR (some 170)), some (vI x1), some (vI x2), some (vI x2), some (vI 0)] [] _ Q
                refine e_fg [2] ?_
                exact H
            · replace H := H.2 hc
              refine e_nx hcd rfl rfl ?_
              refine r_getR hcd rfl rfl rfl ?_
              refine e_nx hcd rfl rfl ?_
              obtain ⟨h15, H⟩ := H
              refine r_ild hcd rfl rfl (by omega) h15 ?_
              iterate 2 (refine e_nx hcd rfl rfl ?_)
              show Ev X 187 131 [some (vR (some 170)), some (vI x1), some (vI x2), some (vI (σ.2 171 x1.toNat)), none] [] _ Q
              iterate 2 (refine e_nx hcd rfl rfl ?_)
              refine r_icmp hcd rfl h13 (by omega) (fun hc => ?_) (fun hc => ?_)
              · replace H := H.1 hc
                iterate 2 (refine e_nx hcd rfl rfl ?_)
                show Ev X 187 144 [some (vR (some 170)), some (vI x1), some (vI x2), some (vI (σ.2 171 x1.toNat)), some (vI 0)] [] _ Q
                refine e_fg [2] ?_
                exact H
              · replace H := H.2 hc
                refine e_nx hcd rfl rfl ?_
                refine r_getR hcd rfl rfl rfl ?_
                iterate 2 (refine e_nx hcd rfl rfl ?_)
                refine r_ild hcd rfl rfl (by omega) h15 ?_
                iterate 2 (refine e_nx hcd rfl rfl ?_)
                refine r_ist hcd rfl rfl (by omega) h15 ?_
                iterate 2 (refine e_nx hcd rfl rfl ?_)
                show Ev X 187 144 [some (vR (some 170)), some (vI x1), some (vI x2), some (vI (σ.2 171 x1.toNat)), some (vI 0)] [] _ Q
                refine e_fg [2] ?_
                exact H
          · replace H := H.2 hc
            refine e_nx hcd rfl rfl ?_
            exact r_iret hcd rfl rfl rfl H
        · replace H := H.2 hc
          iterate 3 (refine e_nx hcd rfl rfl ?_)
          refine r_getI hcd rfl rfl rfl ?_
          refine r_cv hcd rfl (by omega) rfl rfl rfl (Nat.le_of_ble_eq_true rfl) ?_
          refine Cl.mono H (fun v τ1 hq => ?_)
          obtain ⟨rfl, H⟩ := hq
          show Ev X 187 114 _ [] τ1 Q
          refine e_nx hcd rfl rfl ?_
          refine r_getR hcd rfl rfl rfl ?_
          refine e_nx hcd rfl rfl ?_
          refine r_ild hcd rfl rfl (by omega) (by omega) ?_
          obtain ⟨h16, H⟩ := H
          refine r_if hcd rfl h16 (fun hc => ?_) (fun hc => ?_)
          · replace H := H.1 hc
            iterate 2 (refine e_nx hcd rfl rfl ?_)
            obtain ⟨h17, H⟩ := H
            refine r_icmp hcd rfl h17 (by omega) (fun hc => ?_) (fun hc => ?_)
            · replace H := H.1 hc
              iterate 2 (refine e_nx hcd rfl rfl ?_)
              show Ev X 187 131 [some (vR (some 170)), some (vI x1), some (vI x2), some (vI x2), none] [] _ Q
              iterate 2 (refine e_nx hcd rfl rfl ?_)
              refine r_icmp hcd rfl h17 (by omega) (fun hc => ?_) (fun hc => ?_)
              · replace H := H.1 hc
                iterate 2 (refine e_nx hcd rfl rfl ?_)
                show Ev X 187 144 [some (vR (some 170)), some (vI x1), some (vI x2), some (vI x2), some (vI 0)] [] _ Q
                refine e_fg [2] ?_
                exact H
              · replace H := H.2 hc
                refine e_nx hcd rfl rfl ?_
                refine r_getR hcd rfl rfl rfl ?_
                iterate 2 (refine e_nx hcd rfl rfl ?_)
                obtain ⟨h18, H⟩ := H
                refine r_ild hcd rfl rfl (by omega) h18 ?_
                iterate 2 (refine e_nx hcd rfl rfl ?_)
                refine r_ist hcd rfl rfl (by omega) h18 ?_
                iterate 2 (refine e_nx hcd rfl rfl ?_)
                show Ev X 187 144 [some (vR (some 170)), some (vI x1), some (vI x2), some (vI x2), some (vI 0)] [] _ Q
                refine e_fg [2] ?_
                exact H
            · replace H := H.2 hc
              refine e_nx hcd rfl rfl ?_
              refine r_getR hcd rfl rfl rfl ?_
              refine e_nx hcd rfl rfl ?_
              obtain ⟨h19, H⟩ := H
              refine r_ild hcd rfl rfl (by omega) h19 ?_
              iterate 2 (refine e_nx hcd rfl rfl ?_)
              show Ev X 187 131 [some (vR (some 170)), some (vI x1), some (vI x2), some (vI (τ1.2 171 x1.toNat)), none] [] _ Q
              iterate 2 (refine e_nx hcd rfl rfl ?_)
              refine r_icmp hcd rfl h17 (by omega) (fun hc => ?_) (fun hc => ?_)
              · replace H := H.1 hc
                iterate 2 (refine e_nx hcd rfl rfl ?_)
                show Ev X 187 144 [some (vR (some 170)), some (vI x1), some (vI x2), some (vI (τ1.2 171 x1.toNat)), some (vI 0)] [] _ Q
                refine e_fg [2] ?_
                exact H
              · replace H := H.2 hc
                refine e_nx hcd rfl rfl ?_
                refine r_getR hcd rfl rfl rfl ?_
                iterate 2 (refine e_nx hcd rfl rfl ?_)
                refine r_ild hcd rfl rfl (by omega) h19 ?_
                iterate 2 (refine e_nx hcd rfl rfl ?_)
                refine r_ist hcd rfl rfl (by omega) h19 ?_
                iterate 2 (refine e_nx hcd rfl rfl ?_)
                show Ev X 187 144 [some (vR (some 170)), some (vI x1), some (vI x2), some (vI (τ1.2 171 x1.toNat)), some (vI 0)] [] _ Q
                refine e_fg [2] ?_
                exact H
          · replace H := H.2 hc
            refine e_nx hcd rfl rfl ?_
            exact r_iret hcd rfl rfl rfl H
  · replace H := H.2 hc
    refine e_nx hcd rfl rfl ?_
    refine r_getI hcd rfl rfl rfl ?_
    obtain ⟨h20, H⟩ := H
    refine r_if hcd rfl h20 (fun hc => ?_) (fun hc => ?_)
    · replace H := H.1 hc
      refine e_nx hcd rfl rfl ?_
      obtain ⟨h21, H⟩ := H
      refine r_if hcd rfl h21 (fun hc => ?_) (fun hc => ?_)
      · replace H := H.1 hc
        refine e_nx hcd rfl rfl ?_
        refine r_getR hcd rfl rfl rfl ?_
        refine e_nx hcd rfl rfl ?_
        refine r_ild hcd rfl rfl (by omega) (by omega) ?_
        obtain ⟨h22, H⟩ := H
        refine r_if hcd rfl h22 (fun hc => ?_) (fun hc => ?_)
        · replace H := H.1 hc
          iterate 2 (refine e_nx hcd rfl rfl ?_)
          obtain ⟨h23, H⟩ := H
          refine r_icmp hcd rfl h23 (by omega) (fun hc => ?_) (fun hc => ?_)
          · replace H := H.1 hc
            iterate 2 (refine e_nx hcd rfl rfl ?_)
            show Ev X 187 131 [some (vR (some 170)), some (vI x1), some (vI x2), some (vI x2), none] [] _ Q
            iterate 2 (refine e_nx hcd rfl rfl ?_)
            refine r_icmp hcd rfl h23 (by omega) (fun hc => ?_) (fun hc => ?_)
            · replace H := H.1 hc
              iterate 2 (refine e_nx hcd rfl rfl ?_)
              show Ev X 187 144 [some (vR (some 170)), some (vI x1), some (vI x2), some (vI x2), some (vI 0)] [] _ Q
              refine e_fg [2] ?_
              exact H
            · replace H := H.2 hc
              refine e_nx hcd rfl rfl ?_
              refine r_getR hcd rfl rfl rfl ?_
              iterate 2 (refine e_nx hcd rfl rfl ?_)
              obtain ⟨h24, H⟩ := H
              refine r_ild hcd rfl rfl (by omega) h24 ?_
              iterate 2 (refine e_nx hcd rfl rfl ?_)
              refine r_ist hcd rfl rfl (by omega) h24 ?_
              iterate 2 (refine e_nx hcd rfl rfl ?_)
              show Ev X 187 144 [some (vR (some 170)), some (vI x1), some (vI x2), some (vI x2), some (vI 0)] [] _ Q
              refine e_fg [2] ?_
              exact H
          · replace H := H.2 hc
            refine e_nx hcd rfl rfl ?_
            refine r_getR hcd rfl rfl rfl ?_
            refine e_nx hcd rfl rfl ?_
            obtain ⟨h25, H⟩ := H
            refine r_ild hcd rfl rfl (by omega) h25 ?_
            iterate 2 (refine e_nx hcd rfl rfl ?_)
            show Ev X 187 131 [some (vR (some 170)), some (vI x1), some (vI x2), some (vI (σ.2 171 x1.toNat)), none] [] _ Q
            iterate 2 (refine e_nx hcd rfl rfl ?_)
            refine r_icmp hcd rfl h23 (by omega) (fun hc => ?_) (fun hc => ?_)
            · replace H := H.1 hc
              iterate 2 (refine e_nx hcd rfl rfl ?_)
              show Ev X 187 144 [some (vR (some 170)), some (vI x1), some (vI x2), some (vI (σ.2 171 x1.toNat)), some (vI 0)] [] _ Q
              refine e_fg [2] ?_
              exact H
            · replace H := H.2 hc
              refine e_nx hcd rfl rfl ?_
              refine r_getR hcd rfl rfl rfl ?_
              iterate 2 (refine e_nx hcd rfl rfl ?_)
              refine r_ild hcd rfl rfl (by omega) h25 ?_
              iterate 2 (refine e_nx hcd rfl rfl ?_)
              refine r_ist hcd rfl rfl (by omega) h25 ?_
              iterate 2 (refine e_nx hcd rfl rfl ?_)
              show Ev X 187 144 [some (vR (some 170)), some (vI x1), some (vI x2), some (vI (σ.2 171 x1.toNat)), some (vI 0)] [] _ Q
              refine e_fg [2] ?_
              exact H
        · replace H := H.2 hc
          refine e_nx hcd rfl rfl ?_
          exact r_iret hcd rfl rfl rfl H
      · replace H := H.2 hc
        refine e_nx hcd rfl rfl ?_
        refine r_getR hcd rfl rfl rfl ?_
        refine e_nx hcd rfl rfl ?_
        refine r_ild hcd rfl rfl (by omega) (by omega) ?_
        obtain ⟨h26, H⟩ := H
        refine r_if hcd rfl h26 (fun hc => ?_) (fun hc => ?_)
        · replace H := H.1 hc
          refine e_nx hcd rfl rfl ?_
          refine r_getR hcd rfl rfl rfl ?_
          refine e_nx hcd rfl rfl ?_
          refine r_ild hcd rfl rfl (by omega) (by omega) ?_
          refine r_if hcd rfl h26 (fun hc => ?_) (fun hc => ?_)
          · replace H := H.1 hc
            iterate 2 (refine e_nx hcd rfl rfl ?_)
            obtain ⟨h27, H⟩ := H
            refine r_icmp hcd rfl h27 (by omega) (fun hc => ?_) (fun hc => ?_)
            · replace H := H.1 hc
              iterate 2 (refine e_nx hcd rfl rfl ?_)
              show Ev X 187 131 [some (vR (some 170)), some (vI x1), some (vI x2), some (vI x2), none] [] _ Q
              iterate 2 (refine e_nx hcd rfl rfl ?_)
              refine r_icmp hcd rfl h27 (by omega) (fun hc => ?_) (fun hc => ?_)
              · replace H := H.1 hc
                iterate 2 (refine e_nx hcd rfl rfl ?_)
                show Ev X 187 144 [some (vR (some 170)), some (vI x1), some (vI x2), some (vI x2), some (vI 0)] [] _ Q
                refine e_fg [2] ?_
                exact H
              · replace H := H.2 hc
                refine e_nx hcd rfl rfl ?_
                refine r_getR hcd rfl rfl rfl ?_
                iterate 2 (refine e_nx hcd rfl rfl ?_)
                obtain ⟨h28, H⟩ := H
                refine r_ild hcd rfl rfl (by omega) h28 ?_
                iterate 2 (refine e_nx hcd rfl rfl ?_)
                refine r_ist hcd rfl rfl (by omega) h28 ?_
                iterate 2 (refine e_nx hcd rfl rfl ?_)
                show Ev X 187 144 [some (vR (some 170)), some (vI x1), some (vI x2), some (vI x2), some (vI 0)] [] _ Q
                refine e_fg [2] ?_
                exact H
            · replace H := H.2 hc
              refine e_nx hcd rfl rfl ?_
              refine r_getR hcd rfl rfl rfl ?_
              refine e_nx hcd rfl rfl ?_
              obtain ⟨h29, H⟩ := H
              refine r_ild hcd rfl rfl (by omega) h29 ?_
              iterate 2 (refine e_nx hcd rfl rfl ?_)
              show Ev X 187 131 [some (vR (some 170)), some (vI x1), some (vI x2), some (vI (σ.2 171 x1.toNat)), none] [] _ Q
              iterate 2 (refine e_nx hcd rfl rfl ?_)
              refine r_icmp hcd rfl h27 (by omega) (fun hc => ?_) (fun hc => ?_)
              · replace H := H.1 hc
                iterate 2 (refine e_nx hcd rfl rfl ?_)
                show Ev X 187 144 [some (vR (some 170)), some (vI x1), some (vI x2), some (vI (σ.2 171 x1.toNat)), some (vI 0)] [] _ Q
                refine e_fg [2] ?_
                exact H
              · replace H := H.2 hc
                refine e_nx hcd rfl rfl ?_
                refine r_getR hcd rfl rfl rfl ?_
                iterate 2 (refine e_nx hcd rfl rfl ?_)
                refine r_ild hcd rfl rfl (by omega) h29 ?_
                iterate 2 (refine e_nx hcd rfl rfl ?_)
                refine r_ist hcd rfl rfl (by omega) h29 ?_
                iterate 2 (refine e_nx hcd rfl rfl ?_)
                show Ev X 187 144 [some (vR (some 170)), some (vI x1), some (vI x2), some (vI (σ.2 171 x1.toNat)), some (vI 0)] [] _ Q
                refine e_fg [2] ?_
                exact H
          · replace H := H.2 hc
            refine e_nx hcd rfl rfl ?_
            exact r_iret hcd rfl rfl rfl H
        · replace H := H.2 hc
          refine e_nx hcd rfl rfl ?_
          refine r_getI hcd rfl rfl rfl ?_
          refine e_nx hcd rfl rfl ?_
          refine r_getR hcd rfl rfl rfl ?_
          refine e_nx hcd rfl rfl ?_
          refine r_ild hcd rfl rfl (by omega) (by omega) ?_
          obtain ⟨h30, H⟩ := H
          obtain ⟨h31, H⟩ := H
          refine r_icmp hcd rfl h30 h31 (fun hc => ?_) (fun hc => ?_)
          · replace H := H.1 hc
            refine e_nx hcd rfl rfl ?_
            refine r_getR hcd rfl rfl rfl ?_
            refine e_nx hcd rfl rfl ?_
            refine r_ild hcd rfl rfl (by omega) (by omega) ?_
            refine r_if hcd rfl h26 (fun hc => ?_) (fun hc => ?_)
            · replace H := H.1 hc
              iterate 2 (refine e_nx hcd rfl rfl ?_)
              obtain ⟨h32, H⟩ := H
              refine r_icmp hcd rfl h32 (by omega) (fun hc => ?_) (fun hc => ?_)
              · replace H := H.1 hc
                iterate 2 (refine e_nx hcd rfl rfl ?_)
                show Ev X 187 131 [some (vR (some 170)), some (vI x1), some (vI x2), some (vI x2), none] [] _ Q
                iterate 2 (refine e_nx hcd rfl rfl ?_)
                refine r_icmp hcd rfl h32 (by omega) (fun hc => ?_) (fun hc => ?_)
                · replace H := H.1 hc
                  iterate 2 (refine e_nx hcd rfl rfl ?_)
                  show Ev X 187 144 [some (vR (some 170)), some (vI x1), some (vI x2), some (vI x2), some (vI 0)] [] _ Q
                  refine e_fg [2] ?_
                  exact H
                · replace H := H.2 hc
                  refine e_nx hcd rfl rfl ?_
                  refine r_getR hcd rfl rfl rfl ?_
                  iterate 2 (refine e_nx hcd rfl rfl ?_)
                  obtain ⟨h33, H⟩ := H
                  refine r_ild hcd rfl rfl (by omega) h33 ?_
                  iterate 2 (refine e_nx hcd rfl rfl ?_)
                  refine r_ist hcd rfl rfl (by omega) h33 ?_
                  iterate 2 (refine e_nx hcd rfl rfl ?_)
                  show Ev X 187 144 [some (vR (some 170)), some (vI x1), some (vI x2), some (vI x2), some (vI 0)] [] _ Q
                  refine e_fg [2] ?_
                  exact H
              · replace H := H.2 hc
                refine e_nx hcd rfl rfl ?_
                refine r_getR hcd rfl rfl rfl ?_
                refine e_nx hcd rfl rfl ?_
                obtain ⟨h34, H⟩ := H
                refine r_ild hcd rfl rfl (by omega) h34 ?_
                iterate 2 (refine e_nx hcd rfl rfl ?_)
                show Ev X 187 131 [some (vR (some 170)), some (vI x1), some (vI x2), some (vI (σ.2 171 x1.toNat)), none] [] _ Q
                iterate 2 (refine e_nx hcd rfl rfl ?_)
                refine r_icmp hcd rfl h32 (by omega) (fun hc => ?_) (fun hc => ?_)
                · replace H := H.1 hc
                  iterate 2 (refine e_nx hcd rfl rfl ?_)
                  show Ev X 187 144 [some (vR (some 170)), some (vI x1), some (vI x2), some (vI (σ.2 171 x1.toNat)), some (vI 0)] [] _ Q
                  refine e_fg [2] ?_
                  exact H
                · replace H := H.2 hc
                  refine e_nx hcd rfl rfl ?_
                  refine r_getR hcd rfl rfl rfl ?_
                  iterate 2 (refine e_nx hcd rfl rfl ?_)
                  refine r_ild hcd rfl rfl (by omega) h34 ?_
                  iterate 2 (refine e_nx hcd rfl rfl ?_)
                  refine r_ist hcd rfl rfl (by omega) h34 ?_
                  iterate 2 (refine e_nx hcd rfl rfl ?_)
                  show Ev X 187 144 [some (vR (some 170)), some (vI x1), some (vI x2), some (vI (σ.2 171 x1.toNat)), some (vI 0)] [] _ Q
                  refine e_fg [2] ?_
                  exact H
            · replace H := H.2 hc
              refine e_nx hcd rfl rfl ?_
              exact r_iret hcd rfl rfl rfl H
          · replace H := H.2 hc
            iterate 3 (refine e_nx hcd rfl rfl ?_)
            refine r_getI hcd rfl rfl rfl ?_
            refine r_cv hcd rfl (by omega) rfl rfl rfl (Nat.le_of_ble_eq_true rfl) ?_
            refine Cl.mono H (fun v τ2 hq => ?_)
            obtain ⟨rfl, H⟩ := hq
            show Ev X 187 114 _ [] τ2 Q
            refine e_nx hcd rfl rfl ?_
            refine r_getR hcd rfl rfl rfl ?_
            refine e_nx hcd rfl rfl ?_
            refine r_ild hcd rfl rfl (by omega) (by omega) ?_
            obtain ⟨h35, H⟩ := H
            refine r_if hcd rfl h35 (fun hc => ?_) (fun hc => ?_)
            · replace H := H.1 hc
              iterate 2 (refine e_nx hcd rfl rfl ?_)
              obtain ⟨h36, H⟩ := H
              refine r_icmp hcd rfl h36 (by omega) (fun hc => ?_) (fun hc => ?_)
              · replace H := H.1 hc
                iterate 2 (refine e_nx hcd rfl rfl ?_)
                show Ev X 187 131 [some (vR (some 170)), some (vI x1), some (vI x2), some (vI x2), none] [] _ Q
                iterate 2 (refine e_nx hcd rfl rfl ?_)
                refine r_icmp hcd rfl h36 (by omega) (fun hc => ?_) (fun hc => ?_)
                · replace H := H.1 hc
                  iterate 2 (refine e_nx hcd rfl rfl ?_)
                  show Ev X 187 144 [some (vR (some 170)), some (vI x1), some (vI x2), some (vI x2), some (vI 0)] [] _ Q
                  refine e_fg [2] ?_
                  exact H
                · replace H := H.2 hc
                  refine e_nx hcd rfl rfl ?_
                  refine r_getR hcd rfl rfl rfl ?_
                  iterate 2 (refine e_nx hcd rfl rfl ?_)
                  obtain ⟨h37, H⟩ := H
                  refine r_ild hcd rfl rfl (by omega) h37 ?_
                  iterate 2 (refine e_nx hcd rfl rfl ?_)
                  refine r_ist hcd rfl rfl (by omega) h37 ?_
                  iterate 2 (refine e_nx hcd rfl rfl ?_)
                  show Ev X 187 144 [some (vR (some 170)), some (vI x1), some (vI x2), some (vI x2), some (vI 0)] [] _ Q
                  refine e_fg [2] ?_
                  exact H
              · replace H := H.2 hc
                refine e_nx hcd rfl rfl ?_
                refine r_getR hcd rfl rfl rfl ?_
                refine e_nx hcd rfl rfl ?_
                obtain ⟨h38, H⟩ := H
                refine r_ild hcd rfl rfl (by omega) h38 ?_
                iterate 2 (refine e_nx hcd rfl rfl ?_)
                show Ev X 187 131 [some (vR (some 170)), some (vI x1), some (vI x2), some (vI (τ2.2 171 x1.toNat)), none] [] _ Q
                iterate 2 (refine e_nx hcd rfl rfl ?_)
                refine r_icmp hcd rfl h36 (by omega) (fun hc => ?_) (fun hc => ?_)
                · replace H := H.1 hc
                  iterate 2 (refine e_nx hcd rfl rfl ?_)
                  show Ev X 187 144 [some (vR (some 170)), some (vI x1), some (vI x2), some (vI (τ2.2 171 x1.toNat)), some (vI 0)] [] _ Q
                  refine e_fg [2] ?_
                  exact H
                · replace H := H.2 hc
                  refine e_nx hcd rfl rfl ?_
                  refine r_getR hcd rfl rfl rfl ?_
                  iterate 2 (refine e_nx hcd rfl rfl ?_)
                  refine r_ild hcd rfl rfl (by omega) h38 ?_
                  iterate 2 (refine e_nx hcd rfl rfl ?_)
                  refine r_ist hcd rfl rfl (by omega) h38 ?_
                  iterate 2 (refine e_nx hcd rfl rfl ?_)
                  show Ev X 187 144 [some (vR (some 170)), some (vI x1), some (vI x2), some (vI (τ2.2 171 x1.toNat)), some (vI 0)] [] _ Q
                  refine e_fg [2] ?_
                  exact H
            · replace H := H.2 hc
              refine e_nx hcd rfl rfl ?_
              exact r_iret hcd rfl rfl rfl H
    · replace H := H.2 hc
      refine e_nx hcd rfl rfl ?_
      obtain ⟨h39, H⟩ := H
      refine r_lkp hcd rfl h39 ?_
      by_cases hs40 : x1 = 0
      · replace H := H.1 hs40
        refine e_pc (i2 := 86) (by rw [hs40]; rfl) ?_
        refine e_nx hcd rfl rfl ?_
        refine r_cv hcd rfl (by omega) rfl rfl rfl (Nat.le_of_ble_eq_true rfl) ?_
        refine Cl.mono H (fun v τ3 hq => ?_)
        obtain ⟨rfl, H⟩ := hq
        show Ev X 187 88 _ [] τ3 Q
        refine e_nx hcd rfl rfl ?_
        exact H
      by_cases hs41 : x1 = 1
      · replace H := H.2.1 hs41
        refine e_pc (i2 := 89) (by rw [hs41]; rfl) ?_
        refine e_nx hcd rfl rfl ?_
        refine r_cv hcd rfl (by omega) rfl rfl rfl (Nat.le_of_ble_eq_true rfl) ?_
        refine Cl.mono H (fun v τ4 hq => ?_)
        obtain ⟨rfl, H⟩ := hq
        show Ev X 187 91 _ [] τ4 Q
        refine e_nx hcd rfl rfl ?_
        exact H
      replace H := H.2.2 ⟨hs40, hs41⟩
      refine e_pc (i2 := 92) (by simp [List.findIdx?_cons, Ne.symm hs40, hs40, Ne.symm hs41, hs41, ord]) ?_
      refine e_nx hcd rfl rfl ?_
      refine r_cv hcd rfl (by omega) rfl rfl rfl (Nat.le_of_ble_eq_true rfl) ?_
      refine Cl.mono H (fun v τ5 hq => ?_)
      obtain ⟨rfl, H⟩ := hq
      show Ev X 187 94 _ [] τ5 Q
      refine e_nx hcd rfl rfl ?_
      exact H
theorem v_187_144 {X : PX} {σ : Sg} {Q : Option PV → Sg → Prop} {x1 : Int} {x3 : Int} {x4 : Int}  (H : CI X 185 [vI x1] σ (fun r1 τ1 => InR x4 ∧ InR r1 ∧ (r1 ≤ x4 → Q (some (vI x3)) τ1) ∧ (¬ r1 ≤ x4 → CI X 184 [vI x1, vI x3] τ1 (fun r4 τ2 => (0 ≤ x4 ∧ x4 < 81) ∧ (0 ≤ r4 + x4 ∧ r4 + x4 < 3616) ∧ Ev X 187 144 [some (vR (some 170)), some (vI x1), none, some (vI x3), some (vI (x4 + 1))] [] (τ2.1, up2 τ2.2 171 (r4 + x4).toNat (τ2.2 173 x4.toNat)) Q)))) : Ev X 187 144 [some (vR (some 170)), some (vI x1), none, some (vI x3), some (vI x4)] [] σ Q := by
  have hcd : cds 187 = cd_187 := rfl
  iterate 2 (refine e_nx hcd rfl rfl ?_)
  refine r_cs hcd rfl (by omega) (Nat.le_of_ble_eq_true rfl) rfl rfl (Nat.le_of_ble_eq_true rfl) ?_
  refine Cl.mono H (fun v τ1 hq => ?_)
  obtain ⟨r1, rfl, H⟩ := hq
  show Ev X 187 147 _ [vI r1, vI x4] τ1 Q
  obtain ⟨h2, H⟩ := H
  obtain ⟨h3, H⟩ := H
  refine r_icmp hcd rfl h2 h3 (fun hc => ?_) (fun hc => ?_)
  · replace H := H.1 hc
    refine e_nx hcd rfl rfl ?_
    exact r_iret hcd rfl rfl rfl H
  · replace H := H.2 hc
    refine e_nx hcd rfl rfl ?_
    refine r_getR hcd rfl rfl rfl ?_
    iterate 2 (refine e_nx hcd rfl rfl ?_)
    refine r_cs hcd rfl (by omega) (Nat.le_of_ble_eq_true rfl) rfl rfl (Nat.le_of_ble_eq_true rfl) ?_
    refine Cl.mono H (fun v τ2 hq => ?_)
    obtain ⟨r4, rfl, H⟩ := hq
    show Ev X 187 153 _ [vI r4, vR (some 171)] τ2 Q
    iterate 3 (refine e_nx hcd rfl rfl ?_)
    refine r_getR hcd rfl rfl rfl ?_
    refine e_nx hcd rfl rfl ?_
    obtain ⟨h5, H⟩ := H
    refine r_ild hcd rfl rfl (by omega) h5 ?_
    obtain ⟨h6, H⟩ := H
    refine r_ist hcd rfl rfl (by omega) h6 ?_
    refine e_nx hcd rfl rfl ?_
    show Ev X 187 161 [some (vR (some 170)), some (vI x1), none, some (vI x3), some (vI (x4 + 1))] [] _ Q
    refine e_nx hcd rfl rfl ?_
    exact H
/-! X12_fault -/
theorem v_188 {X : PX} {σ : Sg} {Q : Option PV → Sg → Prop} {a1 : Int}  (H : InR a1 ∧ (a1 ≠ 0 → (a1 ≠ 1 → Q (some (vI (-1))) σ) ∧ (¬ a1 ≠ 1 → Q (some (vI (σ.2 171 6))) σ)) ∧ (¬ a1 ≠ 0 → Q (some (vI (σ.2 171 5))) σ)) : Cl X 188 [vR (some 170), vI a1] σ Q := by
  have hcd : cds 188 = cd_188 := rfl
  refine c_in (Nat.le_of_ble_eq_true rfl) rfl rfl ?_
  show Ev X 188 0 [some (vR (some 170)), some (vI a1)] [] σ Q
  refine e_nx hcd rfl rfl ?_
  obtain ⟨h1, H⟩ := H
  refine r_if hcd rfl h1 (fun hc => ?_) (fun hc => ?_)
  · replace H := H.1 hc
    iterate 2 (refine e_nx hcd rfl rfl ?_)
    refine r_icmp hcd rfl h1 (by omega) (fun hc => ?_) (fun hc => ?_)
    · replace H := H.1 hc
      refine e_nx hcd rfl rfl ?_
      exact r_iret hcd rfl rfl rfl H
    · replace H := H.2 hc
      refine e_nx hcd rfl rfl ?_
      refine r_getR hcd rfl rfl rfl ?_
      refine e_nx hcd rfl rfl ?_
      refine r_ild hcd rfl rfl (by omega) (by omega) ?_
      refine e_nx hcd rfl rfl ?_
      exact r_iret hcd rfl rfl rfl H
  · replace H := H.2 hc
    refine e_nx hcd rfl rfl ?_
    refine r_getR hcd rfl rfl rfl ?_
    refine e_nx hcd rfl rfl ?_
    refine r_ild hcd rfl rfl (by omega) (by omega) ?_
    refine e_nx hcd rfl rfl ?_
    exact r_iret hcd rfl rfl rfl H
/-! X12_isParish -/
set_option maxRecDepth 20000 in
set_option maxHeartbeats 8000000 in
theorem v_189 {X : PX} {σ : Sg} {Q : Option PV → Sg → Prop} {a1 : Int}  (H : CI X 186 [vR (some 170), vI 0, vI a1] σ (fun r1 τ1 => InR r1 ∧ (r1 ≠ 0 → CI X 184 [vI 0, vI a1] τ1 (fun r3 τ2 => (0 ≤ r3 + 2 ∧ r3 + 2 < 3616) ∧ (0 ≤ r3 + 3 ∧ r3 + 3 < 3616) ∧ CV X 201 [vR (some 170)] (up2 (up2 (up2 τ2.1 170 11 r3) 170 12 (τ2.2 171 (r3 + 2).toNat)) 170 13 (τ2.2 171 (r3 + 3).toNat), τ2.2) (fun τ3 => Q (some (vI 1)) τ3))) ∧ (¬ r1 ≠ 0 → Q (some (vI 0)) τ1))) : Cl X 189 [vR (some 170), vI a1] σ Q := by
  have hcd : cds 189 = cd_189 := rfl
  refine c_in (Nat.le_of_ble_eq_true rfl) rfl rfl ?_
  show Ev X 189 0 [some (vR (some 170)), some (vI a1)] [] σ Q
  iterate 3 (refine e_nx hcd rfl rfl ?_)
  refine r_cv hcd rfl (by omega) rfl rfl rfl (Nat.le_of_ble_eq_true rfl) ?_
  refine Cl.mono H (fun v τ1 hq => ?_)
  obtain ⟨r1, rfl, H⟩ := hq
  show Ev X 189 4 _ [vI r1] τ1 Q
  obtain ⟨h2, H⟩ := H
  refine r_if hcd rfl h2 (fun hc => ?_) (fun hc => ?_)
  · replace H := H.1 hc
    iterate 3 (refine e_nx hcd rfl rfl ?_)
    refine r_cs hcd rfl (by omega) (Nat.le_of_ble_eq_true rfl) rfl rfl (Nat.le_of_ble_eq_true rfl) ?_
    refine Cl.mono H (fun v τ2 hq => ?_)
    obtain ⟨r3, rfl, H⟩ := hq
    show Ev X 189 11 _ [vI r3, vR (some 170)] τ2 Q
    refine r_putI hcd rfl rfl rfl rfl ?_
    iterate 2 (refine e_nx hcd rfl rfl ?_)
    refine r_getR hcd rfl rfl rfl ?_
    refine e_nx hcd rfl rfl ?_
    refine r_getI hcd rfl rfl rfl ?_
    show Ev X 189 17 _ [vI r3, vR (some 171), vR (some 170)] _ Q
    iterate 2 (refine e_nx hcd rfl rfl ?_)
    obtain ⟨h4, H⟩ := H
    refine r_ild hcd rfl rfl (by omega) h4 ?_
    refine r_putI hcd rfl rfl rfl rfl ?_
    iterate 2 (refine e_nx hcd rfl rfl ?_)
    refine r_getR hcd rfl rfl rfl ?_
    refine e_nx hcd rfl rfl ?_
    refine r_getI hcd rfl rfl rfl ?_
    show Ev X 189 26 _ [vI r3, vR (some 171), vR (some 170)] _ Q
    iterate 2 (refine e_nx hcd rfl rfl ?_)
    obtain ⟨h5, H⟩ := H
    refine r_ild hcd rfl rfl (by omega) h5 ?_
    refine r_putI hcd rfl rfl rfl rfl ?_
    refine e_nx hcd rfl rfl ?_
    refine r_cv hcd rfl (by omega) rfl rfl rfl (Nat.le_of_ble_eq_true rfl) ?_
    refine Cl.mono H (fun v τ3 hq => ?_)
    obtain ⟨rfl, H⟩ := hq
    show Ev X 189 32 _ [] τ3 Q
    refine e_nx hcd rfl rfl ?_
    exact r_zret hcd rfl rfl rfl (by omega) H
  · replace H := H.2 hc
    refine e_nx hcd rfl rfl ?_
    exact r_zret hcd rfl rfl rfl (by omega) H
/-! X12_isHouse -/
theorem v_190 {X : PX} {σ : Sg} {Q : Option PV → Sg → Prop} {a1 : Int}  (H : CI X 161 [vI a1, vI 0, vI ((σ.1 170 12) - 1)] σ (fun r1 τ1 => (r1 = 0 ∨ r1 = 1) ∧ Q (some (vI r1)) τ1)) : Cl X 190 [vR (some 170), vI a1] σ Q := by
  have hcd : cds 190 = cd_190 := rfl
  refine c_in (Nat.le_of_ble_eq_true rfl) rfl rfl ?_
  show Ev X 190 0 [some (vR (some 170)), some (vI a1)] [] σ Q
  iterate 3 (refine e_nx hcd rfl rfl ?_)
  refine r_getI hcd rfl rfl rfl ?_
  iterate 2 (refine e_nx hcd rfl rfl ?_)
  refine r_cs hcd rfl (by omega) (Nat.le_of_ble_eq_true rfl) rfl rfl (Nat.le_of_ble_eq_true rfl) ?_
  refine Cl.mono H (fun v τ1 hq => ?_)
  obtain ⟨r1, rfl, H⟩ := hq
  show Ev X 190 7 _ [vI r1] τ1 Q
  obtain ⟨h2, H⟩ := H
  exact r_zret hcd rfl rfl rfl h2 H
/-! X12_everyHouse -/
theorem v_191 {X : PX} {σ : Sg} {Q : Option PV → Sg → Prop}   (H : Q (some (vI ((iShl 1 (σ.1 170 12)) - 1))) σ) : Cl X 191 [vR (some 170)] σ Q := by
  have hcd : cds 191 = cd_191 := rfl
  refine c_in (Nat.le_of_ble_eq_true rfl) rfl rfl ?_
  show Ev X 191 0 [some (vR (some 170))] [] σ Q
  iterate 2 (refine e_nx hcd rfl rfl ?_)
  refine r_getI hcd rfl rfl rfl ?_
  iterate 3 (refine e_nx hcd rfl rfl ?_)
  exact r_iret hcd rfl rfl rfl H
/-! X12_goodsTold -/
theorem v_192 {X : PX} {σ : Sg} {Q : Option PV → Sg → Prop} {a1 : Int}  (H : (0 ≤ ((σ.1 170 11) + 5) + (2 * a1) ∧ ((σ.1 170 11) + 5) + (2 * a1) < 3616) ∧ Q (some (vI (σ.2 171 (((σ.1 170 11) + 5) + (2 * a1)).toNat))) σ) : Cl X 192 [vR (some 170), vI a1] σ Q := by
  have hcd : cds 192 = cd_192 := rfl
  refine c_in (Nat.le_of_ble_eq_true rfl) rfl rfl ?_
  show Ev X 192 0 [some (vR (some 170)), some (vI a1)] [] σ Q
  refine e_nx hcd rfl rfl ?_
  refine r_getR hcd rfl rfl rfl ?_
  refine e_nx hcd rfl rfl ?_
  refine r_getI hcd rfl rfl rfl ?_
  iterate 6 (refine e_nx hcd rfl rfl ?_)
  obtain ⟨h1, H⟩ := H
  refine r_ild hcd rfl rfl (by omega) h1 ?_
  exact r_iret hcd rfl rfl rfl H
/-! X12_yieldOf -/
theorem v_193 {X : PX} {σ : Sg} {Q : Option PV → Sg → Prop} {a1 : Int}  (H : (0 ≤ (((σ.1 170 11) + 5) + 1) + (2 * a1) ∧ (((σ.1 170 11) + 5) + 1) + (2 * a1) < 3616) ∧ Q (some (vI (σ.2 171 ((((σ.1 170 11) + 5) + 1) + (2 * a1)).toNat))) σ) : Cl X 193 [vR (some 170), vI a1] σ Q := by
  have hcd : cds 193 = cd_193 := rfl
  refine c_in (Nat.le_of_ble_eq_true rfl) rfl rfl ?_
  show Ev X 193 0 [some (vR (some 170)), some (vI a1)] [] σ Q
  refine e_nx hcd rfl rfl ?_
  refine r_getR hcd rfl rfl rfl ?_
  refine e_nx hcd rfl rfl ?_
  refine r_getI hcd rfl rfl rfl ?_
  iterate 8 (refine e_nx hcd rfl rfl ?_)
  obtain ⟨h1, H⟩ := H
  refine r_ild hcd rfl rfl (by omega) h1 ?_
  exact r_iret hcd rfl rfl rfl H
/-! X12_ruleAt -/
theorem v_194 {X : PX} {σ : Sg} {Q : Option PV → Sg → Prop} {a1 : Int} {a2 : Int}  (H : (0 ≤ (((σ.1 170 11) + 19) + (3 * a1)) + a2 ∧ (((σ.1 170 11) + 19) + (3 * a1)) + a2 < 3616) ∧ Q (some (vI (σ.2 171 ((((σ.1 170 11) + 19) + (3 * a1)) + a2).toNat))) σ) : Cl X 194 [vR (some 170), vI a1, vI a2] σ Q := by
  have hcd : cds 194 = cd_194 := rfl
  refine c_in (Nat.le_of_ble_eq_true rfl) rfl rfl ?_
  show Ev X 194 0 [some (vR (some 170)), some (vI a1), some (vI a2)] [] σ Q
  refine e_nx hcd rfl rfl ?_
  refine r_getR hcd rfl rfl rfl ?_
  refine e_nx hcd rfl rfl ?_
  refine r_getI hcd rfl rfl rfl ?_
  iterate 8 (refine e_nx hcd rfl rfl ?_)
  obtain ⟨h1, H⟩ := H
  refine r_ild hcd rfl rfl (by omega) h1 ?_
  exact r_iret hcd rfl rfl rfl H
/-! X12_bitsOf -/
theorem v_195 {X : PX} {σ : Sg} {Q : Option PV → Sg → Prop} {a1 : Int}  (H : Ev X 195 4 [some (vI a1), some (vI 0), some (vI 0)] [] σ Q) : Cl X 195 [vI a1] σ Q := by
  have hcd : cds 195 = cd_195 := rfl
  refine c_in (Nat.le_of_ble_eq_true rfl) rfl rfl ?_
  show Ev X 195 0 [some (vI a1), none, none] [] σ Q
  iterate 2 (refine e_nx hcd rfl rfl ?_)
  show Ev X 195 2 [some (vI a1), some (vI 0), none] [] _ Q
  iterate 2 (refine e_nx hcd rfl rfl ?_)
  show Ev X 195 4 [some (vI a1), some (vI 0), some (vI 0)] [] _ Q
  exact H
theorem v_195_4 {X : PX} {σ : Sg} {Q : Option PV → Sg → Prop} {x0 : Int} {x1 : Int} {x2 : Int}  (H : InR x2 ∧ (12 ≤ x2 → Q (some (vI x1)) σ) ∧ (¬ 12 ≤ x2 → Ev X 195 4 [some (vI x0), some (vI (x1 + (iAnd (iShr x0 x2) 1))), some (vI (x2 + 1))] [] σ Q)) : Ev X 195 4 [some (vI x0), some (vI x1), some (vI x2)] [] σ Q := by
  have hcd : cds 195 = cd_195 := rfl
  iterate 2 (refine e_nx hcd rfl rfl ?_)
  obtain ⟨h1, H⟩ := H
  refine r_icmp hcd rfl h1 (by omega) (fun hc => ?_) (fun hc => ?_)
  · replace H := H.1 hc
    refine e_nx hcd rfl rfl ?_
    exact r_iret hcd rfl rfl rfl H
  · replace H := H.2 hc
    iterate 8 (refine e_nx hcd rfl rfl ?_)
    show Ev X 195 15 [some (vI x0), some (vI (x1 + (iAnd (iShr x0 x2) 1))), some (vI x2)] [] _ Q
    refine e_nx hcd rfl rfl ?_
    show Ev X 195 16 [some (vI x0), some (vI (x1 + (iAnd (iShr x0 x2) 1))), some (vI (x2 + 1))] [] _ Q
    refine e_nx hcd rfl rfl ?_
    exact H
/-! X12_ruleHolds -/
set_option maxRecDepth 20000 in
set_option maxHeartbeats 8000000 in
theorem v_196 {X : PX} {σ : Sg} {Q : Option PV → Sg → Prop} {a1 : Int} {a2 : Int}  (H : InR (iAnd (iShr (σ.1 170 17) a1) 1) ∧ (iAnd (iShr (σ.1 170 17) a1) 1 = 1 → Q (some (vI 0)) σ) ∧ (¬ iAnd (iShr (σ.1 170 17) a1) 1 = 1 → CI X 194 [vR (some 170), vI a1, vI 1] σ (fun r2 τ1 => InR (iAnd (iShr a2 r2) 1) ∧ (iAnd (iShr a2 r2) 1 ≠ 0 → CI X 194 [vR (some 170), vI a1, vI 2] τ1 (fun r4 τ2 => InR r4 ∧ (r4 = (-1) → Q (some (vI 1)) τ2) ∧ (¬ r4 = (-1) → CI X 194 [vR (some 170), vI a1, vI 2] τ2 (fun r6 τ3 => InR (iAnd (iShr a2 r6) 1) ∧ (iAnd (iShr a2 r6) 1 ≠ 1 → Q (some (vI 0)) τ3) ∧ (¬ iAnd (iShr a2 r6) 1 ≠ 1 → Q (some (vI 1)) τ3))))) ∧ (¬ iAnd (iShr a2 r2) 1 ≠ 0 → Q (some (vI 0)) τ1)))) : Cl X 196 [vR (some 170), vI a1, vI a2] σ Q := by
  have hcd : cds 196 = cd_196 := rfl
  refine c_in (Nat.le_of_ble_eq_true rfl) rfl rfl ?_
  show Ev X 196 0 [some (vR (some 170)), some (vI a1), some (vI a2)] [] σ Q
  refine e_nx hcd rfl rfl ?_
  refine r_getI hcd rfl rfl rfl ?_
  iterate 5 (refine e_nx hcd rfl rfl ?_)
  obtain ⟨h1, H⟩ := H
  refine r_icmp hcd rfl h1 (by omega) (fun hc => ?_) (fun hc => ?_)
  · replace H := H.1 hc
    refine e_nx hcd rfl rfl ?_
    exact r_zret hcd rfl rfl rfl (by omega) H
  · replace H := H.2 hc
    iterate 4 (refine e_nx hcd rfl rfl ?_)
    refine r_cv hcd rfl (by omega) rfl rfl rfl (Nat.le_of_ble_eq_true rfl) ?_
    refine Cl.mono H (fun v τ1 hq => ?_)
    obtain ⟨r2, rfl, H⟩ := hq
    show Ev X 196 13 _ [vI r2, vI a2] τ1 Q
    iterate 3 (refine e_nx hcd rfl rfl ?_)
    obtain ⟨h3, H⟩ := H
    refine r_if hcd rfl h3 (fun hc => ?_) (fun hc => ?_)
    · replace H := H.1 hc
      iterate 3 (refine e_nx hcd rfl rfl ?_)
      refine r_cv hcd rfl (by omega) rfl rfl rfl (Nat.le_of_ble_eq_true rfl) ?_
      refine Cl.mono H (fun v τ2 hq => ?_)
      obtain ⟨r4, rfl, H⟩ := hq
      show Ev X 196 23 _ [vI r4] τ2 Q
      refine e_nx hcd rfl rfl ?_
      obtain ⟨h5, H⟩ := H
      refine r_icmp hcd rfl h5 (by omega) (fun hc => ?_) (fun hc => ?_)
      · replace H := H.1 hc
        iterate 2 (refine e_nx hcd rfl rfl ?_)
        exact r_zret hcd rfl rfl rfl (by omega) H
      · replace H := H.2 hc
        iterate 4 (refine e_nx hcd rfl rfl ?_)
        refine r_cv hcd rfl (by omega) rfl rfl rfl (Nat.le_of_ble_eq_true rfl) ?_
        refine Cl.mono H (fun v τ3 hq => ?_)
        obtain ⟨r6, rfl, H⟩ := hq
        show Ev X 196 30 _ [vI r6, vI a2] τ3 Q
        iterate 4 (refine e_nx hcd rfl rfl ?_)
        obtain ⟨h7, H⟩ := H
        refine r_icmp hcd rfl h7 (by omega) (fun hc => ?_) (fun hc => ?_)
        · replace H := H.1 hc
          refine e_nx hcd rfl rfl ?_
          exact r_zret hcd rfl rfl rfl (by omega) H
        · replace H := H.2 hc
          iterate 2 (refine e_nx hcd rfl rfl ?_)
          exact r_zret hcd rfl rfl rfl (by omega) H
    · replace H := H.2 hc
      refine e_nx hcd rfl rfl ?_
      exact r_zret hcd rfl rfl rfl (by omega) H
/-! X12_exemptBy -/
theorem v_197 {X : PX} {σ : Sg} {Q : Option PV → Sg → Prop} {a1 : Int}  (H : Ev X 197 4 [some (vR (some 170)), none, some (vI a1), some (vI (-1)), none] [] σ Q) : Cl X 197 [vR (some 170), vI a1] σ Q := by
  have hcd : cds 197 = cd_197 := rfl
  refine c_in (Nat.le_of_ble_eq_true rfl) rfl rfl ?_
  show Ev X 197 0 [some (vR (some 170)), some (vI a1), none, none, none] [] σ Q
  iterate 2 (refine e_nx hcd rfl rfl ?_)
  show Ev X 197 2 [some (vR (some 170)), some (vI a1), some (vI a1), none, none] [] _ Q
  iterate 2 (refine e_nx hcd rfl rfl ?_)
  show Ev X 197 4 [some (vR (some 170)), some (vI a1), some (vI a1), some (vI (-1)), none] [] _ Q
  refine e_fg [1] ?_
  exact H
theorem v_197_4 {X : PX} {σ : Sg} {Q : Option PV → Sg → Prop} {x2 : Int} {x3 : Int}  (H : InR x3 ∧ InR x2 ∧ (x3 = x2 → Q (some (vI x2)) σ) ∧ (¬ x3 = x2 → Ev X 197 11 [some (vR (some 170)), none, some (vI x2), some (vI x2), some (vI 0)] [] σ Q)) : Ev X 197 4 [some (vR (some 170)), none, some (vI x2), some (vI x3), none] [] σ Q := by
  have hcd : cds 197 = cd_197 := rfl
  iterate 2 (refine e_nx hcd rfl rfl ?_)
  obtain ⟨h1, H⟩ := H
  obtain ⟨h2, H⟩ := H
  refine r_icmp hcd rfl h1 h2 (fun hc => ?_) (fun hc => ?_)
  · replace H := H.1 hc
    refine e_nx hcd rfl rfl ?_
    exact r_iret hcd rfl rfl rfl H
  · replace H := H.2 hc
    iterate 2 (refine e_nx hcd rfl rfl ?_)
    show Ev X 197 9 [some (vR (some 170)), none, some (vI x2), some (vI x2), none] [] _ Q
    iterate 2 (refine e_nx hcd rfl rfl ?_)
    show Ev X 197 11 [some (vR (some 170)), none, some (vI x2), some (vI x2), some (vI 0)] [] _ Q
    exact H
theorem v_197_11 {X : PX} {σ : Sg} {Q : Option PV → Sg → Prop} {x2 : Int} {x3 : Int} {x4 : Int}  (H : InR x4 ∧ InR (σ.1 170 13) ∧ (σ.1 170 13 ≤ x4 → Ev X 197 4 [some (vR (some 170)), none, some (vI x2), some (vI x3), none] [] σ Q) ∧ (¬ σ.1 170 13 ≤ x4 → CI X 196 [vR (some 170), vI x4, vI x3] σ (fun r3 τ1 => InR r3 ∧ (r3 = 0 → Ev X 197 11 [some (vR (some 170)), none, some (vI x2), some (vI x3), some (vI (x4 + 1))] [] τ1 Q) ∧ (¬ r3 = 0 → CI X 194 [vR (some 170), vI x4, vI 0] τ1 (fun r5 τ2 => Ev X 197 11 [some (vR (some 170)), none, some (vI (iOr x2 (iShl 1 r5))), some (vI x3), some (vI (x4 + 1))] [] τ2 Q))))) : Ev X 197 11 [some (vR (some 170)), none, some (vI x2), some (vI x3), some (vI x4)] [] σ Q := by
  have hcd : cds 197 = cd_197 := rfl
  iterate 2 (refine e_nx hcd rfl rfl ?_)
  refine r_getI hcd rfl rfl rfl ?_
  obtain ⟨h1, H⟩ := H
  obtain ⟨h2, H⟩ := H
  refine r_icmp hcd rfl h1 h2 (fun hc => ?_) (fun hc => ?_)
  · replace H := H.1 hc
    refine e_nx hcd rfl rfl ?_
    refine e_fg [4] ?_
    exact H
  · replace H := H.2 hc
    iterate 3 (refine e_nx hcd rfl rfl ?_)
    refine r_cv hcd rfl (by omega) rfl rfl rfl (Nat.le_of_ble_eq_true rfl) ?_
    refine Cl.mono H (fun v τ1 hq => ?_)
    obtain ⟨r3, rfl, H⟩ := hq
    show Ev X 197 19 _ [vI r3] τ1 Q
    obtain ⟨h4, H⟩ := H
    refine r_if hcd rfl h4 (fun hc => ?_) (fun hc => ?_)
    · replace H := H.1 hc
      refine e_nx hcd rfl rfl ?_
      show Ev X 197 30 [some (vR (some 170)), none, some (vI x2), some (vI x3), some (vI (x4 + 1))] [] _ Q
      refine e_nx hcd rfl rfl ?_
      exact H
    · replace H := H.2 hc
      iterate 5 (refine e_nx hcd rfl rfl ?_)
      refine r_cv hcd rfl (by omega) rfl rfl rfl (Nat.le_of_ble_eq_true rfl) ?_
      refine Cl.mono H (fun v τ2 hq => ?_)
      obtain ⟨r5, rfl, H⟩ := hq
      show Ev X 197 26 _ [vI r5, vI 1, vI x2] τ2 Q
      iterate 3 (refine e_nx hcd rfl rfl ?_)
      show Ev X 197 29 [some (vR (some 170)), none, some (vI (iOr x2 (iShl 1 r5))), some (vI x3), some (vI x4)] [] _ Q
      refine e_nx hcd rfl rfl ?_
      show Ev X 197 30 [some (vR (some 170)), none, some (vI (iOr x2 (iShl 1 r5))), some (vI x3), some (vI (x4 + 1))] [] _ Q
      refine e_nx hcd rfl rfl ?_
      exact H
/-! X12_isExempt -/
theorem v_198 {X : PX} {σ : Sg} {Q : Option PV → Sg → Prop} {a1 : Int}  (H : InR (iAnd (iShr (σ.1 170 18) a1) 1) ∧ (iAnd (iShr (σ.1 170 18) a1) 1 ≠ 1 → Q (some (vI 0)) σ) ∧ (¬ iAnd (iShr (σ.1 170 18) a1) 1 ≠ 1 → Q (some (vI 1)) σ)) : Cl X 198 [vR (some 170), vI a1] σ Q := by
  have hcd : cds 198 = cd_198 := rfl
  refine c_in (Nat.le_of_ble_eq_true rfl) rfl rfl ?_
  show Ev X 198 0 [some (vR (some 170)), some (vI a1)] [] σ Q
  refine e_nx hcd rfl rfl ?_
  refine r_getI hcd rfl rfl rfl ?_
  iterate 5 (refine e_nx hcd rfl rfl ?_)
  obtain ⟨h1, H⟩ := H
  refine r_icmp hcd rfl h1 (by omega) (fun hc => ?_) (fun hc => ?_)
  · replace H := H.1 hc
    refine e_nx hcd rfl rfl ?_
    exact r_zret hcd rfl rfl rfl (by omega) H
  · replace H := H.2 hc
    iterate 2 (refine e_nx hcd rfl rfl ?_)
    exact r_zret hcd rfl rfl rfl (by omega) H
