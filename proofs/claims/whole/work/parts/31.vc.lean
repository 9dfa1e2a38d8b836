/-! X0_run -/
theorem v_1 {X : PX} {σ : Sg} {Q : Option PV → Sg → Prop} {p1 : Nat} {q1 : Nat} {a1 : Int} (hp1 : p1 ∈ parL) (hq1 : q1 ∈ paiL) (H : CV X 29 [vR (some 146), vR (some p1)] σ (fun τ1 => CI X 283 [vI (τ1.1 146 6)] (up2 (up2 τ1.1 161 2 0) 161 3 (-1), τ1.2) (fun r1 τ2 => Ev X 1 24 [some (vR (some 161)), none, some (vR (some q1)), some (vI a1), some (vI 0), none] [] (up2 (up2 (up2 τ2.1 161 4 r1) 161 5 (-1)) 161 6 0, τ2.2) Q))) : Cl X 1 [vR (some 161), vR (some p1), vR (some q1), vI a1] σ Q := by
  have hcd : cds 1 = cd_1 := rfl
  refine c_in (Nat.le_of_ble_eq_true rfl) rfl rfl ?_
  show Ev X 1 0 [some (vR (some 161)), some (vR (some p1)), some (vR (some q1)), some (vI a1), none, none] [] σ Q
  refine e_nx hcd rfl rfl ?_
  refine r_getR hcd rfl rfl rfl ?_
  refine e_nx hcd rfl rfl ?_
  refine r_cv hcd rfl (by omega) rfl rfl rfl (Nat.le_of_ble_eq_true rfl) ?_
  refine Cl.mono H (fun v τ1 hq => ?_)
  obtain ⟨rfl, H⟩ := hq
  show Ev X 1 4 _ [] τ1 Q
  iterate 2 (refine e_nx hcd rfl rfl ?_)
  refine r_putI hcd rfl rfl rfl rfl ?_
  iterate 2 (refine e_nx hcd rfl rfl ?_)
  refine r_putI hcd rfl rfl rfl rfl ?_
  iterate 2 (refine e_nx hcd rfl rfl ?_)
  refine r_getR hcd rfl rfl rfl ?_
  refine r_getI hcd rfl rfl rfl ?_
  show Ev X 1 14 _ [vI (τ1.1 146 6), vR (some 161)] _ Q
  refine r_cs hcd rfl (by omega) (Nat.le_of_ble_eq_true rfl) rfl rfl (Nat.le_of_ble_eq_true rfl) ?_
  refine Cl.mono H (fun v τ2 hq => ?_)
  obtain ⟨r1, rfl, H⟩ := hq
  show Ev X 1 15 _ [vI r1, vR (some 161)] τ2 Q
  refine r_putI hcd rfl rfl rfl rfl ?_
  iterate 2 (refine e_nx hcd rfl rfl ?_)
  refine r_putI hcd rfl rfl rfl rfl ?_
  iterate 2 (refine e_nx hcd rfl rfl ?_)
  refine r_putI hcd rfl rfl rfl rfl ?_
  iterate 2 (refine e_nx hcd rfl rfl ?_)
  show Ev X 1 24 [some (vR (some 161)), some (vR (some p1)), some (vR (some q1)), some (vI a1), some (vI 0), none] [] _ Q
  refine e_fg [1] ?_
  exact H
theorem v_1_24 {X : PX} {σ : Sg} {Q : Option PV → Sg → Prop} {q1 : Nat} {x3 : Int} {x4 : Int} (hq1 : q1 ∈ paiL) (H : InR x4 ∧ (7 ≤ x4 → InR (σ.1 q1 0) ∧ InR x3 ∧ InR (min (σ.1 q1 0) 40) ∧ Ev X 1 43 [some (vR (some 161)), none, some (vR (some q1)), none, some (vI (min x3 (min (σ.1 q1 0) 40))), some (vI 0)] [] σ Q) ∧ (¬ 7 ≤ x4 → (0 ≤ x4 ∧ x4 < 7) ∧ Ev X 1 24 [some (vR (some 161)), none, some (vR (some q1)), some (vI x3), some (vI (x4 + 1)), none] [] (σ.1, up2 σ.2 162 x4.toNat 0) Q)) : Ev X 1 24 [some (vR (some 161)), none, some (vR (some q1)), some (vI x3), some (vI x4), none] [] σ Q := by
  have hcd : cds 1 = cd_1 := rfl
  iterate 2 (refine e_nx hcd rfl rfl ?_)
  obtain ⟨h1, H⟩ := H
  refine r_icmp hcd rfl h1 (by omega) (fun hc => ?_) (fun hc => ?_)
  · replace H := H.1 hc
    iterate 2 (refine e_nx hcd rfl rfl ?_)
    refine r_getI hcd rfl ((paiS hq1).1) rfl ?_
    refine e_nx hcd rfl rfl ?_
    obtain ⟨h2, H⟩ := H
    refine r_min hcd rfl h2 (by omega) (Nat.le_of_ble_eq_true rfl) ?_
    obtain ⟨h3, H⟩ := H
    obtain ⟨h4, H⟩ := H
    refine r_min hcd rfl h3 h4 (Nat.le_of_ble_eq_true rfl) ?_
    refine e_nx hcd rfl rfl ?_
    show Ev X 1 41 [some (vR (some 161)), none, some (vR (some q1)), some (vI x3), some (vI (min x3 (min (σ.1 q1 0) 40))), none] [] _ Q
    iterate 2 (refine e_nx hcd rfl rfl ?_)
    show Ev X 1 43 [some (vR (some 161)), none, some (vR (some q1)), some (vI x3), some (vI (min x3 (min (σ.1 q1 0) 40))), some (vI 0)] [] _ Q
    refine e_fg [3] ?_
    exact H
  · replace H := H.2 hc
    refine e_nx hcd rfl rfl ?_
    refine r_getR hcd rfl rfl rfl ?_
    iterate 2 (refine e_nx hcd rfl rfl ?_)
    obtain ⟨h5, H⟩ := H
    refine r_ist hcd rfl rfl (by omega) h5 ?_
    refine e_nx hcd rfl rfl ?_
    show Ev X 1 33 [some (vR (some 161)), none, some (vR (some q1)), some (vI x3), some (vI (x4 + 1)), none] [] _ Q
    refine e_nx hcd rfl rfl ?_
    exact H
set_option maxRecDepth 20000 in
set_option maxHeartbeats 8000000 in
theorem v_1_43 {X : PX} {σ : Sg} {Q : Option PV → Sg → Prop} {q1 : Nat} {x4 : Int} {x5 : Int} (hq1 : q1 ∈ paiL) (H : InR x5 ∧ InR x4 ∧ (x4 ≤ x5 → Q (some (vI x4)) σ) ∧ (¬ x4 ≤ x5 → (0 ≤ x5 ∧ x5 < 40) ∧ CI X 32 [vR (some 146), vI (σ.2 (q1 + 1) x5.toNat), vI (σ.2 (q1 + 2) x5.toNat)] σ (fun r4 τ1 => InR r4 ∧ (r4 ≠ 0 → CV X 2 [vR (some 161), vI x5, vI (τ1.2 (q1 + 1) x5.toNat), vI (τ1.2 (q1 + 2) x5.toNat)] τ1 (fun τ2 => Ev X 1 43 [some (vR (some 161)), none, some (vR (some q1)), none, some (vI x4), some (vI (x5 + 1))] [] τ2 Q)) ∧ (¬ r4 ≠ 0 → Q (some (vI x5)) τ1)))) : Ev X 1 43 [some (vR (some 161)), none, some (vR (some q1)), none, some (vI x4), some (vI x5)] [] σ Q := by
  have hcd : cds 1 = cd_1 := rfl
  iterate 2 (refine e_nx hcd rfl rfl ?_)
  obtain ⟨h1, H⟩ := H
  obtain ⟨h2, H⟩ := H
  refine r_icmp hcd rfl h1 h2 (fun hc => ?_) (fun hc => ?_)
  · replace H := H.1 hc
    refine e_nx hcd rfl rfl ?_
    exact r_iret hcd rfl rfl rfl H
  · replace H := H.2 hc
    refine e_nx hcd rfl rfl ?_
    refine r_getR hcd rfl rfl rfl ?_
    refine e_nx hcd rfl rfl ?_
    refine r_getR hcd rfl ((paiS hq1).1) rfl ?_
    refine e_nx hcd rfl rfl ?_
    obtain ⟨h3, H⟩ := H
    refine r_ild hcd rfl ((paiS hq1).2.1) (by omega) h3 ?_
    refine e_nx hcd rfl rfl ?_
    refine r_getR hcd rfl ((paiS hq1).1) rfl ?_
    refine e_nx hcd rfl rfl ?_
    refine r_ild hcd rfl ((paiS hq1).2.2) (by omega) h3 ?_
    refine r_cv hcd rfl (by omega) rfl rfl rfl (Nat.le_of_ble_eq_true rfl) ?_
    refine Cl.mono H (fun v τ1 hq => ?_)
    obtain ⟨r4, rfl, H⟩ := hq
    show Ev X 1 57 _ [vI r4] τ1 Q
    obtain ⟨h5, H⟩ := H
    refine r_if hcd rfl h5 (fun hc => ?_) (fun hc => ?_)
    · replace H := H.1 hc
      iterate 3 (refine e_nx hcd rfl rfl ?_)
      refine r_getR hcd rfl ((paiS hq1).1) rfl ?_
      refine e_nx hcd rfl rfl ?_
      refine r_ild hcd rfl ((paiS hq1).2.1) (by omega) h3 ?_
      refine e_nx hcd rfl rfl ?_
      refine r_getR hcd rfl ((paiS hq1).1) rfl ?_
      refine e_nx hcd rfl rfl ?_
      refine r_ild hcd rfl ((paiS hq1).2.2) (by omega) h3 ?_
      refine r_cv hcd rfl (by omega) rfl rfl rfl (Nat.le_of_ble_eq_true rfl) ?_
      refine Cl.mono H (fun v τ2 hq => ?_)
      obtain ⟨rfl, H⟩ := hq
      show Ev X 1 71 _ [] τ2 Q
      refine e_nx hcd rfl rfl ?_
      show Ev X 1 72 [some (vR (some 161)), none, some (vR (some q1)), none, some (vI x4), some (vI (x5 + 1))] [] _ Q
      refine e_nx hcd rfl rfl ?_
      exact H
    · replace H := H.2 hc
      refine e_nx hcd rfl rfl ?_
      exact r_iret hcd rfl rfl rfl H
/-! X0_note -/
set_option maxRecDepth 20000 in
set_option maxHeartbeats 8000000 in
theorem v_2 {X : PX} {σ : Sg} {Q : Option PV → Sg → Prop} {a1 : Int} {a2 : Int} {a3 : Int}  (H : InR a2 ∧ (a2 ≠ 1 → (a2 ≠ 0 → InR (σ.1 161 3) ∧ (σ.1 161 3 ≠ (-1) → CI X 283 [vI (σ.1 146 6)] σ (fun r3 τ1 => InR (σ.1 161 4) ∧ InR r3 ∧ Q none (up2 τ1.1 161 4 (max (σ.1 161 4) r3), τ1.2))) ∧ (¬ σ.1 161 3 ≠ (-1) → InR (σ.1 146 4) ∧ (σ.1 146 4 ≤ 0 → CI X 283 [vI (σ.1 146 6)] σ (fun r7 τ2 => InR (σ.1 161 4) ∧ InR r7 ∧ Q none (up2 τ2.1 161 4 (max (σ.1 161 4) r7), τ2.2))) ∧ (¬ σ.1 146 4 ≤ 0 → CI X 283 [vI (σ.1 146 6)] (up2 σ.1 161 3 a1, σ.2) (fun r10 τ3 => InR (σ.1 161 4) ∧ InR r10 ∧ Q none (up2 τ3.1 161 4 (max (σ.1 161 4) r10), τ3.2))))) ∧ (¬ a2 ≠ 0 → InR (σ.1 161 5) ∧ (σ.1 161 5 = (-1) → InR (σ.1 161 3) ∧ (σ.1 161 3 ≠ (-1) → CI X 283 [vI (σ.1 146 6)] (up2 (up2 σ.1 161 5 (σ.1 146 2)) 161 6 (σ.1 146 7), σ.2) (fun r15 τ4 => InR (σ.1 161 4) ∧ InR r15 ∧ Q none (up2 τ4.1 161 4 (max (σ.1 161 4) r15), τ4.2))) ∧ (¬ σ.1 161 3 ≠ (-1) → InR (σ.1 146 4) ∧ (σ.1 146 4 ≤ 0 → CI X 283 [vI (σ.1 146 6)] (up2 (up2 σ.1 161 5 (σ.1 146 2)) 161 6 (σ.1 146 7), σ.2) (fun r19 τ5 => InR (σ.1 161 4) ∧ InR r19 ∧ Q none (up2 τ5.1 161 4 (max (σ.1 161 4) r19), τ5.2))) ∧ (¬ σ.1 146 4 ≤ 0 → CI X 283 [vI (σ.1 146 6)] (up2 (up2 (up2 σ.1 161 5 (σ.1 146 2)) 161 6 (σ.1 146 7)) 161 3 a1, σ.2) (fun r22 τ6 => InR (σ.1 161 4) ∧ InR r22 ∧ Q none (up2 τ6.1 161 4 (max (σ.1 161 4) r22), τ6.2))))) ∧ (¬ σ.1 161 5 = (-1) → InR (σ.1 146 7) ∧ InR (σ.1 161 6) ∧ (σ.1 161 6 ≤ σ.1 146 7 → InR (σ.1 161 3) ∧ (σ.1 161 3 ≠ (-1) → CI X 283 [vI (σ.1 146 6)] σ (fun r28 τ7 => InR (σ.1 161 4) ∧ InR r28 ∧ Q none (up2 τ7.1 161 4 (max (σ.1 161 4) r28), τ7.2))) ∧ (¬ σ.1 161 3 ≠ (-1) → InR (σ.1 146 4) ∧ (σ.1 146 4 ≤ 0 → CI X 283 [vI (σ.1 146 6)] σ (fun r32 τ8 => InR (σ.1 161 4) ∧ InR r32 ∧ Q none (up2 τ8.1 161 4 (max (σ.1 161 4) r32), τ8.2))) ∧ (¬ σ.1 146 4 ≤ 0 → CI X 283 [vI (σ.1 146 6)] (up2 σ.1 161 3 a1, σ.2) (fun r35 τ9 => InR (σ.1 161 4) ∧ InR r35 ∧ Q none (up2 τ9.1 161 4 (max (σ.1 161 4) r35), τ9.2))))) ∧ (¬ σ.1 161 6 ≤ σ.1 146 7 → InR (σ.1 161 3) ∧ (σ.1 161 3 ≠ (-1) → CI X 283 [vI (σ.1 146 6)] (up2 (up2 σ.1 161 5 (σ.1 146 2)) 161 6 (σ.1 146 7), σ.2) (fun r39 τ10 => InR (σ.1 161 4) ∧ InR r39 ∧ Q none (up2 τ10.1 161 4 (max (σ.1 161 4) r39), τ10.2))) ∧ (¬ σ.1 161 3 ≠ (-1) → InR (σ.1 146 4) ∧ (σ.1 146 4 ≤ 0 → CI X 283 [vI (σ.1 146 6)] (up2 (up2 σ.1 161 5 (σ.1 146 2)) 161 6 (σ.1 146 7), σ.2) (fun r43 τ11 => InR (σ.1 161 4) ∧ InR r43 ∧ Q none (up2 τ11.1 161 4 (max (σ.1 161 4) r43), τ11.2))) ∧ (¬ σ.1 146 4 ≤ 0 → CI X 283 [vI (σ.1 146 6)] (up2 (up2 (up2 σ.1 161 5 (σ.1 146 2)) 161 6 (σ.1 146 7)) 161 3 a1, σ.2) (fun r46 τ12 => InR (σ.1 161 4) ∧ InR r46 ∧ Q none (up2 τ12.1 161 4 (max (σ.1 161 4) r46), τ12.2)))))))) ∧ (¬ a2 ≠ 1 → InR a3 ∧ (a3 < 0 → (a2 ≠ 0 → InR (σ.1 161 3) ∧ (σ.1 161 3 ≠ (-1) → CI X 283 [vI (σ.1 146 6)] σ (fun r51 τ13 => InR (σ.1 161 4) ∧ InR r51 ∧ Q none (up2 τ13.1 161 4 (max (σ.1 161 4) r51), τ13.2))) ∧ (¬ σ.1 161 3 ≠ (-1) → InR (σ.1 146 4) ∧ (σ.1 146 4 ≤ 0 → CI X 283 [vI (σ.1 146 6)] σ (fun r55 τ14 => InR (σ.1 161 4) ∧ InR r55 ∧ Q none (up2 τ14.1 161 4 (max (σ.1 161 4) r55), τ14.2))) ∧ (¬ σ.1 146 4 ≤ 0 → CI X 283 [vI (σ.1 146 6)] (up2 σ.1 161 3 a1, σ.2) (fun r58 τ15 => InR (σ.1 161 4) ∧ InR r58 ∧ Q none (up2 τ15.1 161 4 (max (σ.1 161 4) r58), τ15.2))))) ∧ (¬ a2 ≠ 0 → InR (σ.1 161 5) ∧ (σ.1 161 5 = (-1) → InR (σ.1 161 3) ∧ (σ.1 161 3 ≠ (-1) → CI X 283 [vI (σ.1 146 6)] (up2 (up2 σ.1 161 5 (σ.1 146 2)) 161 6 (σ.1 146 7), σ.2) (fun r63 τ16 => InR (σ.1 161 4) ∧ InR r63 ∧ Q none (up2 τ16.1 161 4 (max (σ.1 161 4) r63), τ16.2))) ∧ (¬ σ.1 161 3 ≠ (-1) → InR (σ.1 146 4) ∧ (σ.1 146 4 ≤ 0 → CI X 283 [vI (σ.1 146 6)] (up2 (up2 σ.1 161 5 (σ.1 146 2)) 161 6 (σ.1 146 7), σ.2) (fun r67 τ17 => InR (σ.1 161 4) ∧ InR r67 ∧ Q none (up2 τ17.1 161 4 (max (σ.1 161 4) r67), τ17.2))) ∧ (¬ σ.1 146 4 ≤ 0 → CI X 283 [vI (σ.1 146 6)] (up2 (up2 (up2 σ.1 161 5 (σ.1 146 2)) 161 6 (σ.1 146 7)) 161 3 a1, σ.2) (fun r70 τ18 => InR (σ.1 161 4) ∧ InR r70 ∧ Q none (up2 τ18.1 161 4 (max (σ.1 161 4) r70), τ18.2))))) ∧ (¬ σ.1 161 5 = (-1) → InR (σ.1 146 7) ∧ InR (σ.1 161 6) ∧ (σ.1 161 6 ≤ σ.1 146 7 → InR (σ.1 161 3) ∧ (σ.1 161 3 ≠ (-1) → CI X 283 [vI (σ.1 146 6)] σ (fun r76 τ19 => InR (σ.1 161 4) ∧ InR r76 ∧ Q none (up2 τ19.1 161 4 (max (σ.1 161 4) r76), τ19.2))) ∧ (¬ σ.1 161 3 ≠ (-1) → InR (σ.1 146 4) ∧ (σ.1 146 4 ≤ 0 → CI X 283 [vI (σ.1 146 6)] σ (fun r80 τ20 => InR (σ.1 161 4) ∧ InR r80 ∧ Q none (up2 τ20.1 161 4 (max (σ.1 161 4) r80), τ20.2))) ∧ (¬ σ.1 146 4 ≤ 0 → CI X 283 [vI (σ.1 146 6)] (up2 σ.1 161 3 a1, σ.2) (fun r83 τ21 => InR (σ.1 161 4) ∧ InR r83 ∧ Q none (up2 τ21.1 161 4 (max (σ.1 161 4) r83), τ21.2))))) ∧ (¬ σ.1 161 6 ≤ σ.1 146 7 → InR (σ.1 161 3) ∧ (σ.1 161 3 ≠ (-1) → CI X 283 [vI (σ.1 146 6)] (up2 (up2 σ.1 161 5 (σ.1 146 2)) 161 6 (σ.1 146 7), σ.2) (fun r87 τ22 => InR (σ.1 161 4) ∧ InR r87 ∧ Q none (up2 τ22.1 161 4 (max (σ.1 161 4) r87), τ22.2))) ∧ (¬ σ.1 161 3 ≠ (-1) → InR (σ.1 146 4) ∧ (σ.1 146 4 ≤ 0 → CI X 283 [vI (σ.1 146 6)] (up2 (up2 σ.1 161 5 (σ.1 146 2)) 161 6 (σ.1 146 7), σ.2) (fun r91 τ23 => InR (σ.1 161 4) ∧ InR r91 ∧ Q none (up2 τ23.1 161 4 (max (σ.1 161 4) r91), τ23.2))) ∧ (¬ σ.1 146 4 ≤ 0 → CI X 283 [vI (σ.1 146 6)] (up2 (up2 (up2 σ.1 161 5 (σ.1 146 2)) 161 6 (σ.1 146 7)) 161 3 a1, σ.2) (fun r94 τ24 => InR (σ.1 161 4) ∧ InR r94 ∧ Q none (up2 τ24.1 161 4 (max (σ.1 161 4) r94), τ24.2)))))))) ∧ (¬ a3 < 0 → (7 ≤ a3 → (a2 ≠ 0 → InR (σ.1 161 3) ∧ (σ.1 161 3 ≠ (-1) → CI X 283 [vI (σ.1 146 6)] σ (fun r98 τ25 => InR (σ.1 161 4) ∧ InR r98 ∧ Q none (up2 τ25.1 161 4 (max (σ.1 161 4) r98), τ25.2))) ∧ (¬ σ.1 161 3 ≠ (-1) → InR (σ.1 146 4) ∧ (σ.1 146 4 ≤ 0 → CI X 283 [vI (σ.1 146 6)] σ (fun r102 τ26 => InR (σ.1 161 4) ∧ InR r102 ∧ Q none (up2 τ26.1 161 4 (max (σ.1 161 4) r102), τ26.2))) ∧ (¬ σ.1 146 4 ≤ 0 → CI X 283 [vI (σ.1 146 6)] (up2 σ.1 161 3 a1, σ.2) (fun r105 τ27 => InR (σ.1 161 4) ∧ InR r105 ∧ Q none (up2 τ27.1 161 4 (max (σ.1 161 4) r105), τ27.2))))) ∧ (¬ a2 ≠ 0 → InR (σ.1 161 5) ∧ (σ.1 161 5 = (-1) → InR (σ.1 161 3) ∧ (σ.1 161 3 ≠ (-1) → CI X 283 [vI (σ.1 146 6)] (up2 (up2 σ.1 161 5 (σ.1 146 2)) 161 6 (σ.1 146 7), σ.2) (fun r110 τ28 => InR (σ.1 161 4) ∧ InR r110 ∧ Q none (up2 τ28.1 161 4 (max (σ.1 161 4) r110), τ28.2))) ∧ (¬ σ.1 161 3 ≠ (-1) → InR (σ.1 146 4) ∧ (σ.1 146 4 ≤ 0 → CI X 283 [vI (σ.1 146 6)] (up2 (up2 σ.1 161 5 (σ.1 146 2)) 161 6 (σ.1 146 7), σ.2) (fun r114 τ29 => InR (σ.1 161 4) ∧ InR r114 ∧ Q none (up2 τ29.1 161 4 (max (σ.1 161 4) r114), τ29.2))) ∧ (¬ σ.1 146 4 ≤ 0 → CI X 283 [vI (σ.1 146 6)] (up2 (up2 (up2 σ.1 161 5 (σ.1 146 2)) 161 6 (σ.1 146 7)) 161 3 a1, σ.2) (fun r117 τ30 => InR (σ.1 161 4) ∧ InR r117 ∧ Q none (up2 τ30.1 161 4 (max (σ.1 161 4) r117), τ30.2))))) ∧ (¬ σ.1 161 5 = (-1) → InR (σ.1 146 7) ∧ InR (σ.1 161 6) ∧ (σ.1 161 6 ≤ σ.1 146 7 → InR (σ.1 161 3) ∧ (σ.1 161 3 ≠ (-1) → CI X 283 [vI (σ.1 146 6)] σ (fun r123 τ31 => InR (σ.1 161 4) ∧ InR r123 ∧ Q none (up2 τ31.1 161 4 (max (σ.1 161 4) r123), τ31.2))) ∧ (¬ σ.1 161 3 ≠ (-1) → InR (σ.1 146 4) ∧ (σ.1 146 4 ≤ 0 → CI X 283 [vI (σ.1 146 6)] σ (fun r127 τ32 => InR (σ.1 161 4) ∧ InR r127 ∧ Q none (up2 τ32.1 161 4 (max (σ.1 161 4) r127), τ32.2))) ∧ (¬ σ.1 146 4 ≤ 0 → CI X 283 [vI (σ.1 146 6)] (up2 σ.1 161 3 a1, σ.2) (fun r130 τ33 => InR (σ.1 161 4) ∧ InR r130 ∧ Q none (up2 τ33.1 161 4 (max (σ.1 161 4) r130), τ33.2))))) ∧ (¬ σ.1 161 6 ≤ σ.1 146 7 → InR (σ.1 161 3) ∧ (σ.1 161 3 ≠ (-1) → CI X 283 [vI (σ.1 146 6)] (up2 (up2 σ.1 161 5 (σ.1 146 2)) 161 6 (σ.1 146 7), σ.2) (fun r134 τ34 => InR (σ.1 161 4) ∧ InR r134 ∧ Q none (up2 τ34.1 161 4 (max (σ.1 161 4) r134), τ34.2))) ∧ (¬ σ.1 161 3 ≠ (-1) → InR (σ.1 146 4) ∧ (σ.1 146 4 ≤ 0 → CI X 283 [vI (σ.1 146 6)] (up2 (up2 σ.1 161 5 (σ.1 146 2)) 161 6 (σ.1 146 7), σ.2) (fun r138 τ35 => InR (σ.1 161 4) ∧ InR r138 ∧ Q none (up2 τ35.1 161 4 (max (σ.1 161 4) r138), τ35.2))) ∧ (¬ σ.1 146 4 ≤ 0 → CI X 283 [vI (σ.1 146 6)] (up2 (up2 (up2 σ.1 161 5 (σ.1 146 2)) 161 6 (σ.1 146 7)) 161 3 a1, σ.2) (fun r141 τ36 => InR (σ.1 161 4) ∧ InR r141 ∧ Q none (up2 τ36.1 161 4 (max (σ.1 161 4) r141), τ36.2)))))))) ∧ (¬ 7 ≤ a3 → (0 ≤ a3 ∧ a3 < 7) ∧ (a2 ≠ 0 → InR (σ.1 161 3) ∧ (σ.1 161 3 ≠ (-1) → CI X 283 [vI (σ.1 146 6)] (up2 σ.1 161 2 ((σ.1 161 2) + (σ.1 147 1)), up2 σ.2 162 a3.toNat ((σ.2 162 a3.toNat) + 1)) (fun r146 τ37 => InR (σ.1 161 4) ∧ InR r146 ∧ Q none (up2 τ37.1 161 4 (max (σ.1 161 4) r146), τ37.2))) ∧ (¬ σ.1 161 3 ≠ (-1) → InR (σ.1 146 4) ∧ (σ.1 146 4 ≤ 0 → CI X 283 [vI (σ.1 146 6)] (up2 σ.1 161 2 ((σ.1 161 2) + (σ.1 147 1)), up2 σ.2 162 a3.toNat ((σ.2 162 a3.toNat) + 1)) (fun r150 τ38 => InR (σ.1 161 4) ∧ InR r150 ∧ Q none (up2 τ38.1 161 4 (max (σ.1 161 4) r150), τ38.2))) ∧ (¬ σ.1 146 4 ≤ 0 → CI X 283 [vI (σ.1 146 6)] (up2 (up2 σ.1 161 2 ((σ.1 161 2) + (σ.1 147 1))) 161 3 a1, up2 σ.2 162 a3.toNat ((σ.2 162 a3.toNat) + 1)) (fun r153 τ39 => InR (σ.1 161 4) ∧ InR r153 ∧ Q none (up2 τ39.1 161 4 (max (σ.1 161 4) r153), τ39.2))))) ∧ (¬ a2 ≠ 0 → InR (σ.1 161 5) ∧ (σ.1 161 5 = (-1) → InR (σ.1 161 3) ∧ (σ.1 161 3 ≠ (-1) → CI X 283 [vI (σ.1 146 6)] (up2 (up2 (up2 σ.1 161 2 ((σ.1 161 2) + (σ.1 147 1))) 161 5 (σ.1 146 2)) 161 6 (σ.1 146 7), up2 σ.2 162 a3.toNat ((σ.2 162 a3.toNat) + 1)) (fun r158 τ40 => InR (σ.1 161 4) ∧ InR r158 ∧ Q none (up2 τ40.1 161 4 (max (σ.1 161 4) r158), τ40.2))) ∧ (¬ σ.1 161 3 ≠ (-1) → InR (σ.1 146 4) ∧ (σ.1 146 4 ≤ 0 → CI X 283 [vI (σ.1 146 6)] (up2 (up2 (up2 σ.1 161 2 ((σ.1 161 2) + (σ.1 147 1))) 161 5 (σ.1 146 2)) 161 6 (σ.1 146 7), up2 σ.2 162 a3.toNat ((σ.2 162 a3.toNat) + 1)) (fun r162 τ41 => InR (σ.1 161 4) ∧ InR r162 ∧ Q none (up2 τ41.1 161 4 (max (σ.1 161 4) r162), τ41.2))) ∧ (¬ σ.1 146 4 ≤ 0 → CI X 283 [vI (σ.1 146 6)] (up2 (up2 (up2 (up2 σ.1 161 2 ((σ.1 161 2) + (σ.1 147 1))) 161 5 (σ.1 146 2)) 161 6 (σ.1 146 7)) 161 3 a1, up2 σ.2 162 a3.toNat ((σ.2 162 a3.toNat) + 1)) (fun r165 τ42 => InR (σ.1 161 4) ∧ InR r165 ∧ Q none (up2 τ42.1 161 4 (max (σ.1 161 4) r165), τ42.2))))) ∧ (¬ σ.1 161 5 = (-1) → InR (σ.1 146 7) ∧ InR (σ.1 161 6) ∧ (σ.1 161 6 ≤ σ.1 146 7 → InR (σ.1 161 3) ∧ (σ.1 161 3 ≠ (-1) → CI X 283 [vI (σ.1 146 6)] (up2 σ.1 161 2 ((σ.1 161 2) + (σ.1 147 1)), up2 σ.2 162 a3.toNat ((σ.2 162 a3.toNat) + 1)) (fun r171 τ43 => InR (σ.1 161 4) ∧ InR r171 ∧ Q none (up2 τ43.1 161 4 (max (σ.1 161 4) r171), τ43.2))) ∧ (¬ σ.1 161 3 ≠ (-1) → InR (σ.1 146 4) ∧ (σ.1 146 4 ≤ 0 → CI X 283 [vI (σ.1 146 6)] (up2 σ.1 161 2 ((σ.1 161 2) + (σ.1 147 1)), up2 σ.2 162 a3.toNat ((σ.2 162 a3.toNat) + 1)) (fun r175 τ44 => InR (σ.1 161 4) ∧ InR r175 ∧ Q none (up2 τ44.1 161 4 (max (σ.1 161 4) r175), τ44.2))) ∧ (¬ σ.1 146 4 ≤ 0 → CI X 283 [vI (σ.1 146 6)] (up2 (up2 σ.1 161 2 ((σ.1 161 2) + (σ.1 147 1))) 161 3 a1, up2 σ.2 162 a3.toNat ((σ.2 162 a3.toNat) + 1)) (fun r178 τ45 => InR (σ.1 161 4) ∧ InR r178 ∧ Q none (up2 τ45.1 161 4 (max (σ.1 161 4) r178), τ45.2))))) ∧ (¬ σ.1 161 6 ≤ σ.1 146 7 → InR (σ.1 161 3) ∧ (σ.1 161 3 ≠ (-1) → CI X 283 [vI (σ.1 146 6)] (up2 (up2 (up2 σ.1 161 2 ((σ.1 161 2) + (σ.1 147 1))) 161 5 (σ.1 146 2)) 161 6 (σ.1 146 7), up2 σ.2 162 a3.toNat ((σ.2 162 a3.toNat) + 1)) (fun r182 τ46 => InR (σ.1 161 4) ∧ InR r182 ∧ Q none (up2 τ46.1 161 4 (max (σ.1 161 4) r182), τ46.2))) ∧ (¬ σ.1 161 3 ≠ (-1) → InR (σ.1 146 4) ∧ (σ.1 146 4 ≤ 0 → CI X 283 [vI (σ.1 146 6)] (up2 (up2 (up2 σ.1 161 2 ((σ.1 161 2) + (σ.1 147 1))) 161 5 (σ.1 146 2)) 161 6 (σ.1 146 7), up2 σ.2 162 a3.toNat ((σ.2 162 a3.toNat) + 1)) (fun r186 τ47 => InR (σ.1 161 4) ∧ InR r186 ∧ Q none (up2 τ47.1 161 4 (max (σ.1 161 4) r186), τ47.2))) ∧ (¬ σ.1 146 4 ≤ 0 → CI X 283 [vI (σ.1 146 6)] (up2 (up2 (up2 (up2 σ.1 161 2 ((σ.1 161 2) + (σ.1 147 1))) 161 5 (σ.1 146 2)) 161 6 (σ.1 146 7)) 161 3 a1, up2 σ.2 162 a3.toNat ((σ.2 162 a3.toNat) + 1)) (fun r189 τ48 => InR (σ.1 161 4) ∧ InR r189 ∧ Q none (up2 τ48.1 161 4 (max (σ.1 161 4) r189), τ48.2))))))))))) : Cl X 2 [vR (some 161), vI a1, vI a2, vI a3] σ Q := by
  have hcd : cds 2 = cd_2 := rfl
  refine c_in (Nat.le_of_ble_eq_true rfl) rfl rfl ?_
  show Ev X 2 0 [some (vR (some 161)), some (vI a1), some (vI a2), some (vI a3)] [] σ Q
  iterate 2 (refine e_nx hcd rfl rfl ?_)
  obtain ⟨h1, H⟩ := H
  refine r_icmp hcd rfl h1 (by omega) (fun hc => ?_) (fun hc => ?_)
  · replace H := H.1 hc
    refine e_nx hcd rfl rfl ?_
    refine r_if hcd rfl h1 (fun hc => ?_) (fun hc => ?_)
    · replace H := H.1 hc
      refine e_nx hcd rfl rfl ?_
      refine r_getI hcd rfl rfl rfl ?_
      refine e_nx hcd rfl rfl ?_
      obtain ⟨h2, H⟩ := H
      refine r_icmp hcd rfl h2 (by omega) (fun hc => ?_) (fun hc => ?_)
      · replace H := H.1 hc
        iterate 2 (refine e_nx hcd rfl rfl ?_)
        refine r_getI hcd rfl rfl rfl ?_
        refine e_nx hcd rfl rfl ?_
        refine r_getR hcd rfl rfl rfl ?_
        refine r_getI hcd rfl rfl rfl ?_
        refine r_cs hcd rfl (by omega) (Nat.le_of_ble_eq_true rfl) rfl rfl (Nat.le_of_ble_eq_true rfl) ?_
        refine Cl.mono H (fun v τ1 hq => ?_)
        obtain ⟨r3, rfl, H⟩ := hq
        show Ev X 2 65 _ [vI r3, vI (σ.1 161 4), vR (some 161)] τ1 Q
        obtain ⟨h4, H⟩ := H
        obtain ⟨h5, H⟩ := H
        refine r_max hcd rfl h4 h5 (Nat.le_of_ble_eq_true rfl) ?_
        refine r_putI hcd rfl rfl rfl rfl ?_
        exact r_vret hcd rfl rfl rfl H
      · replace H := H.2 hc
        refine e_nx hcd rfl rfl ?_
        refine r_getR hcd rfl rfl rfl ?_
        refine r_getI hcd rfl rfl rfl ?_
        obtain ⟨h6, H⟩ := H
        refine r_if hcd rfl h6 (fun hc => ?_) (fun hc => ?_)
        · replace H := H.1 hc
          iterate 2 (refine e_nx hcd rfl rfl ?_)
          refine r_getI hcd rfl rfl rfl ?_
          refine e_nx hcd rfl rfl ?_
          refine r_getR hcd rfl rfl rfl ?_
          refine r_getI hcd rfl rfl rfl ?_
          refine r_cs hcd rfl (by omega) (Nat.le_of_ble_eq_true rfl) rfl rfl (Nat.le_of_ble_eq_true rfl) ?_
          refine Cl.mono H (fun v τ2 hq => ?_)
          obtain ⟨r7, rfl, H⟩ := hq
          show Ev X 2 65 _ [vI r7, vI (σ.1 161 4), vR (some 161)] τ2 Q
          obtain ⟨h8, H⟩ := H
          obtain ⟨h9, H⟩ := H
          refine r_max hcd rfl h8 h9 (Nat.le_of_ble_eq_true rfl) ?_
          refine r_putI hcd rfl rfl rfl rfl ?_
          exact r_vret hcd rfl rfl rfl H
        · replace H := H.2 hc
          iterate 2 (refine e_nx hcd rfl rfl ?_)
          refine r_putI hcd rfl rfl rfl rfl ?_
          iterate 2 (refine e_nx hcd rfl rfl ?_)
          refine r_getI hcd rfl rfl rfl ?_
          show Ev X 2 61 _ [vI (σ.1 161 4), vR (some 161)] _ Q
          refine e_nx hcd rfl rfl ?_
          refine r_getR hcd rfl rfl rfl ?_
          refine r_getI hcd rfl rfl rfl ?_
          show Ev X 2 64 _ [vI (σ.1 146 6), vI (σ.1 161 4), vR (some 161)] _ Q
          refine r_cs hcd rfl (by omega) (Nat.le_of_ble_eq_true rfl) rfl rfl (Nat.le_of_ble_eq_true rfl) ?_
          refine Cl.mono H (fun v τ3 hq => ?_)
          obtain ⟨r10, rfl, H⟩ := hq
          show Ev X 2 65 _ [vI r10, vI (σ.1 161 4), vR (some 161)] τ3 Q
          obtain ⟨h11, H⟩ := H
          obtain ⟨h12, H⟩ := H
          refine r_max hcd rfl h11 h12 (Nat.le_of_ble_eq_true rfl) ?_
          refine r_putI hcd rfl rfl rfl rfl ?_
          exact r_vret hcd rfl rfl rfl H
    · replace H := H.2 hc
      refine e_nx hcd rfl rfl ?_
      refine r_getI hcd rfl rfl rfl ?_
      refine e_nx hcd rfl rfl ?_
      obtain ⟨h13, H⟩ := H
      refine r_icmp hcd rfl h13 (by omega) (fun hc => ?_) (fun hc => ?_)
      · replace H := H.1 hc
        iterate 2 (refine e_nx hcd rfl rfl ?_)
        refine r_getR hcd rfl rfl rfl ?_
        refine r_getI hcd rfl rfl rfl ?_
        refine r_putI hcd rfl rfl rfl rfl ?_
        iterate 2 (refine e_nx hcd rfl rfl ?_)
        refine r_getR hcd rfl rfl rfl ?_
        refine r_getI hcd rfl rfl rfl ?_
        show Ev X 2 46 _ [vI (σ.1 146 7), vR (some 161)] _ Q
        refine r_putI hcd rfl rfl rfl rfl ?_
        refine e_nx hcd rfl rfl ?_
        refine r_getI hcd rfl rfl rfl ?_
        show Ev X 2 49 _ [vI (σ.1 161 3)] _ Q
        refine e_nx hcd rfl rfl ?_
        obtain ⟨h14, H⟩ := H
        refine r_icmp hcd rfl h14 (by omega) (fun hc => ?_) (fun hc => ?_)
        · replace H := H.1 hc
          iterate 2 (refine e_nx hcd rfl rfl ?_)
          refine r_getI hcd rfl rfl rfl ?_
          show Ev X 2 61 _ [vI (σ.1 161 4), vR (some 161)] _ Q
          refine e_nx hcd rfl rfl ?_
          refine r_getR hcd rfl rfl rfl ?_
          refine r_getI hcd rfl rfl rfl ?_
          show Ev X 2 64 _ [vI (σ.1 146 6), vI (σ.1 161 4), vR (some 161)] _ Q
          refine r_cs hcd rfl (by omega) (Nat.le_of_ble_eq_true rfl) rfl rfl (Nat.le_of_ble_eq_true rfl) ?_
          refine Cl.mono H (fun v τ4 hq => ?_)
          obtain ⟨r15, rfl, H⟩ := hq
          show Ev X 2 65 _ [vI r15, vI (σ.1 161 4), vR (some 161)] τ4 Q
          obtain ⟨h16, H⟩ := H
          obtain ⟨h17, H⟩ := H
          refine r_max hcd rfl h16 h17 (Nat.le_of_ble_eq_true rfl) ?_
          refine r_putI hcd rfl rfl rfl rfl ?_
          exact r_vret hcd rfl rfl rfl H
        · replace H := H.2 hc
          refine e_nx hcd rfl rfl ?_
          refine r_getR hcd rfl rfl rfl ?_
          refine r_getI hcd rfl rfl rfl ?_
          show Ev X 2 54 _ [vI (σ.1 146 4)] _ Q
          obtain ⟨h18, H⟩ := H
          refine r_if hcd rfl h18 (fun hc => ?_) (fun hc => ?_)
          · replace H := H.1 hc
            iterate 2 (refine e_nx hcd rfl rfl ?_)
            refine r_getI hcd rfl rfl rfl ?_
            show Ev X 2 61 _ [vI (σ.1 161 4), vR (some 161)] _ Q
            refine e_nx hcd rfl rfl ?_
            refine r_getR hcd rfl rfl rfl ?_
            refine r_getI hcd rfl rfl rfl ?_
            show Ev X 2 64 _ [vI (σ.1 146 6), vI (σ.1 161 4), vR (some 161)] _ Q
            refine r_cs hcd rfl (by omega) (Nat.le_of_ble_eq_true rfl) rfl rfl (Nat.le_of_ble_eq_true rfl) ?_
            refine Cl.mono H (fun v τ5 hq => ?_)
            obtain ⟨r19, rfl, H⟩ := hq
            show Ev X 2 65 _ [vI r19, vI (σ.1 161 4), vR (some 161)] τ5 Q
            obtain ⟨h20, H⟩ := H
            obtain ⟨h21, H⟩ := H
            refine r_max hcd rfl h20 h21 (Nat.le_of_ble_eq_true rfl) ?_
            refine r_putI hcd rfl rfl rfl rfl ?_
            exact r_vret hcd rfl rfl rfl H
          · replace H := H.2 hc
            iterate 2 (refine e_nx hcd rfl rfl ?_)
            refine r_putI hcd rfl rfl rfl rfl ?_
            iterate 2 (refine e_nx hcd rfl rfl ?_)
            refine r_getI hcd rfl rfl rfl ?_
            show Ev X 2 61 _ [vI (σ.1 161 4), vR (some 161)] _ Q
            refine e_nx hcd rfl rfl ?_
            refine r_getR hcd rfl rfl rfl ?_
            refine r_getI hcd rfl rfl rfl ?_
            show Ev X 2 64 _ [vI (σ.1 146 6), vI (σ.1 161 4), vR (some 161)] _ Q
            refine r_cs hcd rfl (by omega) (Nat.le_of_ble_eq_true rfl) rfl rfl (Nat.le_of_ble_eq_true rfl) ?_
            refine Cl.mono H (fun v τ6 hq => ?_)
            obtain ⟨r22, rfl, H⟩ := hq
            show Ev X 2 65 _ [vI r22, vI (σ.1 161 4), vR (some 161)] τ6 Q
            obtain ⟨h23, H⟩ := H
            obtain ⟨h24, H⟩ := H
            refine r_max hcd rfl h23 h24 (Nat.le_of_ble_eq_true rfl) ?_
            refine r_putI hcd rfl rfl rfl rfl ?_
            exact r_vret hcd rfl rfl rfl H
      · replace H := H.2 hc
        refine e_nx hcd rfl rfl ?_
        refine r_getR hcd rfl rfl rfl ?_
        refine r_getI hcd rfl rfl rfl ?_
        refine e_nx hcd rfl rfl ?_
        refine r_getI hcd rfl rfl rfl ?_
        obtain ⟨h25, H⟩ := H
        obtain ⟨h26, H⟩ := H
        refine r_icmp hcd rfl h25 h26 (fun hc => ?_) (fun hc => ?_)
        · replace H := H.1 hc
          refine e_nx hcd rfl rfl ?_
          refine r_getI hcd rfl rfl rfl ?_
          refine e_nx hcd rfl rfl ?_
          obtain ⟨h27, H⟩ := H
          refine r_icmp hcd rfl h27 (by omega) (fun hc => ?_) (fun hc => ?_)
          · replace H := H.1 hc
            iterate 2 (refine e_nx hcd rfl rfl ?_)
            refine r_getI hcd rfl rfl rfl ?_
            refine e_nx hcd rfl rfl ?_
            refine r_getR hcd rfl rfl rfl ?_
            refine r_getI hcd rfl rfl rfl ?_
            refine r_cs hcd rfl (by omega) (Nat.le_of_ble_eq_true rfl) rfl rfl (Nat.le_of_ble_eq_true rfl) ?_
            refine Cl.mono H (fun v τ7 hq => ?_)
            obtain ⟨r28, rfl, H⟩ := hq
            show Ev X 2 65 _ [vI r28, vI (σ.1 161 4), vR (some 161)] τ7 Q
            obtain ⟨h29, H⟩ := H
            obtain ⟨h30, H⟩ := H
            refine r_max hcd rfl h29 h30 (Nat.le_of_ble_eq_true rfl) ?_
            refine r_putI hcd rfl rfl rfl rfl ?_
            exact r_vret hcd rfl rfl rfl H
          · replace H := H.2 hc
            refine e_nx hcd rfl rfl ?_
            refine r_getR hcd rfl rfl rfl ?_
            refine r_getI hcd rfl rfl rfl ?_
            obtain ⟨h31, H⟩ := H
            refine r_if hcd rfl h31 (fun hc => ?_) (fun hc => ?_)
            · replace H := H.1 hc
              iterate 2 (refine e_nx hcd rfl rfl ?_)
              refine r_getI hcd rfl rfl rfl ?_
              refine e_nx hcd rfl rfl ?_
              refine r_getR hcd rfl rfl rfl ?_
              refine r_getI hcd rfl rfl rfl ?_
              refine r_cs hcd rfl (by omega) (Nat.le_of_ble_eq_true rfl) rfl rfl (Nat.le_of_ble_eq_true rfl) ?_
              refine Cl.mono H (fun v τ8 hq => ?_)
              obtain ⟨r32, rfl, H⟩ := hq
              show Ev X 2 65 _ [vI r32, vI (σ.1 161 4), vR (some 161)] τ8 Q
              obtain ⟨h33, H⟩ := H
              obtain ⟨h34, H⟩ := H
              refine r_max hcd rfl h33 h34 (Nat.le_of_ble_eq_true rfl) ?_
              refine r_putI hcd rfl rfl rfl rfl ?_
              exact r_vret hcd rfl rfl rfl H
            · replace H := H.2 hc
              iterate 2 (refine e_nx hcd rfl rfl ?_)
              refine r_putI hcd rfl rfl rfl rfl ?_
              iterate 2 (refine e_nx hcd rfl rfl ?_)
              refine r_getI hcd rfl rfl rfl ?_
              show Ev X 2 61 _ [vI (σ.1 161 4), vR (some 161)] _ Q
              refine e_nx hcd rfl rfl ?_
              refine r_getR hcd rfl rfl rfl ?_
              refine r_getI hcd rfl rfl rfl ?_
              show Ev X 2 64 _ [vI (σ.1 146 6), vI (σ.1 161 4), vR (some 161)] _ Q
              refine r_cs hcd rfl (by omega) (Nat.le_of_ble_eq_true rfl) rfl rfl (Nat.le_of_ble_eq_true rfl) ?_
              refine Cl.mono H (fun v τ9 hq => ?_)
              obtain ⟨r35, rfl, H⟩ := hq
              show Ev X 2 65 _ [vI r35, vI (σ.1 161 4), vR (some 161)] τ9 Q
              obtain ⟨h36, H⟩ := H
              obtain ⟨h37, H⟩ := H
              refine r_max hcd rfl h36 h37 (Nat.le_of_ble_eq_true rfl) ?_
              refine r_putI hcd rfl rfl rfl rfl ?_
              exact r_vret hcd rfl rfl rfl H
        · replace H := H.2 hc
          iterate 2 (refine e_nx hcd rfl rfl ?_)
          refine r_getR hcd rfl rfl rfl ?_
          refine r_getI hcd rfl rfl rfl ?_
          refine r_putI hcd rfl rfl rfl rfl ?_
          iterate 2 (refine e_nx hcd rfl rfl ?_)
          refine r_getR hcd rfl rfl rfl ?_
          refine r_getI hcd rfl rfl rfl ?_
          show Ev X 2 46 _ [vI (σ.1 146 7), vR (some 161)] _ Q
          refine r_putI hcd rfl rfl rfl rfl ?_
          refine e_nx hcd rfl rfl ?_
          refine r_getI hcd rfl rfl rfl ?_
          show Ev X 2 49 _ [vI (σ.1 161 3)] _ Q
          refine e_nx hcd rfl rfl ?_
          obtain ⟨h38, H⟩ := H
          refine r_icmp hcd rfl h38 (by omega) (fun hc => ?_) (fun hc => ?_)
          · replace H := H.1 hc
            iterate 2 (refine e_nx hcd rfl rfl ?_)
            refine r_getI hcd rfl rfl rfl ?_
            show Ev X 2 61 _ [vI (σ.1 161 4), vR (some 161)] _ Q
            refine e_nx hcd rfl rfl ?_
            refine r_getR hcd rfl rfl rfl ?_
            refine r_getI hcd rfl rfl rfl ?_
            show Ev X 2 64 _ [vI (σ.1 146 6), vI (σ.1 161 4), vR (some 161)] _ Q
            refine r_cs hcd rfl (by omega) (Nat.le_of_ble_eq_true rfl) rfl rfl (Nat.le_of_ble_eq_true rfl) ?_
            refine Cl.mono H (fun v τ10 hq => ?_)
            obtain ⟨r39, rfl, H⟩ := hq
            show Ev X 2 65 _ [vI r39, vI (σ.1 161 4), vR (some 161)] τ10 Q
            obtain ⟨h40, H⟩ := H
            obtain ⟨h41, H⟩ := H
            refine r_max hcd rfl h40 h41 (Nat.le_of_ble_eq_true rfl) ?_
            refine r_putI hcd rfl rfl rfl rfl ?_
            exact r_vret hcd rfl rfl rfl H
          · replace H := H.2 hc
            refine e_nx hcd rfl rfl ?_
            refine r_getR hcd rfl rfl rfl ?_
            refine r_getI hcd rfl rfl rfl ?_
            show Ev X 2 54 _ [vI (σ.1 146 4)] _ Q
            obtain ⟨h42, H⟩ := H
            refine r_if hcd rfl h42 (fun hc => ?_) (fun hc => ?_)
            · replace H := H.1 hc
              iterate 2 (refine e_nx hcd rfl rfl ?_)
              refine r_getI hcd rfl rfl rfl ?_
              show Ev X 2 61 _ [vI (σ.1 161 4), vR (some 161)] _ Q
              refine e_nx hcd rfl rfl ?_
              refine r_getR hcd rfl rfl rfl ?_
              refine r_getI hcd rfl rfl rfl ?_
              show Ev X 2 64 _ [vI (σ.1 146 6), vI (σ.1 161 4), vR (some 161)] _ Q
              refine r_cs hcd rfl (by omega) (Nat.le_of_ble_eq_true rfl) rfl rfl (Nat.le_of_ble_eq_true rfl) ?_
              refine Cl.mono H (fun v τ11 hq => ?_)
              obtain ⟨r43, rfl, H⟩ := hq
              show Ev X 2 65 _ [vI r43, vI (σ.1 161 4), vR (some 161)] τ11 Q
              obtain ⟨h44, H⟩ := H
              obtain ⟨h45, H⟩ := H
              refine r_max hcd rfl h44 h45 (Nat.le_of_ble_eq_true rfl) ?_
              refine r_putI hcd rfl rfl rfl rfl ?_
              exact r_vret hcd rfl rfl rfl H
            · replace H := H.2 hc
              iterate 2 (refine e_nx hcd rfl rfl ?_)
              refine r_putI hcd rfl rfl rfl rfl ?_
              iterate 2 (refine e_nx hcd rfl rfl ?_)
              refine r_getI hcd rfl rfl rfl ?_
              show Ev X 2 61 _ [vI (σ.1 161 4), vR (some 161)] _ Q
              refine e_nx hcd rfl rfl ?_
              refine r_getR hcd rfl rfl rfl ?_
              refine r_getI hcd rfl rfl rfl ?_
              show Ev X 2 64 _ [vI (σ.1 146 6), vI (σ.1 161 4), vR (some 161)] _ Q
              refine r_cs hcd rfl (by omega) (Nat.le_of_ble_eq_true rfl) rfl rfl (Nat.le_of_ble_eq_true rfl) ?_
              refine Cl.mono H (fun v τ12 hq => ?_)
              obtain ⟨r46, rfl, H⟩ := hq
              show Ev X 2 65 _ [vI r46, vI (σ.1 161 4), vR (some 161)] τ12 Q
              obtain ⟨h47, H⟩ := H
              obtain ⟨h48, H⟩ := H
              refine r_max hcd rfl h47 h48 (Nat.le_of_ble_eq_true rfl) ?_
              refine r_putI hcd rfl rfl rfl rfl ?_
              exact r_vret hcd rfl rfl rfl H
  · replace H := H.2 hc
    refine e_nx hcd rfl rfl ?_
    obtain ⟨h49, H⟩ := H
    refine r_if hcd rfl h49 (fun hc => ?_) (fun hc => ?_)
    · replace H := H.1 hc
      refine e_nx hcd rfl rfl ?_
      refine r_if hcd rfl h1 (fun hc => ?_) (fun hc => ?_)
      · replace H := H.1 hc
        refine e_nx hcd rfl rfl ?_
        refine r_getI hcd rfl rfl rfl ?_
        refine e_nx hcd rfl rfl ?_
        obtain ⟨h50, H⟩ := H
        refine r_icmp hcd rfl h50 (by omega) (fun hc => ?_) (fun hc => ?_)
        · replace H := H.1 hc
          iterate 2 (refine e_nx hcd rfl rfl ?_)
          refine r_getI hcd rfl rfl rfl ?_
          refine e_nx hcd rfl rfl ?_
          refine r_getR hcd rfl rfl rfl ?_
          refine r_getI hcd rfl rfl rfl ?_
          refine r_cs hcd rfl (by omega) (Nat.le_of_ble_eq_true rfl) rfl rfl (Nat.le_of_ble_eq_true rfl) ?_
          refine Cl.mono H (fun v τ13 hq => ?_)
          obtain ⟨r51, rfl, H⟩ := hq
          show Ev X 2 65 _ [vI r51, vI (σ.1 161 4), vR (some 161)] τ13 Q
          obtain ⟨h52, H⟩ := H
          obtain ⟨h53, H⟩ := H
          refine r_max hcd rfl h52 h53 (Nat.le_of_ble_eq_true rfl) ?_
          refine r_putI hcd rfl rfl rfl rfl ?_
          exact r_vret hcd rfl rfl rfl H
        · replace H := H.2 hc
          refine e_nx hcd rfl rfl ?_
          refine r_getR hcd rfl rfl rfl ?_
          refine r_getI hcd rfl rfl rfl ?_
          obtain ⟨h54, H⟩ := H
          refine r_if hcd rfl h54 (fun hc => ?_) (fun hc => ?_)
          · replace H := H.1 hc
            iterate 2 (refine e_nx hcd rfl rfl ?_)
            refine r_getI hcd rfl rfl rfl ?_
            refine e_nx hcd rfl rfl ?_
            refine r_getR hcd rfl rfl rfl ?_
            refine r_getI hcd rfl rfl rfl ?_
            refine r_cs hcd rfl (by omega) (Nat.le_of_ble_eq_true rfl) rfl rfl (Nat.le_of_ble_eq_true rfl) ?_
            refine Cl.mono H (fun v τ14 hq => ?_)
            obtain ⟨r55, rfl, H⟩ := hq
            show Ev X 2 65 _ [vI r55, vI (σ.1 161 4), vR (some 161)] τ14 Q
            obtain ⟨h56, H⟩ := H
            obtain ⟨h57, H⟩ := H
            refine r_max hcd rfl h56 h57 (Nat.le_of_ble_eq_true rfl) ?_
            refine r_putI hcd rfl rfl rfl rfl ?_
            exact r_vret hcd rfl rfl rfl H
          · replace H := H.2 hc
            iterate 2 (refine e_nx hcd rfl rfl ?_)
            refine r_putI hcd rfl rfl rfl rfl ?_
            iterate 2 (refine e_nx hcd rfl rfl ?_)
            refine r_getI hcd rfl rfl rfl ?_
            show Ev X 2 61 _ [vI (σ.1 161 4), vR (some 161)] _ Q
            refine e_nx hcd rfl rfl ?_
            refine r_getR hcd rfl rfl rfl ?_
            refine r_getI hcd rfl rfl rfl ?_
            show Ev X 2 64 _ [vI (σ.1 146 6), vI (σ.1 161 4), vR (some 161)] _ Q
            refine r_cs hcd rfl (by omega) (Nat.le_of_ble_eq_true rfl) rfl rfl (Nat.le_of_ble_eq_true rfl) ?_
            refine Cl.mono H (fun v τ15 hq => ?_)
            obtain ⟨r58, rfl, H⟩ := hq
            show Ev X 2 65 _ [vI r58, vI (σ.1 161 4), vR (some 161)] τ15 Q
            obtain ⟨h59, H⟩ := H
            obtain ⟨h60, H⟩ := H
            refine r_max hcd rfl h59 h60 (Nat.le_of_ble_eq_true rfl) ?_
            refine r_putI hcd rfl rfl rfl rfl ?_
            exact r_vret hcd rfl rfl rfl H
      · replace H := H.2 hc
        refine e_nx hcd rfl rfl ?_
        refine r_getI hcd rfl rfl rfl ?_
        refine e_nx hcd rfl rfl ?_
        obtain ⟨h61, H⟩ := H
        refine r_icmp hcd rfl h61 (by omega) (fun hc => ?_) (fun hc => ?_)
        · replace H := H.1 hc
          iterate 2 (refine e_nx hcd rfl rfl ?_)
          refine r_getR hcd rfl rfl rfl ?_
          refine r_getI hcd rfl rfl rfl ?_
          refine r_putI hcd rfl rfl rfl rfl ?_
          iterate 2 (refine e_nx hcd rfl rfl ?_)
          refine r_getR hcd rfl rfl rfl ?_
          refine r_getI hcd rfl rfl rfl ?_
          show Ev X 2 46 _ [vI (σ.1 146 7), vR (some 161)] _ Q
          refine r_putI hcd rfl rfl rfl rfl ?_
          refine e_nx hcd rfl rfl ?_
          refine r_getI hcd rfl rfl rfl ?_
          show Ev X 2 49 _ [vI (σ.1 161 3)] _ Q
          refine e_nx hcd rfl rfl ?_
          obtain ⟨h62, H⟩ := H
          refine r_icmp hcd rfl h62 (by omega) (fun hc => ?_) (fun hc => ?_)
          · replace H := H.1 hc
            iterate 2 (refine e_nx hcd rfl rfl ?_)
            refine r_getI hcd rfl rfl rfl ?_
            show Ev X 2 61 _ [vI (σ.1 161 4), vR (some 161)] _ Q
            refine e_nx hcd rfl rfl ?_
            refine r_getR hcd rfl rfl rfl ?_
            refine r_getI hcd rfl rfl rfl ?_
            show Ev X 2 64 _ [vI (σ.1 146 6), vI (σ.1 161 4), vR (some 161)] _ Q
            refine r_cs hcd rfl (by omega) (Nat.le_of_ble_eq_true rfl) rfl rfl (Nat.le_of_ble_eq_true rfl) ?_
            refine Cl.mono H (fun v τ16 hq => ?_)
            obtain ⟨r63, rfl, H⟩ := hq
            show Ev X 2 65 _ [vI r63, vI (σ.1 161 4), vR (some 161)] τ16 Q
            obtain ⟨h64, H⟩ := H
            obtain ⟨h65, H⟩ := H
            refine r_max hcd rfl h64 h65 (Nat.le_of_ble_eq_true rfl) ?_
            refine r_putI hcd rfl rfl rfl rfl ?_
            exact r_vret hcd rfl rfl rfl H
          · replace H := H.2 hc
            refine e_nx hcd rfl rfl ?_
            refine r_getR hcd rfl rfl rfl ?_
            refine r_getI hcd rfl rfl rfl ?_
            show Ev X 2 54 _ [vI (σ.1 146 4)] _ Q
            obtain ⟨h66, H⟩ := H
            refine r_if hcd rfl h66 (fun hc => ?_) (fun hc => ?_)
            · replace H := H.1 hc
              iterate 2 (refine e_nx hcd rfl rfl ?_)
              refine r_getI hcd rfl rfl rfl ?_
              show Ev X 2 61 _ [vI (σ.1 161 4), vR (some 161)] _ Q
              refine e_nx hcd rfl rfl ?_
              refine r_getR hcd rfl rfl rfl ?_
              refine r_getI hcd rfl rfl rfl ?_
              show Ev X 2 64 _ [vI (σ.1 146 6), vI (σ.1 161 4), vR (some 161)] _ Q
              refine r_cs hcd rfl (by omega) (Nat.le_of_ble_eq_true rfl) rfl rfl (Nat.le_of_ble_eq_true rfl) ?_
              refine Cl.mono H (fun v τ17 hq => ?_)
              obtain ⟨r67, rfl, H⟩ := hq
              show Ev X 2 65 _ [vI r67, vI (σ.1 161 4), vR (some 161)] τ17 Q
              obtain ⟨h68, H⟩ := H
              obtain ⟨h69, H⟩ := H
              refine r_max hcd rfl h68 h69 (Nat.le_of_ble_eq_true rfl) ?_
              refine r_putI hcd rfl rfl rfl rfl ?_
              exact r_vret hcd rfl rfl rfl H
            · replace H := H.2 hc
              iterate 2 (refine e_nx hcd rfl rfl ?_)
              refine r_putI hcd rfl rfl rfl rfl ?_
              iterate 2 (refine e_nx hcd rfl rfl ?_)
              refine r_getI hcd rfl rfl rfl ?_
              show Ev X 2 61 _ [vI (σ.1 161 4), vR (some 161)] _ Q
              refine e_nx hcd rfl rfl ?_
              refine r_getR hcd rfl rfl rfl ?_
              refine r_getI hcd rfl rfl rfl ?_
              show Ev X 2 64 _ [vI (σ.1 146 6), vI (σ.1 161 4), vR (some 161)] _ Q
              refine r_cs hcd rfl (by omega) (Nat.le_of_ble_eq_true rfl) rfl rfl (Nat.le_of_ble_eq_true rfl) ?_
              refine Cl.mono H (fun v τ18 hq => ?_)
              obtain ⟨r70, rfl, H⟩ := hq
              show Ev X 2 65 _ [vI r70, vI (σ.1 161 4), vR (some 161)] τ18 Q
              obtain ⟨h71, H⟩ := H
              obtain ⟨h72, H⟩ := H
              refine r_max hcd rfl h71 h72 (Nat.le_of_ble_eq_true rfl) ?_
              refine r_putI hcd rfl rfl rfl rfl ?_
              exact r_vret hcd rfl rfl rfl H
        · replace H := H.2 hc
          refine e_nx hcd rfl rfl ?_
          refine r_getR hcd rfl rfl rfl ?_
          refine r_getI hcd rfl rfl rfl ?_
          refine e_nx hcd rfl rfl ?_
          refine r_getI hcd rfl rfl rfl ?_
          obtain ⟨h73, H⟩ := H
          obtain ⟨h74, H⟩ := H
          refine r_icmp hcd rfl h73 h74 (fun hc => ?_) (fun hc => ?_)
          · replace H := H.1 hc
            refine e_nx hcd rfl rfl ?_
            refine r_getI hcd rfl rfl rfl ?_
            refine e_nx hcd rfl rfl ?_
            obtain ⟨h75, H⟩ := H
            refine r_icmp hcd rfl h75 (by omega) (fun hc => ?_) (fun hc => ?_)
            · replace H := H.1 hc
              iterate 2 (refine e_nx hcd rfl rfl ?_)
              refine r_getI hcd rfl rfl rfl ?_
              refine e_nx hcd rfl rfl ?_
              refine r_getR hcd rfl rfl rfl ?_
              refine r_getI hcd rfl rfl rfl ?_
              refine r_cs hcd rfl (by omega) (Nat.le_of_ble_eq_true rfl) rfl rfl (Nat.le_of_ble_eq_true rfl) ?_
              refine Cl.mono H (fun v τ19 hq => ?_)
              obtain ⟨r76, rfl, H⟩ := hq
              show Ev X 2 65 _ [vI r76, vI (σ.1 161 4), vR (some 161)] τ19 Q
              obtain ⟨h77, H⟩ := H
              obtain ⟨h78, H⟩ := H
              refine r_max hcd rfl h77 h78 (Nat.le_of_ble_eq_true rfl) ?_
              refine r_putI hcd rfl rfl rfl rfl ?_
              exact r_vret hcd rfl rfl rfl H
            · replace H := H.2 hc
              refine e_nx hcd rfl rfl ?_
              refine r_getR hcd rfl rfl rfl ?_
              refine r_getI hcd rfl rfl rfl ?_
              obtain ⟨h79, H⟩ := H
              refine r_if hcd rfl h79 (fun hc => ?_) (fun hc => ?_)
              · replace H := H.1 hc
                iterate 2 (refine e_nx hcd rfl rfl ?_)
                refine r_getI hcd rfl rfl rfl ?_
                refine e_nx hcd rfl rfl ?_
                refine r_getR hcd rfl rfl rfl ?_
                refine r_getI hcd rfl rfl rfl ?_
                refine r_cs hcd rfl (by omega) (Nat.le_of_ble_eq_true rfl) rfl rfl (Nat.le_of_ble_eq_true rfl) ?_
                refine Cl.mono H (fun v τ20 hq => ?_)
                obtain ⟨r80, rfl, H⟩ := hq
                show Ev X 2 65 _ [vI r80, vI (σ.1 161 4), vR (some 161)] τ20 Q
                obtain ⟨h81, H⟩ := H
                obtain ⟨h82, H⟩ := H
                refine r_max hcd rfl h81 h82 (Nat.le_of_ble_eq_true rfl) ?_
                refine r_putI hcd rfl rfl rfl rfl ?_
                exact r_vret hcd rfl rfl rfl H
              · replace H := H.2 hc
                iterate 2 (refine e_nx hcd rfl rfl ?_)
                refine r_putI hcd rfl rfl rfl rfl ?_
                iterate 2 (refine e_nx hcd rfl rfl ?_)
                refine r_getI hcd rfl rfl rfl ?_
                show Ev X 2 61 _ [vI (σ.1 161 4), vR (some 161)] _ Q
                refine e_nx hcd rfl rfl ?_
                refine r_getR hcd rfl rfl rfl ?_
                refine r_getI hcd rfl rfl rfl ?_
                show Ev X 2 64 _ [vI (σ.1 146 6), vI (σ.1 161 4), vR (some 161)] _ Q
                refine r_cs hcd rfl (by omega) (Nat.le_of_ble_eq_true rfl) rfl rfl (Nat.le_of_ble_eq_true rfl) ?_
                refine Cl.mono H (fun v τ21 hq => ?_)
                obtain ⟨r83, rfl, H⟩ := hq
                show Ev X 2 65 _ [vI r83, vI (σ.1 161 4), vR (some 161)] τ21 Q
                obtain ⟨h84, H⟩ := H
                obtain ⟨h85, H⟩ := H
                refine r_max hcd rfl h84 h85 (Nat.le_of_ble_eq_true rfl) ?_
                refine r_putI hcd rfl rfl rfl rfl ?_
                exact r_vret hcd rfl rfl rfl H
          · replace H := H.2 hc
            iterate 2 (refine e_nx hcd rfl rfl ?_)
            refine r_getR hcd rfl rfl rfl ?_
            refine r_getI hcd rfl rfl rfl ?_
            refine r_putI hcd rfl rfl rfl rfl ?_
            iterate 2 (refine e_nx hcd rfl rfl ?_)
            refine r_getR hcd rfl rfl rfl ?_
            refine r_getI hcd rfl rfl rfl ?_
            show Ev X 2 46 _ [vI (σ.1 146 7), vR (some 161)] _ Q
            refine r_putI hcd rfl rfl rfl rfl ?_
            refine e_nx hcd rfl rfl ?_
            refine r_getI hcd rfl rfl rfl ?_
            show Ev X 2 49 _ [vI (σ.1 161 3)] _ Q
            refine e_nx hcd rfl rfl ?_
            obtain ⟨h86, H⟩ := H
            refine r_icmp hcd rfl h86 (by omega) (fun hc => ?_) (fun hc => ?_)
            · replace H := H.1 hc
              iterate 2 (refine e_nx hcd rfl rfl ?_)
              refine r_getI hcd rfl rfl rfl ?_
              show Ev X 2 61 _ [vI (σ.1 161 4), vR (some 161)] _ Q
              refine e_nx hcd rfl rfl ?_
              refine r_getR hcd rfl rfl rfl ?_
              refine r_getI hcd rfl rfl rfl ?_
              show Ev X 2 64 _ [vI (σ.1 146 6), vI (σ.1 161 4), vR (some 161)] _ Q
              refine r_cs hcd rfl (by omega) (Nat.le_of_ble_eq_true rfl) rfl rfl (Nat.le_of_ble_eq_true rfl) ?_
              refine Cl.mono H (fun v τ22 hq => ?_)
              obtain ⟨r87, rfl, H⟩ := hq
              show Ev X 2 65 _ [vI r87, vI (σ.1 161 4), vR (some 161)] τ22 Q
              obtain ⟨h88, H⟩ := H
              obtain ⟨h89, H⟩ := H
              refine r_max hcd rfl h88 h89 (Nat.le_of_ble_eq_true rfl) ?_
              refine r_putI hcd rfl rfl rfl rfl ?_
              exact r_vret hcd rfl rfl rfl H
            · replace H := H.2 hc
              refine e_nx hcd rfl rfl ?_
              refine r_getR hcd rfl rfl rfl ?_
              refine r_getI hcd rfl rfl rfl ?_
              show Ev X 2 54 _ [vI (σ.1 146 4)] _ Q
              obtain ⟨h90, H⟩ := H
              refine r_if hcd rfl h90 (fun hc => ?_) (fun hc => ?_)
              · replace H := H.1 hc
                iterate 2 (refine e_nx hcd rfl rfl ?_)
                refine r_getI hcd rfl rfl rfl ?_
                show Ev X 2 61 _ [vI (σ.1 161 4), vR (some 161)] _ Q
                refine e_nx hcd rfl rfl ?_
                refine r_getR hcd rfl rfl rfl ?_
                refine r_getI hcd rfl rfl rfl ?_
                show Ev X 2 64 _ [vI (σ.1 146 6), vI (σ.1 161 4), vR (some 161)] _ Q
                refine r_cs hcd rfl (by omega) (Nat.le_of_ble_eq_true rfl) rfl rfl (Nat.le_of_ble_eq_true rfl) ?_
                refine Cl.mono H (fun v τ23 hq => ?_)
                obtain ⟨r91, rfl, H⟩ := hq
                show Ev X 2 65 _ [vI r91, vI (σ.1 161 4), vR (some 161)] τ23 Q
                obtain ⟨h92, H⟩ := H
                obtain ⟨h93, H⟩ := H
                refine r_max hcd rfl h92 h93 (Nat.le_of_ble_eq_true rfl) ?_
                refine r_putI hcd rfl rfl rfl rfl ?_
                exact r_vret hcd rfl rfl rfl H
              · replace H := H.2 hc
                iterate 2 (refine e_nx hcd rfl rfl ?_)
                refine r_putI hcd rfl rfl rfl rfl ?_
                iterate 2 (refine e_nx hcd rfl rfl ?_)
                refine r_getI hcd rfl rfl rfl ?_
                show Ev X 2 61 _ [vI (σ.1 161 4), vR (some 161)] _ Q
                refine e_nx hcd rfl rfl ?_
                refine r_getR hcd rfl rfl rfl ?_
                refine r_getI hcd rfl rfl rfl ?_
                show Ev X 2 64 _ [vI (σ.1 146 6), vI (σ.1 161 4), vR (some 161)] _ Q
                refine r_cs hcd rfl (by omega) (Nat.le_of_ble_eq_true rfl) rfl rfl (Nat.le_of_ble_eq_true rfl) ?_
                refine Cl.mono H (fun v τ24 hq => ?_)
                obtain ⟨r94, rfl, H⟩ := hq
                show Ev X 2 65 _ [vI r94, vI (σ.1 161 4), vR (some 161)] τ24 Q
                obtain ⟨h95, H⟩ := H
                obtain ⟨h96, H⟩ := H
                refine r_max hcd rfl h95 h96 (Nat.le_of_ble_eq_true rfl) ?_
                refine r_putI hcd rfl rfl rfl rfl ?_
                exact r_vret hcd rfl rfl rfl H
    · replace H := H.2 hc
      iterate 2 (refine e_nx hcd rfl rfl ?_)
      refine r_icmp hcd rfl h49 (by omega) (fun hc => ?_) (fun hc => ?_)
      · replace H := H.1 hc
        refine e_nx hcd rfl rfl ?_
        refine r_if hcd rfl h1 (fun hc => ?_) (fun hc => ?_)
        · replace H := H.1 hc
          refine e_nx hcd rfl rfl ?_
          refine r_getI hcd rfl rfl rfl ?_
          refine e_nx hcd rfl rfl ?_
          obtain ⟨h97, H⟩ := H
          refine r_icmp hcd rfl h97 (by omega) (fun hc => ?_) (fun hc => ?_)
          · replace H := H.1 hc
            iterate 2 (refine e_nx hcd rfl rfl ?_)
            refine r_getI hcd rfl rfl rfl ?_
            refine e_nx hcd rfl rfl ?_
            refine r_getR hcd rfl rfl rfl ?_
            refine r_getI hcd rfl rfl rfl ?_
            refine r_cs hcd rfl (by omega) (Nat.le_of_ble_eq_true rfl) rfl rfl (Nat.le_of_ble_eq_true rfl) ?_
            refine Cl.mono H (fun v τ25 hq => ?_)
            obtain ⟨r98, rfl, H⟩ := hq
            show Ev X 2 65 _ [vI r98, vI (σ.1 161 4), vR (some 161)] τ25 Q
            obtain ⟨h99, H⟩ := H
            obtain ⟨h100, H⟩ := H
            refine r_max hcd rfl h99 h100 (Nat.le_of_ble_eq_true rfl) ?_
            refine r_putI hcd rfl rfl rfl rfl ?_
            exact r_vret hcd rfl rfl rfl H
          · replace H := H.2 hc
            refine e_nx hcd rfl rfl ?_
            refine r_getR hcd rfl rfl rfl ?_
            refine r_getI hcd rfl rfl rfl ?_
            obtain ⟨h101, H⟩ := H
            refine r_if hcd rfl h101 (fun hc => ?_) (fun hc => ?_)
            · replace H := H.1 hc
              iterate 2 (refine e_nx hcd rfl rfl ?_)
              refine r_getI hcd rfl rfl rfl ?_
              refine e_nx hcd rfl rfl ?_
              refine r_getR hcd rfl rfl rfl ?_
              refine r_getI hcd rfl rfl rfl ?_
              refine r_cs hcd rfl (by omega) (Nat.le_of_ble_eq_true rfl) rfl rfl (Nat.le_of_ble_eq_true rfl) ?_
              refine Cl.mono H (fun v τ26 hq => ?_)
              obtain ⟨r102, rfl, H⟩ := hq
              show Ev X 2 65 _ [vI r102, vI (σ.1 161 4), vR (some 161)] τ26 Q
              obtain ⟨h103, H⟩ := H
              obtain ⟨h104, H⟩ := H
              refine r_max hcd rfl h103 h104 (Nat.le_of_ble_eq_true rfl) ?_
              refine r_putI hcd rfl rfl rfl rfl ?_
              exact r_vret hcd rfl rfl rfl H
            · replace H := H.2 hc
              iterate 2 (refine e_nx hcd rfl rfl ?_)
              refine r_putI hcd rfl rfl rfl rfl ?_
              iterate 2 (refine e_nx hcd rfl rfl ?_)
              refine r_getI hcd rfl rfl rfl ?_
              show Ev X 2 61 _ [vI (σ.1 161 4), vR (some 161)] _ Q
              refine e_nx hcd rfl rfl ?_
              refine r_getR hcd rfl rfl rfl ?_
              refine r_getI hcd rfl rfl rfl ?_
              show Ev X 2 64 _ [vI (σ.1 146 6), vI (σ.1 161 4), vR (some 161)] _ Q
              refine r_cs hcd rfl (by omega) (Nat.le_of_ble_eq_true rfl) rfl rfl (Nat.le_of_ble_eq_true rfl) ?_
              refine Cl.mono H (fun v τ27 hq => ?_)
              obtain ⟨r105, rfl, H⟩ := hq
              show Ev X 2 65 _ [vI r105, vI (σ.1 161 4), vR (some 161)] τ27 Q
              obtain ⟨h106, H⟩ := H
              obtain ⟨h107, H⟩ := H
              refine r_max hcd rfl h106 h107 (Nat.le_of_ble_eq_true rfl) ?_
              refine r_putI hcd rfl rfl rfl rfl ?_
              exact r_vret hcd rfl rfl rfl H
        · replace H := H.2 hc
          refine e_nx hcd rfl rfl ?_
          refine r_getI hcd rfl rfl rfl ?_
          refine e_nx hcd rfl rfl ?_
          obtain ⟨h108, H⟩ := H
          refine r_icmp hcd rfl h108 (by omega) (fun hc => ?_) (fun hc => ?_)
          · replace H := H.1 hc
            iterate 2 (refine e_nx hcd rfl rfl ?_)
            refine r_getR hcd rfl rfl rfl ?_
            refine r_getI hcd rfl rfl rfl ?_
            refine r_putI hcd rfl rfl rfl rfl ?_
            iterate 2 (refine e_nx hcd rfl rfl ?_)
            refine r_getR hcd rfl rfl rfl ?_
            refine r_getI hcd rfl rfl rfl ?_
            show Ev X 2 46 _ [vI (σ.1 146 7), vR (some 161)] _ Q
            refine r_putI hcd rfl rfl rfl rfl ?_
            refine e_nx hcd rfl rfl ?_
            refine r_getI hcd rfl rfl rfl ?_
            show Ev X 2 49 _ [vI (σ.1 161 3)] _ Q
            refine e_nx hcd rfl rfl ?_
            obtain ⟨h109, H⟩ := H
            refine r_icmp hcd rfl h109 (by omega) (fun hc => ?_) (fun hc => ?_)
            · replace H := H.1 hc
              iterate 2 (refine e_nx hcd rfl rfl ?_)
              refine r_getI hcd rfl rfl rfl ?_
              show Ev X 2 61 _ [vI (σ.1 161 4), vR (some 161)] _ Q
              refine e_nx hcd rfl rfl ?_
              refine r_getR hcd rfl rfl rfl ?_
              refine r_getI hcd rfl rfl rfl ?_
              show Ev X 2 64 _ [vI (σ.1 146 6), vI (σ.1 161 4), vR (some 161)] _ Q
              refine r_cs hcd rfl (by omega) (Nat.le_of_ble_eq_true rfl) rfl rfl (Nat.le_of_ble_eq_true rfl) ?_
              refine Cl.mono H (fun v τ28 hq => ?_)
              obtain ⟨r110, rfl, H⟩ := hq
              show Ev X 2 65 _ [vI r110, vI (σ.1 161 4), vR (some 161)] τ28 Q
              obtain ⟨h111, H⟩ := H
              obtain ⟨h112, H⟩ := H
              refine r_max hcd rfl h111 h112 (Nat.le_of_ble_eq_true rfl) ?_
              refine r_putI hcd rfl rfl rfl rfl ?_
              exact r_vret hcd rfl rfl rfl H
            · replace H := H.2 hc
              refine e_nx hcd rfl rfl ?_
              refine r_getR hcd rfl rfl rfl ?_
              refine r_getI hcd rfl rfl rfl ?_
              show Ev X 2 54 _ [vI (σ.1 146 4)] _ Q
              obtain ⟨h113, H⟩ := H
              refine r_if hcd rfl h113 (fun hc => ?_) (fun hc => ?_)
              · replace H := H.1 hc
                iterate 2 (refine e_nx hcd rfl rfl ?_)
                refine r_getI hcd rfl rfl rfl ?_
                show Ev X 2 61 _ [vI (σ.1 161 4), vR (some 161)] _ Q
                refine e_nx hcd rfl rfl ?_
                refine r_getR hcd rfl rfl rfl ?_
                refine r_getI hcd rfl rfl rfl ?_
                show Ev X 2 64 _ [vI (σ.1 146 6), vI (σ.1 161 4), vR (some 161)] _ Q
                refine r_cs hcd rfl (by omega) (Nat.le_of_ble_eq_true rfl) rfl rfl (Nat.le_of_ble_eq_true rfl) ?_
                refine Cl.mono H (fun v τ29 hq => ?_)
                obtain ⟨r114, rfl, H⟩ := hq
                show Ev X 2 65 _ [vI r114, vI (σ.1 161 4), vR (some 161)] τ29 Q
                obtain ⟨h115, H⟩ := H
                obtain ⟨h116, H⟩ := H
                refine r_max hcd rfl h115 h116 (Nat.le_of_ble_eq_true rfl) ?_
                refine r_putI hcd rfl rfl rfl rfl ?_
                exact r_vret hcd rfl rfl rfl H
              · replace H := H.2 hc
                iterate 2 (refine e_nx hcd rfl rfl ?_)
                refine r_putI hcd rfl rfl rfl rfl ?_
                iterate 2 (refine e_nx hcd rfl rfl ?_)
                refine r_getI hcd rfl rfl rfl ?_
                show Ev X 2 61 _ [vI (σ.1 161 4), vR (some 161)] _ Q
                refine e_nx hcd rfl rfl ?_
                refine r_getR hcd rfl rfl rfl ?_
                refine r_getI hcd rfl rfl rfl ?_
                show Ev X 2 64 _ [vI (σ.1 146 6), vI (σ.1 161 4), vR (some 161)] _ Q
                refine r_cs hcd rfl (by omega) (Nat.le_of_ble_eq_true rfl) rfl rfl (Nat.le_of_ble_eq_true rfl) ?_
                refine Cl.mono H (fun v τ30 hq => ?_)
                obtain ⟨r117, rfl, H⟩ := hq
                show Ev X 2 65 _ [vI r117, vI (σ.1 161 4), vR (some 161)] τ30 Q
                obtain ⟨h118, H⟩ := H
                obtain ⟨h119, H⟩ := H
                refine r_max hcd rfl h118 h119 (Nat.le_of_ble_eq_true rfl) ?_
                refine r_putI hcd rfl rfl rfl rfl ?_
                exact r_vret hcd rfl rfl rfl H
          · replace H := H.2 hc
            refine e_nx hcd rfl rfl ?_
            refine r_getR hcd rfl rfl rfl ?_
            refine r_getI hcd rfl rfl rfl ?_
            refine e_nx hcd rfl rfl ?_
            refine r_getI hcd rfl rfl rfl ?_
            obtain ⟨h120, H⟩ := H
            obtain ⟨h121, H⟩ := H
            refine r_icmp hcd rfl h120 h121 (fun hc => ?_) (fun hc => ?_)
            · replace H := H.1 hc
              refine e_nx hcd rfl rfl ?_
              refine r_getI hcd rfl rfl rfl ?_
              refine e_nx hcd rfl rfl ?_
              obtain ⟨h122, H⟩ := H
              refine r_icmp hcd rfl h122 (by omega) (fun hc => ?_) (fun hc => ?_)
              · replace H := H.1 hc
                iterate 2 (refine e_nx hcd rfl rfl ?_)
                refine r_getI hcd rfl rfl rfl ?_
                refine e_nx hcd rfl rfl ?_
                refine r_getR hcd rfl rfl rfl ?_
                refine r_getI hcd rfl rfl rfl ?_
                refine r_cs hcd rfl (by omega) (Nat.le_of_ble_eq_true rfl) rfl rfl (Nat.le_of_ble_eq_true rfl) ?_
                refine Cl.mono H (fun v τ31 hq => ?_)
                obtain ⟨r123, rfl, H⟩ := hq
                show Ev X 2 65 _ [vI r123, vI (σ.1 161 4), vR (some 161)] τ31 Q
                obtain ⟨h124, H⟩ := H
                obtain ⟨h125, H⟩ := H
                refine r_max hcd rfl h124 h125 (Nat.le_of_ble_eq_true rfl) ?_
                refine r_putI hcd rfl rfl rfl rfl ?_
                exact r_vret hcd rfl rfl rfl H
              · replace H := H.2 hc
                refine e_nx hcd rfl rfl ?_
                refine r_getR hcd rfl rfl rfl ?_
                refine r_getI hcd rfl rfl rfl ?_
                obtain ⟨h126, H⟩ := H
                refine r_if hcd rfl h126 (fun hc => ?_) (fun hc => ?_)
                · replace H := H.1 hc
                  iterate 2 (refine e_nx hcd rfl rfl ?_)
                  refine r_getI hcd rfl rfl rfl ?_
                  refine e_nx hcd rfl rfl ?_
                  refine r_getR hcd rfl rfl rfl ?_
                  refine r_getI hcd rfl rfl rfl ?_
                  refine r_cs hcd rfl (by omega) (Nat.le_of_ble_eq_true rfl) rfl rfl (Nat.le_of_ble_eq_true rfl) ?_
                  refine Cl.mono H (fun v τ32 hq => ?_)
                  obtain ⟨r127, rfl, H⟩ := hq
                  show Ev X 2 65 _ [vI r127, vI (σ.1 161 4), vR (some 161)] τ32 Q
                  obtain ⟨h128, H⟩ := H
                  obtain ⟨h129, H⟩ := H
                  refine r_max hcd rfl h128 h129 (Nat.le_of_ble_eq_true rfl) ?_
                  refine r_putI hcd rfl rfl rfl rfl ?_
                  exact r_vret hcd rfl rfl rfl H
                · replace H := H.2 hc
                  iterate 2 (refine e_nx hcd rfl rfl ?_)
                  refine r_putI hcd rfl rfl rfl rfl ?_
                  iterate 2 (refine e_nx hcd rfl rfl ?_)
                  refine r_getI hcd rfl rfl rfl ?_
                  show Ev X 2 61 _ [vI (σ.1 161 4), vR (some 161)] _ Q
                  refine e_nx hcd rfl rfl ?_
                  refine r_getR hcd rfl rfl rfl ?_
                  refine r_getI hcd rfl rfl rfl ?_
                  show Ev X 2 64 _ [vI (σ.1 146 6), vI (σ.1 161 4), vR (some 161)] _ Q
                  refine r_cs hcd rfl (by omega) (Nat.le_of_ble_eq_true rfl) rfl rfl (Nat.le_of_ble_eq_true rfl) ?_
                  refine Cl.mono H (fun v τ33 hq => ?_)
                  obtain ⟨r130, rfl, H⟩ := hq
                  show Ev X 2 65 _ [vI r130, vI (σ.1 161 4), vR (some 161)] τ33 Q
                  obtain ⟨h131, H⟩ := H
                  obtain ⟨h132, H⟩ := H
                  refine r_max hcd rfl h131 h132 (Nat.le_of_ble_eq_true rfl) ?_
                  refine r_putI hcd rfl rfl rfl rfl ?_
                  exact r_vret hcd rfl rfl rfl H
            · replace H := H.2 hc
              iterate 2 (refine e_nx hcd rfl rfl ?_)
              refine r_getR hcd rfl rfl rfl ?_
              refine r_getI hcd rfl rfl rfl ?_
              refine r_putI hcd rfl rfl rfl rfl ?_
              iterate 2 (refine e_nx hcd rfl rfl ?_)
              refine r_getR hcd rfl rfl rfl ?_
              refine r_getI hcd rfl rfl rfl ?_
              show Ev X 2 46 _ [vI (σ.1 146 7), vR (some 161)] _ Q
              refine r_putI hcd rfl rfl rfl rfl ?_
              refine e_nx hcd rfl rfl ?_
              refine r_getI hcd rfl rfl rfl ?_
              show Ev X 2 49 _ [vI (σ.1 161 3)] _ Q
              refine e_nx hcd rfl rfl ?_
              obtain ⟨h133, H⟩ := H
              refine r_icmp hcd rfl h133 (by omega) (fun hc => ?_) (fun hc => ?_)
              · replace H := H.1 hc
                iterate 2 (refine e_nx hcd rfl rfl ?_)
                refine r_getI hcd rfl rfl rfl ?_
                show Ev X 2 61 _ [vI (σ.1 161 4), vR (some 161)] _ Q
                refine e_nx hcd rfl rfl ?_
                refine r_getR hcd rfl rfl rfl ?_
                refine r_getI hcd rfl rfl rfl ?_
                show Ev X 2 64 _ [vI (σ.1 146 6), vI (σ.1 161 4), vR (some 161)] _ Q
                refine r_cs hcd rfl (by omega) (Nat.le_of_ble_eq_true rfl) rfl rfl (Nat.le_of_ble_eq_true rfl) ?_
                refine Cl.mono H (fun v τ34 hq => ?_)
                obtain ⟨r134, rfl, H⟩ := hq
                show Ev X 2 65 _ [vI r134, vI (σ.1 161 4), vR (some 161)] τ34 Q
                obtain ⟨h135, H⟩ := H
                obtain ⟨h136, H⟩ := H
                refine r_max hcd rfl h135 h136 (Nat.le_of_ble_eq_true rfl) ?_
                refine r_putI hcd rfl rfl rfl rfl ?_
                exact r_vret hcd rfl rfl rfl H
              · replace H := H.2 hc
                refine e_nx hcd rfl rfl ?_
                refine r_getR hcd rfl rfl rfl ?_
                refine r_getI hcd rfl rfl rfl ?_
                show Ev X 2 54 _ [vI (σ.1 146 4)] _ Q
                obtain ⟨h137, H⟩ := H
                refine r_if hcd rfl h137 (fun hc => ?_) (fun hc => ?_)
                · replace H := H.1 hc
                  iterate 2 (refine e_nx hcd rfl rfl ?_)
                  refine r_getI hcd rfl rfl rfl ?_
                  show Ev X 2 61 _ [vI (σ.1 161 4), vR (some 161)] _ Q
                  refine e_nx hcd rfl rfl ?_
                  refine r_getR hcd rfl rfl rfl ?_
                  refine r_getI hcd rfl rfl rfl ?_
                  show Ev X 2 64 _ [vI (σ.1 146 6), vI (σ.1 161 4), vR (some 161)] _ Q
                  refine r_cs hcd rfl (by omega) (Nat.le_of_ble_eq_true rfl) rfl rfl (Nat.le_of_ble_eq_true rfl) ?_
                  refine Cl.mono H (fun v τ35 hq => ?_)
                  obtain ⟨r138, rfl, H⟩ := hq
                  show Ev X 2 65 _ [vI r138, vI (σ.1 161 4), vR (some 161)] τ35 Q
                  obtain ⟨h139, H⟩ := H
                  obtain ⟨h140, H⟩ := H
                  refine r_max hcd rfl h139 h140 (Nat.le_of_ble_eq_true rfl) ?_
                  refine r_putI hcd rfl rfl rfl rfl ?_
                  exact r_vret hcd rfl rfl rfl H
                · replace H := H.2 hc
                  iterate 2 (refine e_nx hcd rfl rfl ?_)
                  refine r_putI hcd rfl rfl rfl rfl ?_
                  iterate 2 (refine e_nx hcd rfl rfl ?_)
                  refine r_getI hcd rfl rfl rfl ?_
                  show Ev X 2 61 _ [vI (σ.1 161 4), vR (some 161)] _ Q
                  refine e_nx hcd rfl rfl ?_
                  refine r_getR hcd rfl rfl rfl ?_
                  refine r_getI hcd rfl rfl rfl ?_
                  show Ev X 2 64 _ [vI (σ.1 146 6), vI (σ.1 161 4), vR (some 161)] _ Q
                  refine r_cs hcd rfl (by omega) (Nat.le_of_ble_eq_true rfl) rfl rfl (Nat.le_of_ble_eq_true rfl) ?_
                  refine Cl.mono H (fun v τ36 hq => ?_)
                  obtain ⟨r141, rfl, H⟩ := hq
                  show Ev X 2 65 _ [vI r141, vI (σ.1 161 4), vR (some 161)] τ36 Q
                  obtain ⟨h142, H⟩ := H
                  obtain ⟨h143, H⟩ := H
                  refine r_max hcd rfl h142 h143 (Nat.le_of_ble_eq_true rfl) ?_
                  refine r_putI hcd rfl rfl rfl rfl ?_
                  exact r_vret hcd rfl rfl rfl H
      · replace H := H.2 hc
        iterate 2 (refine e_nx hcd rfl rfl ?_)
        refine r_getI hcd rfl rfl rfl ?_
        refine e_nx hcd rfl rfl ?_
        refine r_getR hcd rfl rfl rfl ?_
        refine r_getR hcd rfl rfl rfl ?_
        refine r_getI hcd rfl rfl rfl ?_
        refine e_nx hcd rfl rfl ?_
        refine r_putI hcd rfl rfl rfl rfl ?_
        refine e_nx hcd rfl rfl ?_
        refine r_getR hcd rfl rfl rfl ?_
        iterate 2 (refine e_nx hcd rfl rfl ?_)
        obtain ⟨h144, H⟩ := H
        refine r_ild hcd rfl rfl (by omega) h144 ?_
        iterate 2 (refine e_nx hcd rfl rfl ?_)
        refine r_ist hcd rfl rfl (by omega) h144 ?_
        refine e_nx hcd rfl rfl ?_
        refine r_if hcd rfl h1 (fun hc => ?_) (fun hc => ?_)
        · replace H := H.1 hc
          refine e_nx hcd rfl rfl ?_
          refine r_getI hcd rfl rfl rfl ?_
          show Ev X 2 49 _ [vI (σ.1 161 3)] _ Q
          refine e_nx hcd rfl rfl ?_
          obtain ⟨h145, H⟩ := H
          refine r_icmp hcd rfl h145 (by omega) (fun hc => ?_) (fun hc => ?_)
          · replace H := H.1 hc
            iterate 2 (refine e_nx hcd rfl rfl ?_)
            refine r_getI hcd rfl rfl rfl ?_
            show Ev X 2 61 _ [vI (σ.1 161 4), vR (some 161)] _ Q
            refine e_nx hcd rfl rfl ?_
            refine r_getR hcd rfl rfl rfl ?_
            refine r_getI hcd rfl rfl rfl ?_
            show Ev X 2 64 _ [vI (σ.1 146 6), vI (σ.1 161 4), vR (some 161)] _ Q
            refine r_cs hcd rfl (by omega) (Nat.le_of_ble_eq_true rfl) rfl rfl (Nat.le_of_ble_eq_true rfl) ?_
            refine Cl.mono H (fun v τ37 hq => ?_)
            obtain ⟨r146, rfl, H⟩ := hq
            show Ev X 2 65 _ [vI r146, vI (σ.1 161 4), vR (some 161)] τ37 Q
            obtain ⟨h147, H⟩ := H
            obtain ⟨h148, H⟩ := H
            refine r_max hcd rfl h147 h148 (Nat.le_of_ble_eq_true rfl) ?_
            refine r_putI hcd rfl rfl rfl rfl ?_
            exact r_vret hcd rfl rfl rfl H
          · replace H := H.2 hc
            refine e_nx hcd rfl rfl ?_
            refine r_getR hcd rfl rfl rfl ?_
            refine r_getI hcd rfl rfl rfl ?_
            show Ev X 2 54 _ [vI (σ.1 146 4)] _ Q
            obtain ⟨h149, H⟩ := H
            refine r_if hcd rfl h149 (fun hc => ?_) (fun hc => ?_)
            · replace H := H.1 hc
              iterate 2 (refine e_nx hcd rfl rfl ?_)
              refine r_getI hcd rfl rfl rfl ?_
              show Ev X 2 61 _ [vI (σ.1 161 4), vR (some 161)] _ Q
              refine e_nx hcd rfl rfl ?_
              refine r_getR hcd rfl rfl rfl ?_
              refine r_getI hcd rfl rfl rfl ?_
              show Ev X 2 64 _ [vI (σ.1 146 6), vI (σ.1 161 4), vR (some 161)] _ Q
              refine r_cs hcd rfl (by omega) (Nat.le_of_ble_eq_true rfl) rfl rfl (Nat.le_of_ble_eq_true rfl) ?_
              refine Cl.mono H (fun v τ38 hq => ?_)
              obtain ⟨r150, rfl, H⟩ := hq
              show Ev X 2 65 _ [vI r150, vI (σ.1 161 4), vR (some 161)] τ38 Q
              obtain ⟨h151, H⟩ := H
              obtain ⟨h152, H⟩ := H
              refine r_max hcd rfl h151 h152 (Nat.le_of_ble_eq_true rfl) ?_
              refine r_putI hcd rfl rfl rfl rfl ?_
              exact r_vret hcd rfl rfl rfl H
            · replace H := H.2 hc
              iterate 2 (refine e_nx hcd rfl rfl ?_)
              refine r_putI hcd rfl rfl rfl rfl ?_
              iterate 2 (refine e_nx hcd rfl rfl ?_)
              refine r_getI hcd rfl rfl rfl ?_
              show Ev X 2 61 _ [vI (σ.1 161 4), vR (some 161)] _ Q
              refine e_nx hcd rfl rfl ?_
              refine r_getR hcd rfl rfl rfl ?_
              refine r_getI hcd rfl rfl rfl ?_
              show Ev X 2 64 _ [vI (σ.1 146 6), vI (σ.1 161 4), vR (some 161)] _ Q
              refine r_cs hcd rfl (by omega) (Nat.le_of_ble_eq_true rfl) rfl rfl (Nat.le_of_ble_eq_true rfl) ?_
              refine Cl.mono H (fun v τ39 hq => ?_)
              obtain ⟨r153, rfl, H⟩ := hq
              show Ev X 2 65 _ [vI r153, vI (σ.1 161 4), vR (some 161)] τ39 Q
              obtain ⟨h154, H⟩ := H
              obtain ⟨h155, H⟩ := H
              refine r_max hcd rfl h154 h155 (Nat.le_of_ble_eq_true rfl) ?_
              refine r_putI hcd rfl rfl rfl rfl ?_
              exact r_vret hcd rfl rfl rfl H
        · replace H := H.2 hc
          refine e_nx hcd rfl rfl ?_
          refine r_getI hcd rfl rfl rfl ?_
          show Ev X 2 29 _ [vI (σ.1 161 5)] _ Q
          refine e_nx hcd rfl rfl ?_
          obtain ⟨h156, H⟩ := H
          refine r_icmp hcd rfl h156 (by omega) (fun hc => ?_) (fun hc => ?_)
          · replace H := H.1 hc
            iterate 2 (refine e_nx hcd rfl rfl ?_)
            refine r_getR hcd rfl rfl rfl ?_
            refine r_getI hcd rfl rfl rfl ?_
            show Ev X 2 41 _ [vI (σ.1 146 2), vR (some 161)] _ Q
            refine r_putI hcd rfl rfl rfl rfl ?_
            iterate 2 (refine e_nx hcd rfl rfl ?_)
            refine r_getR hcd rfl rfl rfl ?_
            refine r_getI hcd rfl rfl rfl ?_
            show Ev X 2 46 _ [vI (σ.1 146 7), vR (some 161)] _ Q
            refine r_putI hcd rfl rfl rfl rfl ?_
            refine e_nx hcd rfl rfl ?_
            refine r_getI hcd rfl rfl rfl ?_
            show Ev X 2 49 _ [vI (σ.1 161 3)] _ Q
            refine e_nx hcd rfl rfl ?_
            obtain ⟨h157, H⟩ := H
            refine r_icmp hcd rfl h157 (by omega) (fun hc => ?_) (fun hc => ?_)
            · replace H := H.1 hc
              iterate 2 (refine e_nx hcd rfl rfl ?_)
              refine r_getI hcd rfl rfl rfl ?_
              show Ev X 2 61 _ [vI (σ.1 161 4), vR (some 161)] _ Q
              refine e_nx hcd rfl rfl ?_
              refine r_getR hcd rfl rfl rfl ?_
              refine r_getI hcd rfl rfl rfl ?_
              show Ev X 2 64 _ [vI (σ.1 146 6), vI (σ.1 161 4), vR (some 161)] _ Q
              refine r_cs hcd rfl (by omega) (Nat.le_of_ble_eq_true rfl) rfl rfl (Nat.le_of_ble_eq_true rfl) ?_
              refine Cl.mono H (fun v τ40 hq => ?_)
              obtain ⟨r158, rfl, H⟩ := hq
              show Ev X 2 65 _ [vI r158, vI (σ.1 161 4), vR (some 161)] τ40 Q
              obtain ⟨h159, H⟩ := H
              obtain ⟨h160, H⟩ := H
              refine r_max hcd rfl h159 h160 (Nat.le_of_ble_eq_true rfl) ?_
              refine r_putI hcd rfl rfl rfl rfl ?_
              exact r_vret hcd rfl rfl rfl H
            · replace H := H.2 hc
              refine e_nx hcd rfl rfl ?_
              refine r_getR hcd rfl rfl rfl ?_
              refine r_getI hcd rfl rfl rfl ?_
              show Ev X 2 54 _ [vI (σ.1 146 4)] _ Q
              obtain ⟨h161, H⟩ := H
              refine r_if hcd rfl h161 (fun hc => ?_) (fun hc => ?_)
              · replace H := H.1 hc
                iterate 2 (refine e_nx hcd rfl rfl ?_)
                refine r_getI hcd rfl rfl rfl ?_
                show Ev X 2 61 _ [vI (σ.1 161 4), vR (some 161)] _ Q
                refine e_nx hcd rfl rfl ?_
                refine r_getR hcd rfl rfl rfl ?_
                refine r_getI hcd rfl rfl rfl ?_
                show Ev X 2 64 _ [vI (σ.1 146 6), vI (σ.1 161 4), vR (some 161)] _ Q
                refine r_cs hcd rfl (by omega) (Nat.le_of_ble_eq_true rfl) rfl rfl (Nat.le_of_ble_eq_true rfl) ?_
                refine Cl.mono H (fun v τ41 hq => ?_)
                obtain ⟨r162, rfl, H⟩ := hq
                show Ev X 2 65 _ [vI r162, vI (σ.1 161 4), vR (some 161)] τ41 Q
                obtain ⟨h163, H⟩ := H
                obtain ⟨h164, H⟩ := H
                refine r_max hcd rfl h163 h164 (Nat.le_of_ble_eq_true rfl) ?_
                refine r_putI hcd rfl rfl rfl rfl ?_
                exact r_vret hcd rfl rfl rfl H
              · replace H := H.2 hc
                iterate 2 (refine e_nx hcd rfl rfl ?_)
                refine r_putI hcd rfl rfl rfl rfl ?_
                iterate 2 (refine e_nx hcd rfl rfl ?_)
                refine r_getI hcd rfl rfl rfl ?_
                show Ev X 2 61 _ [vI (σ.1 161 4), vR (some 161)] _ Q
                refine e_nx hcd rfl rfl ?_
                refine r_getR hcd rfl rfl rfl ?_
                refine r_getI hcd rfl rfl rfl ?_
                show Ev X 2 64 _ [vI (σ.1 146 6), vI (σ.1 161 4), vR (some 161)] _ Q
                refine r_cs hcd rfl (by omega) (Nat.le_of_ble_eq_true rfl) rfl rfl (Nat.le_of_ble_eq_true rfl) ?_
                refine Cl.mono H (fun v τ42 hq => ?_)
                obtain ⟨r165, rfl, H⟩ := hq
                show Ev X 2 65 _ [vI r165, vI (σ.1 161 4), vR (some 161)] τ42 Q
                obtain ⟨h166, H⟩ := H
                obtain ⟨h167, H⟩ := H
                refine r_max hcd rfl h166 h167 (Nat.le_of_ble_eq_true rfl) ?_
                refine r_putI hcd rfl rfl rfl rfl ?_
                exact r_vret hcd rfl rfl rfl H
          · replace H := H.2 hc
            refine e_nx hcd rfl rfl ?_
            refine r_getR hcd rfl rfl rfl ?_
            refine r_getI hcd rfl rfl rfl ?_
            show Ev X 2 34 _ [vI (σ.1 146 7)] _ Q
            refine e_nx hcd rfl rfl ?_
            refine r_getI hcd rfl rfl rfl ?_
            show Ev X 2 36 _ [vI (σ.1 161 6), vI (σ.1 146 7)] _ Q
            obtain ⟨h168, H⟩ := H
            obtain ⟨h169, H⟩ := H
            refine r_icmp hcd rfl h168 h169 (fun hc => ?_) (fun hc => ?_)
            · replace H := H.1 hc
              refine e_nx hcd rfl rfl ?_
              refine r_getI hcd rfl rfl rfl ?_
              show Ev X 2 49 _ [vI (σ.1 161 3)] _ Q
              refine e_nx hcd rfl rfl ?_
              obtain ⟨h170, H⟩ := H
              refine r_icmp hcd rfl h170 (by omega) (fun hc => ?_) (fun hc => ?_)
              · replace H := H.1 hc
                iterate 2 (refine e_nx hcd rfl rfl ?_)
                refine r_getI hcd rfl rfl rfl ?_
                show Ev X 2 61 _ [vI (σ.1 161 4), vR (some 161)] _ Q
                refine e_nx hcd rfl rfl ?_
                refine r_getR hcd rfl rfl rfl ?_
                refine r_getI hcd rfl rfl rfl ?_
                show Ev X 2 64 _ [vI (σ.1 146 6), vI (σ.1 161 4), vR (some 161)] _ Q
                refine r_cs hcd rfl (by omega) (Nat.le_of_ble_eq_true rfl) rfl rfl (Nat.le_of_ble_eq_true rfl) ?_
                refine Cl.mono H (fun v τ43 hq => ?_)
                obtain ⟨r171, rfl, H⟩ := hq
                show Ev X 2 65 _ [vI r171, vI (σ.1 161 4), vR (some 161)] τ43 Q
                obtain ⟨h172, H⟩ := H
                obtain ⟨h173, H⟩ := H
                refine r_max hcd rfl h172 h173 (Nat.le_of_ble_eq_true rfl) ?_
                refine r_putI hcd rfl rfl rfl rfl ?_
                exact r_vret hcd rfl rfl rfl H
              · replace H := H.2 hc
                refine e_nx hcd rfl rfl ?_
                refine r_getR hcd rfl rfl rfl ?_
                refine r_getI hcd rfl rfl rfl ?_
                show Ev X 2 54 _ [vI (σ.1 146 4)] _ Q
                obtain ⟨h174, H⟩ := H
                refine r_if hcd rfl h174 (fun hc => ?_) (fun hc => ?_)
                · replace H := H.1 hc
                  iterate 2 (refine e_nx hcd rfl rfl ?_)
                  refine r_getI hcd rfl rfl rfl ?_
                  show Ev X 2 61 _ [vI (σ.1 161 4), vR (some 161)] _ Q
                  refine e_nx hcd rfl rfl ?_
                  refine r_getR hcd rfl rfl rfl ?_
                  refine r_getI hcd rfl rfl rfl ?_
                  show Ev X 2 64 _ [vI (σ.1 146 6), vI (σ.1 161 4), vR (some 161)] _ Q
                  refine r_cs hcd rfl (by omega) (Nat.le_of_ble_eq_true rfl) rfl rfl (Nat.le_of_ble_eq_true rfl) ?_
                  refine Cl.mono H (fun v τ44 hq => ?_)
                  obtain ⟨r175, rfl, H⟩ := hq
                  show Ev X 2 65 _ [vI r175, vI (σ.1 161 4), vR (some 161)] τ44 Q
                  obtain ⟨h176, H⟩ := H
                  obtain ⟨h177, H⟩ := H
                  refine r_max hcd rfl h176 h177 (Nat.le_of_ble_eq_true rfl) ?_
                  refine r_putI hcd rfl rfl rfl rfl ?_
                  exact r_vret hcd rfl rfl rfl H
                · replace H := H.2 hc
                  iterate 2 (refine e_nx hcd rfl rfl ?_)
                  refine r_putI hcd rfl rfl rfl rfl ?_
                  iterate 2 (refine e_nx hcd rfl rfl ?_)
                  refine r_getI hcd rfl rfl rfl ?_
                  show Ev X 2 61 _ [vI (σ.1 161 4), vR (some 161)] _ Q
                  refine e_nx hcd rfl rfl ?_
                  refine r_getR hcd rfl rfl rfl ?_
                  refine r_getI hcd rfl rfl rfl ?_
                  show Ev X 2 64 _ [vI (σ.1 146 6), vI (σ.1 161 4), vR (some 161)] _ Q
                  refine r_cs hcd rfl (by omega) (Nat.le_of_ble_eq_true rfl) rfl rfl (Nat.le_of_ble_eq_true rfl) ?_
                  refine Cl.mono H (fun v τ45 hq => ?_)
                  obtain ⟨r178, rfl, H⟩ := hq
                  show Ev X 2 65 _ [vI r178, vI (σ.1 161 4), vR (some 161)] τ45 Q
                  obtain ⟨h179, H⟩ := H
                  obtain ⟨h180, H⟩ := H
                  refine r_max hcd rfl h179 h180 (Nat.le_of_ble_eq_true rfl) ?_
                  refine r_putI hcd rfl rfl rfl rfl ?_
                  exact r_vret hcd rfl rfl rfl H
            · replace H := H.2 hc
              iterate 2 (refine e_nx hcd rfl rfl ?_)
              refine r_getR hcd rfl rfl rfl ?_
              refine r_getI hcd rfl rfl rfl ?_
              show Ev X 2 41 _ [vI (σ.1 146 2), vR (some 161)] _ Q
              refine r_putI hcd rfl rfl rfl rfl ?_
              iterate 2 (refine e_nx hcd rfl rfl ?_)
              refine r_getR hcd rfl rfl rfl ?_
              refine r_getI hcd rfl rfl rfl ?_
              show Ev X 2 46 _ [vI (σ.1 146 7), vR (some 161)] _ Q
              refine r_putI hcd rfl rfl rfl rfl ?_
              refine e_nx hcd rfl rfl ?_
              refine r_getI hcd rfl rfl rfl ?_
              show Ev X 2 49 _ [vI (σ.1 161 3)] _ Q
              refine e_nx hcd rfl rfl ?_
              obtain ⟨h181, H⟩ := H
              refine r_icmp hcd rfl h181 (by omega) (fun hc => ?_) (fun hc => ?_)
              · replace H := H.1 hc
                iterate 2 (refine e_nx hcd rfl rfl ?_)
                refine r_getI hcd rfl rfl rfl ?_
                show Ev X 2 61 _ [vI (σ.1 161 4), vR (some 161)] _ Q
                refine e_nx hcd rfl rfl ?_
                refine r_getR hcd rfl rfl rfl ?_
                refine r_getI hcd rfl rfl rfl ?_
                show Ev X 2 64 _ [vI (σ.1 146 6), vI (σ.1 161 4), vR (some 161)] _ Q
                refine r_cs hcd rfl (by omega) (Nat.le_of_ble_eq_true rfl) rfl rfl (Nat.le_of_ble_eq_true rfl) ?_
                refine Cl.mono H (fun v τ46 hq => ?_)
                obtain ⟨r182, rfl, H⟩ := hq
                show Ev X 2 65 _ [vI r182, vI (σ.1 161 4), vR (some 161)] τ46 Q
                obtain ⟨h183, H⟩ := H
                obtain ⟨h184, H⟩ := H
                refine r_max hcd rfl h183 h184 (Nat.le_of_ble_eq_true rfl) ?_
                refine r_putI hcd rfl rfl rfl rfl ?_
                exact r_vret hcd rfl rfl rfl H
              · replace H := H.2 hc
                refine e_nx hcd rfl rfl ?_
                refine r_getR hcd rfl rfl rfl ?_
                refine r_getI hcd rfl rfl rfl ?_
                show Ev X 2 54 _ [vI (σ.1 146 4)] _ Q
                obtain ⟨h185, H⟩ := H
                refine r_if hcd rfl h185 (fun hc => ?_) (fun hc => ?_)
                · replace H := H.1 hc
                  iterate 2 (refine e_nx hcd rfl rfl ?_)
                  refine r_getI hcd rfl rfl rfl ?_
                  show Ev X 2 61 _ [vI (σ.1 161 4), vR (some 161)] _ Q
                  refine e_nx hcd rfl rfl ?_
                  refine r_getR hcd rfl rfl rfl ?_
                  refine r_getI hcd rfl rfl rfl ?_
                  show Ev X 2 64 _ [vI (σ.1 146 6), vI (σ.1 161 4), vR (some 161)] _ Q
                  refine r_cs hcd rfl (by omega) (Nat.le_of_ble_eq_true rfl) rfl rfl (Nat.le_of_ble_eq_true rfl) ?_
                  refine Cl.mono H (fun v τ47 hq => ?_)
                  obtain ⟨r186, rfl, H⟩ := hq
                  show Ev X 2 65 _ [vI r186, vI (σ.1 161 4), vR (some 161)] τ47 Q
                  obtain ⟨h187, H⟩ := H
                  obtain ⟨h188, H⟩ := H
                  refine r_max hcd rfl h187 h188 (Nat.le_of_ble_eq_true rfl) ?_
                  refine r_putI hcd rfl rfl rfl rfl ?_
                  exact r_vret hcd rfl rfl rfl H
                · replace H := H.2 hc
                  iterate 2 (refine e_nx hcd rfl rfl ?_)
                  refine r_putI hcd rfl rfl rfl rfl ?_
                  iterate 2 (refine e_nx hcd rfl rfl ?_)
                  refine r_getI hcd rfl rfl rfl ?_
                  show Ev X 2 61 _ [vI (σ.1 161 4), vR (some 161)] _ Q
                  refine e_nx hcd rfl rfl ?_
                  refine r_getR hcd rfl rfl rfl ?_
                  refine r_getI hcd rfl rfl rfl ?_
                  show Ev X 2 64 _ [vI (σ.1 146 6), vI (σ.1 161 4), vR (some 161)] _ Q
                  refine r_cs hcd rfl (by omega) (Nat.le_of_ble_eq_true rfl) rfl rfl (Nat.le_of_ble_eq_true rfl) ?_
                  refine Cl.mono H (fun v τ48 hq => ?_)
                  obtain ⟨r189, rfl, H⟩ := hq
                  show Ev X 2 65 _ [vI r189, vI (σ.1 161 4), vR (some 161)] τ48 Q
                  obtain ⟨h190, H⟩ := H
                  obtain ⟨h191, H⟩ := H
                  refine r_max hcd rfl h190 h191 (Nat.le_of_ble_eq_true rfl) ?_
                  refine r_putI hcd rfl rfl rfl rfl ?_
                  exact r_vret hcd rfl rfl rfl H
/-! X0_mostFrequentBuyer -/
theorem v_3 {X : PX} {σ : Sg} {Q : Option PV → Sg → Prop}   (H : Ev X 3 4 [some (vR (some 161)), some (vI (-1)), some (vI 0)] [] σ Q) : Cl X 3 [vR (some 161)] σ Q := by
  have hcd : cds 3 = cd_3 := rfl
  refine c_in (Nat.le_of_ble_eq_true rfl) rfl rfl ?_
  show Ev X 3 0 [some (vR (some 161)), none, none] [] σ Q
  iterate 2 (refine e_nx hcd rfl rfl ?_)
  show Ev X 3 2 [some (vR (some 161)), some (vI (-1)), none] [] _ Q
  iterate 2 (refine e_nx hcd rfl rfl ?_)
  show Ev X 3 4 [some (vR (some 161)), some (vI (-1)), some (vI 0)] [] _ Q
  exact H
set_option maxRecDepth 20000 in
set_option maxHeartbeats 8000000 in
theorem v_3_4 {X : PX} {σ : Sg} {Q : Option PV → Sg → Prop} {x1 : Int} {x2 : Int}  (H : InR x2 ∧ (7 ≤ x2 → Q (some (vI x1)) σ) ∧ (¬ 7 ≤ x2 → (0 ≤ x2 ∧ x2 < 7) ∧ InR x1 ∧ (x1 ≠ (-1) → (0 ≤ x1 ∧ x1 < 7) ∧ InR (σ.2 162 x2.toNat) ∧ InR (σ.2 162 x1.toNat) ∧ (σ.2 162 x2.toNat ≤ σ.2 162 x1.toNat → Ev X 3 4 [some (vR (some 161)), some (vI x1), some (vI (x2 + 1))] [] σ Q) ∧ (¬ σ.2 162 x2.toNat ≤ σ.2 162 x1.toNat → Ev X 3 4 [some (vR (some 161)), some (vI x2), some (vI (x2 + 1))] [] σ Q)) ∧ (¬ x1 ≠ (-1) → InR (σ.2 162 x2.toNat) ∧ (σ.2 162 x2.toNat ≤ 0 → Ev X 3 4 [some (vR (some 161)), some (vI x1), some (vI (x2 + 1))] [] σ Q) ∧ (¬ σ.2 162 x2.toNat ≤ 0 → Ev X 3 4 [some (vR (some 161)), some (vI x2), some (vI (x2 + 1))] [] σ Q)))) : Ev X 3 4 [some (vR (some 161)), some (vI x1), some (vI x2)] [] σ Q := by
  have hcd : cds 3 = cd_3 := rfl
  iterate 2 (refine e_nx hcd rfl rfl ?_)
  obtain ⟨h1, H⟩ := H
  refine r_icmp hcd rfl h1 (by omega) (fun hc => ?_) (fun hc => ?_)
  · replace H := H.1 hc
    refine e_nx hcd rfl rfl ?_
    exact r_iret hcd rfl rfl rfl H
  · replace H := H.2 hc
    refine e_nx hcd rfl rfl ?_
    refine r_getR hcd rfl rfl rfl ?_
    refine e_nx hcd rfl rfl ?_
    obtain ⟨h2, H⟩ := H
    refine r_ild hcd rfl rfl (by omega) h2 ?_
    iterate 2 (refine e_nx hcd rfl rfl ?_)
    obtain ⟨h3, H⟩ := H
    refine r_icmp hcd rfl h3 (by omega) (fun hc => ?_) (fun hc => ?_)
    · replace H := H.1 hc
      refine e_nx hcd rfl rfl ?_
      refine r_getR hcd rfl rfl rfl ?_
      refine e_nx hcd rfl rfl ?_
      obtain ⟨h4, H⟩ := H
      refine r_ild hcd rfl rfl (by omega) h4 ?_
      obtain ⟨h5, H⟩ := H
      obtain ⟨h6, H⟩ := H
      refine r_icmp hcd rfl h5 h6 (fun hc => ?_) (fun hc => ?_)
      · replace H := H.1 hc
        refine e_nx hcd rfl rfl ?_
        show Ev X 3 24 [some (vR (some 161)), some (vI x1), some (vI (x2 + 1))] [] _ Q
        refine e_nx hcd rfl rfl ?_
        exact H
      · replace H := H.2 hc
        iterate 2 (refine e_nx hcd rfl rfl ?_)
        show Ev X 3 23 [some (vR (some 161)), some (vI x2), some (vI x2)] [] _ Q
        refine e_nx hcd rfl rfl ?_
        show Ev X 3 24 [some (vR (some 161)), some (vI x2), some (vI (x2 + 1))] [] _ Q
        refine e_nx hcd rfl rfl ?_
        exact H
    · replace H := H.2 hc
      iterate 2 (refine e_nx hcd rfl rfl ?_)
      obtain ⟨h7, H⟩ := H
      refine r_icmp hcd rfl h7 (by omega) (fun hc => ?_) (fun hc => ?_)
      · replace H := H.1 hc
        refine e_nx hcd rfl rfl ?_
        show Ev X 3 24 [some (vR (some 161)), some (vI x1), some (vI (x2 + 1))] [] _ Q
        refine e_nx hcd rfl rfl ?_
        exact H
      · replace H := H.2 hc
        iterate 2 (refine e_nx hcd rfl rfl ?_)
        show Ev X 3 23 [some (vR (some 161)), some (vI x2), some (vI x2)] [] _ Q
        refine e_nx hcd rfl rfl ?_
        show Ev X 3 24 [some (vR (some 161)), some (vI x2), some (vI (x2 + 1))] [] _ Q
        refine e_nx hcd rfl rfl ?_
        exact H
/-! X1_fewestSeeds -/
theorem v_4 {X : PX} {σ : Sg} {Q : Option PV → Sg → Prop} {p1 : Nat} (hp1 : p1 ∈ parL) (H : CI X 84 [vR (some p1)] σ (fun r1 τ1 => Ev X 4 7 [some (vR (some p1)), some (vI r1), some (vI r1), some (vI 0)] [] τ1 Q)) : Cl X 4 [vR (some p1)] σ Q := by
  have hcd : cds 4 = cd_4 := rfl
  refine c_in (Nat.le_of_ble_eq_true rfl) rfl rfl ?_
  show Ev X 4 0 [some (vR (some p1)), none, none, none] [] σ Q
  refine e_nx hcd rfl rfl ?_
  refine r_cv hcd rfl (by omega) ((parS hp1).1) rfl rfl (Nat.le_of_ble_eq_true rfl) ?_
  refine Cl.mono H (fun v τ1 hq => ?_)
  obtain ⟨r1, rfl, H⟩ := hq
  show Ev X 4 2 _ [vI r1] τ1 Q
  refine e_nx hcd rfl rfl ?_
  show Ev X 4 3 [some (vR (some p1)), some (vI r1), none, none] [] _ Q
  iterate 2 (refine e_nx hcd rfl rfl ?_)
  show Ev X 4 5 [some (vR (some p1)), some (vI r1), some (vI r1), none] [] _ Q
  iterate 2 (refine e_nx hcd rfl rfl ?_)
  show Ev X 4 7 [some (vR (some p1)), some (vI r1), some (vI r1), some (vI 0)] [] _ Q
  exact H
set_option maxRecDepth 20000 in
set_option maxHeartbeats 8000000 in
theorem v_4_7 {X : PX} {σ : Sg} {Q : Option PV → Sg → Prop} {p1 : Nat} {x1 : Int} {x2 : Int} {x3 : Int} (hp1 : p1 ∈ parL) (H : InR x3 ∧ InR x1 ∧ (x1 ≤ x3 → Q (some (vI x2)) σ) ∧ (¬ x1 ≤ x3 → (128 ≤ x3 → Q (some (vI x2)) σ) ∧ (¬ 128 ≤ x3 → CI X 283 [vI x3] σ (fun r3 τ1 => CI X 283 [vI x2] τ1 (fun r4 τ2 => InR r3 ∧ InR r4 ∧ (r4 ≤ r3 → Ev X 4 7 [some (vR (some p1)), some (vI x1), some (vI x2), some (vI (x3 + 1))] [] τ2 Q) ∧ (¬ r4 ≤ r3 → CI X 86 [vR (some p1), vI (iOr (τ2.1 p1 3) x3), vI 0] τ2 (fun r7 τ3 => InR r7 ∧ (r7 ≠ x1 → Ev X 4 7 [some (vR (some p1)), some (vI x1), some (vI x2), some (vI (x3 + 1))] [] τ3 Q) ∧ (¬ r7 ≠ x1 → Ev X 4 7 [some (vR (some p1)), some (vI x1), some (vI x3), some (vI (x3 + 1))] [] τ3 Q)))))))) : Ev X 4 7 [some (vR (some p1)), some (vI x1), some (vI x2), some (vI x3)] [] σ Q := by
  have hcd : cds 4 = cd_4 := rfl
  iterate 2 (refine e_nx hcd rfl rfl ?_)
  obtain ⟨h1, H⟩ := H
  obtain ⟨h2, H⟩ := H
  refine r_icmp hcd rfl h1 h2 (fun hc => ?_) (fun hc => ?_)
  · replace H := H.1 hc
    refine e_nx hcd rfl rfl ?_
    exact r_iret hcd rfl rfl rfl H
  · replace H := H.2 hc
    iterate 2 (refine e_nx hcd rfl rfl ?_)
    refine r_icmp hcd rfl h1 (by omega) (fun hc => ?_) (fun hc => ?_)
    · replace H := H.1 hc
      refine e_nx hcd rfl rfl ?_
      exact r_iret hcd rfl rfl rfl H
    · replace H := H.2 hc
      refine e_nx hcd rfl rfl ?_
      refine r_cs hcd rfl (by omega) (Nat.le_of_ble_eq_true rfl) rfl rfl (Nat.le_of_ble_eq_true rfl) ?_
      refine Cl.mono H (fun v τ1 hq => ?_)
      obtain ⟨r3, rfl, H⟩ := hq
      show Ev X 4 15 _ [vI r3] τ1 Q
      refine e_nx hcd rfl rfl ?_
      refine r_cs hcd rfl (by omega) (Nat.le_of_ble_eq_true rfl) rfl rfl (Nat.le_of_ble_eq_true rfl) ?_
      refine Cl.mono H (fun v τ2 hq => ?_)
      obtain ⟨r4, rfl, H⟩ := hq
      show Ev X 4 17 _ [vI r4, vI r3] τ2 Q
      obtain ⟨h5, H⟩ := H
      obtain ⟨h6, H⟩ := H
      refine r_icmp hcd rfl h5 h6 (fun hc => ?_) (fun hc => ?_)
      · replace H := H.1 hc
        refine e_nx hcd rfl rfl ?_
        show Ev X 4 30 [some (vR (some p1)), some (vI x1), some (vI x2), some (vI (x3 + 1))] [] _ Q
        refine e_nx hcd rfl rfl ?_
        exact H
      · replace H := H.2 hc
        iterate 2 (refine e_nx hcd rfl rfl ?_)
        refine r_getI hcd rfl ((parS hp1).1) rfl ?_
        iterate 3 (refine e_nx hcd rfl rfl ?_)
        refine r_cv hcd rfl (by omega) ((parS hp1).1) rfl rfl (Nat.le_of_ble_eq_true rfl) ?_
        refine Cl.mono H (fun v τ3 hq => ?_)
        obtain ⟨r7, rfl, H⟩ := hq
        show Ev X 4 25 _ [vI r7] τ3 Q
        refine e_nx hcd rfl rfl ?_
        obtain ⟨h8, H⟩ := H
        refine r_icmp hcd rfl h8 h2 (fun hc => ?_) (fun hc => ?_)
        · replace H := H.1 hc
          refine e_nx hcd rfl rfl ?_
          show Ev X 4 30 [some (vR (some p1)), some (vI x1), some (vI x2), some (vI (x3 + 1))] [] _ Q
          refine e_nx hcd rfl rfl ?_
          exact H
        · replace H := H.2 hc
          iterate 2 (refine e_nx hcd rfl rfl ?_)
          show Ev X 4 29 [some (vR (some p1)), some (vI x1), some (vI x3), some (vI x3)] [] _ Q
          refine e_nx hcd rfl rfl ?_
          show Ev X 4 30 [some (vR (some p1)), some (vI x1), some (vI x3), some (vI (x3 + 1))] [] _ Q
          refine e_nx hcd rfl rfl ?_
          exact H
/-! X1_fewestCuts -/
theorem v_5 {X : PX} {σ : Sg} {Q : Option PV → Sg → Prop} {p1 : Nat} {a1 : Int} (hp1 : p1 ∈ parL) (H : Ev X 5 11 [some (vR (some p1)), some (vI a1), some (vI ((iShl 1 (σ.1 p1 4)) - 1)), some (vI ((iShl 1 (σ.1 p1 4)) - 1)), some (vI 0)] [] σ Q) : Cl X 5 [vR (some p1), vI a1] σ Q := by
  have hcd : cds 5 = cd_5 := rfl
  refine c_in (Nat.le_of_ble_eq_true rfl) rfl rfl ?_
  show Ev X 5 0 [some (vR (some p1)), some (vI a1), none, none, none] [] σ Q
  iterate 2 (refine e_nx hcd rfl rfl ?_)
  refine r_getI hcd rfl ((parS hp1).1) rfl ?_
  iterate 4 (refine e_nx hcd rfl rfl ?_)
  show Ev X 5 7 [some (vR (some p1)), some (vI a1), some (vI ((iShl 1 (σ.1 p1 4)) - 1)), none, none] [] _ Q
  iterate 2 (refine e_nx hcd rfl rfl ?_)
  show Ev X 5 9 [some (vR (some p1)), some (vI a1), some (vI ((iShl 1 (σ.1 p1 4)) - 1)), some (vI ((iShl 1 (σ.1 p1 4)) - 1)), none] [] _ Q
  iterate 2 (refine e_nx hcd rfl rfl ?_)
  show Ev X 5 11 [some (vR (some p1)), some (vI a1), some (vI ((iShl 1 (σ.1 p1 4)) - 1)), some (vI ((iShl 1 (σ.1 p1 4)) - 1)), some (vI 0)] [] _ Q
  exact H
set_option maxRecDepth 20000 in
set_option maxHeartbeats 8000000 in
theorem v_5_11 {X : PX} {σ : Sg} {Q : Option PV → Sg → Prop} {p1 : Nat} {x1 : Int} {x2 : Int} {x3 : Int} {x4 : Int} (hp1 : p1 ∈ parL) (H : InR x4 ∧ InR x2 ∧ (x2 ≤ x4 → Q (some (vI x3)) σ) ∧ (¬ x2 ≤ x4 → (1024 ≤ x4 → Q (some (vI x3)) σ) ∧ (¬ 1024 ≤ x4 → CI X 283 [vI x4] σ (fun r3 τ1 => CI X 283 [vI x3] τ1 (fun r4 τ2 => InR r3 ∧ InR r4 ∧ (r4 ≤ r3 → Ev X 5 11 [some (vR (some p1)), some (vI x1), some (vI x2), some (vI x3), some (vI (x4 + 1))] [] τ2 Q) ∧ (¬ r4 ≤ r3 → CI X 86 [vR (some p1), vI (τ2.1 p1 3), vI x4] τ2 (fun r7 τ3 => InR (iAnd r7 x1) ∧ (iAnd r7 x1 ≠ 0 → Ev X 5 11 [some (vR (some p1)), some (vI x1), some (vI x2), some (vI x3), some (vI (x4 + 1))] [] τ3 Q) ∧ (¬ iAnd r7 x1 ≠ 0 → Ev X 5 11 [some (vR (some p1)), some (vI x1), some (vI x2), some (vI x4), some (vI (x4 + 1))] [] τ3 Q)))))))) : Ev X 5 11 [some (vR (some p1)), some (vI x1), some (vI x2), some (vI x3), some (vI x4)] [] σ Q := by
  have hcd : cds 5 = cd_5 := rfl
  iterate 2 (refine e_nx hcd rfl rfl ?_)
  obtain ⟨h1, H⟩ := H
  obtain ⟨h2, H⟩ := H
  refine r_icmp hcd rfl h1 h2 (fun hc => ?_) (fun hc => ?_)
  · replace H := H.1 hc
    refine e_nx hcd rfl rfl ?_
    exact r_iret hcd rfl rfl rfl H
  · replace H := H.2 hc
    iterate 2 (refine e_nx hcd rfl rfl ?_)
    refine r_icmp hcd rfl h1 (by omega) (fun hc => ?_) (fun hc => ?_)
    · replace H := H.1 hc
      refine e_nx hcd rfl rfl ?_
      exact r_iret hcd rfl rfl rfl H
    · replace H := H.2 hc
      refine e_nx hcd rfl rfl ?_
      refine r_cs hcd rfl (by omega) (Nat.le_of_ble_eq_true rfl) rfl rfl (Nat.le_of_ble_eq_true rfl) ?_
      refine Cl.mono H (fun v τ1 hq => ?_)
      obtain ⟨r3, rfl, H⟩ := hq
      show Ev X 5 19 _ [vI r3] τ1 Q
      refine e_nx hcd rfl rfl ?_
      refine r_cs hcd rfl (by omega) (Nat.le_of_ble_eq_true rfl) rfl rfl (Nat.le_of_ble_eq_true rfl) ?_
      refine Cl.mono H (fun v τ2 hq => ?_)
      obtain ⟨r4, rfl, H⟩ := hq
      show Ev X 5 21 _ [vI r4, vI r3] τ2 Q
      obtain ⟨h5, H⟩ := H
      obtain ⟨h6, H⟩ := H
      refine r_icmp hcd rfl h5 h6 (fun hc => ?_) (fun hc => ?_)
      · replace H := H.1 hc
        refine e_nx hcd rfl rfl ?_
        show Ev X 5 33 [some (vR (some p1)), some (vI x1), some (vI x2), some (vI x3), some (vI (x4 + 1))] [] _ Q
        refine e_nx hcd rfl rfl ?_
        exact H
      · replace H := H.2 hc
        iterate 2 (refine e_nx hcd rfl rfl ?_)
        refine r_getI hcd rfl ((parS hp1).1) rfl ?_
        refine e_nx hcd rfl rfl ?_
        refine r_cv hcd rfl (by omega) ((parS hp1).1) rfl rfl (Nat.le_of_ble_eq_true rfl) ?_
        refine Cl.mono H (fun v τ3 hq => ?_)
        obtain ⟨r7, rfl, H⟩ := hq
        show Ev X 5 27 _ [vI r7] τ3 Q
        iterate 2 (refine e_nx hcd rfl rfl ?_)
        obtain ⟨h8, H⟩ := H
        refine r_if hcd rfl h8 (fun hc => ?_) (fun hc => ?_)
        · replace H := H.1 hc
          refine e_nx hcd rfl rfl ?_
          show Ev X 5 33 [some (vR (some p1)), some (vI x1), some (vI x2), some (vI x3), some (vI (x4 + 1))] [] _ Q
          refine e_nx hcd rfl rfl ?_
          exact H
        · replace H := H.2 hc
          iterate 2 (refine e_nx hcd rfl rfl ?_)
          show Ev X 5 32 [some (vR (some p1)), some (vI x1), some (vI x2), some (vI x4), some (vI x4)] [] _ Q
          refine e_nx hcd rfl rfl ?_
          show Ev X 5 33 [some (vR (some p1)), some (vI x1), some (vI x2), some (vI x4), some (vI (x4 + 1))] [] _ Q
          refine e_nx hcd rfl rfl ?_
          exact H
/-! X1_exemptCases -/
theorem v_6 {X : PX} {σ : Sg} {Q : Option PV → Sg → Prop} {p1 : Nat} {a1 : Int} {a2 : Int} (hp1 : p1 ∈ parL) (H : Ev X 6 4 [some (vR (some p1)), some (vI a1), some (vI a2), some (vI 0), some (vI 0)] [] σ Q) : Cl X 6 [vR (some p1), vI a1, vI a2] σ Q := by
  have hcd : cds 6 = cd_6 := rfl
  refine c_in (Nat.le_of_ble_eq_true rfl) rfl rfl ?_
  show Ev X 6 0 [some (vR (some p1)), some (vI a1), some (vI a2), none, none] [] σ Q
  iterate 2 (refine e_nx hcd rfl rfl ?_)
  show Ev X 6 2 [some (vR (some p1)), some (vI a1), some (vI a2), some (vI 0), none] [] _ Q
  iterate 2 (refine e_nx hcd rfl rfl ?_)
  show Ev X 6 4 [some (vR (some p1)), some (vI a1), some (vI a2), some (vI 0), some (vI 0)] [] _ Q
  exact H
set_option maxRecDepth 20000 in
set_option maxHeartbeats 8000000 in
theorem v_6_4 {X : PX} {σ : Sg} {Q : Option PV → Sg → Prop} {p1 : Nat} {x1 : Int} {x2 : Int} {x3 : Int} {x4 : Int} (hp1 : p1 ∈ parL) (H : CI X 84 [vR (some p1)] σ (fun r1 τ1 => InR x4 ∧ InR r1 ∧ (r1 < x4 → Q (some (vI x3)) τ1) ∧ (¬ r1 < x4 → (128 ≤ x4 → Q (some (vI x3)) τ1) ∧ (¬ 128 ≤ x4 → CI X 283 [vI x4] τ1 (fun r4 τ2 => InR r4 ∧ InR x1 ∧ (r4 ≠ x1 → Ev X 6 4 [some (vR (some p1)), some (vI x1), some (vI x2), some (vI x3), some (vI (x4 + 1))] [] τ2 Q) ∧ (¬ r4 ≠ x1 → CI X 86 [vR (some p1), vI (iOr (τ2.1 p1 3) x4), vI 0] τ2 (fun r7 τ3 => CI X 283 [vI (iAnd r7 x2)] τ3 (fun r8 τ4 => Ev X 6 4 [some (vR (some p1)), some (vI x1), some (vI x2), some (vI (x3 + r8)), some (vI (x4 + 1))] [] τ4 Q)))))))) : Ev X 6 4 [some (vR (some p1)), some (vI x1), some (vI x2), some (vI x3), some (vI x4)] [] σ Q := by
  have hcd : cds 6 = cd_6 := rfl
  iterate 2 (refine e_nx hcd rfl rfl ?_)
  refine r_cv hcd rfl (by omega) ((parS hp1).1) rfl rfl (Nat.le_of_ble_eq_true rfl) ?_
  refine Cl.mono H (fun v τ1 hq => ?_)
  obtain ⟨r1, rfl, H⟩ := hq
  show Ev X 6 7 _ [vI r1, vI x4] τ1 Q
  obtain ⟨h2, H⟩ := H
  obtain ⟨h3, H⟩ := H
  refine r_icmp hcd rfl h2 h3 (fun hc => ?_) (fun hc => ?_)
  · replace H := H.1 hc
    refine e_nx hcd rfl rfl ?_
    exact r_iret hcd rfl rfl rfl H
  · replace H := H.2 hc
    iterate 2 (refine e_nx hcd rfl rfl ?_)
    refine r_icmp hcd rfl h2 (by omega) (fun hc => ?_) (fun hc => ?_)
    · replace H := H.1 hc
      refine e_nx hcd rfl rfl ?_
      exact r_iret hcd rfl rfl rfl H
    · replace H := H.2 hc
      refine e_nx hcd rfl rfl ?_
      refine r_cs hcd rfl (by omega) (Nat.le_of_ble_eq_true rfl) rfl rfl (Nat.le_of_ble_eq_true rfl) ?_
      refine Cl.mono H (fun v τ2 hq => ?_)
      obtain ⟨r4, rfl, H⟩ := hq
      show Ev X 6 13 _ [vI r4] τ2 Q
      refine e_nx hcd rfl rfl ?_
      obtain ⟨h5, H⟩ := H
      obtain ⟨h6, H⟩ := H
      refine r_icmp hcd rfl h5 h6 (fun hc => ?_) (fun hc => ?_)
      · replace H := H.1 hc
        refine e_nx hcd rfl rfl ?_
        show Ev X 6 29 [some (vR (some p1)), some (vI x1), some (vI x2), some (vI x3), some (vI (x4 + 1))] [] _ Q
        refine e_nx hcd rfl rfl ?_
        exact H
      · replace H := H.2 hc
        iterate 3 (refine e_nx hcd rfl rfl ?_)
        refine r_getI hcd rfl ((parS hp1).1) rfl ?_
        iterate 3 (refine e_nx hcd rfl rfl ?_)
        refine r_cv hcd rfl (by omega) ((parS hp1).1) rfl rfl (Nat.le_of_ble_eq_true rfl) ?_
        refine Cl.mono H (fun v τ3 hq => ?_)
        obtain ⟨r7, rfl, H⟩ := hq
        show Ev X 6 23 _ [vI r7, vI x3] τ3 Q
        iterate 2 (refine e_nx hcd rfl rfl ?_)
        refine r_cs hcd rfl (by omega) (Nat.le_of_ble_eq_true rfl) rfl rfl (Nat.le_of_ble_eq_true rfl) ?_
        refine Cl.mono H (fun v τ4 hq => ?_)
        obtain ⟨r8, rfl, H⟩ := hq
        show Ev X 6 26 _ [vI r8, vI x3] τ4 Q
        iterate 2 (refine e_nx hcd rfl rfl ?_)
        show Ev X 6 28 [some (vR (some p1)), some (vI x1), some (vI x2), some (vI (x3 + r8)), some (vI x4)] [] _ Q
        refine e_nx hcd rfl rfl ?_
        show Ev X 6 29 [some (vR (some p1)), some (vI x1), some (vI x2), some (vI (x3 + r8)), some (vI (x4 + 1))] [] _ Q
        refine e_nx hcd rfl rfl ?_
        exact H
/-! X1_setsOf -/
theorem v_7 {X : PX} {σ : Sg} {Q : Option PV → Sg → Prop} {p1 : Nat} {a1 : Int} (hp1 : p1 ∈ parL) (H : Ev X 7 4 [some (vR (some p1)), some (vI a1), some (vI 0), some (vI 0)] [] σ Q) : Cl X 7 [vR (some p1), vI a1] σ Q := by
  have hcd : cds 7 = cd_7 := rfl
  refine c_in (Nat.le_of_ble_eq_true rfl) rfl rfl ?_
  show Ev X 7 0 [some (vR (some p1)), some (vI a1), none, none] [] σ Q
  iterate 2 (refine e_nx hcd rfl rfl ?_)
  show Ev X 7 2 [some (vR (some p1)), some (vI a1), some (vI 0), none] [] _ Q
  iterate 2 (refine e_nx hcd rfl rfl ?_)
  show Ev X 7 4 [some (vR (some p1)), some (vI a1), some (vI 0), some (vI 0)] [] _ Q
  exact H
theorem v_7_4 {X : PX} {σ : Sg} {Q : Option PV → Sg → Prop} {p1 : Nat} {x1 : Int} {x2 : Int} {x3 : Int} (hp1 : p1 ∈ parL) (H : CI X 84 [vR (some p1)] σ (fun r1 τ1 => InR x3 ∧ InR r1 ∧ (r1 < x3 → Q (some (vI x2)) τ1) ∧ (¬ r1 < x3 → (128 ≤ x3 → Q (some (vI x2)) τ1) ∧ (¬ 128 ≤ x3 → CI X 283 [vI x3] τ1 (fun r4 τ2 => InR r4 ∧ InR x1 ∧ (r4 ≠ x1 → Ev X 7 4 [some (vR (some p1)), some (vI x1), some (vI x2), some (vI (x3 + 1))] [] τ2 Q) ∧ (¬ r4 ≠ x1 → Ev X 7 4 [some (vR (some p1)), some (vI x1), some (vI (x2 + 1)), some (vI (x3 + 1))] [] τ2 Q)))))) : Ev X 7 4 [some (vR (some p1)), some (vI x1), some (vI x2), some (vI x3)] [] σ Q := by
  have hcd : cds 7 = cd_7 := rfl
  iterate 2 (refine e_nx hcd rfl rfl ?_)
  refine r_cv hcd rfl (by omega) ((parS hp1).1) rfl rfl (Nat.le_of_ble_eq_true rfl) ?_
  refine Cl.mono H (fun v τ1 hq => ?_)
  obtain ⟨r1, rfl, H⟩ := hq
  show Ev X 7 7 _ [vI r1, vI x3] τ1 Q
  obtain ⟨h2, H⟩ := H
  obtain ⟨h3, H⟩ := H
  refine r_icmp hcd rfl h2 h3 (fun hc => ?_) (fun hc => ?_)
  · replace H := H.1 hc
    refine e_nx hcd rfl rfl ?_
    exact r_iret hcd rfl rfl rfl H
  · replace H := H.2 hc
    iterate 2 (refine e_nx hcd rfl rfl ?_)
    refine r_icmp hcd rfl h2 (by omega) (fun hc => ?_) (fun hc => ?_)
    · replace H := H.1 hc
      refine e_nx hcd rfl rfl ?_
      exact r_iret hcd rfl rfl rfl H
    · replace H := H.2 hc
      refine e_nx hcd rfl rfl ?_
      refine r_cs hcd rfl (by omega) (Nat.le_of_ble_eq_true rfl) rfl rfl (Nat.le_of_ble_eq_true rfl) ?_
      refine Cl.mono H (fun v τ2 hq => ?_)
      obtain ⟨r4, rfl, H⟩ := hq
      show Ev X 7 13 _ [vI r4] τ2 Q
      refine e_nx hcd rfl rfl ?_
      obtain ⟨h5, H⟩ := H
      obtain ⟨h6, H⟩ := H
      refine r_icmp hcd rfl h5 h6 (fun hc => ?_) (fun hc => ?_)
      · replace H := H.1 hc
        refine e_nx hcd rfl rfl ?_
        show Ev X 7 17 [some (vR (some p1)), some (vI x1), some (vI x2), some (vI (x3 + 1))] [] _ Q
        refine e_nx hcd rfl rfl ?_
        exact H
      · replace H := H.2 hc
        refine e_nx hcd rfl rfl ?_
        show Ev X 7 16 [some (vR (some p1)), some (vI x1), some (vI (x2 + 1)), some (vI x3)] [] _ Q
        refine e_nx hcd rfl rfl ?_
        show Ev X 7 17 [some (vR (some p1)), some (vI x1), some (vI (x2 + 1)), some (vI (x3 + 1))] [] _ Q
        refine e_nx hcd rfl rfl ?_
        exact H
/-! X1_retinueSize -/
theorem v_8 {X : PX} {σ : Sg} {Q : Option PV → Sg → Prop} {p1 : Nat} {a1 : Int} (hp1 : p1 ∈ parL) (H : CI X 82 [vR (some p1), vI a1] σ (fun r1 τ1 => InR r1 ∧ (r1 = 0 → Q (some (vI 0)) τ1) ∧ (¬ r1 = 0 → CI X 86 [vR (some p1), vI (iShl 1 a1), vI 0] τ1 (fun r3 τ2 => CI X 283 [vI r3] τ2 (fun r4 τ3 => Q (some (vI r4)) τ3))))) : Cl X 8 [vR (some p1), vI a1] σ Q := by
  have hcd : cds 8 = cd_8 := rfl
  refine c_in (Nat.le_of_ble_eq_true rfl) rfl rfl ?_
  show Ev X 8 0 [some (vR (some p1)), some (vI a1)] [] σ Q
  iterate 2 (refine e_nx hcd rfl rfl ?_)
  refine r_cv hcd rfl (by omega) ((parS hp1).1) rfl rfl (Nat.le_of_ble_eq_true rfl) ?_
  refine Cl.mono H (fun v τ1 hq => ?_)
  obtain ⟨r1, rfl, H⟩ := hq
  show Ev X 8 3 _ [vI r1] τ1 Q
  obtain ⟨h2, H⟩ := H
  refine r_if hcd rfl h2 (fun hc => ?_) (fun hc => ?_)
  · replace H := H.1 hc
    refine e_nx hcd rfl rfl ?_
    exact r_iret hcd rfl rfl rfl H
  · replace H := H.2 hc
    iterate 5 (refine e_nx hcd rfl rfl ?_)
    refine r_cv hcd rfl (by omega) ((parS hp1).1) rfl rfl (Nat.le_of_ble_eq_true rfl) ?_
    refine Cl.mono H (fun v τ2 hq => ?_)
    obtain ⟨r3, rfl, H⟩ := hq
    show Ev X 8 10 _ [vI r3] τ2 Q
    refine r_cs hcd rfl (by omega) (Nat.le_of_ble_eq_true rfl) rfl rfl (Nat.le_of_ble_eq_true rfl) ?_
    refine Cl.mono H (fun v τ3 hq => ?_)
    obtain ⟨r4, rfl, H⟩ := hq
    show Ev X 8 11 _ [vI r4] τ3 Q
    refine e_nx hcd rfl rfl ?_
    exact r_iret hcd rfl rfl rfl H
/-! X1_chiefOf -/
theorem v_9 {X : PX} {σ : Sg} {Q : Option PV → Sg → Prop} {p1 : Nat} (hp1 : p1 ∈ parL) (H : Ev X 9 6 [some (vR (some p1)), some (vI (-1)), some (vI 0), some (vI 0), none] [] σ Q) : Cl X 9 [vR (some p1)] σ Q := by
  have hcd : cds 9 = cd_9 := rfl
  refine c_in (Nat.le_of_ble_eq_true rfl) rfl rfl ?_
  show Ev X 9 0 [some (vR (some p1)), none, none, none, none] [] σ Q
  iterate 2 (refine e_nx hcd rfl rfl ?_)
  show Ev X 9 2 [some (vR (some p1)), some (vI (-1)), none, none, none] [] _ Q
  iterate 2 (refine e_nx hcd rfl rfl ?_)
  show Ev X 9 4 [some (vR (some p1)), some (vI (-1)), some (vI 0), none, none] [] _ Q
  iterate 2 (refine e_nx hcd rfl rfl ?_)
  show Ev X 9 6 [some (vR (some p1)), some (vI (-1)), some (vI 0), some (vI 0), none] [] _ Q
  exact H
set_option maxRecDepth 20000 in
set_option maxHeartbeats 8000000 in
theorem v_9_6 {X : PX} {σ : Sg} {Q : Option PV → Sg → Prop} {p1 : Nat} {x1 : Int} {x2 : Int} {x3 : Int} (hp1 : p1 ∈ parL) (H : InR x3 ∧ InR (σ.1 p1 2) ∧ (σ.1 p1 2 ≤ x3 → Q (some (vI x1)) σ) ∧ (¬ σ.1 p1 2 ≤ x3 → (7 ≤ x3 → Q (some (vI x1)) σ) ∧ (¬ 7 ≤ x3 → CI X 8 [vR (some p1), vI x3] σ (fun r3 τ1 => InR r3 ∧ InR x2 ∧ (r3 ≤ x2 → Ev X 9 6 [some (vR (some p1)), some (vI x1), some (vI x2), some (vI (x3 + 1)), none] [] τ1 Q) ∧ (¬ r3 ≤ x2 → Ev X 9 6 [some (vR (some p1)), some (vI x3), some (vI r3), some (vI (x3 + 1)), none] [] τ1 Q))))) : Ev X 9 6 [some (vR (some p1)), some (vI x1), some (vI x2), some (vI x3), none] [] σ Q := by
  have hcd : cds 9 = cd_9 := rfl
  iterate 2 (refine e_nx hcd rfl rfl ?_)
  refine r_getI hcd rfl ((parS hp1).1) rfl ?_
  obtain ⟨h1, H⟩ := H
  obtain ⟨h2, H⟩ := H
  refine r_icmp hcd rfl h1 h2 (fun hc => ?_) (fun hc => ?_)
  · replace H := H.1 hc
    refine e_nx hcd rfl rfl ?_
    exact r_iret hcd rfl rfl rfl H
  · replace H := H.2 hc
    iterate 2 (refine e_nx hcd rfl rfl ?_)
    refine r_icmp hcd rfl h1 (by omega) (fun hc => ?_) (fun hc => ?_)
    · replace H := H.1 hc
      refine e_nx hcd rfl rfl ?_
      exact r_iret hcd rfl rfl rfl H
    · replace H := H.2 hc
      iterate 2 (refine e_nx hcd rfl rfl ?_)
      refine r_cs hcd rfl (by omega) (Nat.le_of_ble_eq_true rfl) rfl rfl (Nat.le_of_ble_eq_true rfl) ?_
      refine Cl.mono H (fun v τ1 hq => ?_)
      obtain ⟨r3, rfl, H⟩ := hq
      show Ev X 9 16 _ [vI r3] τ1 Q
      refine e_nx hcd rfl rfl ?_
      show Ev X 9 17 [some (vR (some p1)), some (vI x1), some (vI x2), some (vI x3), some (vI r3)] [] _ Q
      iterate 2 (refine e_nx hcd rfl rfl ?_)
      obtain ⟨h4, H⟩ := H
      obtain ⟨h5, H⟩ := H
      refine r_icmp hcd rfl h4 h5 (fun hc => ?_) (fun hc => ?_)
      · replace H := H.1 hc
        refine e_nx hcd rfl rfl ?_
        show Ev X 9 25 [some (vR (some p1)), some (vI x1), some (vI x2), some (vI (x3 + 1)), some (vI r3)] [] _ Q
        refine e_nx hcd rfl rfl ?_
        refine e_fg [4] ?_
        exact H
      · replace H := H.2 hc
        iterate 2 (refine e_nx hcd rfl rfl ?_)
        show Ev X 9 22 [some (vR (some p1)), some (vI x3), some (vI x2), some (vI x3), some (vI r3)] [] _ Q
        iterate 2 (refine e_nx hcd rfl rfl ?_)
        show Ev X 9 24 [some (vR (some p1)), some (vI x3), some (vI r3), some (vI x3), some (vI r3)] [] _ Q
        refine e_nx hcd rfl rfl ?_
        show Ev X 9 25 [some (vR (some p1)), some (vI x3), some (vI r3), some (vI (x3 + 1)), some (vI r3)] [] _ Q
        refine e_nx hcd rfl rfl ?_
        refine e_fg [4] ?_
        exact H
/-! X1_keysOf -/
theorem v_10 {X : PX} {σ : Sg} {Q : Option PV → Sg → Prop} {p1 : Nat} (hp1 : p1 ∈ parL) (H : CI X 86 [vR (some p1), vI (σ.1 p1 3), vI 0] σ (fun r1 τ1 => Ev X 10 10 [some (vR (some p1)), some (vI r1), some (vI 0), some (vI 0)] [] τ1 Q)) : Cl X 10 [vR (some p1)] σ Q := by
  have hcd : cds 10 = cd_10 := rfl
  refine c_in (Nat.le_of_ble_eq_true rfl) rfl rfl ?_
  show Ev X 10 0 [some (vR (some p1)), none, none, none] [] σ Q
  iterate 2 (refine e_nx hcd rfl rfl ?_)
  refine r_getI hcd rfl ((parS hp1).1) rfl ?_
  refine e_nx hcd rfl rfl ?_
  refine r_cv hcd rfl (by omega) ((parS hp1).1) rfl rfl (Nat.le_of_ble_eq_true rfl) ?_
  refine Cl.mono H (fun v τ1 hq => ?_)
  obtain ⟨r1, rfl, H⟩ := hq
  show Ev X 10 5 _ [vI r1] τ1 Q
  refine e_nx hcd rfl rfl ?_
  show Ev X 10 6 [some (vR (some p1)), some (vI r1), none, none] [] _ Q
  iterate 2 (refine e_nx hcd rfl rfl ?_)
  show Ev X 10 8 [some (vR (some p1)), some (vI r1), some (vI 0), none] [] _ Q
  iterate 2 (refine e_nx hcd rfl rfl ?_)
  show Ev X 10 10 [some (vR (some p1)), some (vI r1), some (vI 0), some (vI 0)] [] _ Q
  exact H
theorem v_10_10 {X : PX} {σ : Sg} {Q : Option PV → Sg → Prop} {p1 : Nat} {x1 : Int} {x2 : Int} {x3 : Int} (hp1 : p1 ∈ parL) (H : InR x3 ∧ InR (σ.1 p1 4) ∧ (σ.1 p1 4 ≤ x3 → Q (some (vI x2)) σ) ∧ (¬ σ.1 p1 4 ≤ x3 → (10 ≤ x3 → Q (some (vI x2)) σ) ∧ (¬ 10 ≤ x3 → CI X 86 [vR (some p1), vI (σ.1 p1 3), vI (iShl 1 x3)] σ (fun r3 τ1 => InR r3 ∧ InR x1 ∧ (r3 = x1 → Ev X 10 10 [some (vR (some p1)), some (vI x1), some (vI x2), some (vI (x3 + 1))] [] τ1 Q) ∧ (¬ r3 = x1 → Ev X 10 10 [some (vR (some p1)), some (vI x1), some (vI (iOr x2 (iShl 1 x3))), some (vI (x3 + 1))] [] τ1 Q))))) : Ev X 10 10 [some (vR (some p1)), some (vI x1), some (vI x2), some (vI x3)] [] σ Q := by
  have hcd : cds 10 = cd_10 := rfl
  iterate 2 (refine e_nx hcd rfl rfl ?_)
  refine r_getI hcd rfl ((parS hp1).1) rfl ?_
  obtain ⟨h1, H⟩ := H
  obtain ⟨h2, H⟩ := H
  refine r_icmp hcd rfl h1 h2 (fun hc => ?_) (fun hc => ?_)
  · replace H := H.1 hc
    refine e_nx hcd rfl rfl ?_
    exact r_iret hcd rfl rfl rfl H
  · replace H := H.2 hc
    iterate 2 (refine e_nx hcd rfl rfl ?_)
    refine r_icmp hcd rfl h1 (by omega) (fun hc => ?_) (fun hc => ?_)
    · replace H := H.1 hc
      refine e_nx hcd rfl rfl ?_
      exact r_iret hcd rfl rfl rfl H
    · replace H := H.2 hc
      iterate 2 (refine e_nx hcd rfl rfl ?_)
      refine r_getI hcd rfl ((parS hp1).1) rfl ?_
      iterate 3 (refine e_nx hcd rfl rfl ?_)
      refine r_cv hcd rfl (by omega) ((parS hp1).1) rfl rfl (Nat.le_of_ble_eq_true rfl) ?_
      refine Cl.mono H (fun v τ1 hq => ?_)
      obtain ⟨r3, rfl, H⟩ := hq
      show Ev X 10 24 _ [vI r3] τ1 Q
      refine e_nx hcd rfl rfl ?_
      obtain ⟨h4, H⟩ := H
      obtain ⟨h5, H⟩ := H
      refine r_icmp hcd rfl h4 h5 (fun hc => ?_) (fun hc => ?_)
      · replace H := H.1 hc
        refine e_nx hcd rfl rfl ?_
        show Ev X 10 33 [some (vR (some p1)), some (vI x1), some (vI x2), some (vI (x3 + 1))] [] _ Q
        refine e_nx hcd rfl rfl ?_
        exact H
      · replace H := H.2 hc
        iterate 6 (refine e_nx hcd rfl rfl ?_)
        show Ev X 10 32 [some (vR (some p1)), some (vI x1), some (vI (iOr x2 (iShl 1 x3))), some (vI x3)] [] _ Q
        refine e_nx hcd rfl rfl ?_
        show Ev X 10 33 [some (vR (some p1)), some (vI x1), some (vI (iOr x2 (iShl 1 x3))), some (vI (x3 + 1))] [] _ Q
        refine e_nx hcd rfl rfl ?_
        exact H
/-! X1_idleOf -/
theorem v_11 {X : PX} {σ : Sg} {Q : Option PV → Sg → Prop} {p1 : Nat} (hp1 : p1 ∈ parL) (H : Ev X 11 4 [some (vR (some p1)), some (vI 0), some (vI 0), none] [] σ Q) : Cl X 11 [vR (some p1)] σ Q := by
  have hcd : cds 11 = cd_11 := rfl
  refine c_in (Nat.le_of_ble_eq_true rfl) rfl rfl ?_
  show Ev X 11 0 [some (vR (some p1)), none, none, none] [] σ Q
  iterate 2 (refine e_nx hcd rfl rfl ?_)
  show Ev X 11 2 [some (vR (some p1)), some (vI 0), none, none] [] _ Q
  iterate 2 (refine e_nx hcd rfl rfl ?_)
  show Ev X 11 4 [some (vR (some p1)), some (vI 0), some (vI 0), none] [] _ Q
  exact H
set_option maxRecDepth 20000 in
set_option maxHeartbeats 8000000 in
theorem v_11_4 {X : PX} {σ : Sg} {Q : Option PV → Sg → Prop} {p1 : Nat} {x1 : Int} {x2 : Int} (hp1 : p1 ∈ parL) (H : InR x2 ∧ InR (σ.1 p1 4) ∧ (σ.1 p1 4 ≤ x2 → Q (some (vI x1)) σ) ∧ (¬ σ.1 p1 4 ≤ x2 → (10 ≤ x2 → Q (some (vI x1)) σ) ∧ (¬ 10 ≤ x2 → (0 ≤ x2 ∧ x2 < 10) ∧ CI X 86 [vR (some p1), vI (σ.2 (p1 + 6) x2.toNat), vI (iShl 1 x2)] σ (fun r4 τ1 => InR (iAnd (iShr r4 (τ1.2 (p1 + 3) x2.toNat)) 1) ∧ (iAnd (iShr r4 (τ1.2 (p1 + 3) x2.toNat)) 1 = 0 → Ev X 11 4 [some (vR (some p1)), some (vI x1), some (vI (x2 + 1)), none] [] τ1 Q) ∧ (¬ iAnd (iShr r4 (τ1.2 (p1 + 3) x2.toNat)) 1 = 0 → Ev X 11 4 [some (vR (some p1)), some (vI (iOr x1 (iShl 1 x2))), some (vI (x2 + 1)), none] [] τ1 Q))))) : Ev X 11 4 [some (vR (some p1)), some (vI x1), some (vI x2), none] [] σ Q := by
  have hcd : cds 11 = cd_11 := rfl
  iterate 2 (refine e_nx hcd rfl rfl ?_)
  refine r_getI hcd rfl ((parS hp1).1) rfl ?_
  obtain ⟨h1, H⟩ := H
  obtain ⟨h2, H⟩ := H
  refine r_icmp hcd rfl h1 h2 (fun hc => ?_) (fun hc => ?_)
  · replace H := H.1 hc
    refine e_nx hcd rfl rfl ?_
    exact r_iret hcd rfl rfl rfl H
  · replace H := H.2 hc
    iterate 2 (refine e_nx hcd rfl rfl ?_)
    refine r_icmp hcd rfl h1 (by omega) (fun hc => ?_) (fun hc => ?_)
    · replace H := H.1 hc
      refine e_nx hcd rfl rfl ?_
      exact r_iret hcd rfl rfl rfl H
    · replace H := H.2 hc
      iterate 2 (refine e_nx hcd rfl rfl ?_)
      refine r_getR hcd rfl ((parS hp1).1) rfl ?_
      refine e_nx hcd rfl rfl ?_
      obtain ⟨h3, H⟩ := H
      refine r_ild hcd rfl ((parS hp1).2.2.2.2.2.2) (by omega) h3 ?_
      iterate 3 (refine e_nx hcd rfl rfl ?_)
      refine r_cv hcd rfl (by omega) ((parS hp1).1) rfl rfl (Nat.le_of_ble_eq_true rfl) ?_
      refine Cl.mono H (fun v τ1 hq => ?_)
      obtain ⟨r4, rfl, H⟩ := hq
      show Ev X 11 20 _ [vI r4] τ1 Q
      refine e_nx hcd rfl rfl ?_
      show Ev X 11 21 [some (vR (some p1)), some (vI x1), some (vI x2), some (vI r4)] [] _ Q
      iterate 2 (refine e_nx hcd rfl rfl ?_)
      refine r_getR hcd rfl ((parS hp1).1) rfl ?_
      refine e_nx hcd rfl rfl ?_
      refine r_ild hcd rfl ((parS hp1).2.2.2.1) (by omega) h3 ?_
      iterate 3 (refine e_nx hcd rfl rfl ?_)
      obtain ⟨h5, H⟩ := H
      refine r_if hcd rfl h5 (fun hc => ?_) (fun hc => ?_)
      · replace H := H.1 hc
        refine e_nx hcd rfl rfl ?_
        show Ev X 11 37 [some (vR (some p1)), some (vI x1), some (vI (x2 + 1)), some (vI r4)] [] _ Q
        refine e_nx hcd rfl rfl ?_
        refine e_fg [3] ?_
        exact H
      · replace H := H.2 hc
        iterate 6 (refine e_nx hcd rfl rfl ?_)
        show Ev X 11 36 [some (vR (some p1)), some (vI (iOr x1 (iShl 1 x2))), some (vI x2), some (vI r4)] [] _ Q
        refine e_nx hcd rfl rfl ?_
        show Ev X 11 37 [some (vR (some p1)), some (vI (iOr x1 (iShl 1 x2))), some (vI (x2 + 1)), some (vI r4)] [] _ Q
        refine e_nx hcd rfl rfl ?_
        refine e_fg [3] ?_
        exact H
/-! X1_ringedOf -/
theorem v_12 {X : PX} {σ : Sg} {Q : Option PV → Sg → Prop} {p1 : Nat} (hp1 : p1 ∈ parL) (H : Ev X 12 4 [some (vR (some p1)), some (vI 0), some (vI 0)] [] σ Q) : Cl X 12 [vR (some p1)] σ Q := by
  have hcd : cds 12 = cd_12 := rfl
  refine c_in (Nat.le_of_ble_eq_true rfl) rfl rfl ?_
  show Ev X 12 0 [some (vR (some p1)), none, none] [] σ Q
  iterate 2 (refine e_nx hcd rfl rfl ?_)
  show Ev X 12 2 [some (vR (some p1)), some (vI 0), none] [] _ Q
  iterate 2 (refine e_nx hcd rfl rfl ?_)
  show Ev X 12 4 [some (vR (some p1)), some (vI 0), some (vI 0)] [] _ Q
  exact H
theorem v_12_4 {X : PX} {σ : Sg} {Q : Option PV → Sg → Prop} {p1 : Nat} {x1 : Int} {x2 : Int} (hp1 : p1 ∈ parL) (H : InR x2 ∧ InR (σ.1 p1 2) ∧ (σ.1 p1 2 ≤ x2 → Q (some (vI x1)) σ) ∧ (¬ σ.1 p1 2 ≤ x2 → (7 ≤ x2 → Q (some (vI x1)) σ) ∧ (¬ 7 ≤ x2 → CI X 13 [vR (some p1), vI x2] σ (fun r3 τ1 => Ev X 12 4 [some (vR (some p1)), some (vI (iOr x1 (iAnd r3 (iShl 1 x2)))), some (vI (x2 + 1))] [] τ1 Q)))) : Ev X 12 4 [some (vR (some p1)), some (vI x1), some (vI x2)] [] σ Q := by
  have hcd : cds 12 = cd_12 := rfl
  iterate 2 (refine e_nx hcd rfl rfl ?_)
  refine r_getI hcd rfl ((parS hp1).1) rfl ?_
  obtain ⟨h1, H⟩ := H
  obtain ⟨h2, H⟩ := H
  refine r_icmp hcd rfl h1 h2 (fun hc => ?_) (fun hc => ?_)
  · replace H := H.1 hc
    refine e_nx hcd rfl rfl ?_
    exact r_iret hcd rfl rfl rfl H
  · replace H := H.2 hc
    iterate 2 (refine e_nx hcd rfl rfl ?_)
    refine r_icmp hcd rfl h1 (by omega) (fun hc => ?_) (fun hc => ?_)
    · replace H := H.1 hc
      refine e_nx hcd rfl rfl ?_
      exact r_iret hcd rfl rfl rfl H
    · replace H := H.2 hc
      iterate 3 (refine e_nx hcd rfl rfl ?_)
      refine r_cs hcd rfl (by omega) (Nat.le_of_ble_eq_true rfl) rfl rfl (Nat.le_of_ble_eq_true rfl) ?_
      refine Cl.mono H (fun v τ1 hq => ?_)
      obtain ⟨r3, rfl, H⟩ := hq
      show Ev X 12 15 _ [vI r3, vI x1] τ1 Q
      iterate 6 (refine e_nx hcd rfl rfl ?_)
      show Ev X 12 21 [some (vR (some p1)), some (vI (iOr x1 (iAnd r3 (iShl 1 x2)))), some (vI x2)] [] _ Q
      refine e_nx hcd rfl rfl ?_
      show Ev X 12 22 [some (vR (some p1)), some (vI (iOr x1 (iAnd r3 (iShl 1 x2)))), some (vI (x2 + 1))] [] _ Q
      refine e_nx hcd rfl rfl ?_
      exact H
/-! X1_aboveByTies -/
theorem v_13 {X : PX} {σ : Sg} {Q : Option PV → Sg → Prop} {p1 : Nat} {a1 : Int} (hp1 : p1 ∈ parL) (H : Ev X 13 4 [some (vR (some p1)), some (vI a1), some (vI 0), some (vI 0), none, none] [] σ Q) : Cl X 13 [vR (some p1), vI a1] σ Q := by
  have hcd : cds 13 = cd_13 := rfl
  refine c_in (Nat.le_of_ble_eq_true rfl) rfl rfl ?_
  show Ev X 13 0 [some (vR (some p1)), some (vI a1), none, none, none, none] [] σ Q
  iterate 2 (refine e_nx hcd rfl rfl ?_)
  show Ev X 13 2 [some (vR (some p1)), some (vI a1), some (vI 0), none, none, none] [] _ Q
  iterate 2 (refine e_nx hcd rfl rfl ?_)
  show Ev X 13 4 [some (vR (some p1)), some (vI a1), some (vI 0), some (vI 0), none, none] [] _ Q
  exact H
theorem v_13_4 {X : PX} {σ : Sg} {Q : Option PV → Sg → Prop} {p1 : Nat} {x1 : Int} {x2 : Int} {x3 : Int} (hp1 : p1 ∈ parL) (H : InR x3 ∧ (7 ≤ x3 → Q (some (vI x2)) σ) ∧ (¬ 7 ≤ x3 → Ev X 13 15 [some (vR (some p1)), some (vI x1), some (vI x2), some (vI x3), some (vI (iOr x2 (iShl 1 x1))), some (vI 0)] [] σ Q)) : Ev X 13 4 [some (vR (some p1)), some (vI x1), some (vI x2), some (vI x3), none, none] [] σ Q := by
  have hcd : cds 13 = cd_13 := rfl
  iterate 2 (refine e_nx hcd rfl rfl ?_)
  obtain ⟨h1, H⟩ := H
  refine r_icmp hcd rfl h1 (by omega) (fun hc => ?_) (fun hc => ?_)
  · replace H := H.1 hc
    refine e_nx hcd rfl rfl ?_
    exact r_iret hcd rfl rfl rfl H
  · replace H := H.2 hc
    iterate 6 (refine e_nx hcd rfl rfl ?_)
    show Ev X 13 13 [some (vR (some p1)), some (vI x1), some (vI x2), some (vI x3), some (vI (iOr x2 (iShl 1 x1))), none] [] _ Q
    iterate 2 (refine e_nx hcd rfl rfl ?_)
    show Ev X 13 15 [some (vR (some p1)), some (vI x1), some (vI x2), some (vI x3), some (vI (iOr x2 (iShl 1 x1))), some (vI 0)] [] _ Q
    exact H
set_option maxRecDepth 20000 in
set_option maxHeartbeats 8000000 in
theorem v_13_15 {X : PX} {σ : Sg} {Q : Option PV → Sg → Prop} {p1 : Nat} {x1 : Int} {x2 : Int} {x3 : Int} {x4 : Int} {x5 : Int} (hp1 : p1 ∈ parL) (H : InR x5 ∧ InR (σ.1 p1 4) ∧ (σ.1 p1 4 ≤ x5 → Ev X 13 4 [some (vR (some p1)), some (vI x1), some (vI x2), some (vI (x3 + 1)), none, none] [] σ Q) ∧ (¬ σ.1 p1 4 ≤ x5 → (10 ≤ x5 → Ev X 13 4 [some (vR (some p1)), some (vI x1), some (vI x2), some (vI (x3 + 1)), none, none] [] σ Q) ∧ (¬ 10 ≤ x5 → (0 ≤ x5 ∧ x5 < 10) ∧ InR (σ.2 (p1 + 5) x5.toNat) ∧ (σ.2 (p1 + 5) x5.toNat ≠ (-1) → Ev X 13 15 [some (vR (some p1)), some (vI x1), some (vI x2), some (vI x3), some (vI x4), some (vI (x5 + 1))] [] σ Q) ∧ (¬ σ.2 (p1 + 5) x5.toNat ≠ (-1) → InR (iAnd (iShr x4 (σ.2 (p1 + 3) x5.toNat)) 1) ∧ (iAnd (iShr x4 (σ.2 (p1 + 3) x5.toNat)) 1 = 0 → Ev X 13 15 [some (vR (some p1)), some (vI x1), some (vI x2), some (vI x3), some (vI x4), some (vI (x5 + 1))] [] σ Q) ∧ (¬ iAnd (iShr x4 (σ.2 (p1 + 3) x5.toNat)) 1 = 0 → Ev X 13 15 [some (vR (some p1)), some (vI x1), some (vI (iOr x2 (σ.2 (p1 + 6) x5.toNat))), some (vI x3), some (vI x4), some (vI (x5 + 1))] [] σ Q))))) : Ev X 13 15 [some (vR (some p1)), some (vI x1), some (vI x2), some (vI x3), some (vI x4), some (vI x5)] [] σ Q := by
  have hcd : cds 13 = cd_13 := rfl
  iterate 2 (refine e_nx hcd rfl rfl ?_)
  refine r_getI hcd rfl ((parS hp1).1) rfl ?_
  obtain ⟨h1, H⟩ := H
  obtain ⟨h2, H⟩ := H
  refine r_icmp hcd rfl h1 h2 (fun hc => ?_) (fun hc => ?_)
  · replace H := H.1 hc
    refine e_nx hcd rfl rfl ?_
    show Ev X 13 47 [some (vR (some p1)), some (vI x1), some (vI x2), some (vI (x3 + 1)), some (vI x4), some (vI x5)] [] _ Q
    refine e_nx hcd rfl rfl ?_
    refine e_fg [4, 5] ?_
    exact H
  · replace H := H.2 hc
    iterate 2 (refine e_nx hcd rfl rfl ?_)
    refine r_icmp hcd rfl h1 (by omega) (fun hc => ?_) (fun hc => ?_)
    · replace H := H.1 hc
      refine e_nx hcd rfl rfl ?_
      show Ev X 13 47 [some (vR (some p1)), some (vI x1), some (vI x2), some (vI (x3 + 1)), some (vI x4), some (vI x5)] [] _ Q
      refine e_nx hcd rfl rfl ?_
      refine e_fg [4, 5] ?_
      exact H
    · replace H := H.2 hc
      refine e_nx hcd rfl rfl ?_
      refine r_getR hcd rfl ((parS hp1).1) rfl ?_
      refine e_nx hcd rfl rfl ?_
      obtain ⟨h3, H⟩ := H
      refine r_ild hcd rfl ((parS hp1).2.2.2.2.2.1) (by omega) h3 ?_
      refine e_nx hcd rfl rfl ?_
      obtain ⟨h4, H⟩ := H
      refine r_icmp hcd rfl h4 (by omega) (fun hc => ?_) (fun hc => ?_)
      · replace H := H.1 hc
        refine e_nx hcd rfl rfl ?_
        show Ev X 13 45 [some (vR (some p1)), some (vI x1), some (vI x2), some (vI x3), some (vI x4), some (vI (x5 + 1))] [] _ Q
        refine e_nx hcd rfl rfl ?_
        exact H
      · replace H := H.2 hc
        iterate 2 (refine e_nx hcd rfl rfl ?_)
        refine r_getR hcd rfl ((parS hp1).1) rfl ?_
        refine e_nx hcd rfl rfl ?_
        refine r_ild hcd rfl ((parS hp1).2.2.2.1) (by omega) h3 ?_
        iterate 3 (refine e_nx hcd rfl rfl ?_)
        obtain ⟨h5, H⟩ := H
        refine r_if hcd rfl h5 (fun hc => ?_) (fun hc => ?_)
        · replace H := H.1 hc
          refine e_nx hcd rfl rfl ?_
          show Ev X 13 45 [some (vR (some p1)), some (vI x1), some (vI x2), some (vI x3), some (vI x4), some (vI (x5 + 1))] [] _ Q
          refine e_nx hcd rfl rfl ?_
          exact H
        · replace H := H.2 hc
          iterate 2 (refine e_nx hcd rfl rfl ?_)
          refine r_getR hcd rfl ((parS hp1).1) rfl ?_
          refine e_nx hcd rfl rfl ?_
          refine r_ild hcd rfl ((parS hp1).2.2.2.2.2.2) (by omega) h3 ?_
          iterate 2 (refine e_nx hcd rfl rfl ?_)
          show Ev X 13 44 [some (vR (some p1)), some (vI x1), some (vI (iOr x2 (σ.2 (p1 + 6) x5.toNat))), some (vI x3), some (vI x4), some (vI x5)] [] _ Q
          refine e_nx hcd rfl rfl ?_
          show Ev X 13 45 [some (vR (some p1)), some (vI x1), some (vI (iOr x2 (σ.2 (p1 + 6) x5.toNat))), some (vI x3), some (vI x4), some (vI (x5 + 1))] [] _ Q
          refine e_nx hcd rfl rfl ?_
          exact H
/-! X1_loneOf -/
theorem v_14 {X : PX} {σ : Sg} {Q : Option PV → Sg → Prop} {p1 : Nat} (hp1 : p1 ∈ parL) (H : CI X 84 [vR (some p1)] σ (fun r1 τ1 => Ev X 14 5 [some (vR (some p1)), some (vI r1), some (vI 0)] [] τ1 Q)) : Cl X 14 [vR (some p1)] σ Q := by
  have hcd : cds 14 = cd_14 := rfl
  refine c_in (Nat.le_of_ble_eq_true rfl) rfl rfl ?_
  show Ev X 14 0 [some (vR (some p1)), none, none] [] σ Q
  refine e_nx hcd rfl rfl ?_
  refine r_cv hcd rfl (by omega) ((parS hp1).1) rfl rfl (Nat.le_of_ble_eq_true rfl) ?_
  refine Cl.mono H (fun v τ1 hq => ?_)
  obtain ⟨r1, rfl, H⟩ := hq
  show Ev X 14 2 _ [vI r1] τ1 Q
  refine e_nx hcd rfl rfl ?_
  show Ev X 14 3 [some (vR (some p1)), some (vI r1), none] [] _ Q
  iterate 2 (refine e_nx hcd rfl rfl ?_)
  show Ev X 14 5 [some (vR (some p1)), some (vI r1), some (vI 0)] [] _ Q
  exact H
theorem v_14_5 {X : PX} {σ : Sg} {Q : Option PV → Sg → Prop} {p1 : Nat} {x1 : Int} {x2 : Int} (hp1 : p1 ∈ parL) (H : InR x2 ∧ InR (σ.1 p1 4) ∧ (σ.1 p1 4 ≤ x2 → Q (some (vI x1)) σ) ∧ (¬ σ.1 p1 4 ≤ x2 → (10 ≤ x2 → Q (some (vI x1)) σ) ∧ (¬ 10 ≤ x2 → (0 ≤ x2 ∧ x2 < 10) ∧ Ev X 14 5 [some (vR (some p1)), some (vI (iAnd x1 (iXor (iShl 1 (σ.2 (p1 + 3) x2.toNat)) (-1)))), some (vI (x2 + 1))] [] σ Q))) : Ev X 14 5 [some (vR (some p1)), some (vI x1), some (vI x2)] [] σ Q := by
  have hcd : cds 14 = cd_14 := rfl
  iterate 2 (refine e_nx hcd rfl rfl ?_)
  refine r_getI hcd rfl ((parS hp1).1) rfl ?_
  obtain ⟨h1, H⟩ := H
  obtain ⟨h2, H⟩ := H
  refine r_icmp hcd rfl h1 h2 (fun hc => ?_) (fun hc => ?_)
  · replace H := H.1 hc
    refine e_nx hcd rfl rfl ?_
    exact r_iret hcd rfl rfl rfl H
  · replace H := H.2 hc
    iterate 2 (refine e_nx hcd rfl rfl ?_)
    refine r_icmp hcd rfl h1 (by omega) (fun hc => ?_) (fun hc => ?_)
    · replace H := H.1 hc
      refine e_nx hcd rfl rfl ?_
      exact r_iret hcd rfl rfl rfl H
    · replace H := H.2 hc
      iterate 3 (refine e_nx hcd rfl rfl ?_)
      refine r_getR hcd rfl ((parS hp1).1) rfl ?_
      refine e_nx hcd rfl rfl ?_
      obtain ⟨h3, H⟩ := H
      refine r_ild hcd rfl ((parS hp1).2.2.2.1) (by omega) h3 ?_
      iterate 5 (refine e_nx hcd rfl rfl ?_)
      show Ev X 14 23 [some (vR (some p1)), some (vI (iAnd x1 (iXor (iShl 1 (σ.2 (p1 + 3) x2.toNat)) (-1)))), some (vI x2)] [] _ Q
      refine e_nx hcd rfl rfl ?_
      show Ev X 14 24 [some (vR (some p1)), some (vI (iAnd x1 (iXor (iShl 1 (σ.2 (p1 + 3) x2.toNat)) (-1)))), some (vI (x2 + 1))] [] _ Q
      refine e_nx hcd rfl rfl ?_
      exact H
/-! X1_rankOf -/
theorem v_15 {X : PX} {σ : Sg} {Q : Option PV → Sg → Prop} {p1 : Nat} {a1 : Int} (hp1 : p1 ∈ parL) (H : Ev X 15 5 [some (vR (some p1)), some (vI a1), some (vI (σ.1 p1 3)), some (vI 0)] [] σ Q) : Cl X 15 [vR (some p1), vI a1] σ Q := by
  have hcd : cds 15 = cd_15 := rfl
  refine c_in (Nat.le_of_ble_eq_true rfl) rfl rfl ?_
  show Ev X 15 0 [some (vR (some p1)), some (vI a1), none, none] [] σ Q
  refine e_nx hcd rfl rfl ?_
  refine r_getI hcd rfl ((parS hp1).1) rfl ?_
  refine e_nx hcd rfl rfl ?_
  show Ev X 15 3 [some (vR (some p1)), some (vI a1), some (vI (σ.1 p1 3)), none] [] _ Q
  iterate 2 (refine e_nx hcd rfl rfl ?_)
  show Ev X 15 5 [some (vR (some p1)), some (vI a1), some (vI (σ.1 p1 3)), some (vI 0)] [] _ Q
  exact H
theorem v_15_5 {X : PX} {σ : Sg} {Q : Option PV → Sg → Prop} {p1 : Nat} {x1 : Int} {x2 : Int} {x3 : Int} (hp1 : p1 ∈ parL) (H : InR x3 ∧ (7 < x3 → Q (some (vI (-1))) σ) ∧ (¬ 7 < x3 → InR (iAnd x2 x1) ∧ (iAnd x2 x1 = 0 → CI X 87 [vR (some p1), vI x2] σ (fun r3 τ1 => Ev X 15 5 [some (vR (some p1)), some (vI x1), some (vI r3), some (vI (x3 + 1))] [] τ1 Q)) ∧ (¬ iAnd x2 x1 = 0 → Q (some (vI x3)) σ))) : Ev X 15 5 [some (vR (some p1)), some (vI x1), some (vI x2), some (vI x3)] [] σ Q := by
  have hcd : cds 15 = cd_15 := rfl
  iterate 2 (refine e_nx hcd rfl rfl ?_)
  obtain ⟨h1, H⟩ := H
  refine r_icmp hcd rfl h1 (by omega) (fun hc => ?_) (fun hc => ?_)
  · replace H := H.1 hc
    refine e_nx hcd rfl rfl ?_
    exact r_iret hcd rfl rfl rfl H
  · replace H := H.2 hc
    iterate 3 (refine e_nx hcd rfl rfl ?_)
    obtain ⟨h2, H⟩ := H
    refine r_if hcd rfl h2 (fun hc => ?_) (fun hc => ?_)
    · replace H := H.1 hc
      iterate 2 (refine e_nx hcd rfl rfl ?_)
      refine r_cv hcd rfl (by omega) ((parS hp1).1) rfl rfl (Nat.le_of_ble_eq_true rfl) ?_
      refine Cl.mono H (fun v τ1 hq => ?_)
      obtain ⟨r3, rfl, H⟩ := hq
      show Ev X 15 17 _ [vI r3] τ1 Q
      refine e_nx hcd rfl rfl ?_
      show Ev X 15 18 [some (vR (some p1)), some (vI x1), some (vI r3), some (vI x3)] [] _ Q
      refine e_nx hcd rfl rfl ?_
      show Ev X 15 19 [some (vR (some p1)), some (vI x1), some (vI r3), some (vI (x3 + 1))] [] _ Q
      refine e_nx hcd rfl rfl ?_
      exact H
    · replace H := H.2 hc
      refine e_nx hcd rfl rfl ?_
      exact r_iret hcd rfl rfl rfl H
/-! X1_deepestOf -/
theorem v_16 {X : PX} {σ : Sg} {Q : Option PV → Sg → Prop} {p1 : Nat} (hp1 : p1 ∈ parL) (H : Ev X 16 4 [some (vR (some p1)), some (vI (-1)), some (vI 0)] [] σ Q) : Cl X 16 [vR (some p1)] σ Q := by
  have hcd : cds 16 = cd_16 := rfl
  refine c_in (Nat.le_of_ble_eq_true rfl) rfl rfl ?_
  show Ev X 16 0 [some (vR (some p1)), none, none] [] σ Q
  iterate 2 (refine e_nx hcd rfl rfl ?_)
  show Ev X 16 2 [some (vR (some p1)), some (vI (-1)), none] [] _ Q
  iterate 2 (refine e_nx hcd rfl rfl ?_)
  show Ev X 16 4 [some (vR (some p1)), some (vI (-1)), some (vI 0)] [] _ Q
  exact H
theorem v_16_4 {X : PX} {σ : Sg} {Q : Option PV → Sg → Prop} {p1 : Nat} {x1 : Int} {x2 : Int} (hp1 : p1 ∈ parL) (H : InR x2 ∧ InR (σ.1 p1 2) ∧ (σ.1 p1 2 ≤ x2 → Q (some (vI x1)) σ) ∧ (¬ σ.1 p1 2 ≤ x2 → (7 ≤ x2 → Q (some (vI x1)) σ) ∧ (¬ 7 ≤ x2 → CI X 15 [vR (some p1), vI (iShl 1 x2)] σ (fun r3 τ1 => InR x1 ∧ InR r3 ∧ Ev X 16 4 [some (vR (some p1)), some (vI (max x1 r3)), some (vI (x2 + 1))] [] τ1 Q)))) : Ev X 16 4 [some (vR (some p1)), some (vI x1), some (vI x2)] [] σ Q := by
  have hcd : cds 16 = cd_16 := rfl
  iterate 2 (refine e_nx hcd rfl rfl ?_)
  refine r_getI hcd rfl ((parS hp1).1) rfl ?_
  obtain ⟨h1, H⟩ := H
  obtain ⟨h2, H⟩ := H
  refine r_icmp hcd rfl h1 h2 (fun hc => ?_) (fun hc => ?_)
  · replace H := H.1 hc
    refine e_nx hcd rfl rfl ?_
    exact r_iret hcd rfl rfl rfl H
  · replace H := H.2 hc
    iterate 2 (refine e_nx hcd rfl rfl ?_)
    refine r_icmp hcd rfl h1 (by omega) (fun hc => ?_) (fun hc => ?_)
    · replace H := H.1 hc
      refine e_nx hcd rfl rfl ?_
      exact r_iret hcd rfl rfl rfl H
    · replace H := H.2 hc
      iterate 5 (refine e_nx hcd rfl rfl ?_)
      refine r_cs hcd rfl (by omega) (Nat.le_of_ble_eq_true rfl) rfl rfl (Nat.le_of_ble_eq_true rfl) ?_
      refine Cl.mono H (fun v τ1 hq => ?_)
      obtain ⟨r3, rfl, H⟩ := hq
      show Ev X 16 17 _ [vI r3, vI x1] τ1 Q
      obtain ⟨h4, H⟩ := H
      obtain ⟨h5, H⟩ := H
      refine r_max hcd rfl h4 h5 (Nat.le_of_ble_eq_true rfl) ?_
      refine e_nx hcd rfl rfl ?_
      show Ev X 16 19 [some (vR (some p1)), some (vI (max x1 r3)), some (vI x2)] [] _ Q
      refine e_nx hcd rfl rfl ?_
      show Ev X 16 20 [some (vR (some p1)), some (vI (max x1 r3)), some (vI (x2 + 1))] [] _ Q
      refine e_nx hcd rfl rfl ?_
      exact H
