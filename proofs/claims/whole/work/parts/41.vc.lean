/-! X12_fewest -/
set_option maxRecDepth 20000 in
set_option maxHeartbeats 8000000 in
theorem v_276 {X : PX} {σ : Sg} {Q : Option PV → Sg → Prop} {a1 : Int} {a2 : Int} {a3 : Int}  (H : CI X 189 [vR (some 170), vI a1] σ (fun r1 τ1 => InR r1 ∧ (r1 = 0 → Q (some (vI (-2))) τ1) ∧ (¬ r1 = 0 → CI X 265 [vR (some 170), vI a2] τ1 (fun r3 τ2 => InR r3 ∧ (r3 ≠ 0 → CV X 268 [vR (some 170)] τ2 (fun τ3 => InR a3 ∧ (a3 = 0 → (a3 ≠ 1 → CI X 275 [vR (some 170), vI 0] τ3 (fun r6 τ4 => Q (some (vI r6)) τ4)) ∧ (¬ a3 ≠ 1 → CI X 275 [vR (some 170), vI 1] τ3 (fun r7 τ5 => Q (some (vI r7)) τ5))) ∧ (a3 = 1 → (a3 ≠ 1 → CI X 275 [vR (some 170), vI 0] τ3 (fun r8 τ6 => Q (some (vI r8)) τ6)) ∧ (¬ a3 ≠ 1 → CI X 275 [vR (some 170), vI 1] τ3 (fun r9 τ7 => Q (some (vI r9)) τ7))) ∧ (a3 = 2 → CI X 274 [vR (some 170)] τ3 (fun r10 τ8 => Q (some (vI r10)) τ8)) ∧ (a3 ≠ 0 ∧ a3 ≠ 1 ∧ a3 ≠ 2 → Q (some (vI (-2))) τ3))) ∧ (¬ r3 ≠ 0 → Q (some (vI (-2))) τ2))))) : Cl X 276 [vR (some 170), vI a1, vI a2, vI a3] σ Q := by
  have hcd : cds 276 = cd_276 := rfl
  refine c_in (Nat.le_of_ble_eq_true rfl) rfl rfl ?_
  show Ev X 276 0 [some (vR (some 170)), some (vI a1), some (vI a2), some (vI a3)] [] σ Q
  iterate 2 (refine e_nx hcd rfl rfl ?_)
  refine r_cv hcd rfl (by omega) rfl rfl rfl (Nat.le_of_ble_eq_true rfl) ?_
  refine Cl.mono H (fun v τ1 hq => ?_)
  obtain ⟨r1, rfl, H⟩ := hq
  show Ev X 276 3 _ [vI r1] τ1 Q
  obtain ⟨h2, H⟩ := H
  refine r_if hcd rfl h2 (fun hc => ?_) (fun hc => ?_)
  · replace H := H.1 hc
    refine e_nx hcd rfl rfl ?_
    exact r_iret hcd rfl rfl rfl H
  · replace H := H.2 hc
    iterate 2 (refine e_nx hcd rfl rfl ?_)
    refine r_cv hcd rfl (by omega) rfl rfl rfl (Nat.le_of_ble_eq_true rfl) ?_
    refine Cl.mono H (fun v τ2 hq => ?_)
    obtain ⟨r3, rfl, H⟩ := hq
    show Ev X 276 7 _ [vI r3] τ2 Q
    obtain ⟨h4, H⟩ := H
    refine r_if hcd rfl h4 (fun hc => ?_) (fun hc => ?_)
    · replace H := H.1 hc
      refine e_nx hcd rfl rfl ?_
      refine r_cv hcd rfl (by omega) rfl rfl rfl (Nat.le_of_ble_eq_true rfl) ?_
      refine Cl.mono H (fun v τ3 hq => ?_)
      obtain ⟨rfl, H⟩ := hq
      show Ev X 276 12 _ [] τ3 Q
      refine e_nx hcd rfl rfl ?_
      obtain ⟨h5, H⟩ := H
      refine r_tab hcd rfl h5 ?_
      by_cases hs11 : a3 = 0
      · replace H := H.1 hs11
        refine e_pc (i2 := 14) (by rw [hs11]; rfl) ?_
        iterate 3 (refine e_nx hcd rfl rfl ?_)
        refine r_icmp hcd rfl h5 (by omega) (fun hc => ?_) (fun hc => ?_)
        · replace H := H.1 hc
          refine e_nx hcd rfl rfl ?_
          refine r_cv hcd rfl (by omega) rfl rfl rfl (Nat.le_of_ble_eq_true rfl) ?_
          refine Cl.mono H (fun v τ4 hq => ?_)
          obtain ⟨r6, rfl, H⟩ := hq
          show Ev X 276 22 _ [vI r6] τ4 Q
          exact r_iret hcd rfl rfl rfl H
        · replace H := H.2 hc
          iterate 2 (refine e_nx hcd rfl rfl ?_)
          refine r_cv hcd rfl (by omega) rfl rfl rfl (Nat.le_of_ble_eq_true rfl) ?_
          refine Cl.mono H (fun v τ5 hq => ?_)
          obtain ⟨r7, rfl, H⟩ := hq
          show Ev X 276 22 _ [vI r7] τ5 Q
          exact r_iret hcd rfl rfl rfl H
      by_cases hs12 : a3 = 1
      · replace H := H.2.1 hs12
        refine e_pc (i2 := 14) (by rw [hs12]; rfl) ?_
        iterate 3 (refine e_nx hcd rfl rfl ?_)
        refine r_icmp hcd rfl h5 (by omega) (fun hc => ?_) (fun hc => ?_)
        · replace H := H.1 hc
          refine e_nx hcd rfl rfl ?_
          refine r_cv hcd rfl (by omega) rfl rfl rfl (Nat.le_of_ble_eq_true rfl) ?_
          refine Cl.mono H (fun v τ6 hq => ?_)
          obtain ⟨r8, rfl, H⟩ := hq
          show Ev X 276 22 _ [vI r8] τ6 Q
          exact r_iret hcd rfl rfl rfl H
        · replace H := H.2 hc
          iterate 2 (refine e_nx hcd rfl rfl ?_)
          refine r_cv hcd rfl (by omega) rfl rfl rfl (Nat.le_of_ble_eq_true rfl) ?_
          refine Cl.mono H (fun v τ7 hq => ?_)
          obtain ⟨r9, rfl, H⟩ := hq
          show Ev X 276 22 _ [vI r9] τ7 Q
          exact r_iret hcd rfl rfl rfl H
      by_cases hs13 : a3 = 2
      · replace H := H.2.2.1 hs13
        refine e_pc (i2 := 23) (by rw [hs13]; rfl) ?_
        refine e_nx hcd rfl rfl ?_
        refine r_cv hcd rfl (by omega) rfl rfl rfl (Nat.le_of_ble_eq_true rfl) ?_
        refine Cl.mono H (fun v τ8 hq => ?_)
        obtain ⟨r10, rfl, H⟩ := hq
        show Ev X 276 25 _ [vI r10] τ8 Q
        exact r_iret hcd rfl rfl rfl H
      replace H := H.2.2.2 ⟨hs11, hs12, hs13⟩
      refine e_pc (i2 := 26) (tab_def (lo := 0) (hi := 2) (fun h1 h2 => ?_)) ?_
      · omega
      · refine e_nx hcd rfl rfl ?_
        exact r_iret hcd rfl rfl rfl H
    · replace H := H.2 hc
      refine e_nx hcd rfl rfl ?_
      exact r_iret hcd rfl rfl rfl H
/-! X12_below -/
theorem v_277 {X : PX} {σ : Sg} {Q : Option PV → Sg → Prop} {a1 : Int}  (H : InR a1 ∧ (a1 ≠ 0) ∧ Q (some (vI (iRem (iUshr (((σ.1 170 46) * 1103515245) + 12345) 16) a1))) (up2 σ.1 170 46 (((σ.1 170 46) * 1103515245) + 12345), σ.2)) : Cl X 277 [vR (some 170), vI a1] σ Q := by
  have hcd : cds 277 = cd_277 := rfl
  refine c_in (Nat.le_of_ble_eq_true rfl) rfl rfl ?_
  show Ev X 277 0 [some (vR (some 170)), some (vI a1)] [] σ Q
  iterate 2 (refine e_nx hcd rfl rfl ?_)
  refine r_getI hcd rfl rfl rfl ?_
  iterate 4 (refine e_nx hcd rfl rfl ?_)
  refine r_putI hcd rfl rfl rfl rfl ?_
  refine e_nx hcd rfl rfl ?_
  refine r_getI hcd rfl rfl rfl ?_
  show Ev X 277 10 _ [vI (((σ.1 170 46) * 1103515245) + 12345)] _ Q
  iterate 3 (refine e_nx hcd rfl rfl ?_)
  obtain ⟨h1, H⟩ := H
  obtain ⟨h2, H⟩ := H
  refine r_rem hcd rfl h1 h2 ?_
  exact r_iret hcd rfl rfl rfl H
/-! X12_draws -/
set_option maxRecDepth 20000 in
set_option maxHeartbeats 8000000 in
theorem v_278 {X : PX} {σ : Sg} {Q : Option PV → Sg → Prop}   (H : CI X 277 [vR (some 170), vI 10] σ (fun r1 τ1 => InR r1 ∧ (4 ≤ r1 → (6 ≤ r1 → InR (r1 - 4) ∧ (r1 - 4 = 1 → InR (τ1.1 170 12) ∧ (τ1.1 170 12 ≠ 0 → (r1 - 4 ≠ 0 → (3 ≤ r1 - 4 → (5 ≤ r1 - 4 → CI X 277 [vR (some 170), vI 10] τ1 (fun r5 τ2 => CI X 258 [vR (some 170), vI (r1 - 4), vI r5] τ2 (fun r6 τ3 => Q none τ3))) ∧ (¬ 5 ≤ r1 - 4 → CI X 277 [vR (some 170), vI 100] τ1 (fun r7 τ4 => CI X 258 [vR (some 170), vI (r1 - 4), vI r7] τ4 (fun r8 τ5 => Q none τ5)))) ∧ (¬ 3 ≤ r1 - 4 → CI X 277 [vR (some 170), vI (τ1.1 170 12)] τ1 (fun r9 τ6 => CI X 258 [vR (some 170), vI (r1 - 4), vI r9] τ6 (fun r10 τ7 => Q none τ7)))) ∧ (¬ r1 - 4 ≠ 0 → CI X 258 [vR (some 170), vI (r1 - 4), vI (-1)] τ1 (fun r11 τ8 => Q none τ8))) ∧ (¬ τ1.1 170 12 ≠ 0 → Q none τ1)) ∧ (¬ r1 - 4 = 1 → (r1 - 4 ≠ 2 → (r1 - 4 ≠ 0 → (3 ≤ r1 - 4 → (5 ≤ r1 - 4 → CI X 277 [vR (some 170), vI 10] τ1 (fun r12 τ9 => CI X 258 [vR (some 170), vI (r1 - 4), vI r12] τ9 (fun r13 τ10 => Q none τ10))) ∧ (¬ 5 ≤ r1 - 4 → CI X 277 [vR (some 170), vI 100] τ1 (fun r14 τ11 => CI X 258 [vR (some 170), vI (r1 - 4), vI r14] τ11 (fun r15 τ12 => Q none τ12)))) ∧ (¬ 3 ≤ r1 - 4 → CI X 277 [vR (some 170), vI (τ1.1 170 12)] τ1 (fun r16 τ13 => CI X 258 [vR (some 170), vI (r1 - 4), vI r16] τ13 (fun r17 τ14 => Q none τ14)))) ∧ (¬ r1 - 4 ≠ 0 → CI X 258 [vR (some 170), vI (r1 - 4), vI (-1)] τ1 (fun r18 τ15 => Q none τ15))) ∧ (¬ r1 - 4 ≠ 2 → InR (τ1.1 170 12) ∧ (τ1.1 170 12 ≠ 0 → (r1 - 4 ≠ 0 → (3 ≤ r1 - 4 → (5 ≤ r1 - 4 → CI X 277 [vR (some 170), vI 10] τ1 (fun r20 τ16 => CI X 258 [vR (some 170), vI (r1 - 4), vI r20] τ16 (fun r21 τ17 => Q none τ17))) ∧ (¬ 5 ≤ r1 - 4 → CI X 277 [vR (some 170), vI 100] τ1 (fun r22 τ18 => CI X 258 [vR (some 170), vI (r1 - 4), vI r22] τ18 (fun r23 τ19 => Q none τ19)))) ∧ (¬ 3 ≤ r1 - 4 → CI X 277 [vR (some 170), vI (τ1.1 170 12)] τ1 (fun r24 τ20 => CI X 258 [vR (some 170), vI (r1 - 4), vI r24] τ20 (fun r25 τ21 => Q none τ21)))) ∧ (¬ r1 - 4 ≠ 0 → CI X 258 [vR (some 170), vI (r1 - 4), vI (-1)] τ1 (fun r26 τ22 => Q none τ22))) ∧ (¬ τ1.1 170 12 ≠ 0 → Q none τ1)))) ∧ (¬ 6 ≤ r1 → InR (τ1.1 170 12) ∧ (τ1.1 170 12 ≠ 0 → CI X 277 [vR (some 170), vI (τ1.1 170 12)] τ1 (fun r28 τ23 => CI X 258 [vR (some 170), vI 1, vI r28] τ23 (fun r29 τ24 => Q none τ24))) ∧ (¬ τ1.1 170 12 ≠ 0 → Q none τ1))) ∧ (¬ 4 ≤ r1 → CI X 258 [vR (some 170), vI 0, vI (-1)] τ1 (fun r30 τ25 => Q none τ25)))) : Cl X 278 [vR (some 170)] σ Q := by
  have hcd : cds 278 = cd_278 := rfl
  refine c_in (Nat.le_of_ble_eq_true rfl) rfl rfl ?_
  show Ev X 278 0 [some (vR (some 170)), none, none] [] σ Q
  iterate 2 (refine e_nx hcd rfl rfl ?_)
  refine r_cv hcd rfl (by omega) rfl rfl rfl (Nat.le_of_ble_eq_true rfl) ?_
  refine Cl.mono H (fun v τ1 hq => ?_)
  obtain ⟨r1, rfl, H⟩ := hq
  show Ev X 278 3 _ [vI r1] τ1 Q
  refine e_nx hcd rfl rfl ?_
  show Ev X 278 4 [some (vR (some 170)), some (vI r1), none] [] _ Q
  iterate 2 (refine e_nx hcd rfl rfl ?_)
  obtain ⟨h2, H⟩ := H
  refine r_icmp hcd rfl h2 (by omega) (fun hc => ?_) (fun hc => ?_)
  · replace H := H.1 hc
    iterate 2 (refine e_nx hcd rfl rfl ?_)
    refine r_icmp hcd rfl h2 (by omega) (fun hc => ?_) (fun hc => ?_)
    · replace H := H.1 hc
      iterate 4 (refine e_nx hcd rfl rfl ?_)
      show Ev X 278 18 [some (vR (some 170)), some (vI r1), some (vI (r1 - 4))] [] _ Q
      iterate 2 (refine e_nx hcd rfl rfl ?_)
      obtain ⟨h3, H⟩ := H
      refine r_icmp hcd rfl h3 (by omega) (fun hc => ?_) (fun hc => ?_)
      · replace H := H.1 hc
        refine e_nx hcd rfl rfl ?_
        refine r_getI hcd rfl rfl rfl ?_
        obtain ⟨h4, H⟩ := H
        refine r_if hcd rfl h4 (fun hc => ?_) (fun hc => ?_)
        · replace H := H.1 hc
          iterate 3 (refine e_nx hcd rfl rfl ?_)
          refine r_if hcd rfl h3 (fun hc => ?_) (fun hc => ?_)
          · replace H := H.1 hc
            iterate 3 (refine e_nx hcd rfl rfl ?_)
            refine r_icmp hcd rfl h3 (by omega) (fun hc => ?_) (fun hc => ?_)
            · replace H := H.1 hc
              iterate 2 (refine e_nx hcd rfl rfl ?_)
              refine r_icmp hcd rfl h3 (by omega) (fun hc => ?_) (fun hc => ?_)
              · replace H := H.1 hc
                refine e_nx hcd rfl rfl ?_
                refine r_cv hcd rfl (by omega) rfl rfl rfl (Nat.le_of_ble_eq_true rfl) ?_
                refine Cl.mono H (fun v τ2 hq => ?_)
                obtain ⟨r5, rfl, H⟩ := hq
                show Ev X 278 48 _ [vI r5, vI (r1 - 4), vR (some 170)] τ2 Q
                refine r_cv hcd rfl (by omega) rfl rfl rfl (Nat.le_of_ble_eq_true rfl) ?_
                refine Cl.mono H (fun v τ3 hq => ?_)
                obtain ⟨r6, rfl, H⟩ := hq
                show Ev X 278 49 _ [vI r6] τ3 Q
                refine e_nx hcd rfl rfl ?_
                exact r_vret hcd rfl rfl rfl H
              · replace H := H.2 hc
                iterate 2 (refine e_nx hcd rfl rfl ?_)
                refine r_cv hcd rfl (by omega) rfl rfl rfl (Nat.le_of_ble_eq_true rfl) ?_
                refine Cl.mono H (fun v τ4 hq => ?_)
                obtain ⟨r7, rfl, H⟩ := hq
                show Ev X 278 48 _ [vI r7, vI (r1 - 4), vR (some 170)] τ4 Q
                refine r_cv hcd rfl (by omega) rfl rfl rfl (Nat.le_of_ble_eq_true rfl) ?_
                refine Cl.mono H (fun v τ5 hq => ?_)
                obtain ⟨r8, rfl, H⟩ := hq
                show Ev X 278 49 _ [vI r8] τ5 Q
                refine e_nx hcd rfl rfl ?_
                exact r_vret hcd rfl rfl rfl H
            · replace H := H.2 hc
              refine e_nx hcd rfl rfl ?_
              refine r_getI hcd rfl rfl rfl ?_
              refine e_nx hcd rfl rfl ?_
              refine r_cv hcd rfl (by omega) rfl rfl rfl (Nat.le_of_ble_eq_true rfl) ?_
              refine Cl.mono H (fun v τ6 hq => ?_)
              obtain ⟨r9, rfl, H⟩ := hq
              show Ev X 278 48 _ [vI r9, vI (r1 - 4), vR (some 170)] τ6 Q
              refine r_cv hcd rfl (by omega) rfl rfl rfl (Nat.le_of_ble_eq_true rfl) ?_
              refine Cl.mono H (fun v τ7 hq => ?_)
              obtain ⟨r10, rfl, H⟩ := hq
              show Ev X 278 49 _ [vI r10] τ7 Q
              refine e_nx hcd rfl rfl ?_
              exact r_vret hcd rfl rfl rfl H
          · replace H := H.2 hc
            iterate 2 (refine e_nx hcd rfl rfl ?_)
            refine r_cv hcd rfl (by omega) rfl rfl rfl (Nat.le_of_ble_eq_true rfl) ?_
            refine Cl.mono H (fun v τ8 hq => ?_)
            obtain ⟨r11, rfl, H⟩ := hq
            show Ev X 278 49 _ [vI r11] τ8 Q
            refine e_nx hcd rfl rfl ?_
            exact r_vret hcd rfl rfl rfl H
        · replace H := H.2 hc
          exact r_vret hcd rfl rfl rfl H
      · replace H := H.2 hc
        iterate 2 (refine e_nx hcd rfl rfl ?_)
        refine r_icmp hcd rfl h3 (by omega) (fun hc => ?_) (fun hc => ?_)
        · replace H := H.1 hc
          iterate 3 (refine e_nx hcd rfl rfl ?_)
          refine r_if hcd rfl h3 (fun hc => ?_) (fun hc => ?_)
          · replace H := H.1 hc
            iterate 3 (refine e_nx hcd rfl rfl ?_)
            refine r_icmp hcd rfl h3 (by omega) (fun hc => ?_) (fun hc => ?_)
            · replace H := H.1 hc
              iterate 2 (refine e_nx hcd rfl rfl ?_)
              refine r_icmp hcd rfl h3 (by omega) (fun hc => ?_) (fun hc => ?_)
              · replace H := H.1 hc
                refine e_nx hcd rfl rfl ?_
                refine r_cv hcd rfl (by omega) rfl rfl rfl (Nat.le_of_ble_eq_true rfl) ?_
                refine Cl.mono H (fun v τ9 hq => ?_)
                obtain ⟨r12, rfl, H⟩ := hq
                show Ev X 278 48 _ [vI r12, vI (r1 - 4), vR (some 170)] τ9 Q
                refine r_cv hcd rfl (by omega) rfl rfl rfl (Nat.le_of_ble_eq_true rfl) ?_
                refine Cl.mono H (fun v τ10 hq => ?_)
                obtain ⟨r13, rfl, H⟩ := hq
                show Ev X 278 49 _ [vI r13] τ10 Q
                refine e_nx hcd rfl rfl ?_
                exact r_vret hcd rfl rfl rfl H
              · replace H := H.2 hc
                iterate 2 (refine e_nx hcd rfl rfl ?_)
                refine r_cv hcd rfl (by omega) rfl rfl rfl (Nat.le_of_ble_eq_true rfl) ?_
                refine Cl.mono H (fun v τ11 hq => ?_)
                obtain ⟨r14, rfl, H⟩ := hq
                show Ev X 278 48 _ [vI r14, vI (r1 - 4), vR (some 170)] τ11 Q
                refine r_cv hcd rfl (by omega) rfl rfl rfl (Nat.le_of_ble_eq_true rfl) ?_
                refine Cl.mono H (fun v τ12 hq => ?_)
                obtain ⟨r15, rfl, H⟩ := hq
                show Ev X 278 49 _ [vI r15] τ12 Q
                refine e_nx hcd rfl rfl ?_
                exact r_vret hcd rfl rfl rfl H
            · replace H := H.2 hc
              refine e_nx hcd rfl rfl ?_
              refine r_getI hcd rfl rfl rfl ?_
              refine e_nx hcd rfl rfl ?_
              refine r_cv hcd rfl (by omega) rfl rfl rfl (Nat.le_of_ble_eq_true rfl) ?_
              refine Cl.mono H (fun v τ13 hq => ?_)
              obtain ⟨r16, rfl, H⟩ := hq
              show Ev X 278 48 _ [vI r16, vI (r1 - 4), vR (some 170)] τ13 Q
              refine r_cv hcd rfl (by omega) rfl rfl rfl (Nat.le_of_ble_eq_true rfl) ?_
              refine Cl.mono H (fun v τ14 hq => ?_)
              obtain ⟨r17, rfl, H⟩ := hq
              show Ev X 278 49 _ [vI r17] τ14 Q
              refine e_nx hcd rfl rfl ?_
              exact r_vret hcd rfl rfl rfl H
          · replace H := H.2 hc
            iterate 2 (refine e_nx hcd rfl rfl ?_)
            refine r_cv hcd rfl (by omega) rfl rfl rfl (Nat.le_of_ble_eq_true rfl) ?_
            refine Cl.mono H (fun v τ15 hq => ?_)
            obtain ⟨r18, rfl, H⟩ := hq
            show Ev X 278 49 _ [vI r18] τ15 Q
            refine e_nx hcd rfl rfl ?_
            exact r_vret hcd rfl rfl rfl H
        · replace H := H.2 hc
          refine e_nx hcd rfl rfl ?_
          refine r_getI hcd rfl rfl rfl ?_
          obtain ⟨h19, H⟩ := H
          refine r_if hcd rfl h19 (fun hc => ?_) (fun hc => ?_)
          · replace H := H.1 hc
            iterate 3 (refine e_nx hcd rfl rfl ?_)
            refine r_if hcd rfl h3 (fun hc => ?_) (fun hc => ?_)
            · replace H := H.1 hc
              iterate 3 (refine e_nx hcd rfl rfl ?_)
              refine r_icmp hcd rfl h3 (by omega) (fun hc => ?_) (fun hc => ?_)
              · replace H := H.1 hc
                iterate 2 (refine e_nx hcd rfl rfl ?_)
                refine r_icmp hcd rfl h3 (by omega) (fun hc => ?_) (fun hc => ?_)
                · replace H := H.1 hc
                  refine e_nx hcd rfl rfl ?_
                  refine r_cv hcd rfl (by omega) rfl rfl rfl (Nat.le_of_ble_eq_true rfl) ?_
                  refine Cl.mono H (fun v τ16 hq => ?_)
                  obtain ⟨r20, rfl, H⟩ := hq
                  show Ev X 278 48 _ [vI r20, vI (r1 - 4), vR (some 170)] τ16 Q
                  refine r_cv hcd rfl (by omega) rfl rfl rfl (Nat.le_of_ble_eq_true rfl) ?_
                  refine Cl.mono H (fun v τ17 hq => ?_)
                  obtain ⟨r21, rfl, H⟩ := hq
                  show Ev X 278 49 _ [vI r21] τ17 Q
                  refine e_nx hcd rfl rfl ?_
                  exact r_vret hcd rfl rfl rfl H
                · replace H := H.2 hc
                  iterate 2 (refine e_nx hcd rfl rfl ?_)
                  refine r_cv hcd rfl (by omega) rfl rfl rfl (Nat.le_of_ble_eq_true rfl) ?_
                  refine Cl.mono H (fun v τ18 hq => ?_)
                  obtain ⟨r22, rfl, H⟩ := hq
                  show Ev X 278 48 _ [vI r22, vI (r1 - 4), vR (some 170)] τ18 Q
                  refine r_cv hcd rfl (by omega) rfl rfl rfl (Nat.le_of_ble_eq_true rfl) ?_
                  refine Cl.mono H (fun v τ19 hq => ?_)
                  obtain ⟨r23, rfl, H⟩ := hq
                  show Ev X 278 49 _ [vI r23] τ19 Q
                  refine e_nx hcd rfl rfl ?_
                  exact r_vret hcd rfl rfl rfl H
              · replace H := H.2 hc
                refine e_nx hcd rfl rfl ?_
                refine r_getI hcd rfl rfl rfl ?_
                refine e_nx hcd rfl rfl ?_
                refine r_cv hcd rfl (by omega) rfl rfl rfl (Nat.le_of_ble_eq_true rfl) ?_
                refine Cl.mono H (fun v τ20 hq => ?_)
                obtain ⟨r24, rfl, H⟩ := hq
                show Ev X 278 48 _ [vI r24, vI (r1 - 4), vR (some 170)] τ20 Q
                refine r_cv hcd rfl (by omega) rfl rfl rfl (Nat.le_of_ble_eq_true rfl) ?_
                refine Cl.mono H (fun v τ21 hq => ?_)
                obtain ⟨r25, rfl, H⟩ := hq
                show Ev X 278 49 _ [vI r25] τ21 Q
                refine e_nx hcd rfl rfl ?_
                exact r_vret hcd rfl rfl rfl H
            · replace H := H.2 hc
              iterate 2 (refine e_nx hcd rfl rfl ?_)
              refine r_cv hcd rfl (by omega) rfl rfl rfl (Nat.le_of_ble_eq_true rfl) ?_
              refine Cl.mono H (fun v τ22 hq => ?_)
              obtain ⟨r26, rfl, H⟩ := hq
              show Ev X 278 49 _ [vI r26] τ22 Q
              refine e_nx hcd rfl rfl ?_
              exact r_vret hcd rfl rfl rfl H
          · replace H := H.2 hc
            exact r_vret hcd rfl rfl rfl H
    · replace H := H.2 hc
      iterate 3 (refine e_nx hcd rfl rfl ?_)
      show Ev X 278 18 [some (vR (some 170)), some (vI r1), some (vI 1)] [] _ Q
      iterate 2 (refine e_nx hcd rfl rfl ?_)
      refine r_icmp hcd rfl (by omega) (by omega) (fun hc => ?_) (fun hc => ?_)
      · refine e_nx hcd rfl rfl ?_
        refine r_getI hcd rfl rfl rfl ?_
        obtain ⟨h27, H⟩ := H
        refine r_if hcd rfl h27 (fun hc => ?_) (fun hc => ?_)
        · replace H := H.1 hc
          iterate 3 (refine e_nx hcd rfl rfl ?_)
          refine r_if hcd rfl (by omega) (fun hc => ?_) (fun hc => ?_)
          · refine e_nx hcd rfl rfl ?_
            iterate 2 (refine e_nx hcd rfl rfl ?_)
            refine r_icmp hcd rfl (by omega) (by omega) (fun hc => ?_) (fun hc => ?_)
            · exact absurd hc (by simp [cmpP])
            · refine e_nx hcd rfl rfl ?_
              refine r_getI hcd rfl rfl rfl ?_
              refine e_nx hcd rfl rfl ?_
              refine r_cv hcd rfl (by omega) rfl rfl rfl (Nat.le_of_ble_eq_true rfl) ?_
              refine Cl.mono H (fun v τ23 hq => ?_)
              obtain ⟨r28, rfl, H⟩ := hq
              show Ev X 278 48 _ [vI r28, vI 1, vR (some 170)] τ23 Q
              refine r_cv hcd rfl (by omega) rfl rfl rfl (Nat.le_of_ble_eq_true rfl) ?_
              refine Cl.mono H (fun v τ24 hq => ?_)
              obtain ⟨r29, rfl, H⟩ := hq
              show Ev X 278 49 _ [vI r29] τ24 Q
              refine e_nx hcd rfl rfl ?_
              exact r_vret hcd rfl rfl rfl H
          · exact absurd hc (by simp [cmpP])
        · replace H := H.2 hc
          exact r_vret hcd rfl rfl rfl H
      · exact absurd hc (by simp [cmpP])
  · replace H := H.2 hc
    iterate 3 (refine e_nx hcd rfl rfl ?_)
    show Ev X 278 18 [some (vR (some 170)), some (vI r1), some (vI 0)] [] _ Q
    iterate 2 (refine e_nx hcd rfl rfl ?_)
    refine r_icmp hcd rfl (by omega) (by omega) (fun hc => ?_) (fun hc => ?_)
    · exact absurd hc (by simp [cmpP])
    · refine e_nx hcd rfl rfl ?_
      refine e_nx hcd rfl rfl ?_
      refine r_icmp hcd rfl (by omega) (by omega) (fun hc => ?_) (fun hc => ?_)
      · refine e_nx hcd rfl rfl ?_
        iterate 2 (refine e_nx hcd rfl rfl ?_)
        refine r_if hcd rfl (by omega) (fun hc => ?_) (fun hc => ?_)
        · exact absurd hc (by simp [cmpP])
        · refine e_nx hcd rfl rfl ?_
          refine e_nx hcd rfl rfl ?_
          refine r_cv hcd rfl (by omega) rfl rfl rfl (Nat.le_of_ble_eq_true rfl) ?_
          refine Cl.mono H (fun v τ25 hq => ?_)
          obtain ⟨r30, rfl, H⟩ := hq
          show Ev X 278 49 _ [vI r30] τ25 Q
          refine e_nx hcd rfl rfl ?_
          exact r_vret hcd rfl rfl rfl H
      · exact absurd hc (by simp [cmpP])
/-! X12_drawn -/
theorem v_279 {X : PX} {σ : Sg} {Q : Option PV → Sg → Prop} {a1 : Int} {a2 : Int} {a3 : Int} {a4 : Int}  (H : CI X 189 [vR (some 170), vI a1] σ (fun r1 τ1 => InR r1 ∧ (r1 = 0 → Q (some (vI (-2))) τ1) ∧ (¬ r1 = 0 → CI X 161 [vI a3, vI 0, vI 60] τ1 (fun r3 τ2 => InR r3 ∧ (r3 ≠ 0 → CV X 251 [vR (some 170)] (up2 τ2.1 170 46 a2, τ2.2) (fun τ3 => Ev X 279 18 [some (vR (some 170)), none, none, some (vI a3), some (vI a4), some (vI 0)] [] τ3 Q)) ∧ (¬ r3 ≠ 0 → Q (some (vI (-2))) τ2))))) : Cl X 279 [vR (some 170), vI a1, vI a2, vI a3, vI a4] σ Q := by
  have hcd : cds 279 = cd_279 := rfl
  refine c_in (Nat.le_of_ble_eq_true rfl) rfl rfl ?_
  show Ev X 279 0 [some (vR (some 170)), some (vI a1), some (vI a2), some (vI a3), some (vI a4), none] [] σ Q
  iterate 2 (refine e_nx hcd rfl rfl ?_)
  refine r_cv hcd rfl (by omega) rfl rfl rfl (Nat.le_of_ble_eq_true rfl) ?_
  refine Cl.mono H (fun v τ1 hq => ?_)
  obtain ⟨r1, rfl, H⟩ := hq
  show Ev X 279 3 _ [vI r1] τ1 Q
  obtain ⟨h2, H⟩ := H
  refine r_if hcd rfl h2 (fun hc => ?_) (fun hc => ?_)
  · replace H := H.1 hc
    refine e_nx hcd rfl rfl ?_
    exact r_iret hcd rfl rfl rfl H
  · replace H := H.2 hc
    iterate 3 (refine e_nx hcd rfl rfl ?_)
    refine r_cs hcd rfl (by omega) (Nat.le_of_ble_eq_true rfl) rfl rfl (Nat.le_of_ble_eq_true rfl) ?_
    refine Cl.mono H (fun v τ2 hq => ?_)
    obtain ⟨r3, rfl, H⟩ := hq
    show Ev X 279 8 _ [vI r3] τ2 Q
    obtain ⟨h4, H⟩ := H
    refine r_if hcd rfl h4 (fun hc => ?_) (fun hc => ?_)
    · replace H := H.1 hc
      iterate 2 (refine e_nx hcd rfl rfl ?_)
      refine r_putI hcd rfl rfl rfl rfl ?_
      refine e_nx hcd rfl rfl ?_
      refine r_cv hcd rfl (by omega) rfl rfl rfl (Nat.le_of_ble_eq_true rfl) ?_
      refine Cl.mono H (fun v τ3 hq => ?_)
      obtain ⟨rfl, H⟩ := hq
      show Ev X 279 16 _ [] τ3 Q
      iterate 2 (refine e_nx hcd rfl rfl ?_)
      show Ev X 279 18 [some (vR (some 170)), some (vI a1), some (vI a2), some (vI a3), some (vI a4), some (vI 0)] [] _ Q
      refine e_fg [1, 2] ?_
      exact H
    · replace H := H.2 hc
      refine e_nx hcd rfl rfl ?_
      exact r_iret hcd rfl rfl rfl H
theorem v_279_18 {X : PX} {σ : Sg} {Q : Option PV → Sg → Prop} {x3 : Int} {x4 : Int} {x5 : Int}  (H : InR x5 ∧ InR x3 ∧ (x3 ≤ x5 → CI X 261 [vR (some 170), vI x4] σ (fun r3 τ1 => Q (some (vI r3)) τ1)) ∧ (¬ x3 ≤ x5 → CV X 278 [vR (some 170)] σ (fun τ2 => Ev X 279 18 [some (vR (some 170)), none, none, some (vI x3), some (vI x4), some (vI (x5 + 1))] [] τ2 Q))) : Ev X 279 18 [some (vR (some 170)), none, none, some (vI x3), some (vI x4), some (vI x5)] [] σ Q := by
  have hcd : cds 279 = cd_279 := rfl
  iterate 2 (refine e_nx hcd rfl rfl ?_)
  obtain ⟨h1, H⟩ := H
  obtain ⟨h2, H⟩ := H
  refine r_icmp hcd rfl h1 h2 (fun hc => ?_) (fun hc => ?_)
  · replace H := H.1 hc
    iterate 2 (refine e_nx hcd rfl rfl ?_)
    refine r_cv hcd rfl (by omega) rfl rfl rfl (Nat.le_of_ble_eq_true rfl) ?_
    refine Cl.mono H (fun v τ1 hq => ?_)
    obtain ⟨r3, rfl, H⟩ := hq
    show Ev X 279 28 _ [vI r3] τ1 Q
    exact r_iret hcd rfl rfl rfl H
  · replace H := H.2 hc
    refine e_nx hcd rfl rfl ?_
    refine r_cv hcd rfl (by omega) rfl rfl rfl (Nat.le_of_ble_eq_true rfl) ?_
    refine Cl.mono H (fun v τ2 hq => ?_)
    obtain ⟨rfl, H⟩ := hq
    show Ev X 279 23 _ [] τ2 Q
    refine e_nx hcd rfl rfl ?_
    show Ev X 279 24 [some (vR (some 170)), none, none, some (vI x3), some (vI x4), some (vI (x5 + 1))] [] _ Q
    refine e_nx hcd rfl rfl ?_
    exact H
/-! X12_count -/
theorem v_280 {X : PX} {σ : Sg} {Q : Option PV → Sg → Prop} {a1 : Int}  (H : CI X 161 [vI a1, vI 0, vI 2] σ (fun r1 τ1 => InR r1 ∧ (r1 = 0 → Q (some (vI (-2))) τ1) ∧ (¬ r1 = 0 → (0 ≤ a1 ∧ a1 < 3616) ∧ Q (some (vI (τ1.2 171 a1.toNat))) τ1))) : Cl X 280 [vR (some 170), vI a1] σ Q := by
  have hcd : cds 280 = cd_280 := rfl
  refine c_in (Nat.le_of_ble_eq_true rfl) rfl rfl ?_
  show Ev X 280 0 [some (vR (some 170)), some (vI a1)] [] σ Q
  iterate 3 (refine e_nx hcd rfl rfl ?_)
  refine r_cs hcd rfl (by omega) (Nat.le_of_ble_eq_true rfl) rfl rfl (Nat.le_of_ble_eq_true rfl) ?_
  refine Cl.mono H (fun v τ1 hq => ?_)
  obtain ⟨r1, rfl, H⟩ := hq
  show Ev X 280 4 _ [vI r1] τ1 Q
  obtain ⟨h2, H⟩ := H
  refine r_if hcd rfl h2 (fun hc => ?_) (fun hc => ?_)
  · replace H := H.1 hc
    refine e_nx hcd rfl rfl ?_
    exact r_iret hcd rfl rfl rfl H
  · replace H := H.2 hc
    refine e_nx hcd rfl rfl ?_
    refine r_getR hcd rfl rfl rfl ?_
    refine e_nx hcd rfl rfl ?_
    obtain ⟨h3, H⟩ := H
    refine r_ild hcd rfl rfl (by omega) h3 ?_
    refine e_nx hcd rfl rfl ?_
    exact r_iret hcd rfl rfl rfl H
/-! X12_image -/
theorem v_281 {X : PX} {σ : Sg} {Q : Option PV → Sg → Prop} {a1 : Int}  (H : CI X 161 [vI a1, vI 0, vI 2] σ (fun r1 τ1 => InR r1 ∧ (r1 ≠ 0 → (0 ≤ a1 ∧ a1 < 3) ∧ Ev X 281 14 [some (vR (some 170)), some (vI a1), some (vI 0)] [] (τ1.1, up2 τ1.2 172 a1.toNat 1) Q) ∧ (¬ r1 ≠ 0 → Q (some (vI 0)) τ1))) : Cl X 281 [vR (some 170), vI a1] σ Q := by
  have hcd : cds 281 = cd_281 := rfl
  refine c_in (Nat.le_of_ble_eq_true rfl) rfl rfl ?_
  show Ev X 281 0 [some (vR (some 170)), some (vI a1), none] [] σ Q
  iterate 3 (refine e_nx hcd rfl rfl ?_)
  refine r_cs hcd rfl (by omega) (Nat.le_of_ble_eq_true rfl) rfl rfl (Nat.le_of_ble_eq_true rfl) ?_
  refine Cl.mono H (fun v τ1 hq => ?_)
  obtain ⟨r1, rfl, H⟩ := hq
  show Ev X 281 4 _ [vI r1] τ1 Q
  obtain ⟨h2, H⟩ := H
  refine r_if hcd rfl h2 (fun hc => ?_) (fun hc => ?_)
  · replace H := H.1 hc
    refine e_nx hcd rfl rfl ?_
    refine r_getR hcd rfl rfl rfl ?_
    iterate 2 (refine e_nx hcd rfl rfl ?_)
    obtain ⟨h3, H⟩ := H
    refine r_bst hcd rfl rfl (by omega) h3 (by omega) ?_
    iterate 2 (refine e_nx hcd rfl rfl ?_)
    show Ev X 281 14 [some (vR (some 170)), some (vI a1), some (vI 0)] [] _ Q
    exact H
  · replace H := H.2 hc
    refine e_nx hcd rfl rfl ?_
    exact r_zret hcd rfl rfl rfl (by omega) H
theorem v_281_14 {X : PX} {σ : Sg} {Q : Option PV → Sg → Prop} {x1 : Int} {x2 : Int}  (H : InR x2 ∧ (904 ≤ x2 → Q (some (vI 1)) σ) ∧ (¬ 904 ≤ x2 → (0 ≤ x2 ∧ x2 < 3616) ∧ (0 ≤ (904 * (x1 + 1)) + x2 ∧ (904 * (x1 + 1)) + x2 < 3616) ∧ Ev X 281 14 [some (vR (some 170)), some (vI x1), some (vI (x2 + 1))] [] (σ.1, up2 σ.2 171 ((904 * (x1 + 1)) + x2).toNat (σ.2 171 x2.toNat)) Q)) : Ev X 281 14 [some (vR (some 170)), some (vI x1), some (vI x2)] [] σ Q := by
  have hcd : cds 281 = cd_281 := rfl
  iterate 2 (refine e_nx hcd rfl rfl ?_)
  obtain ⟨h1, H⟩ := H
  refine r_icmp hcd rfl h1 (by omega) (fun hc => ?_) (fun hc => ?_)
  · replace H := H.1 hc
    refine e_nx hcd rfl rfl ?_
    exact r_zret hcd rfl rfl rfl (by omega) H
  · replace H := H.2 hc
    refine e_nx hcd rfl rfl ?_
    refine r_getR hcd rfl rfl rfl ?_
    iterate 8 (refine e_nx hcd rfl rfl ?_)
    refine r_getR hcd rfl rfl rfl ?_
    refine e_nx hcd rfl rfl ?_
    obtain ⟨h2, H⟩ := H
    refine r_ild hcd rfl rfl (by omega) h2 ?_
    obtain ⟨h3, H⟩ := H
    refine r_ist hcd rfl rfl (by omega) h3 ?_
    refine e_nx hcd rfl rfl ?_
    show Ev X 281 32 [some (vR (some 170)), some (vI x1), some (vI (x2 + 1))] [] _ Q
    refine e_nx hcd rfl rfl ?_
    exact H
/-! X12_again -/
theorem v_282 {X : PX} {σ : Sg} {Q : Option PV → Sg → Prop} {a1 : Int}  (H : CI X 161 [vI a1, vI 0, vI 2] σ (fun r1 τ1 => InR r1 ∧ (r1 = 0 → Q (some (vI 0)) τ1) ∧ (¬ r1 = 0 → (0 ≤ a1 ∧ a1 < 3) ∧ InR (τ1.2 172 a1.toNat) ∧ (τ1.2 172 a1.toNat ≠ 0 → Ev X 282 14 [some (vR (some 170)), some (vI a1), some (vI 0)] [] τ1 Q) ∧ (¬ τ1.2 172 a1.toNat ≠ 0 → Q (some (vI 0)) τ1)))) : Cl X 282 [vR (some 170), vI a1] σ Q := by
  have hcd : cds 282 = cd_282 := rfl
  refine c_in (Nat.le_of_ble_eq_true rfl) rfl rfl ?_
  show Ev X 282 0 [some (vR (some 170)), some (vI a1), none] [] σ Q
  iterate 3 (refine e_nx hcd rfl rfl ?_)
  refine r_cs hcd rfl (by omega) (Nat.le_of_ble_eq_true rfl) rfl rfl (Nat.le_of_ble_eq_true rfl) ?_
  refine Cl.mono H (fun v τ1 hq => ?_)
  obtain ⟨r1, rfl, H⟩ := hq
  show Ev X 282 4 _ [vI r1] τ1 Q
  obtain ⟨h2, H⟩ := H
  refine r_if hcd rfl h2 (fun hc => ?_) (fun hc => ?_)
  · replace H := H.1 hc
    refine e_nx hcd rfl rfl ?_
    exact r_zret hcd rfl rfl rfl (by omega) H
  · replace H := H.2 hc
    refine e_nx hcd rfl rfl ?_
    refine r_getR hcd rfl rfl rfl ?_
    refine e_nx hcd rfl rfl ?_
    obtain ⟨h3, H⟩ := H
    refine r_bld hcd rfl rfl (by omega) h3 ?_
    obtain ⟨h4, H⟩ := H
    refine r_if hcd rfl h4 (fun hc => ?_) (fun hc => ?_)
    · replace H := H.1 hc
      iterate 2 (refine e_nx hcd rfl rfl ?_)
      show Ev X 282 14 [some (vR (some 170)), some (vI a1), some (vI 0)] [] _ Q
      exact H
    · replace H := H.2 hc
      refine e_nx hcd rfl rfl ?_
      exact r_zret hcd rfl rfl rfl (by omega) H
theorem v_282_14 {X : PX} {σ : Sg} {Q : Option PV → Sg → Prop} {x1 : Int} {x2 : Int}  (H : InR x2 ∧ (904 ≤ x2 → Q (some (vI 1)) σ) ∧ (¬ 904 ≤ x2 → (0 ≤ (904 * (x1 + 1)) + x2 ∧ (904 * (x1 + 1)) + x2 < 3616) ∧ (0 ≤ x2 ∧ x2 < 3616) ∧ Ev X 282 14 [some (vR (some 170)), some (vI x1), some (vI (x2 + 1))] [] (σ.1, up2 σ.2 171 x2.toNat (σ.2 171 ((904 * (x1 + 1)) + x2).toNat)) Q)) : Ev X 282 14 [some (vR (some 170)), some (vI x1), some (vI x2)] [] σ Q := by
  have hcd : cds 282 = cd_282 := rfl
  iterate 2 (refine e_nx hcd rfl rfl ?_)
  obtain ⟨h1, H⟩ := H
  refine r_icmp hcd rfl h1 (by omega) (fun hc => ?_) (fun hc => ?_)
  · replace H := H.1 hc
    refine e_nx hcd rfl rfl ?_
    exact r_zret hcd rfl rfl rfl (by omega) H
  · replace H := H.2 hc
    refine e_nx hcd rfl rfl ?_
    refine r_getR hcd rfl rfl rfl ?_
    iterate 2 (refine e_nx hcd rfl rfl ?_)
    refine r_getR hcd rfl rfl rfl ?_
    iterate 7 (refine e_nx hcd rfl rfl ?_)
    obtain ⟨h2, H⟩ := H
    refine r_ild hcd rfl rfl (by omega) h2 ?_
    obtain ⟨h3, H⟩ := H
    refine r_ist hcd rfl rfl (by omega) h3 ?_
    refine e_nx hcd rfl rfl ?_
    show Ev X 282 32 [some (vR (some 170)), some (vI x1), some (vI (x2 + 1))] [] _ Q
    refine e_nx hcd rfl rfl ?_
    exact H
/-! J6_bitCount_0f7a4 -/
theorem v_283 {X : PX} {σ : Sg} {Q : Option PV → Sg → Prop} {a1 : Int}  (H : Q (some (vI (iAnd (((iAnd (((iAnd (a1 - (iAnd (iUshr a1 1) 1431655765)) 858993459) + (iAnd (iUshr (a1 - (iAnd (iUshr a1 1) 1431655765)) 2) 858993459)) + (iUshr ((iAnd (a1 - (iAnd (iUshr a1 1) 1431655765)) 858993459) + (iAnd (iUshr (a1 - (iAnd (iUshr a1 1) 1431655765)) 2) 858993459)) 4)) 252645135) + (iUshr (iAnd (((iAnd (a1 - (iAnd (iUshr a1 1) 1431655765)) 858993459) + (iAnd (iUshr (a1 - (iAnd (iUshr a1 1) 1431655765)) 2) 858993459)) + (iUshr ((iAnd (a1 - (iAnd (iUshr a1 1) 1431655765)) 858993459) + (iAnd (iUshr (a1 - (iAnd (iUshr a1 1) 1431655765)) 2) 858993459)) 4)) 252645135) 8)) + (iUshr ((iAnd (((iAnd (a1 - (iAnd (iUshr a1 1) 1431655765)) 858993459) + (iAnd (iUshr (a1 - (iAnd (iUshr a1 1) 1431655765)) 2) 858993459)) + (iUshr ((iAnd (a1 - (iAnd (iUshr a1 1) 1431655765)) 858993459) + (iAnd (iUshr (a1 - (iAnd (iUshr a1 1) 1431655765)) 2) 858993459)) 4)) 252645135) + (iUshr (iAnd (((iAnd (a1 - (iAnd (iUshr a1 1) 1431655765)) 858993459) + (iAnd (iUshr (a1 - (iAnd (iUshr a1 1) 1431655765)) 2) 858993459)) + (iUshr ((iAnd (a1 - (iAnd (iUshr a1 1) 1431655765)) 858993459) + (iAnd (iUshr (a1 - (iAnd (iUshr a1 1) 1431655765)) 2) 858993459)) 4)) 252645135) 8)) 16)) 63))) σ) : Cl X 283 [vI a1] σ Q := by
  have hcd : cds 283 = cd_283 := rfl
  refine c_in (Nat.le_of_ble_eq_true rfl) rfl rfl ?_
  show Ev X 283 0 [some (vI a1)] [] σ Q
  iterate 8 (refine e_nx hcd rfl rfl ?_)
  show Ev X 283 8 [some (vI (a1 - (iAnd (iUshr a1 1) 1431655765)))] [] _ Q
  iterate 10 (refine e_nx hcd rfl rfl ?_)
  show Ev X 283 18 [some (vI ((iAnd (a1 - (iAnd (iUshr a1 1) 1431655765)) 858993459) + (iAnd (iUshr (a1 - (iAnd (iUshr a1 1) 1431655765)) 2) 858993459)))] [] _ Q
  iterate 8 (refine e_nx hcd rfl rfl ?_)
  show Ev X 283 26 [some (vI (iAnd (((iAnd (a1 - (iAnd (iUshr a1 1) 1431655765)) 858993459) + (iAnd (iUshr (a1 - (iAnd (iUshr a1 1) 1431655765)) 2) 858993459)) + (iUshr ((iAnd (a1 - (iAnd (iUshr a1 1) 1431655765)) 858993459) + (iAnd (iUshr (a1 - (iAnd (iUshr a1 1) 1431655765)) 2) 858993459)) 4)) 252645135))] [] _ Q
  iterate 6 (refine e_nx hcd rfl rfl ?_)
  show Ev X 283 32 [some (vI ((iAnd (((iAnd (a1 - (iAnd (iUshr a1 1) 1431655765)) 858993459) + (iAnd (iUshr (a1 - (iAnd (iUshr a1 1) 1431655765)) 2) 858993459)) + (iUshr ((iAnd (a1 - (iAnd (iUshr a1 1) 1431655765)) 858993459) + (iAnd (iUshr (a1 - (iAnd (iUshr a1 1) 1431655765)) 2) 858993459)) 4)) 252645135) + (iUshr (iAnd (((iAnd (a1 - (iAnd (iUshr a1 1) 1431655765)) 858993459) + (iAnd (iUshr (a1 - (iAnd (iUshr a1 1) 1431655765)) 2) 858993459)) + (iUshr ((iAnd (a1 - (iAnd (iUshr a1 1) 1431655765)) 858993459) + (iAnd (iUshr (a1 - (iAnd (iUshr a1 1) 1431655765)) 2) 858993459)) 4)) 252645135) 8)))] [] _ Q
  iterate 6 (refine e_nx hcd rfl rfl ?_)
  show Ev X 283 38 [some (vI (((iAnd (((iAnd (a1 - (iAnd (iUshr a1 1) 1431655765)) 858993459) + (iAnd (iUshr (a1 - (iAnd (iUshr a1 1) 1431655765)) 2) 858993459)) + (iUshr ((iAnd (a1 - (iAnd (iUshr a1 1) 1431655765)) 858993459) + (iAnd (iUshr (a1 - (iAnd (iUshr a1 1) 1431655765)) 2) 858993459)) 4)) 252645135) + (iUshr (iAnd (((iAnd (a1 - (iAnd (iUshr a1 1) 1431655765)) 858993459) + (iAnd (iUshr (a1 - (iAnd (iUshr a1 1) 1431655765)) 2) 858993459)) + (iUshr ((iAnd (a1 - (iAnd (iUshr a1 1) 1431655765)) 858993459) + (iAnd (iUshr (a1 - (iAnd (iUshr a1 1) 1431655765)) 2) 858993459)) 4)) 252645135) 8)) + (iUshr ((iAnd (((iAnd (a1 - (iAnd (iUshr a1 1) 1431655765)) 858993459) + (iAnd (iUshr (a1 - (iAnd (iUshr a1 1) 1431655765)) 2) 858993459)) + (iUshr ((iAnd (a1 - (iAnd (iUshr a1 1) 1431655765)) 858993459) + (iAnd (iUshr (a1 - (iAnd (iUshr a1 1) 1431655765)) 2) 858993459)) 4)) 252645135) + (iUshr (iAnd (((iAnd (a1 - (iAnd (iUshr a1 1) 1431655765)) 858993459) + (iAnd (iUshr (a1 - (iAnd (iUshr a1 1) 1431655765)) 2) 858993459)) + (iUshr ((iAnd (a1 - (iAnd (iUshr a1 1) 1431655765)) 858993459) + (iAnd (iUshr (a1 - (iAnd (iUshr a1 1) 1431655765)) 2) 858993459)) 4)) 252645135) 8)) 16)))] [] _ Q
  iterate 3 (refine e_nx hcd rfl rfl ?_)
  exact r_iret hcd rfl rfl rfl H
