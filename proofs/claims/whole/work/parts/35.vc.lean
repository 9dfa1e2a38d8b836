/-! X11_parish -/
set_option maxRecDepth 20000 in
set_option maxHeartbeats 8000000 in
theorem v_128 {X : PX} {σ : Sg} {Q : Option PV → Sg → Prop} {a1 : Int} {a2 : Int}  (H : CI X 114 [vR (some 1), vI 0, vI a1] σ (fun r1 τ1 => InR r1 ∧ (r1 ≠ 0 → (0 ≤ a1 ∧ a1 < 2) ∧ InR a2 ∧ (a2 < 40 → CV X 29 [vR (some 146), vR (some (7 + 13 * a1.toNat))] τ1 (fun τ2 => (a2 < 10 → (a2 = 0 → Q (some (vI (τ2.1 (7 + 13 * a1.toNat) 0))) τ2) ∧ (a2 = 1 → Q (some (vI (τ2.1 (7 + 13 * a1.toNat) 1))) τ2) ∧ (a2 = 2 → Q (some (vI (τ2.1 (7 + 13 * a1.toNat) 2))) τ2) ∧ (a2 = 3 → Q (some (vI (τ2.1 (7 + 13 * a1.toNat) 4))) τ2) ∧ (a2 = 4 → Q (some (vI (τ2.1 (7 + 13 * a1.toNat) 3))) τ2) ∧ (a2 = 5 → Q (some (vI (τ2.1 146 6))) τ2) ∧ (a2 = 6 → Q (some (vI (τ2.1 154 0))) τ2) ∧ (a2 ≠ 0 ∧ a2 ≠ 1 ∧ a2 ≠ 2 ∧ a2 ≠ 3 ∧ a2 ≠ 4 ∧ a2 ≠ 5 ∧ a2 ≠ 6 → Q (some (vI (-1))) τ2)) ∧ (¬ a2 < 10 → CI X 129 [vR (some 0), vR (some (7 + 13 * a1.toNat)), vI a2] τ2 (fun r13 τ3 => Q (some (vI r13)) τ3)))) ∧ (¬ a2 < 40 → CI X 85 [vR (some (7 + 13 * a1.toNat)), vI a2] τ1 (fun r14 τ4 => Q (some (vI r14)) τ4))) ∧ (¬ r1 ≠ 0 → Q (some (vI (-1))) τ1))) : Cl X 128 [vR (some 0), vI a1, vI a2] σ Q := by
  have hcd : cds 128 = cd_128 := rfl
  refine c_in (Nat.le_of_ble_eq_true rfl) rfl rfl ?_
  show Ev X 128 0 [some (vR (some 0)), some (vI a1), some (vI a2), none] [] σ Q
  refine e_nx hcd rfl rfl ?_
  refine r_getR hcd rfl rfl rfl ?_
  iterate 2 (refine e_nx hcd rfl rfl ?_)
  refine r_cv hcd rfl (by omega) rfl rfl rfl (Nat.le_of_ble_eq_true rfl) ?_
  refine Cl.mono H (fun v τ1 hq => ?_)
  obtain ⟨r1, rfl, H⟩ := hq
  show Ev X 128 5 _ [vI r1] τ1 Q
  obtain ⟨h2, H⟩ := H
  refine r_if hcd rfl h2 (fun hc => ?_) (fun hc => ?_)
  · replace H := H.1 hc
    refine e_nx hcd rfl rfl ?_
    refine r_getR hcd rfl rfl rfl ?_
    refine r_getR hcd rfl rfl rfl ?_
    refine e_nx hcd rfl rfl ?_
    obtain ⟨h3, H⟩ := H
    have hm4 : 7 + 13 * a1.toNat ∈ parL := by rcases (show a1 = 0 ∨ a1 = 1 by omega) with h0 | h0 <;> rw [h0] <;> decide
    refine r_ald (q := 7 + 13 * a1.toNat) hcd rfl rfl (Nat.le_of_ble_eq_true rfl) h3 (by rcases (show a1 = 0 ∨ a1 = 1 by omega) with h0 | h0 <;> rw [h0] <;> rfl) ?_
    refine e_nx hcd rfl rfl ?_
    show Ev X 128 14 [some (vR (some 0)), some (vI a1), some (vI a2), some (vR (some (7 + 13 * a1.toNat)))] [] _ Q
    iterate 2 (refine e_nx hcd rfl rfl ?_)
    obtain ⟨h5, H⟩ := H
    refine r_icmp hcd rfl h5 (by omega) (fun hc => ?_) (fun hc => ?_)
    · replace H := H.1 hc
      refine e_nx hcd rfl rfl ?_
      refine r_getR hcd rfl rfl rfl ?_
      refine e_nx hcd rfl rfl ?_
      refine r_cv hcd rfl (by omega) rfl rfl rfl (Nat.le_of_ble_eq_true rfl) ?_
      refine Cl.mono H (fun v τ2 hq => ?_)
      obtain ⟨rfl, H⟩ := hq
      show Ev X 128 25 _ [] τ2 Q
      iterate 2 (refine e_nx hcd rfl rfl ?_)
      refine r_icmp hcd rfl h5 (by omega) (fun hc => ?_) (fun hc => ?_)
      · replace H := H.1 hc
        refine e_nx hcd rfl rfl ?_
        refine r_tab hcd rfl h5 ?_
        by_cases hs6 : a2 = 0
        · replace H := H.1 hs6
          refine e_pc (i2 := 35) (by rw [hs6]; rfl) ?_
          refine e_nx hcd rfl rfl ?_
          refine r_getI hcd rfl ((parS hm4).1) rfl ?_
          exact r_iret hcd rfl rfl rfl H
        by_cases hs7 : a2 = 1
        · replace H := H.2.1 hs7
          refine e_pc (i2 := 38) (by rw [hs7]; rfl) ?_
          refine e_nx hcd rfl rfl ?_
          refine r_getI hcd rfl ((parS hm4).1) rfl ?_
          exact r_iret hcd rfl rfl rfl H
        by_cases hs8 : a2 = 2
        · replace H := H.2.2.1 hs8
          refine e_pc (i2 := 41) (by rw [hs8]; rfl) ?_
          refine e_nx hcd rfl rfl ?_
          refine r_getI hcd rfl ((parS hm4).1) rfl ?_
          exact r_iret hcd rfl rfl rfl H
        by_cases hs9 : a2 = 3
        · replace H := H.2.2.2.1 hs9
          refine e_pc (i2 := 44) (by rw [hs9]; rfl) ?_
          refine e_nx hcd rfl rfl ?_
          refine r_getI hcd rfl ((parS hm4).1) rfl ?_
          exact r_iret hcd rfl rfl rfl H
        by_cases hs10 : a2 = 4
        · replace H := H.2.2.2.2.1 hs10
          refine e_pc (i2 := 47) (by rw [hs10]; rfl) ?_
          refine e_nx hcd rfl rfl ?_
          refine r_getI hcd rfl ((parS hm4).1) rfl ?_
          exact r_iret hcd rfl rfl rfl H
        by_cases hs11 : a2 = 5
        · replace H := H.2.2.2.2.2.1 hs11
          refine e_pc (i2 := 50) (by rw [hs11]; rfl) ?_
          refine e_nx hcd rfl rfl ?_
          refine r_getR hcd rfl rfl rfl ?_
          refine r_getI hcd rfl rfl rfl ?_
          exact r_iret hcd rfl rfl rfl H
        by_cases hs12 : a2 = 6
        · replace H := H.2.2.2.2.2.2.1 hs12
          refine e_pc (i2 := 54) (by rw [hs12]; rfl) ?_
          refine e_nx hcd rfl rfl ?_
          refine r_getR hcd rfl rfl rfl ?_
          refine r_getR hcd rfl rfl rfl ?_
          refine r_getI hcd rfl rfl rfl ?_
          exact r_iret hcd rfl rfl rfl H
        replace H := H.2.2.2.2.2.2.2 ⟨hs6, hs7, hs8, hs9, hs10, hs11, hs12⟩
        refine e_pc (i2 := 59) (tab_def (lo := 0) (hi := 6) (fun h1 h2 => ?_)) ?_
        · omega
        · refine e_nx hcd rfl rfl ?_
          exact r_iret hcd rfl rfl rfl H
      · replace H := H.2 hc
        iterate 3 (refine e_nx hcd rfl rfl ?_)
        refine r_cv hcd rfl (by omega) rfl rfl rfl (Nat.le_of_ble_eq_true rfl) ?_
        refine Cl.mono H (fun v τ3 hq => ?_)
        obtain ⟨r13, rfl, H⟩ := hq
        show Ev X 128 32 _ [vI r13] τ3 Q
        exact r_iret hcd rfl rfl rfl H
    · replace H := H.2 hc
      iterate 2 (refine e_nx hcd rfl rfl ?_)
      refine r_cv hcd rfl (by omega) ((parS hm4).1) rfl rfl (Nat.le_of_ble_eq_true rfl) ?_
      refine Cl.mono H (fun v τ4 hq => ?_)
      obtain ⟨r14, rfl, H⟩ := hq
      show Ev X 128 20 _ [vI r14] τ4 Q
      exact r_iret hcd rfl rfl rfl H
  · replace H := H.2 hc
    refine e_nx hcd rfl rfl ?_
    exact r_iret hcd rfl rfl rfl H
/-! X11_houseDetail -/
set_option maxRecDepth 20000 in
set_option maxHeartbeats 8000000 in
theorem v_129 {X : PX} {σ : Sg} {Q : Option PV → Sg → Prop} {p1 : Nat} {a1 : Int} (hp1 : p1 ∈ parL) (H : CI X 82 [vR (some p1), vI (iRem a1 10)] σ (fun r1 τ1 => InR r1 ∧ (r1 ≠ 0 → InR (iDiv a1 10) ∧ (iDiv a1 10 = 1 → (0 ≤ iRem a1 10 ∧ iRem a1 10 < 7) ∧ Q (some (vI (τ1.2 (p1 + 1) (iRem a1 10).toNat))) τ1) ∧ (iDiv a1 10 = 2 → (0 ≤ iRem a1 10 ∧ iRem a1 10 < 7) ∧ Q (some (vI (τ1.2 (p1 + 2) (iRem a1 10).toNat))) τ1) ∧ (iDiv a1 10 = 3 → CI X 54 [vR (some 154), vI (iRem a1 10)] τ1 (fun r6 τ2 => Q (some (vI r6)) τ2)) ∧ (iDiv a1 10 ≠ 1 ∧ iDiv a1 10 ≠ 2 ∧ iDiv a1 10 ≠ 3 → Q (some (vI (-1))) τ1)) ∧ (¬ r1 ≠ 0 → Q (some (vI (-1))) τ1))) : Cl X 129 [vR (some 0), vR (some p1), vI a1] σ Q := by
  have hcd : cds 129 = cd_129 := rfl
  refine c_in (Nat.le_of_ble_eq_true rfl) rfl rfl ?_
  show Ev X 129 0 [some (vR (some 0)), some (vR (some p1)), some (vI a1), none] [] σ Q
  iterate 2 (refine e_nx hcd rfl rfl ?_)
  refine r_rem hcd rfl (by omega) (by omega) ?_
  refine e_nx hcd rfl rfl ?_
  show Ev X 129 4 [some (vR (some 0)), some (vR (some p1)), some (vI a1), some (vI (iRem a1 10))] [] _ Q
  iterate 2 (refine e_nx hcd rfl rfl ?_)
  refine r_cv hcd rfl (by omega) ((parS hp1).1) rfl rfl (Nat.le_of_ble_eq_true rfl) ?_
  refine Cl.mono H (fun v τ1 hq => ?_)
  obtain ⟨r1, rfl, H⟩ := hq
  show Ev X 129 7 _ [vI r1] τ1 Q
  obtain ⟨h2, H⟩ := H
  refine r_if hcd rfl h2 (fun hc => ?_) (fun hc => ?_)
  · replace H := H.1 hc
    iterate 2 (refine e_nx hcd rfl rfl ?_)
    refine r_div hcd rfl (by omega) (by omega) ?_
    obtain ⟨h3, H⟩ := H
    refine r_tab hcd rfl h3 ?_
    by_cases hs7 : iDiv a1 10 = 1
    · replace H := H.1 hs7
      refine e_pc (i2 := 14) (by rw [hs7]; rfl) ?_
      refine e_nx hcd rfl rfl ?_
      refine r_getR hcd rfl ((parS hp1).1) rfl ?_
      refine e_nx hcd rfl rfl ?_
      obtain ⟨h4, H⟩ := H
      refine r_ild hcd rfl ((parS hp1).2.1) (by omega) h4 ?_
      exact r_iret hcd rfl rfl rfl H
    by_cases hs8 : iDiv a1 10 = 2
    · replace H := H.2.1 hs8
      refine e_pc (i2 := 19) (by rw [hs8]; rfl) ?_
      refine e_nx hcd rfl rfl ?_
      refine r_getR hcd rfl ((parS hp1).1) rfl ?_
      refine e_nx hcd rfl rfl ?_
      obtain ⟨h5, H⟩ := H
      refine r_ild hcd rfl ((parS hp1).2.2.1) (by omega) h5 ?_
      exact r_iret hcd rfl rfl rfl H
    by_cases hs9 : iDiv a1 10 = 3
    · replace H := H.2.2.1 hs9
      refine e_pc (i2 := 24) (by rw [hs9]; rfl) ?_
      refine e_nx hcd rfl rfl ?_
      refine r_getR hcd rfl rfl rfl ?_
      refine r_getR hcd rfl rfl rfl ?_
      refine e_nx hcd rfl rfl ?_
      refine r_cv hcd rfl (by omega) rfl rfl rfl (Nat.le_of_ble_eq_true rfl) ?_
      refine Cl.mono H (fun v τ2 hq => ?_)
      obtain ⟨r6, rfl, H⟩ := hq
      show Ev X 129 29 _ [vI r6] τ2 Q
      exact r_iret hcd rfl rfl rfl H
    replace H := H.2.2.2 ⟨hs7, hs8, hs9⟩
    refine e_pc (i2 := 30) (tab_def (lo := 1) (hi := 3) (fun h1 h2 => ?_)) ?_
    · omega
    · refine e_nx hcd rfl rfl ?_
      exact r_iret hcd rfl rfl rfl H
  · replace H := H.2 hc
    refine e_nx hcd rfl rfl ?_
    exact r_iret hcd rfl rfl rfl H
/-! X11_deed -/
theorem v_130 {X : PX} {σ : Sg} {Q : Option PV → Sg → Prop} {a1 : Int} {a2 : Int} {a3 : Int}  (H : CI X 114 [vR (some 1), vI 1, vI a1] σ (fun r1 τ1 => InR r1 ∧ (r1 = 0 → Q (some (vI (-2))) τ1) ∧ (¬ r1 = 0 → (0 ≤ a1 ∧ a1 < 2) ∧ CI X 75 [vR (some (14 + 13 * a1.toNat)), vI a2, vI a3] τ1 (fun r5 τ2 => Q (some (vI r5)) τ2)))) : Cl X 130 [vR (some 0), vI a1, vI a2, vI a3] σ Q := by
  have hcd : cds 130 = cd_130 := rfl
  refine c_in (Nat.le_of_ble_eq_true rfl) rfl rfl ?_
  show Ev X 130 0 [some (vR (some 0)), some (vI a1), some (vI a2), some (vI a3)] [] σ Q
  refine e_nx hcd rfl rfl ?_
  refine r_getR hcd rfl rfl rfl ?_
  iterate 2 (refine e_nx hcd rfl rfl ?_)
  refine r_cv hcd rfl (by omega) rfl rfl rfl (Nat.le_of_ble_eq_true rfl) ?_
  refine Cl.mono H (fun v τ1 hq => ?_)
  obtain ⟨r1, rfl, H⟩ := hq
  show Ev X 130 5 _ [vI r1] τ1 Q
  obtain ⟨h2, H⟩ := H
  refine r_if hcd rfl h2 (fun hc => ?_) (fun hc => ?_)
  · replace H := H.1 hc
    refine e_nx hcd rfl rfl ?_
    exact r_iret hcd rfl rfl rfl H
  · replace H := H.2 hc
    refine e_nx hcd rfl rfl ?_
    refine r_getR hcd rfl rfl rfl ?_
    refine r_getR hcd rfl rfl rfl ?_
    refine e_nx hcd rfl rfl ?_
    obtain ⟨h3, H⟩ := H
    have hm4 : 14 + 13 * a1.toNat ∈ paiL := by rcases (show a1 = 0 ∨ a1 = 1 by omega) with h0 | h0 <;> rw [h0] <;> decide
    refine r_ald (q := 14 + 13 * a1.toNat) hcd rfl rfl (Nat.le_of_ble_eq_true rfl) h3 (by rcases (show a1 = 0 ∨ a1 = 1 by omega) with h0 | h0 <;> rw [h0] <;> rfl) ?_
    iterate 2 (refine e_nx hcd rfl rfl ?_)
    refine r_cv hcd rfl (by omega) ((paiS hm4).1) rfl rfl (Nat.le_of_ble_eq_true rfl) ?_
    refine Cl.mono H (fun v τ2 hq => ?_)
    obtain ⟨r5, rfl, H⟩ := hq
    show Ev X 130 14 _ [vI r5] τ2 Q
    refine e_nx hcd rfl rfl ?_
    exact r_iret hcd rfl rfl rfl H
/-! X11_fact -/
theorem v_131 {X : PX} {σ : Sg} {Q : Option PV → Sg → Prop} {a1 : Int} {a2 : Int} {a3 : Int}  (H : CI X 114 [vR (some 1), vI 2, vI a1] σ (fun r1 τ1 => InR r1 ∧ (r1 = 0 → Q (some (vI (-2))) τ1) ∧ (¬ r1 = 0 → (0 ≤ a1 ∧ a1 < 2) ∧ CI X 75 [vR (some (17 + 13 * a1.toNat)), vI a2, vI a3] τ1 (fun r5 τ2 => Q (some (vI r5)) τ2)))) : Cl X 131 [vR (some 0), vI a1, vI a2, vI a3] σ Q := by
  have hcd : cds 131 = cd_131 := rfl
  refine c_in (Nat.le_of_ble_eq_true rfl) rfl rfl ?_
  show Ev X 131 0 [some (vR (some 0)), some (vI a1), some (vI a2), some (vI a3)] [] σ Q
  refine e_nx hcd rfl rfl ?_
  refine r_getR hcd rfl rfl rfl ?_
  iterate 2 (refine e_nx hcd rfl rfl ?_)
  refine r_cv hcd rfl (by omega) rfl rfl rfl (Nat.le_of_ble_eq_true rfl) ?_
  refine Cl.mono H (fun v τ1 hq => ?_)
  obtain ⟨r1, rfl, H⟩ := hq
  show Ev X 131 5 _ [vI r1] τ1 Q
  obtain ⟨h2, H⟩ := H
  refine r_if hcd rfl h2 (fun hc => ?_) (fun hc => ?_)
  · replace H := H.1 hc
    refine e_nx hcd rfl rfl ?_
    exact r_iret hcd rfl rfl rfl H
  · replace H := H.2 hc
    refine e_nx hcd rfl rfl ?_
    refine r_getR hcd rfl rfl rfl ?_
    refine r_getR hcd rfl rfl rfl ?_
    refine e_nx hcd rfl rfl ?_
    obtain ⟨h3, H⟩ := H
    have hm4 : 17 + 13 * a1.toNat ∈ paiL := by rcases (show a1 = 0 ∨ a1 = 1 by omega) with h0 | h0 <;> rw [h0] <;> decide
    refine r_ald (q := 17 + 13 * a1.toNat) hcd rfl rfl (Nat.le_of_ble_eq_true rfl) h3 (by rcases (show a1 = 0 ∨ a1 = 1 by omega) with h0 | h0 <;> rw [h0] <;> rfl) ?_
    iterate 2 (refine e_nx hcd rfl rfl ?_)
    refine r_cv hcd rfl (by omega) ((paiS hm4).1) rfl rfl (Nat.le_of_ble_eq_true rfl) ?_
    refine Cl.mono H (fun v τ2 hq => ?_)
    obtain ⟨r5, rfl, H⟩ := hq
    show Ev X 131 14 _ [vI r5] τ2 Q
    refine e_nx hcd rfl rfl ?_
    exact r_iret hcd rfl rfl rfl H
/-! X11_stop -/
set_option maxRecDepth 20000 in
set_option maxHeartbeats 8000000 in
theorem v_132 {X : PX} {σ : Sg} {Q : Option PV → Sg → Prop} {a1 : Int} {a2 : Int}  (H : CI X 114 [vR (some 1), vI 0, vI a1] σ (fun r1 τ1 => InR r1 ∧ (r1 = 0 → Q (some (vI (-1))) τ1) ∧ (¬ r1 = 0 → CI X 114 [vR (some 1), vI 1, vI a2] τ1 (fun r3 τ2 => InR r3 ∧ (r3 ≠ 0 → (0 ≤ a2 ∧ a2 < 2) ∧ (0 ≤ a1 ∧ a1 < 2) ∧ CI X 1 [vR (some 161), vR (some (7 + 13 * a1.toNat)), vR (some (14 + 13 * a2.toNat)), vI (τ2.1 (14 + 13 * a2.toNat) 0)] τ2 (fun r9 τ3 => Q (some (vI r9)) τ3)) ∧ (¬ r3 ≠ 0 → Q (some (vI (-1))) τ2))))) : Cl X 132 [vR (some 0), vI a1, vI a2] σ Q := by
  have hcd : cds 132 = cd_132 := rfl
  refine c_in (Nat.le_of_ble_eq_true rfl) rfl rfl ?_
  show Ev X 132 0 [some (vR (some 0)), some (vI a1), some (vI a2), none] [] σ Q
  refine e_nx hcd rfl rfl ?_
  refine r_getR hcd rfl rfl rfl ?_
  iterate 2 (refine e_nx hcd rfl rfl ?_)
  refine r_cv hcd rfl (by omega) rfl rfl rfl (Nat.le_of_ble_eq_true rfl) ?_
  refine Cl.mono H (fun v τ1 hq => ?_)
  obtain ⟨r1, rfl, H⟩ := hq
  show Ev X 132 5 _ [vI r1] τ1 Q
  obtain ⟨h2, H⟩ := H
  refine r_if hcd rfl h2 (fun hc => ?_) (fun hc => ?_)
  · replace H := H.1 hc
    refine e_nx hcd rfl rfl ?_
    exact r_iret hcd rfl rfl rfl H
  · replace H := H.2 hc
    refine e_nx hcd rfl rfl ?_
    refine r_getR hcd rfl rfl rfl ?_
    iterate 2 (refine e_nx hcd rfl rfl ?_)
    refine r_cv hcd rfl (by omega) rfl rfl rfl (Nat.le_of_ble_eq_true rfl) ?_
    refine Cl.mono H (fun v τ2 hq => ?_)
    obtain ⟨r3, rfl, H⟩ := hq
    show Ev X 132 11 _ [vI r3] τ2 Q
    obtain ⟨h4, H⟩ := H
    refine r_if hcd rfl h4 (fun hc => ?_) (fun hc => ?_)
    · replace H := H.1 hc
      refine e_nx hcd rfl rfl ?_
      refine r_getR hcd rfl rfl rfl ?_
      refine r_getR hcd rfl rfl rfl ?_
      refine e_nx hcd rfl rfl ?_
      obtain ⟨h5, H⟩ := H
      have hm6 : 14 + 13 * a2.toNat ∈ paiL := by rcases (show a2 = 0 ∨ a2 = 1 by omega) with h0 | h0 <;> rw [h0] <;> decide
      refine r_ald (q := 14 + 13 * a2.toNat) hcd rfl rfl (Nat.le_of_ble_eq_true rfl) h5 (by rcases (show a2 = 0 ∨ a2 = 1 by omega) with h0 | h0 <;> rw [h0] <;> rfl) ?_
      refine e_nx hcd rfl rfl ?_
      show Ev X 132 20 [some (vR (some 0)), some (vI a1), some (vI a2), some (vR (some (14 + 13 * a2.toNat)))] [] _ Q
      refine e_nx hcd rfl rfl ?_
      refine r_getR hcd rfl rfl rfl ?_
      refine e_nx hcd rfl rfl ?_
      refine r_getR hcd rfl rfl rfl ?_
      refine r_getR hcd rfl rfl rfl ?_
      refine e_nx hcd rfl rfl ?_
      obtain ⟨h7, H⟩ := H
      have hm8 : 7 + 13 * a1.toNat ∈ parL := by rcases (show a1 = 0 ∨ a1 = 1 by omega) with h0 | h0 <;> rw [h0] <;> decide
      refine r_ald (q := 7 + 13 * a1.toNat) hcd rfl rfl (Nat.le_of_ble_eq_true rfl) h7 (by rcases (show a1 = 0 ∨ a1 = 1 by omega) with h0 | h0 <;> rw [h0] <;> rfl) ?_
      iterate 2 (refine e_nx hcd rfl rfl ?_)
      refine r_getI hcd rfl ((paiS hm6).1) rfl ?_
      refine r_cv hcd rfl (by omega) rfl rfl rfl (Nat.le_of_ble_eq_true rfl) ?_
      refine Cl.mono H (fun v τ3 hq => ?_)
      obtain ⟨r9, rfl, H⟩ := hq
      show Ev X 132 31 _ [vI r9] τ3 Q
      exact r_iret hcd rfl rfl rfl H
    · replace H := H.2 hc
      refine e_nx hcd rfl rfl ?_
      exact r_iret hcd rfl rfl rfl H
/-! X11_state -/
set_option maxRecDepth 20000 in
set_option maxHeartbeats 8000000 in
theorem v_133 {X : PX} {σ : Sg} {Q : Option PV → Sg → Prop} {a1 : Int} {a2 : Int} {a3 : Int} {a4 : Int}  (H : CI X 114 [vR (some 1), vI 0, vI a1] σ (fun r1 τ1 => InR r1 ∧ (r1 = 0 → Q (some (vI (-2))) τ1) ∧ (¬ r1 = 0 → CI X 114 [vR (some 1), vI 1, vI a2] τ1 (fun r3 τ2 => InR r3 ∧ (r3 ≠ 0 → (0 ≤ a2 ∧ a2 < 2) ∧ InR a3 ∧ (a3 < 0 → Q (some (vI (-2))) τ2) ∧ (¬ a3 < 0 → InR (τ2.1 (14 + 13 * a2.toNat) 0) ∧ (τ2.1 (14 + 13 * a2.toNat) 0 < a3 → Q (some (vI (-2))) τ2) ∧ (¬ τ2.1 (14 + 13 * a2.toNat) 0 < a3 → (0 ≤ a1 ∧ a1 < 2) ∧ CI X 1 [vR (some 161), vR (some (7 + 13 * a1.toNat)), vR (some (14 + 13 * a2.toNat)), vI a3] τ2 (fun r11 τ3 => InR r11 ∧ (a3 ≤ r11 → CI X 40 [vR (some 146), vI a4] τ3 (fun r13 τ4 => Q (some (vI r13)) τ4)) ∧ (¬ a3 ≤ r11 → Q (some (vI (-2))) τ3))))) ∧ (¬ r3 ≠ 0 → Q (some (vI (-2))) τ2))))) : Cl X 133 [vR (some 0), vI a1, vI a2, vI a3, vI a4] σ Q := by
  have hcd : cds 133 = cd_133 := rfl
  refine c_in (Nat.le_of_ble_eq_true rfl) rfl rfl ?_
  show Ev X 133 0 [some (vR (some 0)), some (vI a1), some (vI a2), some (vI a3), some (vI a4), none] [] σ Q
  refine e_nx hcd rfl rfl ?_
  refine r_getR hcd rfl rfl rfl ?_
  iterate 2 (refine e_nx hcd rfl rfl ?_)
  refine r_cv hcd rfl (by omega) rfl rfl rfl (Nat.le_of_ble_eq_true rfl) ?_
  refine Cl.mono H (fun v τ1 hq => ?_)
  obtain ⟨r1, rfl, H⟩ := hq
  show Ev X 133 5 _ [vI r1] τ1 Q
  obtain ⟨h2, H⟩ := H
  refine r_if hcd rfl h2 (fun hc => ?_) (fun hc => ?_)
  · replace H := H.1 hc
    refine e_nx hcd rfl rfl ?_
    exact r_iret hcd rfl rfl rfl H
  · replace H := H.2 hc
    refine e_nx hcd rfl rfl ?_
    refine r_getR hcd rfl rfl rfl ?_
    iterate 2 (refine e_nx hcd rfl rfl ?_)
    refine r_cv hcd rfl (by omega) rfl rfl rfl (Nat.le_of_ble_eq_true rfl) ?_
    refine Cl.mono H (fun v τ2 hq => ?_)
    obtain ⟨r3, rfl, H⟩ := hq
    show Ev X 133 11 _ [vI r3] τ2 Q
    obtain ⟨h4, H⟩ := H
    refine r_if hcd rfl h4 (fun hc => ?_) (fun hc => ?_)
    · replace H := H.1 hc
      refine e_nx hcd rfl rfl ?_
      refine r_getR hcd rfl rfl rfl ?_
      refine r_getR hcd rfl rfl rfl ?_
      refine e_nx hcd rfl rfl ?_
      obtain ⟨h5, H⟩ := H
      have hm6 : 14 + 13 * a2.toNat ∈ paiL := by rcases (show a2 = 0 ∨ a2 = 1 by omega) with h0 | h0 <;> rw [h0] <;> decide
      refine r_ald (q := 14 + 13 * a2.toNat) hcd rfl rfl (Nat.le_of_ble_eq_true rfl) h5 (by rcases (show a2 = 0 ∨ a2 = 1 by omega) with h0 | h0 <;> rw [h0] <;> rfl) ?_
      refine e_nx hcd rfl rfl ?_
      show Ev X 133 20 [some (vR (some 0)), some (vI a1), some (vI a2), some (vI a3), some (vI a4), some (vR (some (14 + 13 * a2.toNat)))] [] _ Q
      refine e_nx hcd rfl rfl ?_
      obtain ⟨h7, H⟩ := H
      refine r_if hcd rfl h7 (fun hc => ?_) (fun hc => ?_)
      · replace H := H.1 hc
        refine e_nx hcd rfl rfl ?_
        exact r_iret hcd rfl rfl rfl H
      · replace H := H.2 hc
        iterate 2 (refine e_nx hcd rfl rfl ?_)
        refine r_getI hcd rfl ((paiS hm6).1) rfl ?_
        obtain ⟨h8, H⟩ := H
        refine r_icmp hcd rfl h7 h8 (fun hc => ?_) (fun hc => ?_)
        · replace H := H.1 hc
          refine e_nx hcd rfl rfl ?_
          exact r_iret hcd rfl rfl rfl H
        · replace H := H.2 hc
          refine e_nx hcd rfl rfl ?_
          refine r_getR hcd rfl rfl rfl ?_
          refine e_nx hcd rfl rfl ?_
          refine r_getR hcd rfl rfl rfl ?_
          refine r_getR hcd rfl rfl rfl ?_
          refine e_nx hcd rfl rfl ?_
          obtain ⟨h9, H⟩ := H
          have hm10 : 7 + 13 * a1.toNat ∈ parL := by rcases (show a1 = 0 ∨ a1 = 1 by omega) with h0 | h0 <;> rw [h0] <;> decide
          refine r_ald (q := 7 + 13 * a1.toNat) hcd rfl rfl (Nat.le_of_ble_eq_true rfl) h9 (by rcases (show a1 = 0 ∨ a1 = 1 by omega) with h0 | h0 <;> rw [h0] <;> rfl) ?_
          iterate 2 (refine e_nx hcd rfl rfl ?_)
          refine r_cv hcd rfl (by omega) rfl rfl rfl (Nat.le_of_ble_eq_true rfl) ?_
          refine Cl.mono H (fun v τ3 hq => ?_)
          obtain ⟨r11, rfl, H⟩ := hq
          show Ev X 133 36 _ [vI r11] τ3 Q
          refine e_nx hcd rfl rfl ?_
          obtain ⟨h12, H⟩ := H
          refine r_icmp hcd rfl h12 h7 (fun hc => ?_) (fun hc => ?_)
          · replace H := H.1 hc
            refine e_nx hcd rfl rfl ?_
            refine r_getR hcd rfl rfl rfl ?_
            refine e_nx hcd rfl rfl ?_
            refine r_cv hcd rfl (by omega) rfl rfl rfl (Nat.le_of_ble_eq_true rfl) ?_
            refine Cl.mono H (fun v τ4 hq => ?_)
            obtain ⟨r13, rfl, H⟩ := hq
            show Ev X 133 44 _ [vI r13] τ4 Q
            exact r_iret hcd rfl rfl rfl H
          · replace H := H.2 hc
            refine e_nx hcd rfl rfl ?_
            exact r_iret hcd rfl rfl rfl H
    · replace H := H.2 hc
      refine e_nx hcd rfl rfl ?_
      exact r_iret hcd rfl rfl rfl H
/-! X11_after -/
set_option maxRecDepth 20000 in
set_option maxHeartbeats 8000000 in
theorem v_134 {X : PX} {σ : Sg} {Q : Option PV → Sg → Prop} {a1 : Int} {a2 : Int} {a3 : Int}  (H : CI X 114 [vR (some 1), vI 0, vI a1] σ (fun r1 τ1 => InR r1 ∧ (r1 = 0 → Q (some (vI (-2))) τ1) ∧ (¬ r1 = 0 → CI X 114 [vR (some 1), vI 1, vI a2] τ1 (fun r3 τ2 => InR r3 ∧ (r3 ≠ 0 → (0 ≤ a2 ∧ a2 < 2) ∧ (0 ≤ a1 ∧ a1 < 2) ∧ CI X 1 [vR (some 161), vR (some (7 + 13 * a1.toNat)), vR (some (14 + 13 * a2.toNat)), vI (τ2.1 (14 + 13 * a2.toNat) 0)] τ2 (fun r9 τ3 => InR a3 ∧ (a3 = 0 → Q (some (vI (τ3.1 161 2))) τ3) ∧ (a3 = 1 → Q (some (vI (τ3.1 161 3))) τ3) ∧ (a3 = 2 → Q (some (vI (τ3.1 161 4))) τ3) ∧ (a3 = 3 → Q (some (vI (τ3.1 161 5))) τ3) ∧ (a3 = 4 → CI X 3 [vR (some 161)] τ3 (fun r11 τ4 => Q (some (vI r11)) τ4)) ∧ (a3 ≠ 0 ∧ a3 ≠ 1 ∧ a3 ≠ 2 ∧ a3 ≠ 3 ∧ a3 ≠ 4 → Q (some (vI (-2))) τ3))) ∧ (¬ r3 ≠ 0 → Q (some (vI (-2))) τ2))))) : Cl X 134 [vR (some 0), vI a1, vI a2, vI a3] σ Q := by
  have hcd : cds 134 = cd_134 := rfl
  refine c_in (Nat.le_of_ble_eq_true rfl) rfl rfl ?_
  show Ev X 134 0 [some (vR (some 0)), some (vI a1), some (vI a2), some (vI a3), none] [] σ Q
  refine e_nx hcd rfl rfl ?_
  refine r_getR hcd rfl rfl rfl ?_
  iterate 2 (refine e_nx hcd rfl rfl ?_)
  refine r_cv hcd rfl (by omega) rfl rfl rfl (Nat.le_of_ble_eq_true rfl) ?_
  refine Cl.mono H (fun v τ1 hq => ?_)
  obtain ⟨r1, rfl, H⟩ := hq
  show Ev X 134 5 _ [vI r1] τ1 Q
  obtain ⟨h2, H⟩ := H
  refine r_if hcd rfl h2 (fun hc => ?_) (fun hc => ?_)
  · replace H := H.1 hc
    refine e_nx hcd rfl rfl ?_
    exact r_iret hcd rfl rfl rfl H
  · replace H := H.2 hc
    refine e_nx hcd rfl rfl ?_
    refine r_getR hcd rfl rfl rfl ?_
    iterate 2 (refine e_nx hcd rfl rfl ?_)
    refine r_cv hcd rfl (by omega) rfl rfl rfl (Nat.le_of_ble_eq_true rfl) ?_
    refine Cl.mono H (fun v τ2 hq => ?_)
    obtain ⟨r3, rfl, H⟩ := hq
    show Ev X 134 11 _ [vI r3] τ2 Q
    obtain ⟨h4, H⟩ := H
    refine r_if hcd rfl h4 (fun hc => ?_) (fun hc => ?_)
    · replace H := H.1 hc
      refine e_nx hcd rfl rfl ?_
      refine r_getR hcd rfl rfl rfl ?_
      refine r_getR hcd rfl rfl rfl ?_
      refine e_nx hcd rfl rfl ?_
      obtain ⟨h5, H⟩ := H
      have hm6 : 14 + 13 * a2.toNat ∈ paiL := by rcases (show a2 = 0 ∨ a2 = 1 by omega) with h0 | h0 <;> rw [h0] <;> decide
      refine r_ald (q := 14 + 13 * a2.toNat) hcd rfl rfl (Nat.le_of_ble_eq_true rfl) h5 (by rcases (show a2 = 0 ∨ a2 = 1 by omega) with h0 | h0 <;> rw [h0] <;> rfl) ?_
      refine e_nx hcd rfl rfl ?_
      show Ev X 134 20 [some (vR (some 0)), some (vI a1), some (vI a2), some (vI a3), some (vR (some (14 + 13 * a2.toNat)))] [] _ Q
      refine e_nx hcd rfl rfl ?_
      refine r_getR hcd rfl rfl rfl ?_
      refine e_nx hcd rfl rfl ?_
      refine r_getR hcd rfl rfl rfl ?_
      refine r_getR hcd rfl rfl rfl ?_
      refine e_nx hcd rfl rfl ?_
      obtain ⟨h7, H⟩ := H
      have hm8 : 7 + 13 * a1.toNat ∈ parL := by rcases (show a1 = 0 ∨ a1 = 1 by omega) with h0 | h0 <;> rw [h0] <;> decide
      refine r_ald (q := 7 + 13 * a1.toNat) hcd rfl rfl (Nat.le_of_ble_eq_true rfl) h7 (by rcases (show a1 = 0 ∨ a1 = 1 by omega) with h0 | h0 <;> rw [h0] <;> rfl) ?_
      iterate 2 (refine e_nx hcd rfl rfl ?_)
      refine r_getI hcd rfl ((paiS hm6).1) rfl ?_
      refine r_cv hcd rfl (by omega) rfl rfl rfl (Nat.le_of_ble_eq_true rfl) ?_
      refine Cl.mono H (fun v τ3 hq => ?_)
      obtain ⟨r9, rfl, H⟩ := hq
      show Ev X 134 31 _ [vI r9] τ3 Q
      iterate 2 (refine e_nx hcd rfl rfl ?_)
      obtain ⟨h10, H⟩ := H
      refine r_tab hcd rfl h10 ?_
      by_cases hs12 : a3 = 0
      · replace H := H.1 hs12
        refine e_pc (i2 := 34) (by rw [hs12]; rfl) ?_
        refine e_nx hcd rfl rfl ?_
        refine r_getR hcd rfl rfl rfl ?_
        refine r_getI hcd rfl rfl rfl ?_
        exact r_iret hcd rfl rfl rfl H
      by_cases hs13 : a3 = 1
      · replace H := H.2.1 hs13
        refine e_pc (i2 := 38) (by rw [hs13]; rfl) ?_
        refine e_nx hcd rfl rfl ?_
        refine r_getR hcd rfl rfl rfl ?_
        refine r_getI hcd rfl rfl rfl ?_
        exact r_iret hcd rfl rfl rfl H
      by_cases hs14 : a3 = 2
      · replace H := H.2.2.1 hs14
        refine e_pc (i2 := 42) (by rw [hs14]; rfl) ?_
        refine e_nx hcd rfl rfl ?_
        refine r_getR hcd rfl rfl rfl ?_
        refine r_getI hcd rfl rfl rfl ?_
        exact r_iret hcd rfl rfl rfl H
      by_cases hs15 : a3 = 3
      · replace H := H.2.2.2.1 hs15
        refine e_pc (i2 := 46) (by rw [hs15]; rfl) ?_
        refine e_nx hcd rfl rfl ?_
        refine r_getR hcd rfl rfl rfl ?_
        refine r_getI hcd rfl rfl rfl ?_
        exact r_iret hcd rfl rfl rfl H
      by_cases hs16 : a3 = 4
      · replace H := H.2.2.2.2.1 hs16
        refine e_pc (i2 := 50) (by rw [hs16]; rfl) ?_
        refine e_nx hcd rfl rfl ?_
        refine r_getR hcd rfl rfl rfl ?_
        refine r_cv hcd rfl (by omega) rfl rfl rfl (Nat.le_of_ble_eq_true rfl) ?_
        refine Cl.mono H (fun v τ4 hq => ?_)
        obtain ⟨r11, rfl, H⟩ := hq
        show Ev X 134 53 _ [vI r11] τ4 Q
        exact r_iret hcd rfl rfl rfl H
      replace H := H.2.2.2.2.2 ⟨hs12, hs13, hs14, hs15, hs16⟩
      refine e_pc (i2 := 54) (tab_def (lo := 0) (hi := 4) (fun h1 h2 => ?_)) ?_
      · omega
      · refine e_nx hcd rfl rfl ?_
        exact r_iret hcd rfl rfl rfl H
    · replace H := H.2 hc
      refine e_nx hcd rfl rfl ?_
      exact r_iret hcd rfl rfl rfl H
/-! X11_drawn -/
set_option maxRecDepth 20000 in
set_option maxHeartbeats 8000000 in
theorem v_135 {X : PX} {σ : Sg} {Q : Option PV → Sg → Prop} {a1 : Int} {a2 : Int} {a3 : Int} {a4 : Int}  (H : CI X 114 [vR (some 1), vI 0, vI a1] σ (fun r1 τ1 => InR r1 ∧ (r1 = 0 → Q (some (vI (-2))) τ1) ∧ (¬ r1 = 0 → InR a3 ∧ (a3 < 0 → Q (some (vI (-2))) τ1) ∧ (¬ a3 < 0 → (a3 ≤ 60 → (0 ≤ a1 ∧ a1 < 2) ∧ CV X 69 [vR (some 160), vR (some (7 + 13 * a1.toNat)), vI a2] τ1 (fun τ2 => Ev X 135 24 [some (vR (some 0)), none, none, some (vI a3), some (vI a4), some (vI 0)] [] τ2 Q)) ∧ (¬ a3 ≤ 60 → Q (some (vI (-2))) τ1))))) : Cl X 135 [vR (some 0), vI a1, vI a2, vI a3, vI a4] σ Q := by
  have hcd : cds 135 = cd_135 := rfl
  refine c_in (Nat.le_of_ble_eq_true rfl) rfl rfl ?_
  show Ev X 135 0 [some (vR (some 0)), some (vI a1), some (vI a2), some (vI a3), some (vI a4), none] [] σ Q
  refine e_nx hcd rfl rfl ?_
  refine r_getR hcd rfl rfl rfl ?_
  iterate 2 (refine e_nx hcd rfl rfl ?_)
  refine r_cv hcd rfl (by omega) rfl rfl rfl (Nat.le_of_ble_eq_true rfl) ?_
  refine Cl.mono H (fun v τ1 hq => ?_)
  obtain ⟨r1, rfl, H⟩ := hq
  show Ev X 135 5 _ [vI r1] τ1 Q
  obtain ⟨h2, H⟩ := H
  refine r_if hcd rfl h2 (fun hc => ?_) (fun hc => ?_)
  · replace H := H.1 hc
    refine e_nx hcd rfl rfl ?_
    exact r_iret hcd rfl rfl rfl H
  · replace H := H.2 hc
    refine e_nx hcd rfl rfl ?_
    obtain ⟨h3, H⟩ := H
    refine r_if hcd rfl h3 (fun hc => ?_) (fun hc => ?_)
    · replace H := H.1 hc
      refine e_nx hcd rfl rfl ?_
      exact r_iret hcd rfl rfl rfl H
    · replace H := H.2 hc
      iterate 2 (refine e_nx hcd rfl rfl ?_)
      refine r_icmp hcd rfl h3 (by omega) (fun hc => ?_) (fun hc => ?_)
      · replace H := H.1 hc
        refine e_nx hcd rfl rfl ?_
        refine r_getR hcd rfl rfl rfl ?_
        refine e_nx hcd rfl rfl ?_
        refine r_getR hcd rfl rfl rfl ?_
        refine r_getR hcd rfl rfl rfl ?_
        refine e_nx hcd rfl rfl ?_
        obtain ⟨h4, H⟩ := H
        have hm5 : 7 + 13 * a1.toNat ∈ parL := by rcases (show a1 = 0 ∨ a1 = 1 by omega) with h0 | h0 <;> rw [h0] <;> decide
        refine r_ald (q := 7 + 13 * a1.toNat) hcd rfl rfl (Nat.le_of_ble_eq_true rfl) h4 (by rcases (show a1 = 0 ∨ a1 = 1 by omega) with h0 | h0 <;> rw [h0] <;> rfl) ?_
        refine e_nx hcd rfl rfl ?_
        refine r_cv hcd rfl (by omega) rfl rfl rfl (Nat.le_of_ble_eq_true rfl) ?_
        refine Cl.mono H (fun v τ2 hq => ?_)
        obtain ⟨rfl, H⟩ := hq
        show Ev X 135 22 _ [] τ2 Q
        iterate 2 (refine e_nx hcd rfl rfl ?_)
        show Ev X 135 24 [some (vR (some 0)), some (vI a1), some (vI a2), some (vI a3), some (vI a4), some (vI 0)] [] _ Q
        refine e_fg [1, 2] ?_
        exact H
      · replace H := H.2 hc
        refine e_nx hcd rfl rfl ?_
        exact r_iret hcd rfl rfl rfl H
theorem v_135_24 {X : PX} {σ : Sg} {Q : Option PV → Sg → Prop} {x3 : Int} {x4 : Int} {x5 : Int}  (H : InR x5 ∧ InR x3 ∧ (x3 ≤ x5 → CI X 40 [vR (some 146), vI x4] σ (fun r3 τ1 => Q (some (vI r3)) τ1)) ∧ (¬ x3 ≤ x5 → CV X 70 [vR (some 160)] σ (fun τ2 => Ev X 135 24 [some (vR (some 0)), none, none, some (vI x3), some (vI x4), some (vI (x5 + 1))] [] τ2 Q))) : Ev X 135 24 [some (vR (some 0)), none, none, some (vI x3), some (vI x4), some (vI x5)] [] σ Q := by
  have hcd : cds 135 = cd_135 := rfl
  iterate 2 (refine e_nx hcd rfl rfl ?_)
  obtain ⟨h1, H⟩ := H
  obtain ⟨h2, H⟩ := H
  refine r_icmp hcd rfl h1 h2 (fun hc => ?_) (fun hc => ?_)
  · replace H := H.1 hc
    refine e_nx hcd rfl rfl ?_
    refine r_getR hcd rfl rfl rfl ?_
    refine e_nx hcd rfl rfl ?_
    refine r_cv hcd rfl (by omega) rfl rfl rfl (Nat.le_of_ble_eq_true rfl) ?_
    refine Cl.mono H (fun v τ1 hq => ?_)
    obtain ⟨r3, rfl, H⟩ := hq
    show Ev X 135 36 _ [vI r3] τ1 Q
    exact r_iret hcd rfl rfl rfl H
  · replace H := H.2 hc
    refine e_nx hcd rfl rfl ?_
    refine r_getR hcd rfl rfl rfl ?_
    refine r_cv hcd rfl (by omega) rfl rfl rfl (Nat.le_of_ble_eq_true rfl) ?_
    refine Cl.mono H (fun v τ2 hq => ?_)
    obtain ⟨rfl, H⟩ := hq
    show Ev X 135 30 _ [] τ2 Q
    refine e_nx hcd rfl rfl ?_
    show Ev X 135 31 [some (vR (some 0)), none, none, some (vI x3), some (vI x4), some (vI (x5 + 1))] [] _ Q
    refine e_nx hcd rfl rfl ?_
    exact H
/-! X11_rush -/
set_option maxRecDepth 20000 in
set_option maxHeartbeats 8000000 in
theorem v_136 {X : PX} {σ : Sg} {Q : Option PV → Sg → Prop} {a1 : Int} {a2 : Int} {a3 : Int}  (H : CI X 114 [vR (some 1), vI 0, vI a1] σ (fun r1 τ1 => InR r1 ∧ (r1 = 0 → Q (some (vI (-1))) τ1) ∧ (¬ r1 = 0 → InR a2 ∧ (a2 < 1 → Q (some (vI (-1))) τ1) ∧ (¬ a2 < 1 → (a2 ≤ 9 → (0 ≤ a1 ∧ a1 < 2) ∧ CV X 18 [vR (some 157), vR (some (7 + 13 * a1.toNat)), vI (τ1.1 (7 + 13 * a1.toNat) 1), vI a2] τ1 (fun τ2 => InR a3 ∧ (a3 = 0 → Q (some (vI (τ2.1 147 3))) τ2) ∧ (a3 = 1 → Q (some (vI (τ2.1 157 2))) τ2) ∧ (a3 = 2 → Q (some (vI (τ2.1 157 3))) τ2) ∧ (a3 ≠ 0 ∧ a3 ≠ 1 ∧ a3 ≠ 2 → (a3 < 20 → (a3 < 10 → Q (some (vI (-1))) τ2) ∧ (¬ a3 < 10 → CI X 21 [vR (some 157), vI (a3 - 10)] τ2 (fun r7 τ3 => Q (some (vI r7)) τ3))) ∧ (¬ a3 < 20 → CI X 82 [vR (some (7 + 13 * a1.toNat)), vI (a3 - 20)] τ2 (fun r8 τ4 => InR r8 ∧ (r8 = 0 → Q (some (vI (-1))) τ4) ∧ (¬ r8 = 0 → CI X 54 [vR (some 154), vI (a3 - 20)] τ4 (fun r10 τ5 => Q (some (vI r10)) τ5))))))) ∧ (¬ a2 ≤ 9 → Q (some (vI (-1))) τ1))))) : Cl X 136 [vR (some 0), vI a1, vI a2, vI a3] σ Q := by
  have hcd : cds 136 = cd_136 := rfl
  refine c_in (Nat.le_of_ble_eq_true rfl) rfl rfl ?_
  show Ev X 136 0 [some (vR (some 0)), some (vI a1), some (vI a2), some (vI a3), none] [] σ Q
  refine e_nx hcd rfl rfl ?_
  refine r_getR hcd rfl rfl rfl ?_
  iterate 2 (refine e_nx hcd rfl rfl ?_)
  refine r_cv hcd rfl (by omega) rfl rfl rfl (Nat.le_of_ble_eq_true rfl) ?_
  refine Cl.mono H (fun v τ1 hq => ?_)
  obtain ⟨r1, rfl, H⟩ := hq
  show Ev X 136 5 _ [vI r1] τ1 Q
  obtain ⟨h2, H⟩ := H
  refine r_if hcd rfl h2 (fun hc => ?_) (fun hc => ?_)
  · replace H := H.1 hc
    refine e_nx hcd rfl rfl ?_
    exact r_iret hcd rfl rfl rfl H
  · replace H := H.2 hc
    iterate 2 (refine e_nx hcd rfl rfl ?_)
    obtain ⟨h3, H⟩ := H
    refine r_icmp hcd rfl h3 (by omega) (fun hc => ?_) (fun hc => ?_)
    · replace H := H.1 hc
      refine e_nx hcd rfl rfl ?_
      exact r_iret hcd rfl rfl rfl H
    · replace H := H.2 hc
      iterate 2 (refine e_nx hcd rfl rfl ?_)
      refine r_icmp hcd rfl h3 (by omega) (fun hc => ?_) (fun hc => ?_)
      · replace H := H.1 hc
        refine e_nx hcd rfl rfl ?_
        refine r_getR hcd rfl rfl rfl ?_
        refine r_getR hcd rfl rfl rfl ?_
        refine e_nx hcd rfl rfl ?_
        obtain ⟨h4, H⟩ := H
        have hm5 : 7 + 13 * a1.toNat ∈ parL := by rcases (show a1 = 0 ∨ a1 = 1 by omega) with h0 | h0 <;> rw [h0] <;> decide
        refine r_ald (q := 7 + 13 * a1.toNat) hcd rfl rfl (Nat.le_of_ble_eq_true rfl) h4 (by rcases (show a1 = 0 ∨ a1 = 1 by omega) with h0 | h0 <;> rw [h0] <;> rfl) ?_
        refine e_nx hcd rfl rfl ?_
        show Ev X 136 20 [some (vR (some 0)), some (vI a1), some (vI a2), some (vI a3), some (vR (some (7 + 13 * a1.toNat)))] [] _ Q
        refine e_nx hcd rfl rfl ?_
        refine r_getR hcd rfl rfl rfl ?_
        iterate 2 (refine e_nx hcd rfl rfl ?_)
        refine r_getI hcd rfl ((parS hm5).1) rfl ?_
        refine e_nx hcd rfl rfl ?_
        refine r_cv hcd rfl (by omega) rfl rfl rfl (Nat.le_of_ble_eq_true rfl) ?_
        refine Cl.mono H (fun v τ2 hq => ?_)
        obtain ⟨rfl, H⟩ := hq
        show Ev X 136 27 _ [] τ2 Q
        refine e_nx hcd rfl rfl ?_
        obtain ⟨h6, H⟩ := H
        refine r_tab hcd rfl h6 ?_
        by_cases hs11 : a3 = 0
        · replace H := H.1 hs11
          refine e_pc (i2 := 29) (by rw [hs11]; rfl) ?_
          refine e_nx hcd rfl rfl ?_
          refine r_getR hcd rfl rfl rfl ?_
          refine r_getR hcd rfl rfl rfl ?_
          refine r_getI hcd rfl rfl rfl ?_
          exact r_iret hcd rfl rfl rfl H
        by_cases hs12 : a3 = 1
        · replace H := H.2.1 hs12
          refine e_pc (i2 := 34) (by rw [hs12]; rfl) ?_
          refine e_nx hcd rfl rfl ?_
          refine r_getR hcd rfl rfl rfl ?_
          refine r_getI hcd rfl rfl rfl ?_
          exact r_iret hcd rfl rfl rfl H
        by_cases hs13 : a3 = 2
        · replace H := H.2.2.1 hs13
          refine e_pc (i2 := 38) (by rw [hs13]; rfl) ?_
          refine e_nx hcd rfl rfl ?_
          refine r_getR hcd rfl rfl rfl ?_
          refine r_getI hcd rfl rfl rfl ?_
          exact r_iret hcd rfl rfl rfl H
        replace H := H.2.2.2 ⟨hs11, hs12, hs13⟩
        refine e_pc (i2 := 42) (tab_def (lo := 0) (hi := 2) (fun h1 h2 => ?_)) ?_
        · omega
        · refine e_nx hcd rfl rfl ?_
          refine e_nx hcd rfl rfl ?_
          refine r_icmp hcd rfl h6 (by omega) (fun hc => ?_) (fun hc => ?_)
          · replace H := H.1 hc
            iterate 2 (refine e_nx hcd rfl rfl ?_)
            refine r_icmp hcd rfl h6 (by omega) (fun hc => ?_) (fun hc => ?_)
            · replace H := H.1 hc
              refine e_nx hcd rfl rfl ?_
              exact r_iret hcd rfl rfl rfl H
            · replace H := H.2 hc
              refine e_nx hcd rfl rfl ?_
              refine r_getR hcd rfl rfl rfl ?_
              iterate 3 (refine e_nx hcd rfl rfl ?_)
              refine r_cv hcd rfl (by omega) rfl rfl rfl (Nat.le_of_ble_eq_true rfl) ?_
              refine Cl.mono H (fun v τ3 hq => ?_)
              obtain ⟨r7, rfl, H⟩ := hq
              show Ev X 136 70 _ [vI r7] τ3 Q
              refine e_nx hcd rfl rfl ?_
              exact r_iret hcd rfl rfl rfl H
          · replace H := H.2 hc
            iterate 4 (refine e_nx hcd rfl rfl ?_)
            refine r_cv hcd rfl (by omega) ((parS hm5).1) rfl rfl (Nat.le_of_ble_eq_true rfl) ?_
            refine Cl.mono H (fun v τ4 hq => ?_)
            obtain ⟨r8, rfl, H⟩ := hq
            show Ev X 136 50 _ [vI r8] τ4 Q
            obtain ⟨h9, H⟩ := H
            refine r_if hcd rfl h9 (fun hc => ?_) (fun hc => ?_)
            · replace H := H.1 hc
              refine e_nx hcd rfl rfl ?_
              exact r_iret hcd rfl rfl rfl H
            · replace H := H.2 hc
              refine e_nx hcd rfl rfl ?_
              refine r_getR hcd rfl rfl rfl ?_
              refine r_getR hcd rfl rfl rfl ?_
              iterate 3 (refine e_nx hcd rfl rfl ?_)
              refine r_cv hcd rfl (by omega) rfl rfl rfl (Nat.le_of_ble_eq_true rfl) ?_
              refine Cl.mono H (fun v τ5 hq => ?_)
              obtain ⟨r10, rfl, H⟩ := hq
              show Ev X 136 58 _ [vI r10] τ5 Q
              refine e_nx hcd rfl rfl ?_
              exact r_iret hcd rfl rfl rfl H
      · replace H := H.2 hc
        refine e_nx hcd rfl rfl ?_
        exact r_iret hcd rfl rfl rfl H
/-! X11_sale -/
set_option maxRecDepth 20000 in
set_option maxHeartbeats 8000000 in
theorem v_137 {X : PX} {σ : Sg} {Q : Option PV → Sg → Prop} {a1 : Int} {a2 : Int} {a3 : Int}  (H : CI X 114 [vR (some 1), vI 0, vI a1] σ (fun r1 τ1 => InR r1 ∧ (r1 = 0 → Q (some (vI (-1))) τ1) ∧ (¬ r1 = 0 → InR a2 ∧ (a2 < 1 → Q (some (vI (-1))) τ1) ∧ (¬ a2 < 1 → (9 < a2 → Q (some (vI (-1))) τ1) ∧ (¬ 9 < a2 → InR a3 ∧ (a3 < 0 → Q (some (vI (-1))) τ1) ∧ (¬ a3 < 0 → (a3 ≤ 2 → (0 ≤ a1 ∧ a1 < 2) ∧ CV X 22 [vR (some 157), vR (some (7 + 13 * a1.toNat)), vI a2] τ1 (fun τ2 => (a3 ≠ 0 → (a3 ≠ 1 → Q (some (vI (τ2.1 157 6))) τ2) ∧ (¬ a3 ≠ 1 → Q (some (vI (τ2.1 157 5))) τ2)) ∧ (¬ a3 ≠ 0 → Q (some (vI (τ2.1 157 4))) τ2))) ∧ (¬ a3 ≤ 2 → Q (some (vI (-1))) τ1))))))) : Cl X 137 [vR (some 0), vI a1, vI a2, vI a3] σ Q := by
  have hcd : cds 137 = cd_137 := rfl
  refine c_in (Nat.le_of_ble_eq_true rfl) rfl rfl ?_
  show Ev X 137 0 [some (vR (some 0)), some (vI a1), some (vI a2), some (vI a3)] [] σ Q
  refine e_nx hcd rfl rfl ?_
  refine r_getR hcd rfl rfl rfl ?_
  iterate 2 (refine e_nx hcd rfl rfl ?_)
  refine r_cv hcd rfl (by omega) rfl rfl rfl (Nat.le_of_ble_eq_true rfl) ?_
  refine Cl.mono H (fun v τ1 hq => ?_)
  obtain ⟨r1, rfl, H⟩ := hq
  show Ev X 137 5 _ [vI r1] τ1 Q
  obtain ⟨h2, H⟩ := H
  refine r_if hcd rfl h2 (fun hc => ?_) (fun hc => ?_)
  · replace H := H.1 hc
    refine e_nx hcd rfl rfl ?_
    exact r_iret hcd rfl rfl rfl H
  · replace H := H.2 hc
    iterate 2 (refine e_nx hcd rfl rfl ?_)
    obtain ⟨h3, H⟩ := H
    refine r_icmp hcd rfl h3 (by omega) (fun hc => ?_) (fun hc => ?_)
    · replace H := H.1 hc
      refine e_nx hcd rfl rfl ?_
      exact r_iret hcd rfl rfl rfl H
    · replace H := H.2 hc
      iterate 2 (refine e_nx hcd rfl rfl ?_)
      refine r_icmp hcd rfl h3 (by omega) (fun hc => ?_) (fun hc => ?_)
      · replace H := H.1 hc
        refine e_nx hcd rfl rfl ?_
        exact r_iret hcd rfl rfl rfl H
      · replace H := H.2 hc
        refine e_nx hcd rfl rfl ?_
        obtain ⟨h4, H⟩ := H
        refine r_if hcd rfl h4 (fun hc => ?_) (fun hc => ?_)
        · replace H := H.1 hc
          refine e_nx hcd rfl rfl ?_
          exact r_iret hcd rfl rfl rfl H
        · replace H := H.2 hc
          iterate 2 (refine e_nx hcd rfl rfl ?_)
          refine r_icmp hcd rfl h4 (by omega) (fun hc => ?_) (fun hc => ?_)
          · replace H := H.1 hc
            refine e_nx hcd rfl rfl ?_
            refine r_getR hcd rfl rfl rfl ?_
            refine e_nx hcd rfl rfl ?_
            refine r_getR hcd rfl rfl rfl ?_
            refine r_getR hcd rfl rfl rfl ?_
            refine e_nx hcd rfl rfl ?_
            obtain ⟨h5, H⟩ := H
            have hm6 : 7 + 13 * a1.toNat ∈ parL := by rcases (show a1 = 0 ∨ a1 = 1 by omega) with h0 | h0 <;> rw [h0] <;> decide
            refine r_ald (q := 7 + 13 * a1.toNat) hcd rfl rfl (Nat.le_of_ble_eq_true rfl) h5 (by rcases (show a1 = 0 ∨ a1 = 1 by omega) with h0 | h0 <;> rw [h0] <;> rfl) ?_
            refine e_nx hcd rfl rfl ?_
            refine r_cv hcd rfl (by omega) rfl rfl rfl (Nat.le_of_ble_eq_true rfl) ?_
            refine Cl.mono H (fun v τ2 hq => ?_)
            obtain ⟨rfl, H⟩ := hq
            show Ev X 137 28 _ [] τ2 Q
            refine e_nx hcd rfl rfl ?_
            refine r_if hcd rfl h4 (fun hc => ?_) (fun hc => ?_)
            · replace H := H.1 hc
              iterate 2 (refine e_nx hcd rfl rfl ?_)
              refine r_icmp hcd rfl h4 (by omega) (fun hc => ?_) (fun hc => ?_)
              · replace H := H.1 hc
                refine e_nx hcd rfl rfl ?_
                refine r_getR hcd rfl rfl rfl ?_
                refine r_getI hcd rfl rfl rfl ?_
                exact r_iret hcd rfl rfl rfl H
              · replace H := H.2 hc
                refine e_nx hcd rfl rfl ?_
                refine r_getR hcd rfl rfl rfl ?_
                refine r_getI hcd rfl rfl rfl ?_
                refine e_nx hcd rfl rfl ?_
                exact r_iret hcd rfl rfl rfl H
            · replace H := H.2 hc
              refine e_nx hcd rfl rfl ?_
              refine r_getR hcd rfl rfl rfl ?_
              refine r_getI hcd rfl rfl rfl ?_
              exact r_iret hcd rfl rfl rfl H
          · replace H := H.2 hc
            refine e_nx hcd rfl rfl ?_
            exact r_iret hcd rfl rfl rfl H
/-! X11_strife -/
set_option maxRecDepth 20000 in
set_option maxHeartbeats 8000000 in
theorem v_138 {X : PX} {σ : Sg} {Q : Option PV → Sg → Prop} {a1 : Int} {a2 : Int} {a3 : Int} {a4 : Int} {a5 : Int}  (H : CI X 114 [vR (some 1), vI 0, vI a1] σ (fun r1 τ1 => InR r1 ∧ (r1 = 0 → Q (some (vI (-999))) τ1) ∧ (¬ r1 = 0 → InR a4 ∧ (a4 < 0 → Q (some (vI (-999))) τ1) ∧ (¬ a4 < 0 → (6 < a4 → Q (some (vI (-999))) τ1) ∧ (¬ 6 < a4 → InR a2 ∧ InR a3 ∧ (a2 ≠ a3 → (0 ≤ a1 ∧ a1 < 2) ∧ CI X 82 [vR (some (7 + 13 * a1.toNat)), vI a2] τ1 (fun r8 τ2 => InR r8 ∧ (r8 = 0 → Q (some (vI (-999))) τ2) ∧ (¬ r8 = 0 → CI X 82 [vR (some (7 + 13 * a1.toNat)), vI a3] τ2 (fun r10 τ3 => InR r10 ∧ (r10 ≠ 0 → InR a5 ∧ (a5 ≠ 0 → (a4 ≠ 0 → CI X 24 [vR (some 157), vR (some (7 + 13 * a1.toNat)), vI a2, vI a3, vI a4] τ3 (fun r13 τ4 => Q (some (vI r13)) τ4)) ∧ (¬ a4 ≠ 0 → Q (some (vI (-1))) τ3)) ∧ (¬ a5 ≠ 0 → CI X 23 [vR (some 157), vR (some (7 + 13 * a1.toNat)), vI a2, vI a3, vI a4] τ3 (fun r14 τ5 => Q (some (vI r14)) τ5))) ∧ (¬ r10 ≠ 0 → Q (some (vI (-999))) τ3))))) ∧ (¬ a2 ≠ a3 → Q (some (vI (-999))) τ1)))))) : Cl X 138 [vR (some 0), vI a1, vI a2, vI a3, vI a4, vI a5] σ Q := by
  have hcd : cds 138 = cd_138 := rfl
  refine c_in (Nat.le_of_ble_eq_true rfl) rfl rfl ?_
  show Ev X 138 0 [some (vR (some 0)), some (vI a1), some (vI a2), some (vI a3), some (vI a4), some (vI a5), none] [] σ Q
  refine e_nx hcd rfl rfl ?_
  refine r_getR hcd rfl rfl rfl ?_
  iterate 2 (refine e_nx hcd rfl rfl ?_)
  refine r_cv hcd rfl (by omega) rfl rfl rfl (Nat.le_of_ble_eq_true rfl) ?_
  refine Cl.mono H (fun v τ1 hq => ?_)
  obtain ⟨r1, rfl, H⟩ := hq
  show Ev X 138 5 _ [vI r1] τ1 Q
  obtain ⟨h2, H⟩ := H
  refine r_if hcd rfl h2 (fun hc => ?_) (fun hc => ?_)
  · replace H := H.1 hc
    refine e_nx hcd rfl rfl ?_
    exact r_iret hcd rfl rfl rfl H
  · replace H := H.2 hc
    refine e_nx hcd rfl rfl ?_
    obtain ⟨h3, H⟩ := H
    refine r_if hcd rfl h3 (fun hc => ?_) (fun hc => ?_)
    · replace H := H.1 hc
      refine e_nx hcd rfl rfl ?_
      exact r_iret hcd rfl rfl rfl H
    · replace H := H.2 hc
      iterate 2 (refine e_nx hcd rfl rfl ?_)
      refine r_icmp hcd rfl h3 (by omega) (fun hc => ?_) (fun hc => ?_)
      · replace H := H.1 hc
        refine e_nx hcd rfl rfl ?_
        exact r_iret hcd rfl rfl rfl H
      · replace H := H.2 hc
        iterate 2 (refine e_nx hcd rfl rfl ?_)
        obtain ⟨h4, H⟩ := H
        obtain ⟨h5, H⟩ := H
        refine r_icmp hcd rfl h4 h5 (fun hc => ?_) (fun hc => ?_)
        · replace H := H.1 hc
          refine e_nx hcd rfl rfl ?_
          refine r_getR hcd rfl rfl rfl ?_
          refine r_getR hcd rfl rfl rfl ?_
          refine e_nx hcd rfl rfl ?_
          obtain ⟨h6, H⟩ := H
          have hm7 : 7 + 13 * a1.toNat ∈ parL := by rcases (show a1 = 0 ∨ a1 = 1 by omega) with h0 | h0 <;> rw [h0] <;> decide
          refine r_ald (q := 7 + 13 * a1.toNat) hcd rfl rfl (Nat.le_of_ble_eq_true rfl) h6 (by rcases (show a1 = 0 ∨ a1 = 1 by omega) with h0 | h0 <;> rw [h0] <;> rfl) ?_
          refine e_nx hcd rfl rfl ?_
          show Ev X 138 22 [some (vR (some 0)), some (vI a1), some (vI a2), some (vI a3), some (vI a4), some (vI a5), some (vR (some (7 + 13 * a1.toNat)))] [] _ Q
          iterate 2 (refine e_nx hcd rfl rfl ?_)
          refine r_cv hcd rfl (by omega) ((parS hm7).1) rfl rfl (Nat.le_of_ble_eq_true rfl) ?_
          refine Cl.mono H (fun v τ2 hq => ?_)
          obtain ⟨r8, rfl, H⟩ := hq
          show Ev X 138 25 _ [vI r8] τ2 Q
          obtain ⟨h9, H⟩ := H
          refine r_if hcd rfl h9 (fun hc => ?_) (fun hc => ?_)
          · replace H := H.1 hc
            refine e_nx hcd rfl rfl ?_
            exact r_iret hcd rfl rfl rfl H
          · replace H := H.2 hc
            iterate 2 (refine e_nx hcd rfl rfl ?_)
            refine r_cv hcd rfl (by omega) ((parS hm7).1) rfl rfl (Nat.le_of_ble_eq_true rfl) ?_
            refine Cl.mono H (fun v τ3 hq => ?_)
            obtain ⟨r10, rfl, H⟩ := hq
            show Ev X 138 29 _ [vI r10] τ3 Q
            obtain ⟨h11, H⟩ := H
            refine r_if hcd rfl h11 (fun hc => ?_) (fun hc => ?_)
            · replace H := H.1 hc
              refine e_nx hcd rfl rfl ?_
              obtain ⟨h12, H⟩ := H
              refine r_if hcd rfl h12 (fun hc => ?_) (fun hc => ?_)
              · replace H := H.1 hc
                refine e_nx hcd rfl rfl ?_
                refine r_if hcd rfl h3 (fun hc => ?_) (fun hc => ?_)
                · replace H := H.1 hc
                  refine e_nx hcd rfl rfl ?_
                  refine r_getR hcd rfl rfl rfl ?_
                  iterate 4 (refine e_nx hcd rfl rfl ?_)
                  refine r_cv hcd rfl (by omega) rfl rfl rfl (Nat.le_of_ble_eq_true rfl) ?_
                  refine Cl.mono H (fun v τ4 hq => ?_)
                  obtain ⟨r13, rfl, H⟩ := hq
                  show Ev X 138 53 _ [vI r13] τ4 Q
                  exact r_iret hcd rfl rfl rfl H
                · replace H := H.2 hc
                  iterate 2 (refine e_nx hcd rfl rfl ?_)
                  exact r_iret hcd rfl rfl rfl H
              · replace H := H.2 hc
                refine e_nx hcd rfl rfl ?_
                refine r_getR hcd rfl rfl rfl ?_
                iterate 4 (refine e_nx hcd rfl rfl ?_)
                refine r_cv hcd rfl (by omega) rfl rfl rfl (Nat.le_of_ble_eq_true rfl) ?_
                refine Cl.mono H (fun v τ5 hq => ?_)
                obtain ⟨r14, rfl, H⟩ := hq
                show Ev X 138 41 _ [vI r14] τ5 Q
                exact r_iret hcd rfl rfl rfl H
            · replace H := H.2 hc
              refine e_nx hcd rfl rfl ?_
              exact r_iret hcd rfl rfl rfl H
        · replace H := H.2 hc
          refine e_nx hcd rfl rfl ?_
          exact r_iret hcd rfl rfl rfl H
/-! X11_seeds -/
set_option maxRecDepth 20000 in
set_option maxHeartbeats 8000000 in
theorem v_139 {X : PX} {σ : Sg} {Q : Option PV → Sg → Prop} {a1 : Int} {a2 : Int}  (H : CI X 114 [vR (some 1), vI 0, vI a1] σ (fun r1 τ1 => InR r1 ∧ (r1 ≠ 0 → (0 ≤ a1 ∧ a1 < 2) ∧ CI X 4 [vR (some (7 + 13 * a1.toNat))] τ1 (fun r5 τ2 => InR a2 ∧ (a2 = 0 → CI X 283 [vI r5] τ2 (fun r7 τ3 => Q (some (vI r7)) τ3)) ∧ (¬ a2 = 0 → Q (some (vI r5)) τ2))) ∧ (¬ r1 ≠ 0 → Q (some (vI (-1))) τ1))) : Cl X 139 [vR (some 0), vI a1, vI a2] σ Q := by
  have hcd : cds 139 = cd_139 := rfl
  refine c_in (Nat.le_of_ble_eq_true rfl) rfl rfl ?_
  show Ev X 139 0 [some (vR (some 0)), some (vI a1), some (vI a2), none] [] σ Q
  refine e_nx hcd rfl rfl ?_
  refine r_getR hcd rfl rfl rfl ?_
  iterate 2 (refine e_nx hcd rfl rfl ?_)
  refine r_cv hcd rfl (by omega) rfl rfl rfl (Nat.le_of_ble_eq_true rfl) ?_
  refine Cl.mono H (fun v τ1 hq => ?_)
  obtain ⟨r1, rfl, H⟩ := hq
  show Ev X 139 5 _ [vI r1] τ1 Q
  obtain ⟨h2, H⟩ := H
  refine r_if hcd rfl h2 (fun hc => ?_) (fun hc => ?_)
  · replace H := H.1 hc
    refine e_nx hcd rfl rfl ?_
    refine r_getR hcd rfl rfl rfl ?_
    refine r_getR hcd rfl rfl rfl ?_
    refine e_nx hcd rfl rfl ?_
    obtain ⟨h3, H⟩ := H
    have hm4 : 7 + 13 * a1.toNat ∈ parL := by rcases (show a1 = 0 ∨ a1 = 1 by omega) with h0 | h0 <;> rw [h0] <;> decide
    refine r_ald (q := 7 + 13 * a1.toNat) hcd rfl rfl (Nat.le_of_ble_eq_true rfl) h3 (by rcases (show a1 = 0 ∨ a1 = 1 by omega) with h0 | h0 <;> rw [h0] <;> rfl) ?_
    refine r_cs hcd rfl (by omega) (Nat.le_of_ble_eq_true rfl) rfl rfl (Nat.le_of_ble_eq_true rfl) ?_
    refine Cl.mono H (fun v τ2 hq => ?_)
    obtain ⟨r5, rfl, H⟩ := hq
    show Ev X 139 14 _ [vI r5] τ2 Q
    refine e_nx hcd rfl rfl ?_
    show Ev X 139 15 [some (vR (some 0)), some (vI a1), some (vI a2), some (vI r5)] [] _ Q
    refine e_nx hcd rfl rfl ?_
    obtain ⟨h6, H⟩ := H
    refine r_if hcd rfl h6 (fun hc => ?_) (fun hc => ?_)
    · replace H := H.1 hc
      refine e_nx hcd rfl rfl ?_
      refine r_cs hcd rfl (by omega) (Nat.le_of_ble_eq_true rfl) rfl rfl (Nat.le_of_ble_eq_true rfl) ?_
      refine Cl.mono H (fun v τ3 hq => ?_)
      obtain ⟨r7, rfl, H⟩ := hq
      show Ev X 139 21 _ [vI r7] τ3 Q
      exact r_iret hcd rfl rfl rfl H
    · replace H := H.2 hc
      iterate 2 (refine e_nx hcd rfl rfl ?_)
      exact r_iret hcd rfl rfl rfl H
  · replace H := H.2 hc
    refine e_nx hcd rfl rfl ?_
    exact r_iret hcd rfl rfl rfl H
/-! X11_cuts -/
set_option maxRecDepth 20000 in
set_option maxHeartbeats 8000000 in
theorem v_140 {X : PX} {σ : Sg} {Q : Option PV → Sg → Prop} {a1 : Int} {a2 : Int} {a3 : Int}  (H : CI X 115 [vR (some 1), vI a1, vI a2] σ (fun r1 τ1 => InR r1 ∧ (r1 ≠ 0 → (0 ≤ a1 ∧ a1 < 2) ∧ InR (iAnd (τ1.1 (7 + 13 * a1.toNat) 3) (iShl 1 a2)) ∧ (iAnd (τ1.1 (7 + 13 * a1.toNat) 3) (iShl 1 a2) ≠ 0 → Q (some (vI (-1))) τ1) ∧ (¬ iAnd (τ1.1 (7 + 13 * a1.toNat) 3) (iShl 1 a2) ≠ 0 → CI X 86 [vR (some (7 + 13 * a1.toNat)), vI (τ1.1 (7 + 13 * a1.toNat) 3), vI 0] τ1 (fun r6 τ2 => InR (iAnd r6 (iShl 1 a2)) ∧ (iAnd r6 (iShl 1 a2) ≠ 0 → CI X 5 [vR (some (7 + 13 * a1.toNat)), vI (iShl 1 a2)] τ2 (fun r8 τ3 => InR a3 ∧ (a3 = 0 → CI X 283 [vI r8] τ3 (fun r10 τ4 => Q (some (vI r10)) τ4)) ∧ (¬ a3 = 0 → Q (some (vI r8)) τ3))) ∧ (¬ iAnd r6 (iShl 1 a2) ≠ 0 → Q (some (vI (-1))) τ2)))) ∧ (¬ r1 ≠ 0 → Q (some (vI (-1))) τ1))) : Cl X 140 [vR (some 0), vI a1, vI a2, vI a3] σ Q := by
  have hcd : cds 140 = cd_140 := rfl
  refine c_in (Nat.le_of_ble_eq_true rfl) rfl rfl ?_
  show Ev X 140 0 [some (vR (some 0)), some (vI a1), some (vI a2), some (vI a3), none, none, none] [] σ Q
  refine e_nx hcd rfl rfl ?_
  refine r_getR hcd rfl rfl rfl ?_
  iterate 2 (refine e_nx hcd rfl rfl ?_)
  refine r_cv hcd rfl (by omega) rfl rfl rfl (Nat.le_of_ble_eq_true rfl) ?_
  refine Cl.mono H (fun v τ1 hq => ?_)
  obtain ⟨r1, rfl, H⟩ := hq
  show Ev X 140 5 _ [vI r1] τ1 Q
  obtain ⟨h2, H⟩ := H
  refine r_if hcd rfl h2 (fun hc => ?_) (fun hc => ?_)
  · replace H := H.1 hc
    refine e_nx hcd rfl rfl ?_
    refine r_getR hcd rfl rfl rfl ?_
    refine r_getR hcd rfl rfl rfl ?_
    refine e_nx hcd rfl rfl ?_
    obtain ⟨h3, H⟩ := H
    have hm4 : 7 + 13 * a1.toNat ∈ parL := by rcases (show a1 = 0 ∨ a1 = 1 by omega) with h0 | h0 <;> rw [h0] <;> decide
    refine r_ald (q := 7 + 13 * a1.toNat) hcd rfl rfl (Nat.le_of_ble_eq_true rfl) h3 (by rcases (show a1 = 0 ∨ a1 = 1 by omega) with h0 | h0 <;> rw [h0] <;> rfl) ?_
    refine e_nx hcd rfl rfl ?_
    show Ev X 140 14 [some (vR (some 0)), some (vI a1), some (vI a2), some (vI a3), some (vR (some (7 + 13 * a1.toNat))), none, none] [] _ Q
    iterate 4 (refine e_nx hcd rfl rfl ?_)
    show Ev X 140 18 [some (vR (some 0)), some (vI a1), some (vI a2), some (vI a3), some (vR (some (7 + 13 * a1.toNat))), some (vI (iShl 1 a2)), none] [] _ Q
    refine e_nx hcd rfl rfl ?_
    refine r_getI hcd rfl ((parS hm4).1) rfl ?_
    iterate 2 (refine e_nx hcd rfl rfl ?_)
    obtain ⟨h5, H⟩ := H
    refine r_if hcd rfl h5 (fun hc => ?_) (fun hc => ?_)
    · replace H := H.1 hc
      refine e_nx hcd rfl rfl ?_
      exact r_iret hcd rfl rfl rfl H
    · replace H := H.2 hc
      iterate 2 (refine e_nx hcd rfl rfl ?_)
      refine r_getI hcd rfl ((parS hm4).1) rfl ?_
      refine e_nx hcd rfl rfl ?_
      refine r_cv hcd rfl (by omega) ((parS hm4).1) rfl rfl (Nat.le_of_ble_eq_true rfl) ?_
      refine Cl.mono H (fun v τ2 hq => ?_)
      obtain ⟨r6, rfl, H⟩ := hq
      show Ev X 140 28 _ [vI r6] τ2 Q
      iterate 2 (refine e_nx hcd rfl rfl ?_)
      obtain ⟨h7, H⟩ := H
      refine r_if hcd rfl h7 (fun hc => ?_) (fun hc => ?_)
      · replace H := H.1 hc
        iterate 2 (refine e_nx hcd rfl rfl ?_)
        refine r_cs hcd rfl (by omega) (Nat.le_of_ble_eq_true rfl) rfl rfl (Nat.le_of_ble_eq_true rfl) ?_
        refine Cl.mono H (fun v τ3 hq => ?_)
        obtain ⟨r8, rfl, H⟩ := hq
        show Ev X 140 36 _ [vI r8] τ3 Q
        refine e_nx hcd rfl rfl ?_
        show Ev X 140 37 [some (vR (some 0)), some (vI a1), some (vI a2), some (vI a3), some (vR (some (7 + 13 * a1.toNat))), some (vI (iShl 1 a2)), some (vI r8)] [] _ Q
        refine e_nx hcd rfl rfl ?_
        obtain ⟨h9, H⟩ := H
        refine r_if hcd rfl h9 (fun hc => ?_) (fun hc => ?_)
        · replace H := H.1 hc
          refine e_nx hcd rfl rfl ?_
          refine r_cs hcd rfl (by omega) (Nat.le_of_ble_eq_true rfl) rfl rfl (Nat.le_of_ble_eq_true rfl) ?_
          refine Cl.mono H (fun v τ4 hq => ?_)
          obtain ⟨r10, rfl, H⟩ := hq
          show Ev X 140 43 _ [vI r10] τ4 Q
          exact r_iret hcd rfl rfl rfl H
        · replace H := H.2 hc
          iterate 2 (refine e_nx hcd rfl rfl ?_)
          exact r_iret hcd rfl rfl rfl H
      · replace H := H.2 hc
        refine e_nx hcd rfl rfl ?_
        exact r_iret hcd rfl rfl rfl H
  · replace H := H.2 hc
    refine e_nx hcd rfl rfl ?_
    exact r_iret hcd rfl rfl rfl H
/-! X11_lot -/
set_option maxRecDepth 20000 in
set_option maxHeartbeats 8000000 in
theorem v_141 {X : PX} {σ : Sg} {Q : Option PV → Sg → Prop} {a1 : Int} {a2 : Int} {a3 : Int} {a4 : Int}  (H : CI X 115 [vR (some 1), vI a1, vI a3] σ (fun r1 τ1 => InR r1 ∧ (r1 ≠ 0 → (0 ≤ a1 ∧ a1 < 2) ∧ InR a2 ∧ (a2 < 0 → Q (some (vI (-1))) τ1) ∧ (¬ a2 < 0 → InR (τ1.1 (7 + 13 * a1.toNat) 2) ∧ (a2 ≤ τ1.1 (7 + 13 * a1.toNat) 2 → CI X 6 [vR (some (7 + 13 * a1.toNat)), vI a2, vI (iShl 1 a3)] τ1 (fun r7 τ2 => CI X 7 [vR (some (7 + 13 * a1.toNat)), vI a2] τ2 (fun r8 τ3 => CI X 158 [vI r7, vI r8, vI a4] τ3 (fun r9 τ4 => Q (some (vI r9)) τ4)))) ∧ (¬ a2 ≤ τ1.1 (7 + 13 * a1.toNat) 2 → Q (some (vI (-1))) τ1))) ∧ (¬ r1 ≠ 0 → Q (some (vI (-1))) τ1))) : Cl X 141 [vR (some 0), vI a1, vI a2, vI a3, vI a4] σ Q := by
  have hcd : cds 141 = cd_141 := rfl
  refine c_in (Nat.le_of_ble_eq_true rfl) rfl rfl ?_
  show Ev X 141 0 [some (vR (some 0)), some (vI a1), some (vI a2), some (vI a3), some (vI a4), none] [] σ Q
  refine e_nx hcd rfl rfl ?_
  refine r_getR hcd rfl rfl rfl ?_
  iterate 2 (refine e_nx hcd rfl rfl ?_)
  refine r_cv hcd rfl (by omega) rfl rfl rfl (Nat.le_of_ble_eq_true rfl) ?_
  refine Cl.mono H (fun v τ1 hq => ?_)
  obtain ⟨r1, rfl, H⟩ := hq
  show Ev X 141 5 _ [vI r1] τ1 Q
  obtain ⟨h2, H⟩ := H
  refine r_if hcd rfl h2 (fun hc => ?_) (fun hc => ?_)
  · replace H := H.1 hc
    refine e_nx hcd rfl rfl ?_
    refine r_getR hcd rfl rfl rfl ?_
    refine r_getR hcd rfl rfl rfl ?_
    refine e_nx hcd rfl rfl ?_
    obtain ⟨h3, H⟩ := H
    have hm4 : 7 + 13 * a1.toNat ∈ parL := by rcases (show a1 = 0 ∨ a1 = 1 by omega) with h0 | h0 <;> rw [h0] <;> decide
    refine r_ald (q := 7 + 13 * a1.toNat) hcd rfl rfl (Nat.le_of_ble_eq_true rfl) h3 (by rcases (show a1 = 0 ∨ a1 = 1 by omega) with h0 | h0 <;> rw [h0] <;> rfl) ?_
    refine e_nx hcd rfl rfl ?_
    show Ev X 141 14 [some (vR (some 0)), some (vI a1), some (vI a2), some (vI a3), some (vI a4), some (vR (some (7 + 13 * a1.toNat)))] [] _ Q
    refine e_nx hcd rfl rfl ?_
    obtain ⟨h5, H⟩ := H
    refine r_if hcd rfl h5 (fun hc => ?_) (fun hc => ?_)
    · replace H := H.1 hc
      refine e_nx hcd rfl rfl ?_
      exact r_iret hcd rfl rfl rfl H
    · replace H := H.2 hc
      iterate 2 (refine e_nx hcd rfl rfl ?_)
      refine r_getI hcd rfl ((parS hm4).1) rfl ?_
      obtain ⟨h6, H⟩ := H
      refine r_icmp hcd rfl h5 h6 (fun hc => ?_) (fun hc => ?_)
      · replace H := H.1 hc
        iterate 5 (refine e_nx hcd rfl rfl ?_)
        refine r_cs hcd rfl (by omega) (Nat.le_of_ble_eq_true rfl) rfl rfl (Nat.le_of_ble_eq_true rfl) ?_
        refine Cl.mono H (fun v τ2 hq => ?_)
        obtain ⟨r7, rfl, H⟩ := hq
        show Ev X 141 28 _ [vI r7] τ2 Q
        iterate 2 (refine e_nx hcd rfl rfl ?_)
        refine r_cs hcd rfl (by omega) (Nat.le_of_ble_eq_true rfl) rfl rfl (Nat.le_of_ble_eq_true rfl) ?_
        refine Cl.mono H (fun v τ3 hq => ?_)
        obtain ⟨r8, rfl, H⟩ := hq
        show Ev X 141 31 _ [vI r8, vI r7] τ3 Q
        refine e_nx hcd rfl rfl ?_
        refine r_cs hcd rfl (by omega) (Nat.le_of_ble_eq_true rfl) rfl rfl (Nat.le_of_ble_eq_true rfl) ?_
        refine Cl.mono H (fun v τ4 hq => ?_)
        obtain ⟨r9, rfl, H⟩ := hq
        show Ev X 141 33 _ [vI r9] τ4 Q
        exact r_iret hcd rfl rfl rfl H
      · replace H := H.2 hc
        refine e_nx hcd rfl rfl ?_
        exact r_iret hcd rfl rfl rfl H
  · replace H := H.2 hc
    refine e_nx hcd rfl rfl ?_
    exact r_iret hcd rfl rfl rfl H
/-! X11_spared -/
set_option maxRecDepth 20000 in
set_option maxHeartbeats 8000000 in
theorem v_142 {X : PX} {σ : Sg} {Q : Option PV → Sg → Prop} {a1 : Int} {a2 : Int} {a3 : Int}  (H : CI X 114 [vR (some 1), vI 0, vI a1] σ (fun r1 τ1 => InR r1 ∧ (r1 ≠ 0 → (0 ≤ a1 ∧ a1 < 2) ∧ InR a2 ∧ (a2 < 0 → Q (some (vI (-1))) τ1) ∧ (¬ a2 < 0 → InR (τ1.1 (7 + 13 * a1.toNat) 2) ∧ (a2 ≤ τ1.1 (7 + 13 * a1.toNat) 2 → CI X 84 [vR (some (7 + 13 * a1.toNat))] τ1 (fun r7 τ2 => CI X 6 [vR (some (7 + 13 * a1.toNat)), vI a2, vI r7] τ2 (fun r8 τ3 => CI X 7 [vR (some (7 + 13 * a1.toNat)), vI a2] τ3 (fun r9 τ4 => CI X 158 [vI r8, vI r9, vI a3] τ4 (fun r10 τ5 => Q (some (vI r10)) τ5))))) ∧ (¬ a2 ≤ τ1.1 (7 + 13 * a1.toNat) 2 → Q (some (vI (-1))) τ1))) ∧ (¬ r1 ≠ 0 → Q (some (vI (-1))) τ1))) : Cl X 142 [vR (some 0), vI a1, vI a2, vI a3] σ Q := by
  have hcd : cds 142 = cd_142 := rfl
  refine c_in (Nat.le_of_ble_eq_true rfl) rfl rfl ?_
  show Ev X 142 0 [some (vR (some 0)), some (vI a1), some (vI a2), some (vI a3), none] [] σ Q
  refine e_nx hcd rfl rfl ?_
  refine r_getR hcd rfl rfl rfl ?_
  iterate 2 (refine e_nx hcd rfl rfl ?_)
  refine r_cv hcd rfl (by omega) rfl rfl rfl (Nat.le_of_ble_eq_true rfl) ?_
  refine Cl.mono H (fun v τ1 hq => ?_)
  obtain ⟨r1, rfl, H⟩ := hq
  show Ev X 142 5 _ [vI r1] τ1 Q
  obtain ⟨h2, H⟩ := H
  refine r_if hcd rfl h2 (fun hc => ?_) (fun hc => ?_)
  · replace H := H.1 hc
    refine e_nx hcd rfl rfl ?_
    refine r_getR hcd rfl rfl rfl ?_
    refine r_getR hcd rfl rfl rfl ?_
    refine e_nx hcd rfl rfl ?_
    obtain ⟨h3, H⟩ := H
    have hm4 : 7 + 13 * a1.toNat ∈ parL := by rcases (show a1 = 0 ∨ a1 = 1 by omega) with h0 | h0 <;> rw [h0] <;> decide
    refine r_ald (q := 7 + 13 * a1.toNat) hcd rfl rfl (Nat.le_of_ble_eq_true rfl) h3 (by rcases (show a1 = 0 ∨ a1 = 1 by omega) with h0 | h0 <;> rw [h0] <;> rfl) ?_
    refine e_nx hcd rfl rfl ?_
    show Ev X 142 14 [some (vR (some 0)), some (vI a1), some (vI a2), some (vI a3), some (vR (some (7 + 13 * a1.toNat)))] [] _ Q
    refine e_nx hcd rfl rfl ?_
    obtain ⟨h5, H⟩ := H
    refine r_if hcd rfl h5 (fun hc => ?_) (fun hc => ?_)
    · replace H := H.1 hc
      refine e_nx hcd rfl rfl ?_
      exact r_iret hcd rfl rfl rfl H
    · replace H := H.2 hc
      iterate 2 (refine e_nx hcd rfl rfl ?_)
      refine r_getI hcd rfl ((parS hm4).1) rfl ?_
      obtain ⟨h6, H⟩ := H
      refine r_icmp hcd rfl h5 h6 (fun hc => ?_) (fun hc => ?_)
      · replace H := H.1 hc
        iterate 3 (refine e_nx hcd rfl rfl ?_)
        refine r_cv hcd rfl (by omega) ((parS hm4).1) rfl rfl (Nat.le_of_ble_eq_true rfl) ?_
        refine Cl.mono H (fun v τ2 hq => ?_)
        obtain ⟨r7, rfl, H⟩ := hq
        show Ev X 142 26 _ [vI r7, vI a2, vR (some (7 + 13 * a1.toNat))] τ2 Q
        refine r_cs hcd rfl (by omega) (Nat.le_of_ble_eq_true rfl) rfl rfl (Nat.le_of_ble_eq_true rfl) ?_
        refine Cl.mono H (fun v τ3 hq => ?_)
        obtain ⟨r8, rfl, H⟩ := hq
        show Ev X 142 27 _ [vI r8] τ3 Q
        iterate 2 (refine e_nx hcd rfl rfl ?_)
        refine r_cs hcd rfl (by omega) (Nat.le_of_ble_eq_true rfl) rfl rfl (Nat.le_of_ble_eq_true rfl) ?_
        refine Cl.mono H (fun v τ4 hq => ?_)
        obtain ⟨r9, rfl, H⟩ := hq
        show Ev X 142 30 _ [vI r9, vI r8] τ4 Q
        refine e_nx hcd rfl rfl ?_
        refine r_cs hcd rfl (by omega) (Nat.le_of_ble_eq_true rfl) rfl rfl (Nat.le_of_ble_eq_true rfl) ?_
        refine Cl.mono H (fun v τ5 hq => ?_)
        obtain ⟨r10, rfl, H⟩ := hq
        show Ev X 142 32 _ [vI r10] τ5 Q
        exact r_iret hcd rfl rfl rfl H
      · replace H := H.2 hc
        refine e_nx hcd rfl rfl ?_
        exact r_iret hcd rfl rfl rfl H
  · replace H := H.2 hc
    refine e_nx hcd rfl rfl ?_
    exact r_iret hcd rfl rfl rfl H
/-! X11_retinue -/
theorem v_143 {X : PX} {σ : Sg} {Q : Option PV → Sg → Prop} {a1 : Int} {a2 : Int}  (H : CI X 115 [vR (some 1), vI a1, vI a2] σ (fun r1 τ1 => InR r1 ∧ (r1 ≠ 0 → (0 ≤ a1 ∧ a1 < 2) ∧ CI X 86 [vR (some (7 + 13 * a1.toNat)), vI (iShl 1 a2), vI 0] τ1 (fun r5 τ2 => Q (some (vI r5)) τ2)) ∧ (¬ r1 ≠ 0 → Q (some (vI (-1))) τ1))) : Cl X 143 [vR (some 0), vI a1, vI a2] σ Q := by
  have hcd : cds 143 = cd_143 := rfl
  refine c_in (Nat.le_of_ble_eq_true rfl) rfl rfl ?_
  show Ev X 143 0 [some (vR (some 0)), some (vI a1), some (vI a2)] [] σ Q
  refine e_nx hcd rfl rfl ?_
  refine r_getR hcd rfl rfl rfl ?_
  iterate 2 (refine e_nx hcd rfl rfl ?_)
  refine r_cv hcd rfl (by omega) rfl rfl rfl (Nat.le_of_ble_eq_true rfl) ?_
  refine Cl.mono H (fun v τ1 hq => ?_)
  obtain ⟨r1, rfl, H⟩ := hq
  show Ev X 143 5 _ [vI r1] τ1 Q
  obtain ⟨h2, H⟩ := H
  refine r_if hcd rfl h2 (fun hc => ?_) (fun hc => ?_)
  · replace H := H.1 hc
    refine e_nx hcd rfl rfl ?_
    refine r_getR hcd rfl rfl rfl ?_
    refine r_getR hcd rfl rfl rfl ?_
    refine e_nx hcd rfl rfl ?_
    obtain ⟨h3, H⟩ := H
    have hm4 : 7 + 13 * a1.toNat ∈ parL := by rcases (show a1 = 0 ∨ a1 = 1 by omega) with h0 | h0 <;> rw [h0] <;> decide
    refine r_ald (q := 7 + 13 * a1.toNat) hcd rfl rfl (Nat.le_of_ble_eq_true rfl) h3 (by rcases (show a1 = 0 ∨ a1 = 1 by omega) with h0 | h0 <;> rw [h0] <;> rfl) ?_
    iterate 4 (refine e_nx hcd rfl rfl ?_)
    refine r_cv hcd rfl (by omega) ((parS hm4).1) rfl rfl (Nat.le_of_ble_eq_true rfl) ?_
    refine Cl.mono H (fun v τ2 hq => ?_)
    obtain ⟨r5, rfl, H⟩ := hq
    show Ev X 143 18 _ [vI r5] τ2 Q
    exact r_iret hcd rfl rfl rfl H
  · replace H := H.2 hc
    refine e_nx hcd rfl rfl ?_
    exact r_iret hcd rfl rfl rfl H
/-! X11_chief -/
set_option maxRecDepth 20000 in
set_option maxHeartbeats 8000000 in
theorem v_144 {X : PX} {σ : Sg} {Q : Option PV → Sg → Prop} {a1 : Int} {a2 : Int}  (H : CI X 114 [vR (some 1), vI 0, vI a1] σ (fun r1 τ1 => InR r1 ∧ (r1 ≠ 0 → (0 ≤ a1 ∧ a1 < 2) ∧ InR a2 ∧ (a2 = 0 → CI X 9 [vR (some (7 + 13 * a1.toNat))] τ1 (fun r6 τ2 => Q (some (vI r6)) τ2)) ∧ (a2 = 1 → CI X 9 [vR (some (7 + 13 * a1.toNat))] τ1 (fun r7 τ3 => CI X 8 [vR (some (7 + 13 * a1.toNat)), vI r7] τ3 (fun r8 τ4 => Q (some (vI r8)) τ4))) ∧ (a2 = 2 → CI X 10 [vR (some (7 + 13 * a1.toNat))] τ1 (fun r9 τ5 => Q (some (vI r9)) τ5)) ∧ (a2 = 3 → CI X 11 [vR (some (7 + 13 * a1.toNat))] τ1 (fun r10 τ6 => Q (some (vI r10)) τ6)) ∧ (a2 = 4 → CI X 12 [vR (some (7 + 13 * a1.toNat))] τ1 (fun r11 τ7 => Q (some (vI r11)) τ7)) ∧ (a2 = 5 → CI X 14 [vR (some (7 + 13 * a1.toNat))] τ1 (fun r12 τ8 => Q (some (vI r12)) τ8)) ∧ (a2 = 6 → CI X 16 [vR (some (7 + 13 * a1.toNat))] τ1 (fun r13 τ9 => Q (some (vI r13)) τ9)) ∧ (a2 ≠ 0 ∧ a2 ≠ 1 ∧ a2 ≠ 2 ∧ a2 ≠ 3 ∧ a2 ≠ 4 ∧ a2 ≠ 5 ∧ a2 ≠ 6 → Q (some (vI (-2))) τ1)) ∧ (¬ r1 ≠ 0 → Q (some (vI (-2))) τ1))) : Cl X 144 [vR (some 0), vI a1, vI a2] σ Q := by
  have hcd : cds 144 = cd_144 := rfl
  refine c_in (Nat.le_of_ble_eq_true rfl) rfl rfl ?_
  show Ev X 144 0 [some (vR (some 0)), some (vI a1), some (vI a2), none] [] σ Q
  refine e_nx hcd rfl rfl ?_
  refine r_getR hcd rfl rfl rfl ?_
  iterate 2 (refine e_nx hcd rfl rfl ?_)
  refine r_cv hcd rfl (by omega) rfl rfl rfl (Nat.le_of_ble_eq_true rfl) ?_
  refine Cl.mono H (fun v τ1 hq => ?_)
  obtain ⟨r1, rfl, H⟩ := hq
  show Ev X 144 5 _ [vI r1] τ1 Q
  obtain ⟨h2, H⟩ := H
  refine r_if hcd rfl h2 (fun hc => ?_) (fun hc => ?_)
  · replace H := H.1 hc
    refine e_nx hcd rfl rfl ?_
    refine r_getR hcd rfl rfl rfl ?_
    refine r_getR hcd rfl rfl rfl ?_
    refine e_nx hcd rfl rfl ?_
    obtain ⟨h3, H⟩ := H
    have hm4 : 7 + 13 * a1.toNat ∈ parL := by rcases (show a1 = 0 ∨ a1 = 1 by omega) with h0 | h0 <;> rw [h0] <;> decide
    refine r_ald (q := 7 + 13 * a1.toNat) hcd rfl rfl (Nat.le_of_ble_eq_true rfl) h3 (by rcases (show a1 = 0 ∨ a1 = 1 by omega) with h0 | h0 <;> rw [h0] <;> rfl) ?_
    refine e_nx hcd rfl rfl ?_
    show Ev X 144 14 [some (vR (some 0)), some (vI a1), some (vI a2), some (vR (some (7 + 13 * a1.toNat)))] [] _ Q
    refine e_nx hcd rfl rfl ?_
    obtain ⟨h5, H⟩ := H
    refine r_tab hcd rfl h5 ?_
    by_cases hs14 : a2 = 0
    · replace H := H.1 hs14
      refine e_pc (i2 := 16) (by rw [hs14]; rfl) ?_
      refine e_nx hcd rfl rfl ?_
      refine r_cs hcd rfl (by omega) (Nat.le_of_ble_eq_true rfl) rfl rfl (Nat.le_of_ble_eq_true rfl) ?_
      refine Cl.mono H (fun v τ2 hq => ?_)
      obtain ⟨r6, rfl, H⟩ := hq
      show Ev X 144 18 _ [vI r6] τ2 Q
      exact r_iret hcd rfl rfl rfl H
    by_cases hs15 : a2 = 1
    · replace H := H.2.1 hs15
      refine e_pc (i2 := 19) (by rw [hs15]; rfl) ?_
      iterate 2 (refine e_nx hcd rfl rfl ?_)
      refine r_cs hcd rfl (by omega) (Nat.le_of_ble_eq_true rfl) rfl rfl (Nat.le_of_ble_eq_true rfl) ?_
      refine Cl.mono H (fun v τ3 hq => ?_)
      obtain ⟨r7, rfl, H⟩ := hq
      show Ev X 144 22 _ [vI r7, vR (some (7 + 13 * a1.toNat))] τ3 Q
      refine r_cs hcd rfl (by omega) (Nat.le_of_ble_eq_true rfl) rfl rfl (Nat.le_of_ble_eq_true rfl) ?_
      refine Cl.mono H (fun v τ4 hq => ?_)
      obtain ⟨r8, rfl, H⟩ := hq
      show Ev X 144 23 _ [vI r8] τ4 Q
      exact r_iret hcd rfl rfl rfl H
    by_cases hs16 : a2 = 2
    · replace H := H.2.2.1 hs16
      refine e_pc (i2 := 24) (by rw [hs16]; rfl) ?_
      refine e_nx hcd rfl rfl ?_
      refine r_cs hcd rfl (by omega) (Nat.le_of_ble_eq_true rfl) rfl rfl (Nat.le_of_ble_eq_true rfl) ?_
      refine Cl.mono H (fun v τ5 hq => ?_)
      obtain ⟨r9, rfl, H⟩ := hq
      show Ev X 144 26 _ [vI r9] τ5 Q
      exact r_iret hcd rfl rfl rfl H
    by_cases hs17 : a2 = 3
    · replace H := H.2.2.2.1 hs17
      refine e_pc (i2 := 27) (by rw [hs17]; rfl) ?_
      refine e_nx hcd rfl rfl ?_
      refine r_cs hcd rfl (by omega) (Nat.le_of_ble_eq_true rfl) rfl rfl (Nat.le_of_ble_eq_true rfl) ?_
      refine Cl.mono H (fun v τ6 hq => ?_)
      obtain ⟨r10, rfl, H⟩ := hq
      show Ev X 144 29 _ [vI r10] τ6 Q
      exact r_iret hcd rfl rfl rfl H
    by_cases hs18 : a2 = 4
    · replace H := H.2.2.2.2.1 hs18
      refine e_pc (i2 := 30) (by rw [hs18]; rfl) ?_
      refine e_nx hcd rfl rfl ?_
      refine r_cs hcd rfl (by omega) (Nat.le_of_ble_eq_true rfl) rfl rfl (Nat.le_of_ble_eq_true rfl) ?_
      refine Cl.mono H (fun v τ7 hq => ?_)
      obtain ⟨r11, rfl, H⟩ := hq
      show Ev X 144 32 _ [vI r11] τ7 Q
      exact r_iret hcd rfl rfl rfl H
    by_cases hs19 : a2 = 5
    · replace H := H.2.2.2.2.2.1 hs19
      refine e_pc (i2 := 33) (by rw [hs19]; rfl) ?_
      refine e_nx hcd rfl rfl ?_
      refine r_cs hcd rfl (by omega) (Nat.le_of_ble_eq_true rfl) rfl rfl (Nat.le_of_ble_eq_true rfl) ?_
      refine Cl.mono H (fun v τ8 hq => ?_)
      obtain ⟨r12, rfl, H⟩ := hq
      show Ev X 144 35 _ [vI r12] τ8 Q
      exact r_iret hcd rfl rfl rfl H
    by_cases hs20 : a2 = 6
    · replace H := H.2.2.2.2.2.2.1 hs20
      refine e_pc (i2 := 36) (by rw [hs20]; rfl) ?_
      refine e_nx hcd rfl rfl ?_
      refine r_cs hcd rfl (by omega) (Nat.le_of_ble_eq_true rfl) rfl rfl (Nat.le_of_ble_eq_true rfl) ?_
      refine Cl.mono H (fun v τ9 hq => ?_)
      obtain ⟨r13, rfl, H⟩ := hq
      show Ev X 144 38 _ [vI r13] τ9 Q
      exact r_iret hcd rfl rfl rfl H
    replace H := H.2.2.2.2.2.2.2 ⟨hs14, hs15, hs16, hs17, hs18, hs19, hs20⟩
    refine e_pc (i2 := 39) (tab_def (lo := 0) (hi := 6) (fun h1 h2 => ?_)) ?_
    · omega
    · refine e_nx hcd rfl rfl ?_
      exact r_iret hcd rfl rfl rfl H
  · replace H := H.2 hc
    refine e_nx hcd rfl rfl ?_
    exact r_iret hcd rfl rfl rfl H
/-! X11_rank -/
theorem v_145 {X : PX} {σ : Sg} {Q : Option PV → Sg → Prop} {a1 : Int} {a2 : Int}  (H : CI X 115 [vR (some 1), vI a1, vI a2] σ (fun r1 τ1 => InR r1 ∧ (r1 ≠ 0 → (0 ≤ a1 ∧ a1 < 2) ∧ CI X 15 [vR (some (7 + 13 * a1.toNat)), vI (iShl 1 a2)] τ1 (fun r5 τ2 => Q (some (vI r5)) τ2)) ∧ (¬ r1 ≠ 0 → Q (some (vI (-1))) τ1))) : Cl X 145 [vR (some 0), vI a1, vI a2] σ Q := by
  have hcd : cds 145 = cd_145 := rfl
  refine c_in (Nat.le_of_ble_eq_true rfl) rfl rfl ?_
  show Ev X 145 0 [some (vR (some 0)), some (vI a1), some (vI a2)] [] σ Q
  refine e_nx hcd rfl rfl ?_
  refine r_getR hcd rfl rfl rfl ?_
  iterate 2 (refine e_nx hcd rfl rfl ?_)
  refine r_cv hcd rfl (by omega) rfl rfl rfl (Nat.le_of_ble_eq_true rfl) ?_
  refine Cl.mono H (fun v τ1 hq => ?_)
  obtain ⟨r1, rfl, H⟩ := hq
  show Ev X 145 5 _ [vI r1] τ1 Q
  obtain ⟨h2, H⟩ := H
  refine r_if hcd rfl h2 (fun hc => ?_) (fun hc => ?_)
  · replace H := H.1 hc
    refine e_nx hcd rfl rfl ?_
    refine r_getR hcd rfl rfl rfl ?_
    refine r_getR hcd rfl rfl rfl ?_
    refine e_nx hcd rfl rfl ?_
    obtain ⟨h3, H⟩ := H
    have hm4 : 7 + 13 * a1.toNat ∈ parL := by rcases (show a1 = 0 ∨ a1 = 1 by omega) with h0 | h0 <;> rw [h0] <;> decide
    refine r_ald (q := 7 + 13 * a1.toNat) hcd rfl rfl (Nat.le_of_ble_eq_true rfl) h3 (by rcases (show a1 = 0 ∨ a1 = 1 by omega) with h0 | h0 <;> rw [h0] <;> rfl) ?_
    iterate 3 (refine e_nx hcd rfl rfl ?_)
    refine r_cs hcd rfl (by omega) (Nat.le_of_ble_eq_true rfl) rfl rfl (Nat.le_of_ble_eq_true rfl) ?_
    refine Cl.mono H (fun v τ2 hq => ?_)
    obtain ⟨r5, rfl, H⟩ := hq
    show Ev X 145 17 _ [vI r5] τ2 Q
    exact r_iret hcd rfl rfl rfl H
  · replace H := H.2 hc
    refine e_nx hcd rfl rfl ?_
    exact r_iret hcd rfl rfl rfl H
/-! X11_burden -/
set_option maxRecDepth 20000 in
set_option maxHeartbeats 8000000 in
theorem v_146 {X : PX} {σ : Sg} {Q : Option PV → Sg → Prop} {a1 : Int} {a2 : Int}  (H : CI X 114 [vR (some 1), vI 0, vI a1] σ (fun r1 τ1 => InR r1 ∧ (r1 ≠ 0 → (0 ≤ a1 ∧ a1 < 2) ∧ CI X 65 [vR (some 160), vR (some (7 + 13 * a1.toNat))] τ1 (fun r5 τ2 => CI X 82 [vR (some (7 + 13 * a1.toNat)), vI r5] τ2 (fun r6 τ3 => InR r6 ∧ (r6 = 0 → Q (some (vI (-1))) τ3) ∧ (¬ r6 = 0 → InR a2 ∧ (a2 < 0 → Q (some (vI (-1))) τ3) ∧ (¬ a2 < 0 → (a2 ≤ 2 → (a2 ≠ 0 → CI X 54 [vR (some 154), vI r5] τ3 (fun r9 τ4 => (0 ≤ r5 ∧ r5 < 7) ∧ (a2 ≠ 2 → CI X 158 [vI r9, vI (τ4.2 ((7 + 13 * a1.toNat) + 1) r5.toNat), vI 0] τ4 (fun r11 τ5 => Q (some (vI r11)) τ5)) ∧ (¬ a2 ≠ 2 → CI X 158 [vI r9, vI (τ4.2 ((7 + 13 * a1.toNat) + 1) r5.toNat), vI 1] τ4 (fun r12 τ6 => Q (some (vI r12)) τ6)))) ∧ (¬ a2 ≠ 0 → Q (some (vI r5)) τ3)) ∧ (¬ a2 ≤ 2 → Q (some (vI (-1))) τ3)))))) ∧ (¬ r1 ≠ 0 → Q (some (vI (-1))) τ1))) : Cl X 146 [vR (some 0), vI a1, vI a2] σ Q := by
  have hcd : cds 146 = cd_146 := rfl
  refine c_in (Nat.le_of_ble_eq_true rfl) rfl rfl ?_
  show Ev X 146 0 [some (vR (some 0)), some (vI a1), some (vI a2), none, none] [] σ Q
  refine e_nx hcd rfl rfl ?_
  refine r_getR hcd rfl rfl rfl ?_
  iterate 2 (refine e_nx hcd rfl rfl ?_)
  refine r_cv hcd rfl (by omega) rfl rfl rfl (Nat.le_of_ble_eq_true rfl) ?_
  refine Cl.mono H (fun v τ1 hq => ?_)
  obtain ⟨r1, rfl, H⟩ := hq
  show Ev X 146 5 _ [vI r1] τ1 Q
  obtain ⟨h2, H⟩ := H
  refine r_if hcd rfl h2 (fun hc => ?_) (fun hc => ?_)
  · replace H := H.1 hc
    refine e_nx hcd rfl rfl ?_
    refine r_getR hcd rfl rfl rfl ?_
    refine r_getR hcd rfl rfl rfl ?_
    refine e_nx hcd rfl rfl ?_
    obtain ⟨h3, H⟩ := H
    have hm4 : 7 + 13 * a1.toNat ∈ parL := by rcases (show a1 = 0 ∨ a1 = 1 by omega) with h0 | h0 <;> rw [h0] <;> decide
    refine r_ald (q := 7 + 13 * a1.toNat) hcd rfl rfl (Nat.le_of_ble_eq_true rfl) h3 (by rcases (show a1 = 0 ∨ a1 = 1 by omega) with h0 | h0 <;> rw [h0] <;> rfl) ?_
    refine e_nx hcd rfl rfl ?_
    show Ev X 146 14 [some (vR (some 0)), some (vI a1), some (vI a2), some (vR (some (7 + 13 * a1.toNat))), none] [] _ Q
    refine e_nx hcd rfl rfl ?_
    refine r_getR hcd rfl rfl rfl ?_
    refine e_nx hcd rfl rfl ?_
    refine r_cv hcd rfl (by omega) rfl rfl rfl (Nat.le_of_ble_eq_true rfl) ?_
    refine Cl.mono H (fun v τ2 hq => ?_)
    obtain ⟨r5, rfl, H⟩ := hq
    show Ev X 146 18 _ [vI r5] τ2 Q
    refine e_nx hcd rfl rfl ?_
    show Ev X 146 19 [some (vR (some 0)), some (vI a1), some (vI a2), some (vR (some (7 + 13 * a1.toNat))), some (vI r5)] [] _ Q
    iterate 2 (refine e_nx hcd rfl rfl ?_)
    refine r_cv hcd rfl (by omega) ((parS hm4).1) rfl rfl (Nat.le_of_ble_eq_true rfl) ?_
    refine Cl.mono H (fun v τ3 hq => ?_)
    obtain ⟨r6, rfl, H⟩ := hq
    show Ev X 146 22 _ [vI r6] τ3 Q
    obtain ⟨h7, H⟩ := H
    refine r_if hcd rfl h7 (fun hc => ?_) (fun hc => ?_)
    · replace H := H.1 hc
      refine e_nx hcd rfl rfl ?_
      exact r_iret hcd rfl rfl rfl H
    · replace H := H.2 hc
      refine e_nx hcd rfl rfl ?_
      obtain ⟨h8, H⟩ := H
      refine r_if hcd rfl h8 (fun hc => ?_) (fun hc => ?_)
      · replace H := H.1 hc
        refine e_nx hcd rfl rfl ?_
        exact r_iret hcd rfl rfl rfl H
      · replace H := H.2 hc
        iterate 2 (refine e_nx hcd rfl rfl ?_)
        refine r_icmp hcd rfl h8 (by omega) (fun hc => ?_) (fun hc => ?_)
        · replace H := H.1 hc
          refine e_nx hcd rfl rfl ?_
          refine r_if hcd rfl h8 (fun hc => ?_) (fun hc => ?_)
          · replace H := H.1 hc
            refine e_nx hcd rfl rfl ?_
            refine r_getR hcd rfl rfl rfl ?_
            refine r_getR hcd rfl rfl rfl ?_
            refine e_nx hcd rfl rfl ?_
            refine r_cv hcd rfl (by omega) rfl rfl rfl (Nat.le_of_ble_eq_true rfl) ?_
            refine Cl.mono H (fun v τ4 hq => ?_)
            obtain ⟨r9, rfl, H⟩ := hq
            show Ev X 146 39 _ [vI r9] τ4 Q
            refine e_nx hcd rfl rfl ?_
            refine r_getR hcd rfl ((parS hm4).1) rfl ?_
            refine e_nx hcd rfl rfl ?_
            obtain ⟨h10, H⟩ := H
            refine r_ild hcd rfl ((parS hm4).2.1) (by omega) h10 ?_
            iterate 2 (refine e_nx hcd rfl rfl ?_)
            refine r_icmp hcd rfl h8 (by omega) (fun hc => ?_) (fun hc => ?_)
            · replace H := H.1 hc
              refine e_nx hcd rfl rfl ?_
              refine r_cs hcd rfl (by omega) (Nat.le_of_ble_eq_true rfl) rfl rfl (Nat.le_of_ble_eq_true rfl) ?_
              refine Cl.mono H (fun v τ5 hq => ?_)
              obtain ⟨r11, rfl, H⟩ := hq
              show Ev X 146 50 _ [vI r11] τ5 Q
              exact r_iret hcd rfl rfl rfl H
            · replace H := H.2 hc
              iterate 2 (refine e_nx hcd rfl rfl ?_)
              refine r_cs hcd rfl (by omega) (Nat.le_of_ble_eq_true rfl) rfl rfl (Nat.le_of_ble_eq_true rfl) ?_
              refine Cl.mono H (fun v τ6 hq => ?_)
              obtain ⟨r12, rfl, H⟩ := hq
              show Ev X 146 50 _ [vI r12] τ6 Q
              exact r_iret hcd rfl rfl rfl H
          · replace H := H.2 hc
            refine e_nx hcd rfl rfl ?_
            exact r_iret hcd rfl rfl rfl H
        · replace H := H.2 hc
          refine e_nx hcd rfl rfl ?_
          exact r_iret hcd rfl rfl rfl H
  · replace H := H.2 hc
    refine e_nx hcd rfl rfl ?_
    exact r_iret hcd rfl rfl rfl H
/-! X11_falls -/
theorem v_147 {X : PX} {σ : Sg} {Q : Option PV → Sg → Prop} {a1 : Int} {a2 : Int} {a3 : Int}  (H : CI X 115 [vR (some 1), vI a1, vI a2] σ (fun r1 τ1 => InR r1 ∧ (r1 ≠ 0 → (0 ≤ a1 ∧ a1 < 2) ∧ CI X 66 [vR (some 160), vR (some (7 + 13 * a1.toNat)), vI a2, vI a3] τ1 (fun r5 τ2 => Q (some (vI r5)) τ2)) ∧ (¬ r1 ≠ 0 → Q (some (vI (-1))) τ1))) : Cl X 147 [vR (some 0), vI a1, vI a2, vI a3] σ Q := by
  have hcd : cds 147 = cd_147 := rfl
  refine c_in (Nat.le_of_ble_eq_true rfl) rfl rfl ?_
  show Ev X 147 0 [some (vR (some 0)), some (vI a1), some (vI a2), some (vI a3)] [] σ Q
  refine e_nx hcd rfl rfl ?_
  refine r_getR hcd rfl rfl rfl ?_
  iterate 2 (refine e_nx hcd rfl rfl ?_)
  refine r_cv hcd rfl (by omega) rfl rfl rfl (Nat.le_of_ble_eq_true rfl) ?_
  refine Cl.mono H (fun v τ1 hq => ?_)
  obtain ⟨r1, rfl, H⟩ := hq
  show Ev X 147 5 _ [vI r1] τ1 Q
  obtain ⟨h2, H⟩ := H
  refine r_if hcd rfl h2 (fun hc => ?_) (fun hc => ?_)
  · replace H := H.1 hc
    refine e_nx hcd rfl rfl ?_
    refine r_getR hcd rfl rfl rfl ?_
    refine e_nx hcd rfl rfl ?_
    refine r_getR hcd rfl rfl rfl ?_
    refine r_getR hcd rfl rfl rfl ?_
    refine e_nx hcd rfl rfl ?_
    obtain ⟨h3, H⟩ := H
    have hm4 : 7 + 13 * a1.toNat ∈ parL := by rcases (show a1 = 0 ∨ a1 = 1 by omega) with h0 | h0 <;> rw [h0] <;> decide
    refine r_ald (q := 7 + 13 * a1.toNat) hcd rfl rfl (Nat.le_of_ble_eq_true rfl) h3 (by rcases (show a1 = 0 ∨ a1 = 1 by omega) with h0 | h0 <;> rw [h0] <;> rfl) ?_
    iterate 2 (refine e_nx hcd rfl rfl ?_)
    refine r_cv hcd rfl (by omega) rfl rfl rfl (Nat.le_of_ble_eq_true rfl) ?_
    refine Cl.mono H (fun v τ2 hq => ?_)
    obtain ⟨r5, rfl, H⟩ := hq
    show Ev X 147 18 _ [vI r5] τ2 Q
    exact r_iret hcd rfl rfl rfl H
  · replace H := H.2 hc
    refine e_nx hcd rfl rfl ?_
    exact r_iret hcd rfl rfl rfl H
/-! X11_harm -/
set_option maxRecDepth 20000 in
set_option maxHeartbeats 8000000 in
theorem v_148 {X : PX} {σ : Sg} {Q : Option PV → Sg → Prop} {a1 : Int} {a2 : Int} {a3 : Int}  (H : InR a2 ∧ InR a3 ∧ (a2 = a3 → Q (some (vI (-999))) σ) ∧ (¬ a2 = a3 → CI X 115 [vR (some 1), vI a1, vI a2] σ (fun r3 τ1 => InR r3 ∧ (r3 = 0 → Q (some (vI (-999))) τ1) ∧ (¬ r3 = 0 → CI X 115 [vR (some 1), vI a1, vI a3] τ1 (fun r5 τ2 => InR r5 ∧ (r5 ≠ 0 → (0 ≤ a1 ∧ a1 < 2) ∧ CI X 67 [vR (some 160), vR (some (7 + 13 * a1.toNat)), vI a2, vI a3] τ2 (fun r9 τ3 => Q (some (vI r9)) τ3)) ∧ (¬ r5 ≠ 0 → Q (some (vI (-999))) τ2)))))) : Cl X 148 [vR (some 0), vI a1, vI a2, vI a3] σ Q := by
  have hcd : cds 148 = cd_148 := rfl
  refine c_in (Nat.le_of_ble_eq_true rfl) rfl rfl ?_
  show Ev X 148 0 [some (vR (some 0)), some (vI a1), some (vI a2), some (vI a3)] [] σ Q
  iterate 2 (refine e_nx hcd rfl rfl ?_)
  obtain ⟨h1, H⟩ := H
  obtain ⟨h2, H⟩ := H
  refine r_icmp hcd rfl h1 h2 (fun hc => ?_) (fun hc => ?_)
  · replace H := H.1 hc
    refine e_nx hcd rfl rfl ?_
    exact r_iret hcd rfl rfl rfl H
  · replace H := H.2 hc
    refine e_nx hcd rfl rfl ?_
    refine r_getR hcd rfl rfl rfl ?_
    iterate 2 (refine e_nx hcd rfl rfl ?_)
    refine r_cv hcd rfl (by omega) rfl rfl rfl (Nat.le_of_ble_eq_true rfl) ?_
    refine Cl.mono H (fun v τ1 hq => ?_)
    obtain ⟨r3, rfl, H⟩ := hq
    show Ev X 148 8 _ [vI r3] τ1 Q
    obtain ⟨h4, H⟩ := H
    refine r_if hcd rfl h4 (fun hc => ?_) (fun hc => ?_)
    · replace H := H.1 hc
      refine e_nx hcd rfl rfl ?_
      exact r_iret hcd rfl rfl rfl H
    · replace H := H.2 hc
      refine e_nx hcd rfl rfl ?_
      refine r_getR hcd rfl rfl rfl ?_
      iterate 2 (refine e_nx hcd rfl rfl ?_)
      refine r_cv hcd rfl (by omega) rfl rfl rfl (Nat.le_of_ble_eq_true rfl) ?_
      refine Cl.mono H (fun v τ2 hq => ?_)
      obtain ⟨r5, rfl, H⟩ := hq
      show Ev X 148 14 _ [vI r5] τ2 Q
      obtain ⟨h6, H⟩ := H
      refine r_if hcd rfl h6 (fun hc => ?_) (fun hc => ?_)
      · replace H := H.1 hc
        refine e_nx hcd rfl rfl ?_
        refine r_getR hcd rfl rfl rfl ?_
        refine e_nx hcd rfl rfl ?_
        refine r_getR hcd rfl rfl rfl ?_
        refine r_getR hcd rfl rfl rfl ?_
        refine e_nx hcd rfl rfl ?_
        obtain ⟨h7, H⟩ := H
        have hm8 : 7 + 13 * a1.toNat ∈ parL := by rcases (show a1 = 0 ∨ a1 = 1 by omega) with h0 | h0 <;> rw [h0] <;> decide
        refine r_ald (q := 7 + 13 * a1.toNat) hcd rfl rfl (Nat.le_of_ble_eq_true rfl) h7 (by rcases (show a1 = 0 ∨ a1 = 1 by omega) with h0 | h0 <;> rw [h0] <;> rfl) ?_
        iterate 2 (refine e_nx hcd rfl rfl ?_)
        refine r_cv hcd rfl (by omega) rfl rfl rfl (Nat.le_of_ble_eq_true rfl) ?_
        refine Cl.mono H (fun v τ3 hq => ?_)
        obtain ⟨r9, rfl, H⟩ := hq
        show Ev X 148 27 _ [vI r9] τ3 Q
        exact r_iret hcd rfl rfl rfl H
      · replace H := H.2 hc
        refine e_nx hcd rfl rfl ?_
        exact r_iret hcd rfl rfl rfl H
/-! X11_foe -/
set_option maxRecDepth 20000 in
set_option maxHeartbeats 8000000 in
theorem v_149 {X : PX} {σ : Sg} {Q : Option PV → Sg → Prop} {a1 : Int} {a2 : Int} {a3 : Int}  (H : CI X 115 [vR (some 1), vI a1, vI a2] σ (fun r1 τ1 => InR r1 ∧ (r1 = 0 → Q (some (vI (-2))) τ1) ∧ (¬ r1 = 0 → InR a3 ∧ (a3 < 0 → Q (some (vI (-2))) τ1) ∧ (¬ a3 < 0 → (a3 ≤ 3 → (0 ≤ a1 ∧ a1 < 2) ∧ (a3 < 2 → CI X 68 [vR (some 160), vR (some (7 + 13 * a1.toNat)), vI a2, vI 0] τ1 (fun r6 τ2 => (a3 = 0 → Q (some (vI r6)) τ2) ∧ (¬ a3 = 0 → (a3 ≠ 2 → CI X 82 [vR (some (7 + 13 * a1.toNat)), vI r6] τ2 (fun r7 τ3 => InR r7 ∧ (r7 = 0 → Q (some (vI 0)) τ3) ∧ (¬ r7 = 0 → CI X 67 [vR (some 160), vR (some (7 + 13 * a1.toNat)), vI r6, vI a2] τ3 (fun r9 τ4 => InR r9 ∧ Q (some (vI (if r9 < 0 then -r9 else r9))) τ4)))) ∧ (¬ a3 ≠ 2 → Q (some (vI r6)) τ2)))) ∧ (¬ a3 < 2 → CI X 68 [vR (some 160), vR (some (7 + 13 * a1.toNat)), vI a2, vI 1] τ1 (fun r11 τ5 => (a3 = 0 → Q (some (vI r11)) τ5) ∧ (¬ a3 = 0 → (a3 ≠ 2 → CI X 82 [vR (some (7 + 13 * a1.toNat)), vI r11] τ5 (fun r12 τ6 => InR r12 ∧ (r12 = 0 → Q (some (vI 0)) τ6) ∧ (¬ r12 = 0 → CI X 67 [vR (some 160), vR (some (7 + 13 * a1.toNat)), vI r11, vI a2] τ6 (fun r14 τ7 => InR r14 ∧ Q (some (vI (if r14 < 0 then -r14 else r14))) τ7)))) ∧ (¬ a3 ≠ 2 → Q (some (vI r11)) τ5))))) ∧ (¬ a3 ≤ 3 → Q (some (vI (-2))) τ1))))) : Cl X 149 [vR (some 0), vI a1, vI a2, vI a3] σ Q := by
  have hcd : cds 149 = cd_149 := rfl
  refine c_in (Nat.le_of_ble_eq_true rfl) rfl rfl ?_
  show Ev X 149 0 [some (vR (some 0)), some (vI a1), some (vI a2), some (vI a3), none, none, none] [] σ Q
  refine e_nx hcd rfl rfl ?_
  refine r_getR hcd rfl rfl rfl ?_
  iterate 2 (refine e_nx hcd rfl rfl ?_)
  refine r_cv hcd rfl (by omega) rfl rfl rfl (Nat.le_of_ble_eq_true rfl) ?_
  refine Cl.mono H (fun v τ1 hq => ?_)
  obtain ⟨r1, rfl, H⟩ := hq
  show Ev X 149 5 _ [vI r1] τ1 Q
  obtain ⟨h2, H⟩ := H
  refine r_if hcd rfl h2 (fun hc => ?_) (fun hc => ?_)
  · replace H := H.1 hc
    refine e_nx hcd rfl rfl ?_
    exact r_iret hcd rfl rfl rfl H
  · replace H := H.2 hc
    refine e_nx hcd rfl rfl ?_
    obtain ⟨h3, H⟩ := H
    refine r_if hcd rfl h3 (fun hc => ?_) (fun hc => ?_)
    · replace H := H.1 hc
      refine e_nx hcd rfl rfl ?_
      exact r_iret hcd rfl rfl rfl H
    · replace H := H.2 hc
      iterate 2 (refine e_nx hcd rfl rfl ?_)
      refine r_icmp hcd rfl h3 (by omega) (fun hc => ?_) (fun hc => ?_)
      · replace H := H.1 hc
        refine e_nx hcd rfl rfl ?_
        refine r_getR hcd rfl rfl rfl ?_
        refine r_getR hcd rfl rfl rfl ?_
        refine e_nx hcd rfl rfl ?_
        obtain ⟨h4, H⟩ := H
        have hm5 : 7 + 13 * a1.toNat ∈ parL := by rcases (show a1 = 0 ∨ a1 = 1 by omega) with h0 | h0 <;> rw [h0] <;> decide
        refine r_ald (q := 7 + 13 * a1.toNat) hcd rfl rfl (Nat.le_of_ble_eq_true rfl) h4 (by rcases (show a1 = 0 ∨ a1 = 1 by omega) with h0 | h0 <;> rw [h0] <;> rfl) ?_
        refine e_nx hcd rfl rfl ?_
        show Ev X 149 19 [some (vR (some 0)), some (vI a1), some (vI a2), some (vI a3), some (vR (some (7 + 13 * a1.toNat))), none, none] [] _ Q
        iterate 2 (refine e_nx hcd rfl rfl ?_)
        refine r_icmp hcd rfl h3 (by omega) (fun hc => ?_) (fun hc => ?_)
        · replace H := H.1 hc
          iterate 2 (refine e_nx hcd rfl rfl ?_)
          show Ev X 149 26 [some (vR (some 0)), some (vI a1), some (vI a2), some (vI a3), some (vR (some (7 + 13 * a1.toNat))), some (vI 0), none] [] _ Q
          refine e_nx hcd rfl rfl ?_
          refine r_getR hcd rfl rfl rfl ?_
          iterate 3 (refine e_nx hcd rfl rfl ?_)
          refine r_cv hcd rfl (by omega) rfl rfl rfl (Nat.le_of_ble_eq_true rfl) ?_
          refine Cl.mono H (fun v τ2 hq => ?_)
          obtain ⟨r6, rfl, H⟩ := hq
          show Ev X 149 32 _ [vI r6] τ2 Q
          refine e_nx hcd rfl rfl ?_
          show Ev X 149 33 [some (vR (some 0)), some (vI a1), some (vI a2), some (vI a3), some (vR (some (7 + 13 * a1.toNat))), some (vI 0), some (vI r6)] [] _ Q
          refine e_nx hcd rfl rfl ?_
          refine r_if hcd rfl h3 (fun hc => ?_) (fun hc => ?_)
          · replace H := H.1 hc
            refine e_nx hcd rfl rfl ?_
            exact r_iret hcd rfl rfl rfl H
          · replace H := H.2 hc
            iterate 2 (refine e_nx hcd rfl rfl ?_)
            refine r_icmp hcd rfl h3 (by omega) (fun hc => ?_) (fun hc => ?_)
            · replace H := H.1 hc
              iterate 2 (refine e_nx hcd rfl rfl ?_)
              refine r_cv hcd rfl (by omega) ((parS hm5).1) rfl rfl (Nat.le_of_ble_eq_true rfl) ?_
              refine Cl.mono H (fun v τ3 hq => ?_)
              obtain ⟨r7, rfl, H⟩ := hq
              show Ev X 149 43 _ [vI r7] τ3 Q
              obtain ⟨h8, H⟩ := H
              refine r_if hcd rfl h8 (fun hc => ?_) (fun hc => ?_)
              · replace H := H.1 hc
                refine e_nx hcd rfl rfl ?_
                exact r_iret hcd rfl rfl rfl H
              · replace H := H.2 hc
                refine e_nx hcd rfl rfl ?_
                refine r_getR hcd rfl rfl rfl ?_
                iterate 3 (refine e_nx hcd rfl rfl ?_)
                refine r_cv hcd rfl (by omega) rfl rfl rfl (Nat.le_of_ble_eq_true rfl) ?_
                refine Cl.mono H (fun v τ4 hq => ?_)
                obtain ⟨r9, rfl, H⟩ := hq
                show Ev X 149 50 _ [vI r9] τ4 Q
                obtain ⟨h10, H⟩ := H
                refine r_abs hcd rfl h10 (Nat.le_of_ble_eq_true rfl) ?_
                refine e_nx hcd rfl rfl ?_
                exact r_iret hcd rfl rfl rfl H
            · replace H := H.2 hc
              refine e_nx hcd rfl rfl ?_
              exact r_iret hcd rfl rfl rfl H
        · replace H := H.2 hc
          iterate 3 (refine e_nx hcd rfl rfl ?_)
          show Ev X 149 26 [some (vR (some 0)), some (vI a1), some (vI a2), some (vI a3), some (vR (some (7 + 13 * a1.toNat))), some (vI 1), none] [] _ Q
          refine e_nx hcd rfl rfl ?_
          refine r_getR hcd rfl rfl rfl ?_
          iterate 3 (refine e_nx hcd rfl rfl ?_)
          refine r_cv hcd rfl (by omega) rfl rfl rfl (Nat.le_of_ble_eq_true rfl) ?_
          refine Cl.mono H (fun v τ5 hq => ?_)
          obtain ⟨r11, rfl, H⟩ := hq
          show Ev X 149 32 _ [vI r11] τ5 Q
          refine e_nx hcd rfl rfl ?_
          show Ev X 149 33 [some (vR (some 0)), some (vI a1), some (vI a2), some (vI a3), some (vR (some (7 + 13 * a1.toNat))), some (vI 1), some (vI r11)] [] _ Q
          refine e_nx hcd rfl rfl ?_
          refine r_if hcd rfl h3 (fun hc => ?_) (fun hc => ?_)
          · replace H := H.1 hc
            refine e_nx hcd rfl rfl ?_
            exact r_iret hcd rfl rfl rfl H
          · replace H := H.2 hc
            iterate 2 (refine e_nx hcd rfl rfl ?_)
            refine r_icmp hcd rfl h3 (by omega) (fun hc => ?_) (fun hc => ?_)
            · replace H := H.1 hc
              iterate 2 (refine e_nx hcd rfl rfl ?_)
              refine r_cv hcd rfl (by omega) ((parS hm5).1) rfl rfl (Nat.le_of_ble_eq_true rfl) ?_
              refine Cl.mono H (fun v τ6 hq => ?_)
              obtain ⟨r12, rfl, H⟩ := hq
              show Ev X 149 43 _ [vI r12] τ6 Q
              obtain ⟨h13, H⟩ := H
              refine r_if hcd rfl h13 (fun hc => ?_) (fun hc => ?_)
              · replace H := H.1 hc
                refine e_nx hcd rfl rfl ?_
                exact r_iret hcd rfl rfl rfl H
              · replace H := H.2 hc
                refine e_nx hcd rfl rfl ?_
                refine r_getR hcd rfl rfl rfl ?_
                iterate 3 (refine e_nx hcd rfl rfl ?_)
                refine r_cv hcd rfl (by omega) rfl rfl rfl (Nat.le_of_ble_eq_true rfl) ?_
                refine Cl.mono H (fun v τ7 hq => ?_)
                obtain ⟨r14, rfl, H⟩ := hq
                show Ev X 149 50 _ [vI r14] τ7 Q
                obtain ⟨h15, H⟩ := H
                refine r_abs hcd rfl h15 (Nat.le_of_ble_eq_true rfl) ?_
                refine e_nx hcd rfl rfl ?_
                exact r_iret hcd rfl rfl rfl H
            · replace H := H.2 hc
              refine e_nx hcd rfl rfl ?_
              exact r_iret hcd rfl rfl rfl H
      · replace H := H.2 hc
        refine e_nx hcd rfl rfl ?_
        exact r_iret hcd rfl rfl rfl H
/-! X11_ruin -/
set_option maxRecDepth 20000 in
set_option maxHeartbeats 8000000 in
theorem v_150 {X : PX} {σ : Sg} {Q : Option PV → Sg → Prop} {a1 : Int} {a2 : Int}  (H : CI X 114 [vR (some 1), vI 0, vI a1] σ (fun r1 τ1 => InR r1 ∧ (r1 ≠ 0 → (0 ≤ a1 ∧ a1 < 2) ∧ CI X 59 [vR (some 160), vR (some (7 + 13 * a1.toNat)), vI (τ1.1 (7 + 13 * a1.toNat) 0), vI 50] τ1 (fun r5 τ2 => InR a2 ∧ (a2 = 0 → Q (some (vI r5)) τ2) ∧ (¬ a2 = 0 → Q (some (vI (τ2.1 146 8))) τ2))) ∧ (¬ r1 ≠ 0 → Q (some (vI (-1))) τ1))) : Cl X 150 [vR (some 0), vI a1, vI a2] σ Q := by
  have hcd : cds 150 = cd_150 := rfl
  refine c_in (Nat.le_of_ble_eq_true rfl) rfl rfl ?_
  show Ev X 150 0 [some (vR (some 0)), some (vI a1), some (vI a2), none, none] [] σ Q
  refine e_nx hcd rfl rfl ?_
  refine r_getR hcd rfl rfl rfl ?_
  iterate 2 (refine e_nx hcd rfl rfl ?_)
  refine r_cv hcd rfl (by omega) rfl rfl rfl (Nat.le_of_ble_eq_true rfl) ?_
  refine Cl.mono H (fun v τ1 hq => ?_)
  obtain ⟨r1, rfl, H⟩ := hq
  show Ev X 150 5 _ [vI r1] τ1 Q
  obtain ⟨h2, H⟩ := H
  refine r_if hcd rfl h2 (fun hc => ?_) (fun hc => ?_)
  · replace H := H.1 hc
    refine e_nx hcd rfl rfl ?_
    refine r_getR hcd rfl rfl rfl ?_
    refine r_getR hcd rfl rfl rfl ?_
    refine e_nx hcd rfl rfl ?_
    obtain ⟨h3, H⟩ := H
    have hm4 : 7 + 13 * a1.toNat ∈ parL := by rcases (show a1 = 0 ∨ a1 = 1 by omega) with h0 | h0 <;> rw [h0] <;> decide
    refine r_ald (q := 7 + 13 * a1.toNat) hcd rfl rfl (Nat.le_of_ble_eq_true rfl) h3 (by rcases (show a1 = 0 ∨ a1 = 1 by omega) with h0 | h0 <;> rw [h0] <;> rfl) ?_
    refine e_nx hcd rfl rfl ?_
    show Ev X 150 14 [some (vR (some 0)), some (vI a1), some (vI a2), some (vR (some (7 + 13 * a1.toNat))), none] [] _ Q
    refine e_nx hcd rfl rfl ?_
    refine r_getR hcd rfl rfl rfl ?_
    iterate 2 (refine e_nx hcd rfl rfl ?_)
    refine r_getI hcd rfl ((parS hm4).1) rfl ?_
    refine e_nx hcd rfl rfl ?_
    refine r_cv hcd rfl (by omega) rfl rfl rfl (Nat.le_of_ble_eq_true rfl) ?_
    refine Cl.mono H (fun v τ2 hq => ?_)
    obtain ⟨r5, rfl, H⟩ := hq
    show Ev X 150 21 _ [vI r5] τ2 Q
    refine e_nx hcd rfl rfl ?_
    show Ev X 150 22 [some (vR (some 0)), some (vI a1), some (vI a2), some (vR (some (7 + 13 * a1.toNat))), some (vI r5)] [] _ Q
    refine e_nx hcd rfl rfl ?_
    obtain ⟨h6, H⟩ := H
    refine r_if hcd rfl h6 (fun hc => ?_) (fun hc => ?_)
    · replace H := H.1 hc
      refine e_nx hcd rfl rfl ?_
      exact r_iret hcd rfl rfl rfl H
    · replace H := H.2 hc
      refine e_nx hcd rfl rfl ?_
      refine r_getR hcd rfl rfl rfl ?_
      refine r_getI hcd rfl rfl rfl ?_
      refine e_nx hcd rfl rfl ?_
      exact r_iret hcd rfl rfl rfl H
  · replace H := H.2 hc
    refine e_nx hcd rfl rfl ?_
    exact r_iret hcd rfl rfl rfl H
/-! X11_bid -/
set_option maxRecDepth 20000 in
set_option maxHeartbeats 8000000 in
theorem v_151 {X : PX} {σ : Sg} {Q : Option PV → Sg → Prop} {a1 : Int} {a2 : Int}  (H : CI X 114 [vR (some 1), vI 0, vI a1] σ (fun r1 τ1 => InR r1 ∧ (r1 = 0 → Q (some (vI (-1))) τ1) ∧ (¬ r1 = 0 → InR a2 ∧ (a2 < 0 → Q (some (vI (-1))) τ1) ∧ (¬ a2 < 0 → (a2 ≤ 50 → (0 ≤ a1 ∧ a1 < 2) ∧ CV X 58 [vR (some 160), vR (some (7 + 13 * a1.toNat)), vI a2] τ1 (fun τ2 => Q (some (vI (τ2.1 146 3))) τ2)) ∧ (¬ a2 ≤ 50 → Q (some (vI (-1))) τ1))))) : Cl X 151 [vR (some 0), vI a1, vI a2] σ Q := by
  have hcd : cds 151 = cd_151 := rfl
  refine c_in (Nat.le_of_ble_eq_true rfl) rfl rfl ?_
  show Ev X 151 0 [some (vR (some 0)), some (vI a1), some (vI a2)] [] σ Q
  refine e_nx hcd rfl rfl ?_
  refine r_getR hcd rfl rfl rfl ?_
  iterate 2 (refine e_nx hcd rfl rfl ?_)
  refine r_cv hcd rfl (by omega) rfl rfl rfl (Nat.le_of_ble_eq_true rfl) ?_
  refine Cl.mono H (fun v τ1 hq => ?_)
  obtain ⟨r1, rfl, H⟩ := hq
  show Ev X 151 5 _ [vI r1] τ1 Q
  obtain ⟨h2, H⟩ := H
  refine r_if hcd rfl h2 (fun hc => ?_) (fun hc => ?_)
  · replace H := H.1 hc
    refine e_nx hcd rfl rfl ?_
    exact r_iret hcd rfl rfl rfl H
  · replace H := H.2 hc
    refine e_nx hcd rfl rfl ?_
    obtain ⟨h3, H⟩ := H
    refine r_if hcd rfl h3 (fun hc => ?_) (fun hc => ?_)
    · replace H := H.1 hc
      refine e_nx hcd rfl rfl ?_
      exact r_iret hcd rfl rfl rfl H
    · replace H := H.2 hc
      iterate 2 (refine e_nx hcd rfl rfl ?_)
      refine r_icmp hcd rfl h3 (by omega) (fun hc => ?_) (fun hc => ?_)
      · replace H := H.1 hc
        refine e_nx hcd rfl rfl ?_
        refine r_getR hcd rfl rfl rfl ?_
        refine e_nx hcd rfl rfl ?_
        refine r_getR hcd rfl rfl rfl ?_
        refine r_getR hcd rfl rfl rfl ?_
        refine e_nx hcd rfl rfl ?_
        obtain ⟨h4, H⟩ := H
        have hm5 : 7 + 13 * a1.toNat ∈ parL := by rcases (show a1 = 0 ∨ a1 = 1 by omega) with h0 | h0 <;> rw [h0] <;> decide
        refine r_ald (q := 7 + 13 * a1.toNat) hcd rfl rfl (Nat.le_of_ble_eq_true rfl) h4 (by rcases (show a1 = 0 ∨ a1 = 1 by omega) with h0 | h0 <;> rw [h0] <;> rfl) ?_
        refine e_nx hcd rfl rfl ?_
        refine r_cv hcd rfl (by omega) rfl rfl rfl (Nat.le_of_ble_eq_true rfl) ?_
        refine Cl.mono H (fun v τ2 hq => ?_)
        obtain ⟨rfl, H⟩ := hq
        show Ev X 151 22 _ [] τ2 Q
        refine e_nx hcd rfl rfl ?_
        refine r_getR hcd rfl rfl rfl ?_
        refine r_getI hcd rfl rfl rfl ?_
        exact r_iret hcd rfl rfl rfl H
      · replace H := H.2 hc
        refine e_nx hcd rfl rfl ?_
        exact r_iret hcd rfl rfl rfl H
/-! X11_top -/
set_option maxRecDepth 20000 in
set_option maxHeartbeats 8000000 in
theorem v_152 {X : PX} {σ : Sg} {Q : Option PV → Sg → Prop} {a1 : Int} {a2 : Int}  (H : CI X 114 [vR (some 1), vI 0, vI a1] σ (fun r1 τ1 => InR r1 ∧ (r1 = 0 → Q (some (vI (-1))) τ1) ∧ (¬ r1 = 0 → InR a2 ∧ (a2 < 1 → Q (some (vI (-1))) τ1) ∧ (¬ a2 < 1 → (a2 ≤ 50 → (0 ≤ a1 ∧ a1 < 2) ∧ CI X 60 [vR (some 160), vR (some (7 + 13 * a1.toNat)), vI a2] τ1 (fun r6 τ2 => Q (some (vI r6)) τ2)) ∧ (¬ a2 ≤ 50 → Q (some (vI (-1))) τ1))))) : Cl X 152 [vR (some 0), vI a1, vI a2] σ Q := by
  have hcd : cds 152 = cd_152 := rfl
  refine c_in (Nat.le_of_ble_eq_true rfl) rfl rfl ?_
  show Ev X 152 0 [some (vR (some 0)), some (vI a1), some (vI a2)] [] σ Q
  refine e_nx hcd rfl rfl ?_
  refine r_getR hcd rfl rfl rfl ?_
  iterate 2 (refine e_nx hcd rfl rfl ?_)
  refine r_cv hcd rfl (by omega) rfl rfl rfl (Nat.le_of_ble_eq_true rfl) ?_
  refine Cl.mono H (fun v τ1 hq => ?_)
  obtain ⟨r1, rfl, H⟩ := hq
  show Ev X 152 5 _ [vI r1] τ1 Q
  obtain ⟨h2, H⟩ := H
  refine r_if hcd rfl h2 (fun hc => ?_) (fun hc => ?_)
  · replace H := H.1 hc
    refine e_nx hcd rfl rfl ?_
    exact r_iret hcd rfl rfl rfl H
  · replace H := H.2 hc
    iterate 2 (refine e_nx hcd rfl rfl ?_)
    obtain ⟨h3, H⟩ := H
    refine r_icmp hcd rfl h3 (by omega) (fun hc => ?_) (fun hc => ?_)
    · replace H := H.1 hc
      refine e_nx hcd rfl rfl ?_
      exact r_iret hcd rfl rfl rfl H
    · replace H := H.2 hc
      iterate 2 (refine e_nx hcd rfl rfl ?_)
      refine r_icmp hcd rfl h3 (by omega) (fun hc => ?_) (fun hc => ?_)
      · replace H := H.1 hc
        refine e_nx hcd rfl rfl ?_
        refine r_getR hcd rfl rfl rfl ?_
        refine e_nx hcd rfl rfl ?_
        refine r_getR hcd rfl rfl rfl ?_
        refine r_getR hcd rfl rfl rfl ?_
        refine e_nx hcd rfl rfl ?_
        obtain ⟨h4, H⟩ := H
        have hm5 : 7 + 13 * a1.toNat ∈ parL := by rcases (show a1 = 0 ∨ a1 = 1 by omega) with h0 | h0 <;> rw [h0] <;> decide
        refine r_ald (q := 7 + 13 * a1.toNat) hcd rfl rfl (Nat.le_of_ble_eq_true rfl) h4 (by rcases (show a1 = 0 ∨ a1 = 1 by omega) with h0 | h0 <;> rw [h0] <;> rfl) ?_
        refine e_nx hcd rfl rfl ?_
        refine r_cv hcd rfl (by omega) rfl rfl rfl (Nat.le_of_ble_eq_true rfl) ?_
        refine Cl.mono H (fun v τ2 hq => ?_)
        obtain ⟨r6, rfl, H⟩ := hq
        show Ev X 152 23 _ [vI r6] τ2 Q
        exact r_iret hcd rfl rfl rfl H
      · replace H := H.2 hc
        refine e_nx hcd rfl rfl ?_
        exact r_iret hcd rfl rfl rfl H
/-! X11_behind -/
set_option maxRecDepth 20000 in
set_option maxHeartbeats 8000000 in
theorem v_153 {X : PX} {σ : Sg} {Q : Option PV → Sg → Prop} {a1 : Int} {a2 : Int} {a3 : Int}  (H : CI X 114 [vR (some 1), vI 0, vI a1] σ (fun r1 τ1 => InR r1 ∧ (r1 = 0 → Q (some (vI (-2))) τ1) ∧ (¬ r1 = 0 → InR a2 ∧ (a2 < 0 → Q (some (vI (-2))) τ1) ∧ (¬ a2 < 0 → (a2 ≤ 50 → (0 ≤ a1 ∧ a1 < 2) ∧ CV X 58 [vR (some 160), vR (some (7 + 13 * a1.toNat)), vI a2] τ1 (fun τ2 => InR a3 ∧ (a3 = 0 → CI X 88 [vR (some 147)] τ2 (fun r7 τ3 => Q (some (vI r7)) τ3)) ∧ (a3 = 1 → CI X 89 [vR (some 147)] τ2 (fun r8 τ4 => Q (some (vI r8)) τ4)) ∧ (a3 = 2 → CI X 90 [vR (some 147)] τ2 (fun r9 τ5 => Q (some (vI r9)) τ5)) ∧ (a3 = 3 → Q (some (vI (τ2.1 146 4))) τ2) ∧ (a3 ≠ 0 ∧ a3 ≠ 1 ∧ a3 ≠ 2 ∧ a3 ≠ 3 → (a3 < 10 → Q (some (vI (-2))) τ2) ∧ (¬ a3 < 10 → CI X 82 [vR (some 147), vI (a3 - 10)] τ2 (fun r10 τ6 => InR r10 ∧ (r10 = 0 → Q (some (vI (-2))) τ6) ∧ (¬ r10 = 0 → (0 ≤ a3 - 10 ∧ a3 - 10 < 7) ∧ Q (some (vI (τ6.2 148 (a3 - 10).toNat))) τ6)))))) ∧ (¬ a2 ≤ 50 → Q (some (vI (-2))) τ1))))) : Cl X 153 [vR (some 0), vI a1, vI a2, vI a3] σ Q := by
  have hcd : cds 153 = cd_153 := rfl
  refine c_in (Nat.le_of_ble_eq_true rfl) rfl rfl ?_
  show Ev X 153 0 [some (vR (some 0)), some (vI a1), some (vI a2), some (vI a3), none] [] σ Q
  refine e_nx hcd rfl rfl ?_
  refine r_getR hcd rfl rfl rfl ?_
  iterate 2 (refine e_nx hcd rfl rfl ?_)
  refine r_cv hcd rfl (by omega) rfl rfl rfl (Nat.le_of_ble_eq_true rfl) ?_
  refine Cl.mono H (fun v τ1 hq => ?_)
  obtain ⟨r1, rfl, H⟩ := hq
  show Ev X 153 5 _ [vI r1] τ1 Q
  obtain ⟨h2, H⟩ := H
  refine r_if hcd rfl h2 (fun hc => ?_) (fun hc => ?_)
  · replace H := H.1 hc
    refine e_nx hcd rfl rfl ?_
    exact r_iret hcd rfl rfl rfl H
  · replace H := H.2 hc
    refine e_nx hcd rfl rfl ?_
    obtain ⟨h3, H⟩ := H
    refine r_if hcd rfl h3 (fun hc => ?_) (fun hc => ?_)
    · replace H := H.1 hc
      refine e_nx hcd rfl rfl ?_
      exact r_iret hcd rfl rfl rfl H
    · replace H := H.2 hc
      iterate 2 (refine e_nx hcd rfl rfl ?_)
      refine r_icmp hcd rfl h3 (by omega) (fun hc => ?_) (fun hc => ?_)
      · replace H := H.1 hc
        refine e_nx hcd rfl rfl ?_
        refine r_getR hcd rfl rfl rfl ?_
        refine e_nx hcd rfl rfl ?_
        refine r_getR hcd rfl rfl rfl ?_
        refine r_getR hcd rfl rfl rfl ?_
        refine e_nx hcd rfl rfl ?_
        obtain ⟨h4, H⟩ := H
        have hm5 : 7 + 13 * a1.toNat ∈ parL := by rcases (show a1 = 0 ∨ a1 = 1 by omega) with h0 | h0 <;> rw [h0] <;> decide
        refine r_ald (q := 7 + 13 * a1.toNat) hcd rfl rfl (Nat.le_of_ble_eq_true rfl) h4 (by rcases (show a1 = 0 ∨ a1 = 1 by omega) with h0 | h0 <;> rw [h0] <;> rfl) ?_
        refine e_nx hcd rfl rfl ?_
        refine r_cv hcd rfl (by omega) rfl rfl rfl (Nat.le_of_ble_eq_true rfl) ?_
        refine Cl.mono H (fun v τ2 hq => ?_)
        obtain ⟨rfl, H⟩ := hq
        show Ev X 153 22 _ [] τ2 Q
        refine e_nx hcd rfl rfl ?_
        obtain ⟨h6, H⟩ := H
        refine r_tab hcd rfl h6 ?_
        by_cases hs13 : a3 = 0
        · replace H := H.1 hs13
          refine e_pc (i2 := 24) (by rw [hs13]; rfl) ?_
          refine e_nx hcd rfl rfl ?_
          refine r_getR hcd rfl rfl rfl ?_
          refine r_getR hcd rfl rfl rfl ?_
          refine r_cv hcd rfl (by omega) rfl rfl rfl (Nat.le_of_ble_eq_true rfl) ?_
          refine Cl.mono H (fun v τ3 hq => ?_)
          obtain ⟨r7, rfl, H⟩ := hq
          show Ev X 153 28 _ [vI r7] τ3 Q
          exact r_iret hcd rfl rfl rfl H
        by_cases hs14 : a3 = 1
        · replace H := H.2.1 hs14
          refine e_pc (i2 := 29) (by rw [hs14]; rfl) ?_
          refine e_nx hcd rfl rfl ?_
          refine r_getR hcd rfl rfl rfl ?_
          refine r_getR hcd rfl rfl rfl ?_
          refine r_cv hcd rfl (by omega) rfl rfl rfl (Nat.le_of_ble_eq_true rfl) ?_
          refine Cl.mono H (fun v τ4 hq => ?_)
          obtain ⟨r8, rfl, H⟩ := hq
          show Ev X 153 33 _ [vI r8] τ4 Q
          exact r_iret hcd rfl rfl rfl H
        by_cases hs15 : a3 = 2
        · replace H := H.2.2.1 hs15
          refine e_pc (i2 := 34) (by rw [hs15]; rfl) ?_
          refine e_nx hcd rfl rfl ?_
          refine r_getR hcd rfl rfl rfl ?_
          refine r_getR hcd rfl rfl rfl ?_
          refine r_cv hcd rfl (by omega) rfl rfl rfl (Nat.le_of_ble_eq_true rfl) ?_
          refine Cl.mono H (fun v τ5 hq => ?_)
          obtain ⟨r9, rfl, H⟩ := hq
          show Ev X 153 38 _ [vI r9] τ5 Q
          exact r_iret hcd rfl rfl rfl H
        by_cases hs16 : a3 = 3
        · replace H := H.2.2.2.1 hs16
          refine e_pc (i2 := 39) (by rw [hs16]; rfl) ?_
          refine e_nx hcd rfl rfl ?_
          refine r_getR hcd rfl rfl rfl ?_
          refine r_getI hcd rfl rfl rfl ?_
          exact r_iret hcd rfl rfl rfl H
        replace H := H.2.2.2.2 ⟨hs13, hs14, hs15, hs16⟩
        refine e_pc (i2 := 43) (tab_def (lo := 0) (hi := 3) (fun h1 h2 => ?_)) ?_
        · omega
        · refine e_nx hcd rfl rfl ?_
          iterate 3 (refine e_nx hcd rfl rfl ?_)
          show Ev X 153 47 [some (vR (some 0)), some (vI a1), some (vI a2), some (vI a3), some (vI (a3 - 10))] [] _ Q
          iterate 2 (refine e_nx hcd rfl rfl ?_)
          refine r_icmp hcd rfl h6 (by omega) (fun hc => ?_) (fun hc => ?_)
          · replace H := H.1 hc
            refine e_nx hcd rfl rfl ?_
            exact r_iret hcd rfl rfl rfl H
          · replace H := H.2 hc
            refine e_nx hcd rfl rfl ?_
            refine r_getR hcd rfl rfl rfl ?_
            refine r_getR hcd rfl rfl rfl ?_
            refine e_nx hcd rfl rfl ?_
            refine r_cv hcd rfl (by omega) rfl rfl rfl (Nat.le_of_ble_eq_true rfl) ?_
            refine Cl.mono H (fun v τ6 hq => ?_)
            obtain ⟨r10, rfl, H⟩ := hq
            show Ev X 153 55 _ [vI r10] τ6 Q
            obtain ⟨h11, H⟩ := H
            refine r_if hcd rfl h11 (fun hc => ?_) (fun hc => ?_)
            · replace H := H.1 hc
              refine e_nx hcd rfl rfl ?_
              exact r_iret hcd rfl rfl rfl H
            · replace H := H.2 hc
              refine e_nx hcd rfl rfl ?_
              refine r_getR hcd rfl rfl rfl ?_
              refine r_getR hcd rfl rfl rfl ?_
              refine r_getR hcd rfl rfl rfl ?_
              refine e_nx hcd rfl rfl ?_
              obtain ⟨h12, H⟩ := H
              refine r_ild hcd rfl rfl (by omega) h12 ?_
              refine e_nx hcd rfl rfl ?_
              exact r_iret hcd rfl rfl rfl H
      · replace H := H.2 hc
        refine e_nx hcd rfl rfl ?_
        exact r_iret hcd rfl rfl rfl H
/-! X11_passed -/
set_option maxRecDepth 20000 in
set_option maxHeartbeats 8000000 in
theorem v_154 {X : PX} {σ : Sg} {Q : Option PV → Sg → Prop} {a1 : Int} {a2 : Int}  (H : CI X 114 [vR (some 1), vI 0, vI a1] σ (fun r1 τ1 => InR r1 ∧ (r1 ≠ 0 → (0 ≤ a1 ∧ a1 < 2) ∧ InR a2 ∧ (a2 = 0 → CI X 61 [vR (some 160), vR (some (7 + 13 * a1.toNat))] τ1 (fun r6 τ2 => Q (some (vI r6)) τ2)) ∧ (a2 = 1 → CI X 62 [vR (some 160), vR (some (7 + 13 * a1.toNat))] τ1 (fun r7 τ3 => Q (some (vI r7)) τ3)) ∧ (a2 = 2 → CI X 63 [vR (some 160), vR (some (7 + 13 * a1.toNat))] τ1 (fun r8 τ4 => Q (some (vI r8)) τ4)) ∧ (a2 = 3 → CI X 64 [vR (some 160), vR (some (7 + 13 * a1.toNat))] τ1 (fun r9 τ5 => Q (some (vI r9)) τ5)) ∧ (a2 ≠ 0 ∧ a2 ≠ 1 ∧ a2 ≠ 2 ∧ a2 ≠ 3 → Q (some (vI (-2))) τ1)) ∧ (¬ r1 ≠ 0 → Q (some (vI (-2))) τ1))) : Cl X 154 [vR (some 0), vI a1, vI a2] σ Q := by
  have hcd : cds 154 = cd_154 := rfl
  refine c_in (Nat.le_of_ble_eq_true rfl) rfl rfl ?_
  show Ev X 154 0 [some (vR (some 0)), some (vI a1), some (vI a2), none] [] σ Q
  refine e_nx hcd rfl rfl ?_
  refine r_getR hcd rfl rfl rfl ?_
  iterate 2 (refine e_nx hcd rfl rfl ?_)
  refine r_cv hcd rfl (by omega) rfl rfl rfl (Nat.le_of_ble_eq_true rfl) ?_
  refine Cl.mono H (fun v τ1 hq => ?_)
  obtain ⟨r1, rfl, H⟩ := hq
  show Ev X 154 5 _ [vI r1] τ1 Q
  obtain ⟨h2, H⟩ := H
  refine r_if hcd rfl h2 (fun hc => ?_) (fun hc => ?_)
  · replace H := H.1 hc
    refine e_nx hcd rfl rfl ?_
    refine r_getR hcd rfl rfl rfl ?_
    refine r_getR hcd rfl rfl rfl ?_
    refine e_nx hcd rfl rfl ?_
    obtain ⟨h3, H⟩ := H
    have hm4 : 7 + 13 * a1.toNat ∈ parL := by rcases (show a1 = 0 ∨ a1 = 1 by omega) with h0 | h0 <;> rw [h0] <;> decide
    refine r_ald (q := 7 + 13 * a1.toNat) hcd rfl rfl (Nat.le_of_ble_eq_true rfl) h3 (by rcases (show a1 = 0 ∨ a1 = 1 by omega) with h0 | h0 <;> rw [h0] <;> rfl) ?_
    refine e_nx hcd rfl rfl ?_
    show Ev X 154 14 [some (vR (some 0)), some (vI a1), some (vI a2), some (vR (some (7 + 13 * a1.toNat)))] [] _ Q
    refine e_nx hcd rfl rfl ?_
    obtain ⟨h5, H⟩ := H
    refine r_tab hcd rfl h5 ?_
    by_cases hs10 : a2 = 0
    · replace H := H.1 hs10
      refine e_pc (i2 := 16) (by rw [hs10]; rfl) ?_
      refine e_nx hcd rfl rfl ?_
      refine r_getR hcd rfl rfl rfl ?_
      refine e_nx hcd rfl rfl ?_
      refine r_cv hcd rfl (by omega) rfl rfl rfl (Nat.le_of_ble_eq_true rfl) ?_
      refine Cl.mono H (fun v τ2 hq => ?_)
      obtain ⟨r6, rfl, H⟩ := hq
      show Ev X 154 20 _ [vI r6] τ2 Q
      exact r_iret hcd rfl rfl rfl H
    by_cases hs11 : a2 = 1
    · replace H := H.2.1 hs11
      refine e_pc (i2 := 21) (by rw [hs11]; rfl) ?_
      refine e_nx hcd rfl rfl ?_
      refine r_getR hcd rfl rfl rfl ?_
      refine e_nx hcd rfl rfl ?_
      refine r_cv hcd rfl (by omega) rfl rfl rfl (Nat.le_of_ble_eq_true rfl) ?_
      refine Cl.mono H (fun v τ3 hq => ?_)
      obtain ⟨r7, rfl, H⟩ := hq
      show Ev X 154 25 _ [vI r7] τ3 Q
      exact r_iret hcd rfl rfl rfl H
    by_cases hs12 : a2 = 2
    · replace H := H.2.2.1 hs12
      refine e_pc (i2 := 26) (by rw [hs12]; rfl) ?_
      refine e_nx hcd rfl rfl ?_
      refine r_getR hcd rfl rfl rfl ?_
      refine e_nx hcd rfl rfl ?_
      refine r_cv hcd rfl (by omega) rfl rfl rfl (Nat.le_of_ble_eq_true rfl) ?_
      refine Cl.mono H (fun v τ4 hq => ?_)
      obtain ⟨r8, rfl, H⟩ := hq
      show Ev X 154 30 _ [vI r8] τ4 Q
      exact r_iret hcd rfl rfl rfl H
    by_cases hs13 : a2 = 3
    · replace H := H.2.2.2.1 hs13
      refine e_pc (i2 := 31) (by rw [hs13]; rfl) ?_
      refine e_nx hcd rfl rfl ?_
      refine r_getR hcd rfl rfl rfl ?_
      refine e_nx hcd rfl rfl ?_
      refine r_cv hcd rfl (by omega) rfl rfl rfl (Nat.le_of_ble_eq_true rfl) ?_
      refine Cl.mono H (fun v τ5 hq => ?_)
      obtain ⟨r9, rfl, H⟩ := hq
      show Ev X 154 35 _ [vI r9] τ5 Q
      exact r_iret hcd rfl rfl rfl H
    replace H := H.2.2.2.2 ⟨hs10, hs11, hs12, hs13⟩
    refine e_pc (i2 := 36) (tab_def (lo := 0) (hi := 3) (fun h1 h2 => ?_)) ?_
    · omega
    · refine e_nx hcd rfl rfl ?_
      exact r_iret hcd rfl rfl rfl H
  · replace H := H.2 hc
    refine e_nx hcd rfl rfl ?_
    exact r_iret hcd rfl rfl rfl H
/-! X11_fits -/
set_option maxRecDepth 20000 in
set_option maxHeartbeats 8000000 in
theorem v_155 {X : PX} {σ : Sg} {Q : Option PV → Sg → Prop} {a1 : Int} {a2 : Int} {a3 : Int}  (H : CI X 114 [vR (some 1), vI 0, vI a1] σ (fun r1 τ1 => InR r1 ∧ (r1 = 0 → Q (some (vI (-2))) τ1) ∧ (¬ r1 = 0 → CI X 114 [vR (some 1), vI 2, vI a2] τ1 (fun r3 τ2 => InR r3 ∧ (r3 = 0 → Q (some (vI (-2))) τ2) ∧ (¬ r3 = 0 → InR a3 ∧ (0 ≤ a3 → (0 ≤ a1 ∧ a1 < 2) ∧ (0 ≤ a2 ∧ a2 < 2) ∧ CV X 42 [vR (some 163), vR (some (7 + 13 * a1.toNat)), vR (some (17 + 13 * a2.toNat))] τ2 (fun τ3 => (a3 ≠ 0 → (a3 ≠ 1 → (a3 < 10 → InR (a3 - 2) ∧ (7 ≤ a3 - 2 → Q (some (vI (-2))) τ3) ∧ (¬ 7 ≤ a3 - 2 → CI X 47 [vR (some 163), vI (a3 - 2)] τ3 (fun r11 τ4 => Q (some (vI r11)) τ4))) ∧ (¬ a3 < 10 → CI X 45 [vR (some 163), vI (a3 - 10)] τ3 (fun r12 τ5 => Q (some (vI r12)) τ5))) ∧ (¬ a3 ≠ 1 → CI X 48 [vR (some 163)] τ3 (fun r13 τ6 => Q (some (vI r13)) τ6))) ∧ (¬ a3 ≠ 0 → Q (some (vI (τ3.1 163 0))) τ3))) ∧ (¬ 0 ≤ a3 → Q (some (vI (-2))) τ2)))))) : Cl X 155 [vR (some 0), vI a1, vI a2, vI a3] σ Q := by
  have hcd : cds 155 = cd_155 := rfl
  refine c_in (Nat.le_of_ble_eq_true rfl) rfl rfl ?_
  show Ev X 155 0 [some (vR (some 0)), some (vI a1), some (vI a2), some (vI a3), none] [] σ Q
  refine e_nx hcd rfl rfl ?_
  refine r_getR hcd rfl rfl rfl ?_
  iterate 2 (refine e_nx hcd rfl rfl ?_)
  refine r_cv hcd rfl (by omega) rfl rfl rfl (Nat.le_of_ble_eq_true rfl) ?_
  refine Cl.mono H (fun v τ1 hq => ?_)
  obtain ⟨r1, rfl, H⟩ := hq
  show Ev X 155 5 _ [vI r1] τ1 Q
  obtain ⟨h2, H⟩ := H
  refine r_if hcd rfl h2 (fun hc => ?_) (fun hc => ?_)
  · replace H := H.1 hc
    refine e_nx hcd rfl rfl ?_
    exact r_iret hcd rfl rfl rfl H
  · replace H := H.2 hc
    refine e_nx hcd rfl rfl ?_
    refine r_getR hcd rfl rfl rfl ?_
    iterate 2 (refine e_nx hcd rfl rfl ?_)
    refine r_cv hcd rfl (by omega) rfl rfl rfl (Nat.le_of_ble_eq_true rfl) ?_
    refine Cl.mono H (fun v τ2 hq => ?_)
    obtain ⟨r3, rfl, H⟩ := hq
    show Ev X 155 11 _ [vI r3] τ2 Q
    obtain ⟨h4, H⟩ := H
    refine r_if hcd rfl h4 (fun hc => ?_) (fun hc => ?_)
    · replace H := H.1 hc
      refine e_nx hcd rfl rfl ?_
      exact r_iret hcd rfl rfl rfl H
    · replace H := H.2 hc
      refine e_nx hcd rfl rfl ?_
      obtain ⟨h5, H⟩ := H
      refine r_if hcd rfl h5 (fun hc => ?_) (fun hc => ?_)
      · replace H := H.1 hc
        refine e_nx hcd rfl rfl ?_
        refine r_getR hcd rfl rfl rfl ?_
        refine e_nx hcd rfl rfl ?_
        refine r_getR hcd rfl rfl rfl ?_
        refine r_getR hcd rfl rfl rfl ?_
        refine e_nx hcd rfl rfl ?_
        obtain ⟨h6, H⟩ := H
        have hm7 : 7 + 13 * a1.toNat ∈ parL := by rcases (show a1 = 0 ∨ a1 = 1 by omega) with h0 | h0 <;> rw [h0] <;> decide
        refine r_ald (q := 7 + 13 * a1.toNat) hcd rfl rfl (Nat.le_of_ble_eq_true rfl) h6 (by rcases (show a1 = 0 ∨ a1 = 1 by omega) with h0 | h0 <;> rw [h0] <;> rfl) ?_
        refine e_nx hcd rfl rfl ?_
        refine r_getR hcd rfl rfl rfl ?_
        refine r_getR hcd rfl rfl rfl ?_
        refine e_nx hcd rfl rfl ?_
        obtain ⟨h8, H⟩ := H
        have hm9 : 17 + 13 * a2.toNat ∈ paiL := by rcases (show a2 = 0 ∨ a2 = 1 by omega) with h0 | h0 <;> rw [h0] <;> decide
        refine r_ald (q := 17 + 13 * a2.toNat) hcd rfl rfl (Nat.le_of_ble_eq_true rfl) h8 (by rcases (show a2 = 0 ∨ a2 = 1 by omega) with h0 | h0 <;> rw [h0] <;> rfl) ?_
        refine r_cv hcd rfl (by omega) rfl rfl rfl (Nat.le_of_ble_eq_true rfl) ?_
        refine Cl.mono H (fun v τ3 hq => ?_)
        obtain ⟨rfl, H⟩ := hq
        show Ev X 155 29 _ [] τ3 Q
        refine e_nx hcd rfl rfl ?_
        refine r_if hcd rfl h5 (fun hc => ?_) (fun hc => ?_)
        · replace H := H.1 hc
          iterate 2 (refine e_nx hcd rfl rfl ?_)
          refine r_icmp hcd rfl h5 (by omega) (fun hc => ?_) (fun hc => ?_)
          · replace H := H.1 hc
            iterate 2 (refine e_nx hcd rfl rfl ?_)
            refine r_icmp hcd rfl h5 (by omega) (fun hc => ?_) (fun hc => ?_)
            · replace H := H.1 hc
              iterate 4 (refine e_nx hcd rfl rfl ?_)
              show Ev X 155 56 [some (vR (some 0)), some (vI a1), some (vI a2), some (vI a3), some (vI (a3 - 2))] [] _ Q
              iterate 2 (refine e_nx hcd rfl rfl ?_)
              obtain ⟨h10, H⟩ := H
              refine r_icmp hcd rfl h10 (by omega) (fun hc => ?_) (fun hc => ?_)
              · replace H := H.1 hc
                refine e_nx hcd rfl rfl ?_
                exact r_iret hcd rfl rfl rfl H
              · replace H := H.2 hc
                refine e_nx hcd rfl rfl ?_
                refine r_getR hcd rfl rfl rfl ?_
                refine e_nx hcd rfl rfl ?_
                refine r_cv hcd rfl (by omega) rfl rfl rfl (Nat.le_of_ble_eq_true rfl) ?_
                refine Cl.mono H (fun v τ4 hq => ?_)
                obtain ⟨r11, rfl, H⟩ := hq
                show Ev X 155 63 _ [vI r11] τ4 Q
                refine e_nx hcd rfl rfl ?_
                exact r_iret hcd rfl rfl rfl H
            · replace H := H.2 hc
              refine e_nx hcd rfl rfl ?_
              refine r_getR hcd rfl rfl rfl ?_
              iterate 3 (refine e_nx hcd rfl rfl ?_)
              refine r_cv hcd rfl (by omega) rfl rfl rfl (Nat.le_of_ble_eq_true rfl) ?_
              refine Cl.mono H (fun v τ5 hq => ?_)
              obtain ⟨r12, rfl, H⟩ := hq
              show Ev X 155 51 _ [vI r12] τ5 Q
              exact r_iret hcd rfl rfl rfl H
          · replace H := H.2 hc
            refine e_nx hcd rfl rfl ?_
            refine r_getR hcd rfl rfl rfl ?_
            refine r_cv hcd rfl (by omega) rfl rfl rfl (Nat.le_of_ble_eq_true rfl) ?_
            refine Cl.mono H (fun v τ6 hq => ?_)
            obtain ⟨r13, rfl, H⟩ := hq
            show Ev X 155 41 _ [vI r13] τ6 Q
            exact r_iret hcd rfl rfl rfl H
        · replace H := H.2 hc
          refine e_nx hcd rfl rfl ?_
          refine r_getR hcd rfl rfl rfl ?_
          refine r_getI hcd rfl rfl rfl ?_
          exact r_iret hcd rfl rfl rfl H
      · replace H := H.2 hc
        refine e_nx hcd rfl rfl ?_
        exact r_iret hcd rfl rfl rfl H
/-! X11_odds -/
set_option maxRecDepth 20000 in
set_option maxHeartbeats 8000000 in
theorem v_156 {X : PX} {σ : Sg} {Q : Option PV → Sg → Prop} {a1 : Int} {a2 : Int} {a3 : Int} {a4 : Int}  (H : CI X 115 [vR (some 1), vI a1, vI a3] σ (fun r1 τ1 => InR r1 ∧ (r1 = 0 → Q (some (vI (-1))) τ1) ∧ (¬ r1 = 0 → CI X 114 [vR (some 1), vI 2, vI a2] τ1 (fun r3 τ2 => InR r3 ∧ (r3 ≠ 0 → (0 ≤ a1 ∧ a1 < 2) ∧ (0 ≤ a2 ∧ a2 < 2) ∧ CV X 42 [vR (some 163), vR (some (7 + 13 * a1.toNat)), vR (some (17 + 13 * a2.toNat))] τ2 (fun τ3 => CI X 46 [vR (some 163), vI a3] τ3 (fun r9 τ4 => CI X 158 [vI r9, vI (τ4.1 163 0), vI a4] τ4 (fun r10 τ5 => Q (some (vI r10)) τ5)))) ∧ (¬ r3 ≠ 0 → Q (some (vI (-1))) τ2))))) : Cl X 156 [vR (some 0), vI a1, vI a2, vI a3, vI a4] σ Q := by
  have hcd : cds 156 = cd_156 := rfl
  refine c_in (Nat.le_of_ble_eq_true rfl) rfl rfl ?_
  show Ev X 156 0 [some (vR (some 0)), some (vI a1), some (vI a2), some (vI a3), some (vI a4)] [] σ Q
  refine e_nx hcd rfl rfl ?_
  refine r_getR hcd rfl rfl rfl ?_
  iterate 2 (refine e_nx hcd rfl rfl ?_)
  refine r_cv hcd rfl (by omega) rfl rfl rfl (Nat.le_of_ble_eq_true rfl) ?_
  refine Cl.mono H (fun v τ1 hq => ?_)
  obtain ⟨r1, rfl, H⟩ := hq
  show Ev X 156 5 _ [vI r1] τ1 Q
  obtain ⟨h2, H⟩ := H
  refine r_if hcd rfl h2 (fun hc => ?_) (fun hc => ?_)
  · replace H := H.1 hc
    refine e_nx hcd rfl rfl ?_
    exact r_iret hcd rfl rfl rfl H
  · replace H := H.2 hc
    refine e_nx hcd rfl rfl ?_
    refine r_getR hcd rfl rfl rfl ?_
    iterate 2 (refine e_nx hcd rfl rfl ?_)
    refine r_cv hcd rfl (by omega) rfl rfl rfl (Nat.le_of_ble_eq_true rfl) ?_
    refine Cl.mono H (fun v τ2 hq => ?_)
    obtain ⟨r3, rfl, H⟩ := hq
    show Ev X 156 11 _ [vI r3] τ2 Q
    obtain ⟨h4, H⟩ := H
    refine r_if hcd rfl h4 (fun hc => ?_) (fun hc => ?_)
    · replace H := H.1 hc
      refine e_nx hcd rfl rfl ?_
      refine r_getR hcd rfl rfl rfl ?_
      refine e_nx hcd rfl rfl ?_
      refine r_getR hcd rfl rfl rfl ?_
      refine r_getR hcd rfl rfl rfl ?_
      refine e_nx hcd rfl rfl ?_
      obtain ⟨h5, H⟩ := H
      have hm6 : 7 + 13 * a1.toNat ∈ parL := by rcases (show a1 = 0 ∨ a1 = 1 by omega) with h0 | h0 <;> rw [h0] <;> decide
      refine r_ald (q := 7 + 13 * a1.toNat) hcd rfl rfl (Nat.le_of_ble_eq_true rfl) h5 (by rcases (show a1 = 0 ∨ a1 = 1 by omega) with h0 | h0 <;> rw [h0] <;> rfl) ?_
      refine e_nx hcd rfl rfl ?_
      refine r_getR hcd rfl rfl rfl ?_
      refine r_getR hcd rfl rfl rfl ?_
      refine e_nx hcd rfl rfl ?_
      obtain ⟨h7, H⟩ := H
      have hm8 : 17 + 13 * a2.toNat ∈ paiL := by rcases (show a2 = 0 ∨ a2 = 1 by omega) with h0 | h0 <;> rw [h0] <;> decide
      refine r_ald (q := 17 + 13 * a2.toNat) hcd rfl rfl (Nat.le_of_ble_eq_true rfl) h7 (by rcases (show a2 = 0 ∨ a2 = 1 by omega) with h0 | h0 <;> rw [h0] <;> rfl) ?_
      refine r_cv hcd rfl (by omega) rfl rfl rfl (Nat.le_of_ble_eq_true rfl) ?_
      refine Cl.mono H (fun v τ3 hq => ?_)
      obtain ⟨rfl, H⟩ := hq
      show Ev X 156 27 _ [] τ3 Q
      refine e_nx hcd rfl rfl ?_
      refine r_getR hcd rfl rfl rfl ?_
      refine e_nx hcd rfl rfl ?_
      refine r_cv hcd rfl (by omega) rfl rfl rfl (Nat.le_of_ble_eq_true rfl) ?_
      refine Cl.mono H (fun v τ4 hq => ?_)
      obtain ⟨r9, rfl, H⟩ := hq
      show Ev X 156 31 _ [vI r9] τ4 Q
      refine e_nx hcd rfl rfl ?_
      refine r_getR hcd rfl rfl rfl ?_
      refine r_getI hcd rfl rfl rfl ?_
      refine e_nx hcd rfl rfl ?_
      refine r_cs hcd rfl (by omega) (Nat.le_of_ble_eq_true rfl) rfl rfl (Nat.le_of_ble_eq_true rfl) ?_
      refine Cl.mono H (fun v τ5 hq => ?_)
      obtain ⟨r10, rfl, H⟩ := hq
      show Ev X 156 36 _ [vI r10] τ5 Q
      exact r_iret hcd rfl rfl rfl H
    · replace H := H.2 hc
      refine e_nx hcd rfl rfl ?_
      exact r_iret hcd rfl rfl rfl H
/-! X11_fewest -/
set_option maxRecDepth 20000 in
set_option maxHeartbeats 8000000 in
theorem v_157 {X : PX} {σ : Sg} {Q : Option PV → Sg → Prop} {a1 : Int} {a2 : Int} {a3 : Int}  (H : CI X 114 [vR (some 1), vI 0, vI a1] σ (fun r1 τ1 => InR r1 ∧ (r1 = 0 → Q (some (vI (-2))) τ1) ∧ (¬ r1 = 0 → CI X 114 [vR (some 1), vI 2, vI a2] τ1 (fun r3 τ2 => InR r3 ∧ (r3 ≠ 0 → (0 ≤ a1 ∧ a1 < 2) ∧ (0 ≤ a2 ∧ a2 < 2) ∧ CV X 42 [vR (some 163), vR (some (7 + 13 * a1.toNat)), vR (some (17 + 13 * a2.toNat))] τ2 (fun τ3 => InR a3 ∧ (a3 = 0 → CI X 50 [vR (some 163)] τ3 (fun r10 τ4 => Q (some (vI r10)) τ4)) ∧ (a3 = 1 → CI X 51 [vR (some 163)] τ3 (fun r11 τ5 => Q (some (vI r11)) τ5)) ∧ (a3 = 2 → CI X 52 [vR (some 163)] τ3 (fun r12 τ6 => Q (some (vI r12)) τ6)) ∧ (a3 ≠ 0 ∧ a3 ≠ 1 ∧ a3 ≠ 2 → Q (some (vI (-2))) τ3))) ∧ (¬ r3 ≠ 0 → Q (some (vI (-2))) τ2))))) : Cl X 157 [vR (some 0), vI a1, vI a2, vI a3] σ Q := by
  have hcd : cds 157 = cd_157 := rfl
  refine c_in (Nat.le_of_ble_eq_true rfl) rfl rfl ?_
  show Ev X 157 0 [some (vR (some 0)), some (vI a1), some (vI a2), some (vI a3)] [] σ Q
  refine e_nx hcd rfl rfl ?_
  refine r_getR hcd rfl rfl rfl ?_
  iterate 2 (refine e_nx hcd rfl rfl ?_)
  refine r_cv hcd rfl (by omega) rfl rfl rfl (Nat.le_of_ble_eq_true rfl) ?_
  refine Cl.mono H (fun v τ1 hq => ?_)
  obtain ⟨r1, rfl, H⟩ := hq
  show Ev X 157 5 _ [vI r1] τ1 Q
  obtain ⟨h2, H⟩ := H
  refine r_if hcd rfl h2 (fun hc => ?_) (fun hc => ?_)
  · replace H := H.1 hc
    refine e_nx hcd rfl rfl ?_
    exact r_iret hcd rfl rfl rfl H
  · replace H := H.2 hc
    refine e_nx hcd rfl rfl ?_
    refine r_getR hcd rfl rfl rfl ?_
    iterate 2 (refine e_nx hcd rfl rfl ?_)
    refine r_cv hcd rfl (by omega) rfl rfl rfl (Nat.le_of_ble_eq_true rfl) ?_
    refine Cl.mono H (fun v τ2 hq => ?_)
    obtain ⟨r3, rfl, H⟩ := hq
    show Ev X 157 11 _ [vI r3] τ2 Q
    obtain ⟨h4, H⟩ := H
    refine r_if hcd rfl h4 (fun hc => ?_) (fun hc => ?_)
    · replace H := H.1 hc
      refine e_nx hcd rfl rfl ?_
      refine r_getR hcd rfl rfl rfl ?_
      refine e_nx hcd rfl rfl ?_
      refine r_getR hcd rfl rfl rfl ?_
      refine r_getR hcd rfl rfl rfl ?_
      refine e_nx hcd rfl rfl ?_
      obtain ⟨h5, H⟩ := H
      have hm6 : 7 + 13 * a1.toNat ∈ parL := by rcases (show a1 = 0 ∨ a1 = 1 by omega) with h0 | h0 <;> rw [h0] <;> decide
      refine r_ald (q := 7 + 13 * a1.toNat) hcd rfl rfl (Nat.le_of_ble_eq_true rfl) h5 (by rcases (show a1 = 0 ∨ a1 = 1 by omega) with h0 | h0 <;> rw [h0] <;> rfl) ?_
      refine e_nx hcd rfl rfl ?_
      refine r_getR hcd rfl rfl rfl ?_
      refine r_getR hcd rfl rfl rfl ?_
      refine e_nx hcd rfl rfl ?_
      obtain ⟨h7, H⟩ := H
      have hm8 : 17 + 13 * a2.toNat ∈ paiL := by rcases (show a2 = 0 ∨ a2 = 1 by omega) with h0 | h0 <;> rw [h0] <;> decide
      refine r_ald (q := 17 + 13 * a2.toNat) hcd rfl rfl (Nat.le_of_ble_eq_true rfl) h7 (by rcases (show a2 = 0 ∨ a2 = 1 by omega) with h0 | h0 <;> rw [h0] <;> rfl) ?_
      refine r_cv hcd rfl (by omega) rfl rfl rfl (Nat.le_of_ble_eq_true rfl) ?_
      refine Cl.mono H (fun v τ3 hq => ?_)
      obtain ⟨rfl, H⟩ := hq
      show Ev X 157 27 _ [] τ3 Q
      refine e_nx hcd rfl rfl ?_
      obtain ⟨h9, H⟩ := H
      refine r_tab hcd rfl h9 ?_
      by_cases hs13 : a3 = 0
      · replace H := H.1 hs13
        refine e_pc (i2 := 29) (by rw [hs13]; rfl) ?_
        refine e_nx hcd rfl rfl ?_
        refine r_getR hcd rfl rfl rfl ?_
        refine r_cv hcd rfl (by omega) rfl rfl rfl (Nat.le_of_ble_eq_true rfl) ?_
        refine Cl.mono H (fun v τ4 hq => ?_)
        obtain ⟨r10, rfl, H⟩ := hq
        show Ev X 157 32 _ [vI r10] τ4 Q
        exact r_iret hcd rfl rfl rfl H
      by_cases hs14 : a3 = 1
      · replace H := H.2.1 hs14
        refine e_pc (i2 := 33) (by rw [hs14]; rfl) ?_
        refine e_nx hcd rfl rfl ?_
        refine r_getR hcd rfl rfl rfl ?_
        refine r_cv hcd rfl (by omega) rfl rfl rfl (Nat.le_of_ble_eq_true rfl) ?_
        refine Cl.mono H (fun v τ5 hq => ?_)
        obtain ⟨r11, rfl, H⟩ := hq
        show Ev X 157 36 _ [vI r11] τ5 Q
        exact r_iret hcd rfl rfl rfl H
      by_cases hs15 : a3 = 2
      · replace H := H.2.2.1 hs15
        refine e_pc (i2 := 37) (by rw [hs15]; rfl) ?_
        refine e_nx hcd rfl rfl ?_
        refine r_getR hcd rfl rfl rfl ?_
        refine r_cv hcd rfl (by omega) rfl rfl rfl (Nat.le_of_ble_eq_true rfl) ?_
        refine Cl.mono H (fun v τ6 hq => ?_)
        obtain ⟨r12, rfl, H⟩ := hq
        show Ev X 157 40 _ [vI r12] τ6 Q
        exact r_iret hcd rfl rfl rfl H
      replace H := H.2.2.2 ⟨hs13, hs14, hs15⟩
      refine e_pc (i2 := 41) (tab_def (lo := 0) (hi := 2) (fun h1 h2 => ?_)) ?_
      · omega
      · refine e_nx hcd rfl rfl ?_
        exact r_iret hcd rfl rfl rfl H
    · replace H := H.2 hc
      refine e_nx hcd rfl rfl ?_
      exact r_iret hcd rfl rfl rfl H
/-! X11_leastTerm -/
theorem v_158 {X : PX} {σ : Sg} {Q : Option PV → Sg → Prop} {a1 : Int} {a2 : Int} {a3 : Int}  (H : CI X 159 [vI a1, vI a2] σ (fun r1 τ1 => InR a2 ∧ (a2 ≤ 0 → Q (some (vI (-1))) τ1) ∧ (¬ a2 ≤ 0 → InR r1 ∧ (0 < r1 → InR a3 ∧ (a3 = 0 → (r1 ≠ 0) ∧ Q (some (vI (iDiv a1 r1))) τ1) ∧ (¬ a3 = 0 → (r1 ≠ 0) ∧ Q (some (vI (iDiv a2 r1))) τ1)) ∧ (¬ 0 < r1 → Q (some (vI (-1))) τ1)))) : Cl X 158 [vI a1, vI a2, vI a3] σ Q := by
  have hcd : cds 158 = cd_158 := rfl
  refine c_in (Nat.le_of_ble_eq_true rfl) rfl rfl ?_
  show Ev X 158 0 [some (vI a1), some (vI a2), some (vI a3), none] [] σ Q
  iterate 2 (refine e_nx hcd rfl rfl ?_)
  refine r_cs hcd rfl (by omega) (Nat.le_of_ble_eq_true rfl) rfl rfl (Nat.le_of_ble_eq_true rfl) ?_
  refine Cl.mono H (fun v τ1 hq => ?_)
  obtain ⟨r1, rfl, H⟩ := hq
  show Ev X 158 3 _ [vI r1] τ1 Q
  refine e_nx hcd rfl rfl ?_
  show Ev X 158 4 [some (vI a1), some (vI a2), some (vI a3), some (vI r1)] [] _ Q
  refine e_nx hcd rfl rfl ?_
  obtain ⟨h2, H⟩ := H
  refine r_if hcd rfl h2 (fun hc => ?_) (fun hc => ?_)
  · replace H := H.1 hc
    refine e_nx hcd rfl rfl ?_
    exact r_iret hcd rfl rfl rfl H
  · replace H := H.2 hc
    refine e_nx hcd rfl rfl ?_
    obtain ⟨h3, H⟩ := H
    refine r_if hcd rfl h3 (fun hc => ?_) (fun hc => ?_)
    · replace H := H.1 hc
      refine e_nx hcd rfl rfl ?_
      obtain ⟨h4, H⟩ := H
      refine r_if hcd rfl h4 (fun hc => ?_) (fun hc => ?_)
      · replace H := H.1 hc
        iterate 2 (refine e_nx hcd rfl rfl ?_)
        obtain ⟨h5, H⟩ := H
        refine r_div hcd rfl h3 h5 ?_
        exact r_iret hcd rfl rfl rfl H
      · replace H := H.2 hc
        iterate 2 (refine e_nx hcd rfl rfl ?_)
        obtain ⟨h6, H⟩ := H
        refine r_div hcd rfl h3 h6 ?_
        refine e_nx hcd rfl rfl ?_
        exact r_iret hcd rfl rfl rfl H
    · replace H := H.2 hc
      refine e_nx hcd rfl rfl ?_
      exact r_iret hcd rfl rfl rfl H
/-! X11_greatestCommon -/
theorem v_159 {X : PX} {σ : Sg} {Q : Option PV → Sg → Prop} {a1 : Int} {a2 : Int}  (H : Ev X 159 6 [none, none, some (vI a1), some (vI a2), some (vI 0), none] [] σ Q) : Cl X 159 [vI a1, vI a2] σ Q := by
  have hcd : cds 159 = cd_159 := rfl
  refine c_in (Nat.le_of_ble_eq_true rfl) rfl rfl ?_
  show Ev X 159 0 [some (vI a1), some (vI a2), none, none, none, none] [] σ Q
  iterate 2 (refine e_nx hcd rfl rfl ?_)
  show Ev X 159 2 [some (vI a1), some (vI a2), some (vI a1), none, none, none] [] _ Q
  iterate 2 (refine e_nx hcd rfl rfl ?_)
  show Ev X 159 4 [some (vI a1), some (vI a2), some (vI a1), some (vI a2), none, none] [] _ Q
  iterate 2 (refine e_nx hcd rfl rfl ?_)
  show Ev X 159 6 [some (vI a1), some (vI a2), some (vI a1), some (vI a2), some (vI 0), none] [] _ Q
  refine e_fg [0, 1] ?_
  exact H
theorem v_159_6 {X : PX} {σ : Sg} {Q : Option PV → Sg → Prop} {x2 : Int} {x3 : Int} {x4 : Int}  (H : InR x4 ∧ (64 ≤ x4 → Q (some (vI x2)) σ) ∧ (¬ 64 ≤ x4 → InR x3 ∧ (x3 = 0 → Q (some (vI x2)) σ) ∧ (¬ x3 = 0 → (x3 ≠ 0) ∧ Ev X 159 6 [none, none, some (vI x3), some (vI (iRem x2 x3)), some (vI (x4 + 1)), none] [] σ Q))) : Ev X 159 6 [none, none, some (vI x2), some (vI x3), some (vI x4), none] [] σ Q := by
  have hcd : cds 159 = cd_159 := rfl
  iterate 2 (refine e_nx hcd rfl rfl ?_)
  obtain ⟨h1, H⟩ := H
  refine r_icmp hcd rfl h1 (by omega) (fun hc => ?_) (fun hc => ?_)
  · replace H := H.1 hc
    refine e_nx hcd rfl rfl ?_
    exact r_iret hcd rfl rfl rfl H
  · replace H := H.2 hc
    refine e_nx hcd rfl rfl ?_
    obtain ⟨h2, H⟩ := H
    refine r_if hcd rfl h2 (fun hc => ?_) (fun hc => ?_)
    · replace H := H.1 hc
      refine e_nx hcd rfl rfl ?_
      exact r_iret hcd rfl rfl rfl H
    · replace H := H.2 hc
      iterate 2 (refine e_nx hcd rfl rfl ?_)
      obtain ⟨h3, H⟩ := H
      refine r_rem hcd rfl h2 h3 ?_
      refine e_nx hcd rfl rfl ?_
      show Ev X 159 15 [none, none, some (vI x2), some (vI x3), some (vI x4), some (vI (iRem x2 x3))] [] _ Q
      iterate 2 (refine e_nx hcd rfl rfl ?_)
      show Ev X 159 17 [none, none, some (vI x3), some (vI x3), some (vI x4), some (vI (iRem x2 x3))] [] _ Q
      iterate 2 (refine e_nx hcd rfl rfl ?_)
      show Ev X 159 19 [none, none, some (vI x3), some (vI (iRem x2 x3)), some (vI x4), some (vI (iRem x2 x3))] [] _ Q
      refine e_nx hcd rfl rfl ?_
      show Ev X 159 20 [none, none, some (vI x3), some (vI (iRem x2 x3)), some (vI (x4 + 1)), some (vI (iRem x2 x3))] [] _ Q
      refine e_nx hcd rfl rfl ?_
      refine e_fg [5] ?_
      exact H
/-! X12_isIn -/
theorem v_161 {X : PX} {σ : Sg} {Q : Option PV → Sg → Prop} {a1 : Int} {a2 : Int} {a3 : Int}  (H : InR a1 ∧ InR a2 ∧ (a1 < a2 → Q (some (vI 0)) σ) ∧ (¬ a1 < a2 → InR a3 ∧ (a3 < a1 → Q (some (vI 0)) σ) ∧ (¬ a3 < a1 → Q (some (vI 1)) σ))) : Cl X 161 [vI a1, vI a2, vI a3] σ Q := by
  have hcd : cds 161 = cd_161 := rfl
  refine c_in (Nat.le_of_ble_eq_true rfl) rfl rfl ?_
  show Ev X 161 0 [some (vI a1), some (vI a2), some (vI a3)] [] σ Q
  iterate 2 (refine e_nx hcd rfl rfl ?_)
  obtain ⟨h1, H⟩ := H
  obtain ⟨h2, H⟩ := H
  refine r_icmp hcd rfl h1 h2 (fun hc => ?_) (fun hc => ?_)
  · replace H := H.1 hc
    refine e_nx hcd rfl rfl ?_
    exact r_zret hcd rfl rfl rfl (by omega) H
  · replace H := H.2 hc
    iterate 2 (refine e_nx hcd rfl rfl ?_)
    obtain ⟨h3, H⟩ := H
    refine r_icmp hcd rfl h1 h3 (fun hc => ?_) (fun hc => ?_)
    · replace H := H.1 hc
      refine e_nx hcd rfl rfl ?_
      exact r_zret hcd rfl rfl rfl (by omega) H
    · replace H := H.2 hc
      iterate 2 (refine e_nx hcd rfl rfl ?_)
      exact r_zret hcd rfl rfl rfl (by omega) H
