/-! X12_feed -/
theorem v_162 {X : PX} {σ : Sg} {Q : Option PV → Sg → Prop} {a1 : Int} {a2 : Int} {a3 : Int} {a4 : Int} {a5 : Int}  (H : InR ((σ.2 171 4) + 20) ∧ ((σ.2 171 4) + 20 ≤ 600 → Ev X 162 12 [some (vR (some 170)), some (vI a1), some (vI a2), some (vI a3), some (vI a4), some (vI a5), some (vI 0), none] [] σ Q) ∧ (¬ (σ.2 171 4) + 20 ≤ 600 → Q (some (vI (-1))) σ)) : Cl X 162 [vR (some 170), vI a1, vI a2, vI a3, vI a4, vI a5] σ Q := by
  have hcd : cds 162 = cd_162 := rfl
  refine c_in (Nat.le_of_ble_eq_true rfl) rfl rfl ?_
  show Ev X 162 0 [some (vR (some 170)), some (vI a1), some (vI a2), some (vI a3), some (vI a4), some (vI a5), none, none] [] σ Q
  refine e_nx hcd rfl rfl ?_
  refine r_getR hcd rfl rfl rfl ?_
  refine e_nx hcd rfl rfl ?_
  refine r_ild hcd rfl rfl (by omega) (by omega) ?_
  iterate 3 (refine e_nx hcd rfl rfl ?_)
  obtain ⟨h1, H⟩ := H
  refine r_icmp hcd rfl h1 (by omega) (fun hc => ?_) (fun hc => ?_)
  · replace H := H.1 hc
    iterate 2 (refine e_nx hcd rfl rfl ?_)
    show Ev X 162 12 [some (vR (some 170)), some (vI a1), some (vI a2), some (vI a3), some (vI a4), some (vI a5), some (vI 0), none] [] _ Q
    exact H
  · replace H := H.2 hc
    refine e_nx hcd rfl rfl ?_
    exact r_iret hcd rfl rfl rfl H
set_option maxRecDepth 20000 in
set_option maxHeartbeats 8000000 in
theorem v_162_12 {X : PX} {σ : Sg} {Q : Option PV → Sg → Prop} {x1 : Int} {x2 : Int} {x3 : Int} {x4 : Int} {x5 : Int} {x6 : Int}  (H : InR x6 ∧ (20 ≤ x6 → Q (some (vI (σ.2 171 4))) σ) ∧ (¬ 20 ≤ x6 → (4 ≤ x6 → (8 ≤ x6 → (12 ≤ x6 → (16 ≤ x6 → (0 ≤ 10 + (σ.2 171 4) ∧ 10 + (σ.2 171 4) < 3616) ∧ Ev X 162 12 [some (vR (some 170)), some (vI x1), some (vI x2), some (vI x3), some (vI x4), some (vI x5), some (vI (x6 + 1)), none] [] (σ.1, up2 (up2 σ.2 171 (10 + (σ.2 171 4)).toNat (iAnd (iShr x5 (24 - (8 * (iRem x6 4)))) 255)) 171 4 (((up2 σ.2 171 (10 + (σ.2 171 4)).toNat (iAnd (iShr x5 (24 - (8 * (iRem x6 4)))) 255)) 171 4) + 1)) Q) ∧ (¬ 16 ≤ x6 → (0 ≤ 10 + (σ.2 171 4) ∧ 10 + (σ.2 171 4) < 3616) ∧ Ev X 162 12 [some (vR (some 170)), some (vI x1), some (vI x2), some (vI x3), some (vI x4), some (vI x5), some (vI (x6 + 1)), none] [] (σ.1, up2 (up2 σ.2 171 (10 + (σ.2 171 4)).toNat (iAnd (iShr x4 (24 - (8 * (iRem x6 4)))) 255)) 171 4 (((up2 σ.2 171 (10 + (σ.2 171 4)).toNat (iAnd (iShr x4 (24 - (8 * (iRem x6 4)))) 255)) 171 4) + 1)) Q)) ∧ (¬ 12 ≤ x6 → (0 ≤ 10 + (σ.2 171 4) ∧ 10 + (σ.2 171 4) < 3616) ∧ Ev X 162 12 [some (vR (some 170)), some (vI x1), some (vI x2), some (vI x3), some (vI x4), some (vI x5), some (vI (x6 + 1)), none] [] (σ.1, up2 (up2 σ.2 171 (10 + (σ.2 171 4)).toNat (iAnd (iShr x3 (24 - (8 * (iRem x6 4)))) 255)) 171 4 (((up2 σ.2 171 (10 + (σ.2 171 4)).toNat (iAnd (iShr x3 (24 - (8 * (iRem x6 4)))) 255)) 171 4) + 1)) Q)) ∧ (¬ 8 ≤ x6 → (0 ≤ 10 + (σ.2 171 4) ∧ 10 + (σ.2 171 4) < 3616) ∧ Ev X 162 12 [some (vR (some 170)), some (vI x1), some (vI x2), some (vI x3), some (vI x4), some (vI x5), some (vI (x6 + 1)), none] [] (σ.1, up2 (up2 σ.2 171 (10 + (σ.2 171 4)).toNat (iAnd (iShr x2 (24 - (8 * (iRem x6 4)))) 255)) 171 4 (((up2 σ.2 171 (10 + (σ.2 171 4)).toNat (iAnd (iShr x2 (24 - (8 * (iRem x6 4)))) 255)) 171 4) + 1)) Q)) ∧ (¬ 4 ≤ x6 → (0 ≤ 10 + (σ.2 171 4) ∧ 10 + (σ.2 171 4) < 3616) ∧ Ev X 162 12 [some (vR (some 170)), some (vI x1), some (vI x2), some (vI x3), some (vI x4), some (vI x5), some (vI (x6 + 1)), none] [] (σ.1, up2 (up2 σ.2 171 (10 + (σ.2 171 4)).toNat (iAnd (iShr x1 (24 - (8 * (iRem x6 4)))) 255)) 171 4 (((up2 σ.2 171 (10 + (σ.2 171 4)).toNat (iAnd (iShr x1 (24 - (8 * (iRem x6 4)))) 255)) 171 4) + 1)) Q))) : Ev X 162 12 [some (vR (some 170)), some (vI x1), some (vI x2), some (vI x3), some (vI x4), some (vI x5), some (vI x6), none] [] σ Q := by
  have hcd : cds 162 = cd_162 := rfl
  iterate 2 (refine e_nx hcd rfl rfl ?_)
  obtain ⟨h1, H⟩ := H
  refine r_icmp hcd rfl h1 (by omega) (fun hc => ?_) (fun hc => ?_)
  · replace H := H.1 hc
    refine e_nx hcd rfl rfl ?_
    refine r_getR hcd rfl rfl rfl ?_
    refine e_nx hcd rfl rfl ?_
    refine r_ild hcd rfl rfl (by omega) (by omega) ?_
    exact r_iret hcd rfl rfl rfl H
  · replace H := H.2 hc
    iterate 2 (refine e_nx hcd rfl rfl ?_)
    refine r_icmp hcd rfl h1 (by omega) (fun hc => ?_) (fun hc => ?_)
    · replace H := H.1 hc
      iterate 2 (refine e_nx hcd rfl rfl ?_)
      refine r_icmp hcd rfl h1 (by omega) (fun hc => ?_) (fun hc => ?_)
      · replace H := H.1 hc
        iterate 2 (refine e_nx hcd rfl rfl ?_)
        refine r_icmp hcd rfl h1 (by omega) (fun hc => ?_) (fun hc => ?_)
        · replace H := H.1 hc
          iterate 2 (refine e_nx hcd rfl rfl ?_)
          refine r_icmp hcd rfl h1 (by omega) (fun hc => ?_) (fun hc => ?_)
          · replace H := H.1 hc
            iterate 2 (refine e_nx hcd rfl rfl ?_)
            show Ev X 162 37 [some (vR (some 170)), some (vI x1), some (vI x2), some (vI x3), some (vI x4), some (vI x5), some (vI x6), some (vI x5)] [] _ Q
            refine e_nx hcd rfl rfl ?_
            refine r_getR hcd rfl rfl rfl ?_
            iterate 2 (refine e_nx hcd rfl rfl ?_)
            refine r_getR hcd rfl rfl rfl ?_
            refine e_nx hcd rfl rfl ?_
            refine r_ild hcd rfl rfl (by omega) (by omega) ?_
            iterate 6 (refine e_nx hcd rfl rfl ?_)
            refine r_rem hcd rfl (by omega) (by omega) ?_
            iterate 5 (refine e_nx hcd rfl rfl ?_)
            obtain ⟨h2, H⟩ := H
            refine r_ist hcd rfl rfl (by omega) h2 ?_
            refine e_nx hcd rfl rfl ?_
            refine r_getR hcd rfl rfl rfl ?_
            iterate 2 (refine e_nx hcd rfl rfl ?_)
            refine r_ild hcd rfl rfl (by omega) (by omega) ?_
            iterate 2 (refine e_nx hcd rfl rfl ?_)
            refine r_ist hcd rfl rfl (by omega) (by omega) ?_
            refine e_nx hcd rfl rfl ?_
            show Ev X 162 66 [some (vR (some 170)), some (vI x1), some (vI x2), some (vI x3), some (vI x4), some (vI x5), some (vI (x6 + 1)), some (vI x5)] [] _ Q
            refine e_nx hcd rfl rfl ?_
            refine e_fg [7] ?_
            exact H
          · replace H := H.2 hc
            iterate 3 (refine e_nx hcd rfl rfl ?_)
            show Ev X 162 37 [some (vR (some 170)), some (vI x1), some (vI x2), some (vI x3), some (vI x4), some (vI x5), some (vI x6), some (vI x4)] [] _ Q
            refine e_nx hcd rfl rfl ?_
            refine r_getR hcd rfl rfl rfl ?_
            iterate 2 (refine e_nx hcd rfl rfl ?_)
            refine r_getR hcd rfl rfl rfl ?_
            refine e_nx hcd rfl rfl ?_
            refine r_ild hcd rfl rfl (by omega) (by omega) ?_
            iterate 6 (refine e_nx hcd rfl rfl ?_)
            refine r_rem hcd rfl (by omega) (by omega) ?_
            iterate 5 (refine e_nx hcd rfl rfl ?_)
            obtain ⟨h3, H⟩ := H
            refine r_ist hcd rfl rfl (by omega) h3 ?_
            refine e_nx hcd rfl rfl ?_
            refine r_getR hcd rfl rfl rfl ?_
            iterate 2 (refine e_nx hcd rfl rfl ?_)
            refine r_ild hcd rfl rfl (by omega) (by omega) ?_
            iterate 2 (refine e_nx hcd rfl rfl ?_)
            refine r_ist hcd rfl rfl (by omega) (by omega) ?_
            refine e_nx hcd rfl rfl ?_
            show Ev X 162 66 [some (vR (some 170)), some (vI x1), some (vI x2), some (vI x3), some (vI x4), some (vI x5), some (vI (x6 + 1)), some (vI x4)] [] _ Q
            refine e_nx hcd rfl rfl ?_
            refine e_fg [7] ?_
            exact H
        · replace H := H.2 hc
          iterate 3 (refine e_nx hcd rfl rfl ?_)
          show Ev X 162 37 [some (vR (some 170)), some (vI x1), some (vI x2), some (vI x3), some (vI x4), some (vI x5), some (vI x6), some (vI x3)] [] _ Q
          refine e_nx hcd rfl rfl ?_
          refine r_getR hcd rfl rfl rfl ?_
          iterate 2 (refine e_nx hcd rfl rfl ?_)
          refine r_getR hcd rfl rfl rfl ?_
          refine e_nx hcd rfl rfl ?_
          refine r_ild hcd rfl rfl (by omega) (by omega) ?_
          iterate 6 (refine e_nx hcd rfl rfl ?_)
          refine r_rem hcd rfl (by omega) (by omega) ?_
          iterate 5 (refine e_nx hcd rfl rfl ?_)
          obtain ⟨h4, H⟩ := H
          refine r_ist hcd rfl rfl (by omega) h4 ?_
          refine e_nx hcd rfl rfl ?_
          refine r_getR hcd rfl rfl rfl ?_
          iterate 2 (refine e_nx hcd rfl rfl ?_)
          refine r_ild hcd rfl rfl (by omega) (by omega) ?_
          iterate 2 (refine e_nx hcd rfl rfl ?_)
          refine r_ist hcd rfl rfl (by omega) (by omega) ?_
          refine e_nx hcd rfl rfl ?_
          show Ev X 162 66 [some (vR (some 170)), some (vI x1), some (vI x2), some (vI x3), some (vI x4), some (vI x5), some (vI (x6 + 1)), some (vI x3)] [] _ Q
          refine e_nx hcd rfl rfl ?_
          refine e_fg [7] ?_
          exact H
      · replace H := H.2 hc
        iterate 3 (refine e_nx hcd rfl rfl ?_)
        show Ev X 162 37 [some (vR (some 170)), some (vI x1), some (vI x2), some (vI x3), some (vI x4), some (vI x5), some (vI x6), some (vI x2)] [] _ Q
        refine e_nx hcd rfl rfl ?_
        refine r_getR hcd rfl rfl rfl ?_
        iterate 2 (refine e_nx hcd rfl rfl ?_)
        refine r_getR hcd rfl rfl rfl ?_
        refine e_nx hcd rfl rfl ?_
        refine r_ild hcd rfl rfl (by omega) (by omega) ?_
        iterate 6 (refine e_nx hcd rfl rfl ?_)
        refine r_rem hcd rfl (by omega) (by omega) ?_
        iterate 5 (refine e_nx hcd rfl rfl ?_)
        obtain ⟨h5, H⟩ := H
        refine r_ist hcd rfl rfl (by omega) h5 ?_
        refine e_nx hcd rfl rfl ?_
        refine r_getR hcd rfl rfl rfl ?_
        iterate 2 (refine e_nx hcd rfl rfl ?_)
        refine r_ild hcd rfl rfl (by omega) (by omega) ?_
        iterate 2 (refine e_nx hcd rfl rfl ?_)
        refine r_ist hcd rfl rfl (by omega) (by omega) ?_
        refine e_nx hcd rfl rfl ?_
        show Ev X 162 66 [some (vR (some 170)), some (vI x1), some (vI x2), some (vI x3), some (vI x4), some (vI x5), some (vI (x6 + 1)), some (vI x2)] [] _ Q
        refine e_nx hcd rfl rfl ?_
        refine e_fg [7] ?_
        exact H
    · replace H := H.2 hc
      iterate 3 (refine e_nx hcd rfl rfl ?_)
      show Ev X 162 37 [some (vR (some 170)), some (vI x1), some (vI x2), some (vI x3), some (vI x4), some (vI x5), some (vI x6), some (vI x1)] [] _ Q
      refine e_nx hcd rfl rfl ?_
      refine r_getR hcd rfl rfl rfl ?_
      iterate 2 (refine e_nx hcd rfl rfl ?_)
      refine r_getR hcd rfl rfl rfl ?_
      refine e_nx hcd rfl rfl ?_
      refine r_ild hcd rfl rfl (by omega) (by omega) ?_
      iterate 6 (refine e_nx hcd rfl rfl ?_)
      refine r_rem hcd rfl (by omega) (by omega) ?_
      iterate 5 (refine e_nx hcd rfl rfl ?_)
      obtain ⟨h6, H⟩ := H
      refine r_ist hcd rfl rfl (by omega) h6 ?_
      refine e_nx hcd rfl rfl ?_
      refine r_getR hcd rfl rfl rfl ?_
      iterate 2 (refine e_nx hcd rfl rfl ?_)
      refine r_ild hcd rfl rfl (by omega) (by omega) ?_
      iterate 2 (refine e_nx hcd rfl rfl ?_)
      refine r_ist hcd rfl rfl (by omega) (by omega) ?_
      refine e_nx hcd rfl rfl ?_
      show Ev X 162 66 [some (vR (some 170)), some (vI x1), some (vI x2), some (vI x3), some (vI x4), some (vI x5), some (vI (x6 + 1)), some (vI x1)] [] _ Q
      refine e_nx hcd rfl rfl ?_
      refine e_fg [7] ?_
      exact H
/-! X12_end -/
theorem v_163 {X : PX} {σ : Sg} {Q : Option PV → Sg → Prop} {a1 : Int}  (H : InR a1 ∧ (a1 < 0 → Q (some (vI (-1))) σ) ∧ (¬ a1 < 0 → InR (σ.2 171 4) ∧ (a1 ≤ σ.2 171 4 → Q (some (vI a1)) (σ.1, up2 σ.2 171 4 a1)) ∧ (¬ a1 ≤ σ.2 171 4 → Q (some (vI (-1))) σ))) : Cl X 163 [vR (some 170), vI a1] σ Q := by
  have hcd : cds 163 = cd_163 := rfl
  refine c_in (Nat.le_of_ble_eq_true rfl) rfl rfl ?_
  show Ev X 163 0 [some (vR (some 170)), some (vI a1)] [] σ Q
  refine e_nx hcd rfl rfl ?_
  obtain ⟨h1, H⟩ := H
  refine r_if hcd rfl h1 (fun hc => ?_) (fun hc => ?_)
  · replace H := H.1 hc
    refine e_nx hcd rfl rfl ?_
    exact r_iret hcd rfl rfl rfl H
  · replace H := H.2 hc
    iterate 2 (refine e_nx hcd rfl rfl ?_)
    refine r_getR hcd rfl rfl rfl ?_
    refine e_nx hcd rfl rfl ?_
    refine r_ild hcd rfl rfl (by omega) (by omega) ?_
    obtain ⟨h2, H⟩ := H
    refine r_icmp hcd rfl h1 h2 (fun hc => ?_) (fun hc => ?_)
    · replace H := H.1 hc
      refine e_nx hcd rfl rfl ?_
      refine r_getR hcd rfl rfl rfl ?_
      iterate 2 (refine e_nx hcd rfl rfl ?_)
      refine r_ist hcd rfl rfl (by omega) (by omega) ?_
      refine e_nx hcd rfl rfl ?_
      exact r_iret hcd rfl rfl rfl H
    · replace H := H.2 hc
      refine e_nx hcd rfl rfl ?_
      exact r_iret hcd rfl rfl rfl H
/-! X12_byteAt -/
theorem v_164 {X : PX} {σ : Sg} {Q : Option PV → Sg → Prop} {a1 : Int}  (H : InR a1 ∧ InR (σ.1 170 2) ∧ (σ.1 170 2 ≤ a1 → Q (some (vI (-1))) σ) ∧ (¬ σ.1 170 2 ≤ a1 → (0 ≤ 10 + a1 ∧ 10 + a1 < 3616) ∧ Q (some (vI (σ.2 171 (10 + a1).toNat))) σ)) : Cl X 164 [vR (some 170), vI a1] σ Q := by
  have hcd : cds 164 = cd_164 := rfl
  refine c_in (Nat.le_of_ble_eq_true rfl) rfl rfl ?_
  show Ev X 164 0 [some (vR (some 170)), some (vI a1)] [] σ Q
  iterate 2 (refine e_nx hcd rfl rfl ?_)
  refine r_getI hcd rfl rfl rfl ?_
  obtain ⟨h1, H⟩ := H
  obtain ⟨h2, H⟩ := H
  refine r_icmp hcd rfl h1 h2 (fun hc => ?_) (fun hc => ?_)
  · replace H := H.1 hc
    refine e_nx hcd rfl rfl ?_
    exact r_iret hcd rfl rfl rfl H
  · replace H := H.2 hc
    refine e_nx hcd rfl rfl ?_
    refine r_getR hcd rfl rfl rfl ?_
    iterate 3 (refine e_nx hcd rfl rfl ?_)
    obtain ⟨h3, H⟩ := H
    refine r_ild hcd rfl rfl (by omega) h3 ?_
    refine e_nx hcd rfl rfl ?_
    exact r_iret hcd rfl rfl rfl H
/-! X12_isLetter -/
theorem v_165 {X : PX} {σ : Sg} {Q : Option PV → Sg → Prop} {a1 : Int}  (H : InR a1 ∧ (a1 < 97 → Q (some (vI 0)) σ) ∧ (¬ a1 < 97 → (122 < a1 → Q (some (vI 0)) σ) ∧ (¬ 122 < a1 → Q (some (vI 1)) σ))) : Cl X 165 [vI a1] σ Q := by
  have hcd : cds 165 = cd_165 := rfl
  refine c_in (Nat.le_of_ble_eq_true rfl) rfl rfl ?_
  show Ev X 165 0 [some (vI a1)] [] σ Q
  iterate 2 (refine e_nx hcd rfl rfl ?_)
  obtain ⟨h1, H⟩ := H
  refine r_icmp hcd rfl h1 (by omega) (fun hc => ?_) (fun hc => ?_)
  · replace H := H.1 hc
    refine e_nx hcd rfl rfl ?_
    exact r_zret hcd rfl rfl rfl (by omega) H
  · replace H := H.2 hc
    iterate 2 (refine e_nx hcd rfl rfl ?_)
    refine r_icmp hcd rfl h1 (by omega) (fun hc => ?_) (fun hc => ?_)
    · replace H := H.1 hc
      refine e_nx hcd rfl rfl ?_
      exact r_zret hcd rfl rfl rfl (by omega) H
    · replace H := H.2 hc
      iterate 2 (refine e_nx hcd rfl rfl ?_)
      exact r_zret hcd rfl rfl rfl (by omega) H
/-! X12_isDigit -/
theorem v_166 {X : PX} {σ : Sg} {Q : Option PV → Sg → Prop} {a1 : Int}  (H : InR a1 ∧ (a1 < 48 → Q (some (vI 0)) σ) ∧ (¬ a1 < 48 → (57 < a1 → Q (some (vI 0)) σ) ∧ (¬ 57 < a1 → Q (some (vI 1)) σ))) : Cl X 166 [vI a1] σ Q := by
  have hcd : cds 166 = cd_166 := rfl
  refine c_in (Nat.le_of_ble_eq_true rfl) rfl rfl ?_
  show Ev X 166 0 [some (vI a1)] [] σ Q
  iterate 2 (refine e_nx hcd rfl rfl ?_)
  obtain ⟨h1, H⟩ := H
  refine r_icmp hcd rfl h1 (by omega) (fun hc => ?_) (fun hc => ?_)
  · replace H := H.1 hc
    refine e_nx hcd rfl rfl ?_
    exact r_zret hcd rfl rfl rfl (by omega) H
  · replace H := H.2 hc
    iterate 2 (refine e_nx hcd rfl rfl ?_)
    refine r_icmp hcd rfl h1 (by omega) (fun hc => ?_) (fun hc => ?_)
    · replace H := H.1 hc
      refine e_nx hcd rfl rfl ?_
      exact r_zret hcd rfl rfl rfl (by omega) H
    · replace H := H.2 hc
      iterate 2 (refine e_nx hcd rfl rfl ?_)
      exact r_zret hcd rfl rfl rfl (by omega) H
/-! X12_four -/
theorem v_167 {X : PX} {σ : Sg} {Q : Option PV → Sg → Prop} {a1 : Int} {a2 : Int} {a3 : Int} {a4 : Int}  (H : Q (some (vL (iI2l ((((((a1 * 32) + a2) * 32) + a3) * 32) + a4)))) σ) : Cl X 167 [vI a1, vI a2, vI a3, vI a4] σ Q := by
  have hcd : cds 167 = cd_167 := rfl
  refine c_in (Nat.le_of_ble_eq_true rfl) rfl rfl ?_
  show Ev X 167 0 [some (vI a1), some (vI a2), some (vI a3), some (vI a4)] [] σ Q
  iterate 14 (refine e_nx hcd rfl rfl ?_)
  exact r_lret hcd rfl rfl rfl H
/-! X12_eight -/
theorem v_168 {X : PX} {σ : Sg} {Q : Option PV → Sg → Prop} {a1 : Int} {a2 : Int} {a3 : Int} {a4 : Int} {a5 : Int} {a6 : Int} {a7 : Int} {a8 : Int}  (H : CG X 167 [vI a1, vI a2, vI a3, vI a4] σ (fun r1 τ1 => CG X 167 [vI a5, vI a6, vI a7, vI a8] τ1 (fun r2 τ2 => Q (some (vL ((r1 * 1048576) + r2))) τ2))) : Cl X 168 [vI a1, vI a2, vI a3, vI a4, vI a5, vI a6, vI a7, vI a8] σ Q := by
  have hcd : cds 168 = cd_168 := rfl
  refine c_in (Nat.le_of_ble_eq_true rfl) rfl rfl ?_
  show Ev X 168 0 [some (vI a1), some (vI a2), some (vI a3), some (vI a4), some (vI a5), some (vI a6), some (vI a7), some (vI a8)] [] σ Q
  iterate 4 (refine e_nx hcd rfl rfl ?_)
  refine r_cs hcd rfl (by omega) (Nat.le_of_ble_eq_true rfl) rfl rfl (Nat.le_of_ble_eq_true rfl) ?_
  refine Cl.mono H (fun v τ1 hq => ?_)
  obtain ⟨r1, rfl, H⟩ := hq
  show Ev X 168 5 _ [vL r1] τ1 Q
  iterate 6 (refine e_nx hcd rfl rfl ?_)
  refine r_cs hcd rfl (by omega) (Nat.le_of_ble_eq_true rfl) rfl rfl (Nat.le_of_ble_eq_true rfl) ?_
  refine Cl.mono H (fun v τ2 hq => ?_)
  obtain ⟨r2, rfl, H⟩ := hq
  show Ev X 168 12 _ [vL r2, vL (r1 * 1048576)] τ2 Q
  refine e_nx hcd rfl rfl ?_
  exact r_lret hcd rfl rfl rfl H
/-! X12_wordOf -/
set_option maxRecDepth 20000 in
set_option maxHeartbeats 8000000 in
theorem v_169 {X : PX} {σ : Sg} {Q : Option PV → Sg → Prop} {a1 : Int}  (H : CG X 168 [vI 0, vI 0, vI 15, vI 6, vI 6, vI 9, vI 3, vI 5] σ (fun r1 τ1 => InR (lCmp a1 r1) ∧ (lCmp a1 r1 ≠ 0 → CG X 168 [vI 0, vI 0, vI 0, vI 8, vI 15, vI 21, vI 19, vI 5] τ1 (fun r3 τ2 => InR (lCmp a1 r3) ∧ (lCmp a1 r3 ≠ 0 → CG X 167 [vI 0, vI 20, vI 9, vI 5] τ2 (fun r5 τ3 => InR (lCmp a1 r5) ∧ (lCmp a1 r5 ≠ 0 → CG X 167 [vI 16, vI 1, vI 3, vI 20] τ3 (fun r7 τ4 => InR (lCmp a1 r7) ∧ (lCmp a1 r7 ≠ 0 → CG X 168 [vI 0, vI 0, vI 0, vI 17, vI 21, vI 15, vI 20, vI 1] τ4 (fun r9 τ5 => InR (lCmp a1 r9) ∧ (lCmp a1 r9 ≠ 0 → CG X 168 [vI 0, vI 0, vI 0, vI 16, vI 18, vI 9, vI 3, vI 5] τ5 (fun r11 τ6 => InR (lCmp a1 r11) ∧ (lCmp a1 r11 ≠ 0 → CG X 167 [vI 25, vI 5, vI 1, vI 18] τ6 (fun r13 τ7 => InR (lCmp a1 r13) ∧ (lCmp a1 r13 ≠ 0 → CG X 167 [vI 0, vI 2, vI 21, vI 25] τ7 (fun r15 τ8 => InR (lCmp a1 r15) ∧ (lCmp a1 r15 ≠ 0 → CG X 167 [vI 12, vI 15, vI 19, vI 5] τ8 (fun r17 τ9 => InR (lCmp a1 r17) ∧ (lCmp a1 r17 ≠ 0 → CG X 167 [vI 0, vI 3, vI 21, vI 20] τ9 (fun r19 τ10 => InR (lCmp a1 r19) ∧ (lCmp a1 r19 ≠ 0 → CG X 167 [vI 16, vI 1, vI 9, vI 4] τ10 (fun r21 τ11 => InR (lCmp a1 r21) ∧ (lCmp a1 r21 ≠ 0 → Q (some (vI 99)) τ11) ∧ (¬ lCmp a1 r21 ≠ 0 → Q (some (vI 11)) τ11))) ∧ (¬ lCmp a1 r19 ≠ 0 → Q (some (vI 10)) τ10))) ∧ (¬ lCmp a1 r17 ≠ 0 → Q (some (vI 9)) τ9))) ∧ (¬ lCmp a1 r15 ≠ 0 → Q (some (vI 8)) τ8))) ∧ (¬ lCmp a1 r13 ≠ 0 → Q (some (vI 7)) τ7))) ∧ (¬ lCmp a1 r11 ≠ 0 → Q (some (vI 6)) τ6))) ∧ (¬ lCmp a1 r9 ≠ 0 → Q (some (vI 5)) τ5))) ∧ (¬ lCmp a1 r7 ≠ 0 → Q (some (vI 4)) τ4))) ∧ (¬ lCmp a1 r5 ≠ 0 → Q (some (vI 3)) τ3))) ∧ (¬ lCmp a1 r3 ≠ 0 → Q (some (vI 2)) τ2))) ∧ (¬ lCmp a1 r1 ≠ 0 → Q (some (vI 1)) τ1))) : Cl X 169 [vL a1] σ Q := by
  have hcd : cds 169 = cd_169 := rfl
  refine c_in (Nat.le_of_ble_eq_true rfl) rfl rfl ?_
  show Ev X 169 0 [some (vL a1), none] [] σ Q
  iterate 9 (refine e_nx hcd rfl rfl ?_)
  refine r_cs hcd rfl (by omega) (Nat.le_of_ble_eq_true rfl) rfl rfl (Nat.le_of_ble_eq_true rfl) ?_
  refine Cl.mono H (fun v τ1 hq => ?_)
  obtain ⟨r1, rfl, H⟩ := hq
  show Ev X 169 10 _ [vL r1, vL a1] τ1 Q
  refine e_nx hcd rfl rfl ?_
  obtain ⟨h2, H⟩ := H
  refine r_if hcd rfl h2 (fun hc => ?_) (fun hc => ?_)
  · replace H := H.1 hc
    iterate 9 (refine e_nx hcd rfl rfl ?_)
    refine r_cs hcd rfl (by omega) (Nat.le_of_ble_eq_true rfl) rfl rfl (Nat.le_of_ble_eq_true rfl) ?_
    refine Cl.mono H (fun v τ2 hq => ?_)
    obtain ⟨r3, rfl, H⟩ := hq
    show Ev X 169 24 _ [vL r3, vL a1] τ2 Q
    refine e_nx hcd rfl rfl ?_
    obtain ⟨h4, H⟩ := H
    refine r_if hcd rfl h4 (fun hc => ?_) (fun hc => ?_)
    · replace H := H.1 hc
      iterate 5 (refine e_nx hcd rfl rfl ?_)
      refine r_cs hcd rfl (by omega) (Nat.le_of_ble_eq_true rfl) rfl rfl (Nat.le_of_ble_eq_true rfl) ?_
      refine Cl.mono H (fun v τ3 hq => ?_)
      obtain ⟨r5, rfl, H⟩ := hq
      show Ev X 169 34 _ [vL r5, vL a1] τ3 Q
      refine e_nx hcd rfl rfl ?_
      obtain ⟨h6, H⟩ := H
      refine r_if hcd rfl h6 (fun hc => ?_) (fun hc => ?_)
      · replace H := H.1 hc
        iterate 5 (refine e_nx hcd rfl rfl ?_)
        refine r_cs hcd rfl (by omega) (Nat.le_of_ble_eq_true rfl) rfl rfl (Nat.le_of_ble_eq_true rfl) ?_
        refine Cl.mono H (fun v τ4 hq => ?_)
        obtain ⟨r7, rfl, H⟩ := hq
        show Ev X 169 44 _ [vL r7, vL a1] τ4 Q
        refine e_nx hcd rfl rfl ?_
        obtain ⟨h8, H⟩ := H
        refine r_if hcd rfl h8 (fun hc => ?_) (fun hc => ?_)
        · replace H := H.1 hc
          iterate 9 (refine e_nx hcd rfl rfl ?_)
          refine r_cs hcd rfl (by omega) (Nat.le_of_ble_eq_true rfl) rfl rfl (Nat.le_of_ble_eq_true rfl) ?_
          refine Cl.mono H (fun v τ5 hq => ?_)
          obtain ⟨r9, rfl, H⟩ := hq
          show Ev X 169 58 _ [vL r9, vL a1] τ5 Q
          refine e_nx hcd rfl rfl ?_
          obtain ⟨h10, H⟩ := H
          refine r_if hcd rfl h10 (fun hc => ?_) (fun hc => ?_)
          · replace H := H.1 hc
            iterate 9 (refine e_nx hcd rfl rfl ?_)
            refine r_cs hcd rfl (by omega) (Nat.le_of_ble_eq_true rfl) rfl rfl (Nat.le_of_ble_eq_true rfl) ?_
            refine Cl.mono H (fun v τ6 hq => ?_)
            obtain ⟨r11, rfl, H⟩ := hq
            show Ev X 169 72 _ [vL r11, vL a1] τ6 Q
            refine e_nx hcd rfl rfl ?_
            obtain ⟨h12, H⟩ := H
            refine r_if hcd rfl h12 (fun hc => ?_) (fun hc => ?_)
            · replace H := H.1 hc
              iterate 5 (refine e_nx hcd rfl rfl ?_)
              refine r_cs hcd rfl (by omega) (Nat.le_of_ble_eq_true rfl) rfl rfl (Nat.le_of_ble_eq_true rfl) ?_
              refine Cl.mono H (fun v τ7 hq => ?_)
              obtain ⟨r13, rfl, H⟩ := hq
              show Ev X 169 82 _ [vL r13, vL a1] τ7 Q
              refine e_nx hcd rfl rfl ?_
              obtain ⟨h14, H⟩ := H
              refine r_if hcd rfl h14 (fun hc => ?_) (fun hc => ?_)
              · replace H := H.1 hc
                iterate 5 (refine e_nx hcd rfl rfl ?_)
                refine r_cs hcd rfl (by omega) (Nat.le_of_ble_eq_true rfl) rfl rfl (Nat.le_of_ble_eq_true rfl) ?_
                refine Cl.mono H (fun v τ8 hq => ?_)
                obtain ⟨r15, rfl, H⟩ := hq
                show Ev X 169 92 _ [vL r15, vL a1] τ8 Q
                refine e_nx hcd rfl rfl ?_
                obtain ⟨h16, H⟩ := H
                refine r_if hcd rfl h16 (fun hc => ?_) (fun hc => ?_)
                · replace H := H.1 hc
                  iterate 5 (refine e_nx hcd rfl rfl ?_)
                  refine r_cs hcd rfl (by omega) (Nat.le_of_ble_eq_true rfl) rfl rfl (Nat.le_of_ble_eq_true rfl) ?_
                  refine Cl.mono H (fun v τ9 hq => ?_)
                  obtain ⟨r17, rfl, H⟩ := hq
                  show Ev X 169 102 _ [vL r17, vL a1] τ9 Q
                  refine e_nx hcd rfl rfl ?_
                  obtain ⟨h18, H⟩ := H
                  refine r_if hcd rfl h18 (fun hc => ?_) (fun hc => ?_)
                  · replace H := H.1 hc
                    iterate 5 (refine e_nx hcd rfl rfl ?_)
                    refine r_cs hcd rfl (by omega) (Nat.le_of_ble_eq_true rfl) rfl rfl (Nat.le_of_ble_eq_true rfl) ?_
                    refine Cl.mono H (fun v τ10 hq => ?_)
                    obtain ⟨r19, rfl, H⟩ := hq
                    show Ev X 169 112 _ [vL r19, vL a1] τ10 Q
                    refine e_nx hcd rfl rfl ?_
                    obtain ⟨h20, H⟩ := H
                    refine r_if hcd rfl h20 (fun hc => ?_) (fun hc => ?_)
                    · replace H := H.1 hc
                      iterate 5 (refine e_nx hcd rfl rfl ?_)
                      refine r_cs hcd rfl (by omega) (Nat.le_of_ble_eq_true rfl) rfl rfl (Nat.le_of_ble_eq_true rfl) ?_
                      refine Cl.mono H (fun v τ11 hq => ?_)
                      obtain ⟨r21, rfl, H⟩ := hq
                      show Ev X 169 122 _ [vL r21, vL a1] τ11 Q
                      refine e_nx hcd rfl rfl ?_
                      obtain ⟨h22, H⟩ := H
                      refine r_if hcd rfl h22 (fun hc => ?_) (fun hc => ?_)
                      · replace H := H.1 hc
                        refine e_nx hcd rfl rfl ?_
                        exact r_iret hcd rfl rfl rfl H
                      · replace H := H.2 hc
                        iterate 2 (refine e_nx hcd rfl rfl ?_)
                        exact r_iret hcd rfl rfl rfl H
                    · replace H := H.2 hc
                      refine e_nx hcd rfl rfl ?_
                      exact r_iret hcd rfl rfl rfl H
                  · replace H := H.2 hc
                    refine e_nx hcd rfl rfl ?_
                    exact r_iret hcd rfl rfl rfl H
                · replace H := H.2 hc
                  refine e_nx hcd rfl rfl ?_
                  exact r_iret hcd rfl rfl rfl H
              · replace H := H.2 hc
                refine e_nx hcd rfl rfl ?_
                exact r_iret hcd rfl rfl rfl H
            · replace H := H.2 hc
              refine e_nx hcd rfl rfl ?_
              exact r_iret hcd rfl rfl rfl H
          · replace H := H.2 hc
            refine e_nx hcd rfl rfl ?_
            exact r_iret hcd rfl rfl rfl H
        · replace H := H.2 hc
          refine e_nx hcd rfl rfl ?_
          exact r_iret hcd rfl rfl rfl H
      · replace H := H.2 hc
        refine e_nx hcd rfl rfl ?_
        exact r_iret hcd rfl rfl rfl H
    · replace H := H.2 hc
      refine e_nx hcd rfl rfl ?_
      exact r_iret hcd rfl rfl rfl H
  · replace H := H.2 hc
    refine e_nx hcd rfl rfl ?_
    exact r_iret hcd rfl rfl rfl H
/-! X12_advance -/
theorem v_170 {X : PX} {σ : Sg} {Q : Option PV → Sg → Prop}   (H : Ev X 170 0 [some (vR (some 170)), none, none, none] [] σ Q) : Cl X 170 [vR (some 170)] σ Q := by
  have hcd : cds 170 = cd_170 := rfl
  refine c_in (Nat.le_of_ble_eq_true rfl) rfl rfl ?_
  show Ev X 170 0 [some (vR (some 170)), none, none, none] [] σ Q
  exact H
set_option maxRecDepth 20000 in
set_option maxHeartbeats 8000000 in
theorem v_170_0 {X : PX} {σ : Sg} {Q : Option PV → Sg → Prop}   (H : CI X 164 [vR (some 170), vI (σ.1 170 3)] σ (fun r1 τ1 => InR r1 ∧ (r1 = 10 → Ev X 170 0 [some (vR (some 170)), none, none, none] [] (up2 τ1.1 170 3 ((τ1.1 170 3) + 1), τ1.2) Q) ∧ (¬ r1 = 10 → CI X 164 [vR (some 170), vI (τ1.1 170 3)] τ1 (fun r3 τ2 => InR r3 ∧ (r3 ≠ 32 → CI X 164 [vR (some 170), vI (τ2.1 170 3)] (up2 τ2.1 170 4 (τ2.1 170 3), τ2.2) (fun r5 τ3 => InR r5 ∧ (0 ≤ r5 → CI X 165 [vI r5] τ3 (fun r7 τ4 => InR r7 ∧ (r7 = 0 → CI X 166 [vI r5] τ4 (fun r9 τ5 => InR r9 ∧ (r9 = 0 → (r5 ≠ 59 → Q none (up2 (up2 τ5.1 170 3 ((τ5.1 170 3) + 1)) 170 5 4, τ5.2)) ∧ (¬ r5 ≠ 59 → Q none (up2 (up2 τ5.1 170 3 ((τ5.1 170 3) + 1)) 170 5 2, τ5.2))) ∧ (¬ r9 = 0 → Ev X 170 100 [some (vR (some 170)), none, none, none] [] (up2 τ5.1 170 6 0, τ5.2) Q))) ∧ (¬ r7 = 0 → Ev X 170 39 [some (vR (some 170)), none, some (vL 0), none] [] τ4 Q))) ∧ (¬ 0 ≤ r5 → Q none (up2 τ3.1 170 5 0, τ3.2)))) ∧ (¬ r3 ≠ 32 → Ev X 170 0 [some (vR (some 170)), none, none, none] [] (up2 τ2.1 170 3 ((τ2.1 170 3) + 1), τ2.2) Q))))) : Ev X 170 0 [some (vR (some 170)), none, none, none] [] σ Q := by
  have hcd : cds 170 = cd_170 := rfl
  iterate 2 (refine e_nx hcd rfl rfl ?_)
  refine r_getI hcd rfl rfl rfl ?_
  refine r_cv hcd rfl (by omega) rfl rfl rfl (Nat.le_of_ble_eq_true rfl) ?_
  refine Cl.mono H (fun v τ1 hq => ?_)
  obtain ⟨r1, rfl, H⟩ := hq
  show Ev X 170 4 _ [vI r1] τ1 Q
  refine e_nx hcd rfl rfl ?_
  obtain ⟨h2, H⟩ := H
  refine r_icmp hcd rfl h2 (by omega) (fun hc => ?_) (fun hc => ?_)
  · replace H := H.1 hc
    iterate 2 (refine e_nx hcd rfl rfl ?_)
    refine r_getI hcd rfl rfl rfl ?_
    iterate 2 (refine e_nx hcd rfl rfl ?_)
    refine r_putI hcd rfl rfl rfl rfl ?_
    refine e_nx hcd rfl rfl ?_
    exact H
  · replace H := H.2 hc
    iterate 2 (refine e_nx hcd rfl rfl ?_)
    refine r_getI hcd rfl rfl rfl ?_
    refine r_cv hcd rfl (by omega) rfl rfl rfl (Nat.le_of_ble_eq_true rfl) ?_
    refine Cl.mono H (fun v τ2 hq => ?_)
    obtain ⟨r3, rfl, H⟩ := hq
    show Ev X 170 10 _ [vI r3] τ2 Q
    refine e_nx hcd rfl rfl ?_
    obtain ⟨h4, H⟩ := H
    refine r_icmp hcd rfl h4 (by omega) (fun hc => ?_) (fun hc => ?_)
    · replace H := H.1 hc
      iterate 2 (refine e_nx hcd rfl rfl ?_)
      refine r_getI hcd rfl rfl rfl ?_
      refine r_putI hcd rfl rfl rfl rfl ?_
      iterate 2 (refine e_nx hcd rfl rfl ?_)
      refine r_getI hcd rfl rfl rfl ?_
      show Ev X 170 26 _ [vI (τ2.1 170 3), vR (some 170)] _ Q
      refine r_cv hcd rfl (by omega) rfl rfl rfl (Nat.le_of_ble_eq_true rfl) ?_
      refine Cl.mono H (fun v τ3 hq => ?_)
      obtain ⟨r5, rfl, H⟩ := hq
      show Ev X 170 27 _ [vI r5] τ3 Q
      refine e_nx hcd rfl rfl ?_
      show Ev X 170 28 [some (vR (some 170)), some (vI r5), none, none] [] _ Q
      refine e_nx hcd rfl rfl ?_
      obtain ⟨h6, H⟩ := H
      refine r_if hcd rfl h6 (fun hc => ?_) (fun hc => ?_)
      · replace H := H.1 hc
        refine e_nx hcd rfl rfl ?_
        refine r_cs hcd rfl (by omega) (Nat.le_of_ble_eq_true rfl) rfl rfl (Nat.le_of_ble_eq_true rfl) ?_
        refine Cl.mono H (fun v τ4 hq => ?_)
        obtain ⟨r7, rfl, H⟩ := hq
        show Ev X 170 36 _ [vI r7] τ4 Q
        obtain ⟨h8, H⟩ := H
        refine r_if hcd rfl h8 (fun hc => ?_) (fun hc => ?_)
        · replace H := H.1 hc
          refine e_nx hcd rfl rfl ?_
          refine r_cs hcd rfl (by omega) (Nat.le_of_ble_eq_true rfl) rfl rfl (Nat.le_of_ble_eq_true rfl) ?_
          refine Cl.mono H (fun v τ5 hq => ?_)
          obtain ⟨r9, rfl, H⟩ := hq
          show Ev X 170 96 _ [vI r9] τ5 Q
          obtain ⟨h10, H⟩ := H
          refine r_if hcd rfl h10 (fun hc => ?_) (fun hc => ?_)
          · replace H := H.1 hc
            iterate 2 (refine e_nx hcd rfl rfl ?_)
            refine r_getI hcd rfl rfl rfl ?_
            iterate 2 (refine e_nx hcd rfl rfl ?_)
            refine r_putI hcd rfl rfl rfl rfl ?_
            iterate 3 (refine e_nx hcd rfl rfl ?_)
            refine r_icmp hcd rfl h6 (by omega) (fun hc => ?_) (fun hc => ?_)
            · replace H := H.1 hc
              refine e_nx hcd rfl rfl ?_
              refine r_putI hcd rfl rfl rfl rfl ?_
              exact r_vret hcd rfl rfl rfl H
            · replace H := H.2 hc
              iterate 2 (refine e_nx hcd rfl rfl ?_)
              refine r_putI hcd rfl rfl rfl rfl ?_
              exact r_vret hcd rfl rfl rfl H
          · replace H := H.2 hc
            iterate 2 (refine e_nx hcd rfl rfl ?_)
            refine r_putI hcd rfl rfl rfl rfl ?_
            refine e_fg [1] ?_
            exact H
        · replace H := H.2 hc
          iterate 2 (refine e_nx hcd rfl rfl ?_)
          show Ev X 170 39 [some (vR (some 170)), some (vI r5), some (vL 0), none] [] _ Q
          refine e_fg [1] ?_
          exact H
      · replace H := H.2 hc
        iterate 2 (refine e_nx hcd rfl rfl ?_)
        refine r_putI hcd rfl rfl rfl rfl ?_
        refine e_nx hcd rfl rfl ?_
        exact r_vret hcd rfl rfl rfl H
    · replace H := H.2 hc
      iterate 2 (refine e_nx hcd rfl rfl ?_)
      refine r_getI hcd rfl rfl rfl ?_
      iterate 2 (refine e_nx hcd rfl rfl ?_)
      refine r_putI hcd rfl rfl rfl rfl ?_
      refine e_nx hcd rfl rfl ?_
      exact H
set_option maxRecDepth 20000 in
set_option maxHeartbeats 8000000 in
theorem v_170_39 {X : PX} {σ : Sg} {Q : Option PV → Sg → Prop} {x2 : Int}  (H : CI X 164 [vR (some 170), vI (σ.1 170 3)] σ (fun r1 τ1 => CI X 165 [vI r1] τ1 (fun r2 τ2 => InR r2 ∧ (r2 = 0 → InR ((τ2.1 170 3) - (τ2.1 170 4)) ∧ ((τ2.1 170 3) - (τ2.1 170 4) ≤ 8 → CI X 169 [vL x2] τ2 (fun r5 τ3 => InR r5 ∧ (r5 ≠ 99 → Q none (up2 (up2 τ3.1 170 7 r5) 170 5 3, τ3.2)) ∧ (¬ r5 ≠ 99 → Q none (up2 (up2 τ3.1 170 7 r5) 170 5 4, τ3.2)))) ∧ (¬ (τ2.1 170 3) - (τ2.1 170 4) ≤ 8 → Q none (up2 (up2 τ2.1 170 7 99) 170 5 4, τ2.2))) ∧ (¬ r2 = 0 → InR ((τ2.1 170 3) - (τ2.1 170 4)) ∧ (8 ≤ (τ2.1 170 3) - (τ2.1 170 4) → Ev X 170 39 [some (vR (some 170)), none, some (vL x2), none] [] (up2 τ2.1 170 3 ((τ2.1 170 3) + 1), τ2.2) Q) ∧ (¬ 8 ≤ (τ2.1 170 3) - (τ2.1 170 4) → CI X 164 [vR (some 170), vI (τ2.1 170 3)] τ2 (fun r8 τ4 => Ev X 170 39 [some (vR (some 170)), none, some (vL (((32 * x2) + (iI2l r8)) - 96)), none] [] (up2 τ4.1 170 3 ((τ4.1 170 3) + 1), τ4.2) Q)))))) : Ev X 170 39 [some (vR (some 170)), none, some (vL x2), none] [] σ Q := by
  have hcd : cds 170 = cd_170 := rfl
  iterate 2 (refine e_nx hcd rfl rfl ?_)
  refine r_getI hcd rfl rfl rfl ?_
  refine r_cv hcd rfl (by omega) rfl rfl rfl (Nat.le_of_ble_eq_true rfl) ?_
  refine Cl.mono H (fun v τ1 hq => ?_)
  obtain ⟨r1, rfl, H⟩ := hq
  show Ev X 170 43 _ [vI r1] τ1 Q
  refine r_cs hcd rfl (by omega) (Nat.le_of_ble_eq_true rfl) rfl rfl (Nat.le_of_ble_eq_true rfl) ?_
  refine Cl.mono H (fun v τ2 hq => ?_)
  obtain ⟨r2, rfl, H⟩ := hq
  show Ev X 170 44 _ [vI r2] τ2 Q
  obtain ⟨h3, H⟩ := H
  refine r_if hcd rfl h3 (fun hc => ?_) (fun hc => ?_)
  · replace H := H.1 hc
    iterate 2 (refine e_nx hcd rfl rfl ?_)
    refine r_getI hcd rfl rfl rfl ?_
    refine e_nx hcd rfl rfl ?_
    refine r_getI hcd rfl rfl rfl ?_
    iterate 2 (refine e_nx hcd rfl rfl ?_)
    obtain ⟨h4, H⟩ := H
    refine r_icmp hcd rfl h4 (by omega) (fun hc => ?_) (fun hc => ?_)
    · replace H := H.1 hc
      refine e_nx hcd rfl rfl ?_
      refine r_cs hcd rfl (by omega) (Nat.le_of_ble_eq_true rfl) rfl rfl (Nat.le_of_ble_eq_true rfl) ?_
      refine Cl.mono H (fun v τ3 hq => ?_)
      obtain ⟨r5, rfl, H⟩ := hq
      show Ev X 170 83 _ [vI r5, vR (some 170)] τ3 Q
      refine r_putI hcd rfl rfl rfl rfl ?_
      iterate 2 (refine e_nx hcd rfl rfl ?_)
      refine r_getI hcd rfl rfl rfl ?_
      show Ev X 170 87 _ [vI r5, vR (some 170)] _ Q
      refine e_nx hcd rfl rfl ?_
      obtain ⟨h6, H⟩ := H
      refine r_icmp hcd rfl h6 (by omega) (fun hc => ?_) (fun hc => ?_)
      · replace H := H.1 hc
        refine e_nx hcd rfl rfl ?_
        refine r_putI hcd rfl rfl rfl rfl ?_
        refine e_nx hcd rfl rfl ?_
        exact r_vret hcd rfl rfl rfl H
      · replace H := H.2 hc
        iterate 2 (refine e_nx hcd rfl rfl ?_)
        refine r_putI hcd rfl rfl rfl rfl ?_
        refine e_nx hcd rfl rfl ?_
        exact r_vret hcd rfl rfl rfl H
    · replace H := H.2 hc
      iterate 2 (refine e_nx hcd rfl rfl ?_)
      refine r_putI hcd rfl rfl rfl rfl ?_
      iterate 2 (refine e_nx hcd rfl rfl ?_)
      refine r_getI hcd rfl rfl rfl ?_
      show Ev X 170 87 _ [vI 99, vR (some 170)] _ Q
      refine e_nx hcd rfl rfl ?_
      refine r_icmp hcd rfl (by omega) (by omega) (fun hc => ?_) (fun hc => ?_)
      · exact absurd hc (by simp [cmpP])
      · refine e_nx hcd rfl rfl ?_
        refine e_nx hcd rfl rfl ?_
        refine r_putI hcd rfl rfl rfl rfl ?_
        refine e_nx hcd rfl rfl ?_
        exact r_vret hcd rfl rfl rfl H
  · replace H := H.2 hc
    refine e_nx hcd rfl rfl ?_
    refine r_getI hcd rfl rfl rfl ?_
    refine e_nx hcd rfl rfl ?_
    refine r_getI hcd rfl rfl rfl ?_
    iterate 2 (refine e_nx hcd rfl rfl ?_)
    obtain ⟨h7, H⟩ := H
    refine r_icmp hcd rfl h7 (by omega) (fun hc => ?_) (fun hc => ?_)
    · replace H := H.1 hc
      iterate 2 (refine e_nx hcd rfl rfl ?_)
      refine r_getI hcd rfl rfl rfl ?_
      iterate 2 (refine e_nx hcd rfl rfl ?_)
      refine r_putI hcd rfl rfl rfl rfl ?_
      refine e_nx hcd rfl rfl ?_
      exact H
    · replace H := H.2 hc
      iterate 5 (refine e_nx hcd rfl rfl ?_)
      refine r_getI hcd rfl rfl rfl ?_
      refine r_cv hcd rfl (by omega) rfl rfl rfl (Nat.le_of_ble_eq_true rfl) ?_
      refine Cl.mono H (fun v τ4 hq => ?_)
      obtain ⟨r8, rfl, H⟩ := hq
      show Ev X 170 59 _ [vI r8, vL (32 * x2)] τ4 Q
      iterate 5 (refine e_nx hcd rfl rfl ?_)
      show Ev X 170 64 [some (vR (some 170)), none, some (vL (((32 * x2) + (iI2l r8)) - 96)), none] [] _ Q
      iterate 2 (refine e_nx hcd rfl rfl ?_)
      refine r_getI hcd rfl rfl rfl ?_
      iterate 2 (refine e_nx hcd rfl rfl ?_)
      refine r_putI hcd rfl rfl rfl rfl ?_
      refine e_nx hcd rfl rfl ?_
      exact H
set_option maxRecDepth 20000 in
set_option maxHeartbeats 8000000 in
theorem v_170_100 {X : PX} {σ : Sg} {Q : Option PV → Sg → Prop}   (H : CI X 164 [vR (some 170), vI (σ.1 170 3)] σ (fun r1 τ1 => CI X 166 [vI r1] τ1 (fun r2 τ2 => InR r2 ∧ (r2 = 0 → InR ((τ2.1 170 3) - (τ2.1 170 4)) ∧ ((τ2.1 170 3) - (τ2.1 170 4) ≤ 2 → Q none (up2 τ2.1 170 5 1, τ2.2)) ∧ (¬ (τ2.1 170 3) - (τ2.1 170 4) ≤ 2 → Q none (up2 τ2.1 170 5 4, τ2.2))) ∧ (¬ r2 = 0 → InR ((τ2.1 170 3) - (τ2.1 170 4)) ∧ (2 ≤ (τ2.1 170 3) - (τ2.1 170 4) → Ev X 170 100 [some (vR (some 170)), none, none, none] [] (up2 τ2.1 170 3 ((τ2.1 170 3) + 1), τ2.2) Q) ∧ (¬ 2 ≤ (τ2.1 170 3) - (τ2.1 170 4) → CI X 164 [vR (some 170), vI (τ2.1 170 3)] τ2 (fun r6 τ3 => Ev X 170 100 [some (vR (some 170)), none, none, none] [] (up2 (up2 τ3.1 170 6 (((10 * (τ2.1 170 6)) + r6) - 48)) 170 3 ((τ3.1 170 3) + 1), τ3.2) Q)))))) : Ev X 170 100 [some (vR (some 170)), none, none, none] [] σ Q := by
  have hcd : cds 170 = cd_170 := rfl
  iterate 2 (refine e_nx hcd rfl rfl ?_)
  refine r_getI hcd rfl rfl rfl ?_
  refine r_cv hcd rfl (by omega) rfl rfl rfl (Nat.le_of_ble_eq_true rfl) ?_
  refine Cl.mono H (fun v τ1 hq => ?_)
  obtain ⟨r1, rfl, H⟩ := hq
  show Ev X 170 104 _ [vI r1] τ1 Q
  refine r_cs hcd rfl (by omega) (Nat.le_of_ble_eq_true rfl) rfl rfl (Nat.le_of_ble_eq_true rfl) ?_
  refine Cl.mono H (fun v τ2 hq => ?_)
  obtain ⟨r2, rfl, H⟩ := hq
  show Ev X 170 105 _ [vI r2] τ2 Q
  obtain ⟨h3, H⟩ := H
  refine r_if hcd rfl h3 (fun hc => ?_) (fun hc => ?_)
  · replace H := H.1 hc
    iterate 2 (refine e_nx hcd rfl rfl ?_)
    refine r_getI hcd rfl rfl rfl ?_
    refine e_nx hcd rfl rfl ?_
    refine r_getI hcd rfl rfl rfl ?_
    iterate 2 (refine e_nx hcd rfl rfl ?_)
    obtain ⟨h4, H⟩ := H
    refine r_icmp hcd rfl h4 (by omega) (fun hc => ?_) (fun hc => ?_)
    · replace H := H.1 hc
      refine e_nx hcd rfl rfl ?_
      refine r_putI hcd rfl rfl rfl rfl ?_
      refine e_nx hcd rfl rfl ?_
      exact r_vret hcd rfl rfl rfl H
    · replace H := H.2 hc
      iterate 2 (refine e_nx hcd rfl rfl ?_)
      refine r_putI hcd rfl rfl rfl rfl ?_
      refine e_nx hcd rfl rfl ?_
      exact r_vret hcd rfl rfl rfl H
  · replace H := H.2 hc
    refine e_nx hcd rfl rfl ?_
    refine r_getI hcd rfl rfl rfl ?_
    refine e_nx hcd rfl rfl ?_
    refine r_getI hcd rfl rfl rfl ?_
    iterate 2 (refine e_nx hcd rfl rfl ?_)
    obtain ⟨h5, H⟩ := H
    refine r_icmp hcd rfl h5 (by omega) (fun hc => ?_) (fun hc => ?_)
    · replace H := H.1 hc
      iterate 2 (refine e_nx hcd rfl rfl ?_)
      refine r_getI hcd rfl rfl rfl ?_
      iterate 2 (refine e_nx hcd rfl rfl ?_)
      refine r_putI hcd rfl rfl rfl rfl ?_
      refine e_nx hcd rfl rfl ?_
      exact H
    · replace H := H.2 hc
      iterate 3 (refine e_nx hcd rfl rfl ?_)
      refine r_getI hcd rfl rfl rfl ?_
      iterate 3 (refine e_nx hcd rfl rfl ?_)
      refine r_getI hcd rfl rfl rfl ?_
      refine r_cv hcd rfl (by omega) rfl rfl rfl (Nat.le_of_ble_eq_true rfl) ?_
      refine Cl.mono H (fun v τ3 hq => ?_)
      obtain ⟨r6, rfl, H⟩ := hq
      show Ev X 170 122 _ [vI r6, vI (10 * (τ2.1 170 6)), vR (some 170)] τ3 Q
      iterate 3 (refine e_nx hcd rfl rfl ?_)
      refine r_putI hcd rfl rfl rfl rfl ?_
      iterate 2 (refine e_nx hcd rfl rfl ?_)
      refine r_getI hcd rfl rfl rfl ?_
      show Ev X 170 129 _ [vI (τ3.1 170 3), vR (some 170)] _ Q
      iterate 2 (refine e_nx hcd rfl rfl ?_)
      refine r_putI hcd rfl rfl rfl rfl ?_
      refine e_nx hcd rfl rfl ?_
      exact H
/-! X12_ends -/
theorem v_171 {X : PX} {σ : Sg} {Q : Option PV → Sg → Prop}   (H : InR (σ.1 170 8) ∧ (σ.1 170 8 = 0 → Q none (up2 σ.1 170 8 1, up2 (up2 σ.2 171 5 1) 171 6 (σ.1 170 4))) ∧ (¬ σ.1 170 8 = 0 → Q none σ)) : Cl X 171 [vR (some 170)] σ Q := by
  have hcd : cds 171 = cd_171 := rfl
  refine c_in (Nat.le_of_ble_eq_true rfl) rfl rfl ?_
  show Ev X 171 0 [some (vR (some 170))] [] σ Q
  refine e_nx hcd rfl rfl ?_
  refine r_getI hcd rfl rfl rfl ?_
  obtain ⟨h1, H⟩ := H
  refine r_if hcd rfl h1 (fun hc => ?_) (fun hc => ?_)
  · replace H := H.1 hc
    iterate 2 (refine e_nx hcd rfl rfl ?_)
    refine r_putI hcd rfl rfl rfl rfl ?_
    refine e_nx hcd rfl rfl ?_
    refine r_getR hcd rfl rfl rfl ?_
    iterate 2 (refine e_nx hcd rfl rfl ?_)
    refine r_ist hcd rfl rfl (by omega) (by omega) ?_
    refine e_nx hcd rfl rfl ?_
    refine r_getR hcd rfl rfl rfl ?_
    iterate 2 (refine e_nx hcd rfl rfl ?_)
    refine r_getI hcd rfl rfl rfl ?_
    show Ev X 171 17 _ [vI (σ.1 170 4), vI 6, vR (some 171)] _ Q
    refine r_ist hcd rfl rfl (by omega) (by omega) ?_
    exact r_vret hcd rfl rfl rfl H
  · replace H := H.2 hc
    exact r_vret hcd rfl rfl rfl H
/-! X12_also -/
set_option maxRecDepth 20000 in
set_option maxHeartbeats 8000000 in
theorem v_172 {X : PX} {σ : Sg} {Q : Option PV → Sg → Prop} {a1 : Int} {a2 : Int}  (H : InR (σ.1 170 8) ∧ (σ.1 170 8 ≠ 0 → Q none σ) ∧ (¬ σ.1 170 8 ≠ 0 → InR (σ.2 171 5) ∧ (σ.2 171 5 = 0 → Q none (σ.1, up2 (up2 σ.2 171 5 a1) 171 6 a2)) ∧ (¬ σ.2 171 5 = 0 → InR (σ.2 171 6) ∧ InR a2 ∧ (σ.2 171 6 < a2 → Q none σ) ∧ (¬ σ.2 171 6 < a2 → (σ.2 171 6 ≠ a2 → Q none (σ.1, up2 (up2 σ.2 171 5 a1) 171 6 a2)) ∧ (¬ σ.2 171 6 ≠ a2 → InR a1 ∧ (a1 < σ.2 171 5 → Q none (σ.1, up2 (up2 σ.2 171 5 a1) 171 6 a2)) ∧ (¬ a1 < σ.2 171 5 → Q none σ)))))) : Cl X 172 [vR (some 170), vI a1, vI a2] σ Q := by
  have hcd : cds 172 = cd_172 := rfl
  refine c_in (Nat.le_of_ble_eq_true rfl) rfl rfl ?_
  show Ev X 172 0 [some (vR (some 170)), some (vI a1), some (vI a2)] [] σ Q
  refine e_nx hcd rfl rfl ?_
  refine r_getI hcd rfl rfl rfl ?_
  obtain ⟨h1, H⟩ := H
  refine r_if hcd rfl h1 (fun hc => ?_) (fun hc => ?_)
  · replace H := H.1 hc
    exact r_vret hcd rfl rfl rfl H
  · replace H := H.2 hc
    refine e_nx hcd rfl rfl ?_
    refine r_getR hcd rfl rfl rfl ?_
    refine e_nx hcd rfl rfl ?_
    refine r_ild hcd rfl rfl (by omega) (by omega) ?_
    obtain ⟨h2, H⟩ := H
    refine r_if hcd rfl h2 (fun hc => ?_) (fun hc => ?_)
    · replace H := H.1 hc
      refine e_nx hcd rfl rfl ?_
      refine r_getR hcd rfl rfl rfl ?_
      iterate 2 (refine e_nx hcd rfl rfl ?_)
      refine r_ist hcd rfl rfl (by omega) (by omega) ?_
      refine e_nx hcd rfl rfl ?_
      refine r_getR hcd rfl rfl rfl ?_
      iterate 2 (refine e_nx hcd rfl rfl ?_)
      refine r_ist hcd rfl rfl (by omega) (by omega) ?_
      exact r_vret hcd rfl rfl rfl H
    · replace H := H.2 hc
      refine e_nx hcd rfl rfl ?_
      refine r_getR hcd rfl rfl rfl ?_
      refine e_nx hcd rfl rfl ?_
      refine r_ild hcd rfl rfl (by omega) (by omega) ?_
      refine e_nx hcd rfl rfl ?_
      obtain ⟨h3, H⟩ := H
      obtain ⟨h4, H⟩ := H
      refine r_icmp hcd rfl h3 h4 (fun hc => ?_) (fun hc => ?_)
      · replace H := H.1 hc
        exact r_vret hcd rfl rfl rfl H
      · replace H := H.2 hc
        refine e_nx hcd rfl rfl ?_
        refine r_getR hcd rfl rfl rfl ?_
        refine e_nx hcd rfl rfl ?_
        refine r_ild hcd rfl rfl (by omega) (by omega) ?_
        refine e_nx hcd rfl rfl ?_
        refine r_icmp hcd rfl h3 h4 (fun hc => ?_) (fun hc => ?_)
        · replace H := H.1 hc
          refine e_nx hcd rfl rfl ?_
          refine r_getR hcd rfl rfl rfl ?_
          iterate 2 (refine e_nx hcd rfl rfl ?_)
          refine r_ist hcd rfl rfl (by omega) (by omega) ?_
          refine e_nx hcd rfl rfl ?_
          refine r_getR hcd rfl rfl rfl ?_
          iterate 2 (refine e_nx hcd rfl rfl ?_)
          refine r_ist hcd rfl rfl (by omega) (by omega) ?_
          exact r_vret hcd rfl rfl rfl H
        · replace H := H.2 hc
          refine e_nx hcd rfl rfl ?_
          refine r_getR hcd rfl rfl rfl ?_
          refine e_nx hcd rfl rfl ?_
          refine r_ild hcd rfl rfl (by omega) (by omega) ?_
          refine e_nx hcd rfl rfl ?_
          obtain ⟨h5, H⟩ := H
          refine r_icmp hcd rfl h2 h5 (fun hc => ?_) (fun hc => ?_)
          · replace H := H.1 hc
            refine e_nx hcd rfl rfl ?_
            refine r_getR hcd rfl rfl rfl ?_
            iterate 2 (refine e_nx hcd rfl rfl ?_)
            refine r_ist hcd rfl rfl (by omega) (by omega) ?_
            refine e_nx hcd rfl rfl ?_
            refine r_getR hcd rfl rfl rfl ?_
            iterate 2 (refine e_nx hcd rfl rfl ?_)
            refine r_ist hcd rfl rfl (by omega) (by omega) ?_
            exact r_vret hcd rfl rfl rfl H
          · replace H := H.2 hc
            exact r_vret hcd rfl rfl rfl H
/-! X12_numbered -/
set_option maxRecDepth 20000 in
set_option maxHeartbeats 8000000 in
theorem v_173 {X : PX} {σ : Sg} {Q : Option PV → Sg → Prop} {a1 : Int} {a2 : Int}  (H : InR (σ.1 170 8) ∧ (σ.1 170 8 ≠ 0 → CV X 171 [vR (some 170)] σ (fun τ1 => Q (some (vI a1)) τ1)) ∧ (¬ σ.1 170 8 ≠ 0 → InR (σ.1 170 5) ∧ (σ.1 170 5 = 1 → CI X 161 [vI (σ.1 170 6), vI a1, vI a2] σ (fun r3 τ2 => InR r3 ∧ (r3 ≠ 0 → CV X 170 [vR (some 170)] τ2 (fun τ3 => CI X 161 [vI (σ.1 170 6), vI a1, vI a2] τ3 (fun r5 τ4 => InR r5 ∧ (r5 = 0 → Q (some (vI a1)) τ4) ∧ (¬ r5 = 0 → Q (some (vI (σ.1 170 6))) τ4)))) ∧ (¬ r3 ≠ 0 → CV X 172 [vR (some 170), vI 2, vI (τ2.1 170 4)] τ2 (fun τ5 => CV X 170 [vR (some 170)] τ5 (fun τ6 => CI X 161 [vI (σ.1 170 6), vI a1, vI a2] τ6 (fun r7 τ7 => InR r7 ∧ (r7 = 0 → Q (some (vI a1)) τ7) ∧ (¬ r7 = 0 → Q (some (vI (σ.1 170 6))) τ7))))))) ∧ (¬ σ.1 170 5 = 1 → CV X 171 [vR (some 170)] σ (fun τ8 => Q (some (vI a1)) τ8)))) : Cl X 173 [vR (some 170), vI a1, vI a2] σ Q := by
  have hcd : cds 173 = cd_173 := rfl
  refine c_in (Nat.le_of_ble_eq_true rfl) rfl rfl ?_
  show Ev X 173 0 [some (vR (some 170)), some (vI a1), some (vI a2), none] [] σ Q
  refine e_nx hcd rfl rfl ?_
  refine r_getI hcd rfl rfl rfl ?_
  obtain ⟨h1, H⟩ := H
  refine r_if hcd rfl h1 (fun hc => ?_) (fun hc => ?_)
  · replace H := H.1 hc
    refine e_nx hcd rfl rfl ?_
    refine r_cv hcd rfl (by omega) rfl rfl rfl (Nat.le_of_ble_eq_true rfl) ?_
    refine Cl.mono H (fun v τ1 hq => ?_)
    obtain ⟨rfl, H⟩ := hq
    show Ev X 173 9 _ [] τ1 Q
    refine e_nx hcd rfl rfl ?_
    exact r_iret hcd rfl rfl rfl H
  · replace H := H.2 hc
    refine e_nx hcd rfl rfl ?_
    refine r_getI hcd rfl rfl rfl ?_
    refine e_nx hcd rfl rfl ?_
    obtain ⟨h2, H⟩ := H
    refine r_icmp hcd rfl h2 (by omega) (fun hc => ?_) (fun hc => ?_)
    · replace H := H.1 hc
      refine e_nx hcd rfl rfl ?_
      refine r_getI hcd rfl rfl rfl ?_
      refine e_nx hcd rfl rfl ?_
      show Ev X 173 14 [some (vR (some 170)), some (vI a1), some (vI a2), some (vI (σ.1 170 6))] [] _ Q
      iterate 3 (refine e_nx hcd rfl rfl ?_)
      refine r_cs hcd rfl (by omega) (Nat.le_of_ble_eq_true rfl) rfl rfl (Nat.le_of_ble_eq_true rfl) ?_
      refine Cl.mono H (fun v τ2 hq => ?_)
      obtain ⟨r3, rfl, H⟩ := hq
      show Ev X 173 18 _ [vI r3] τ2 Q
      obtain ⟨h4, H⟩ := H
      refine r_if hcd rfl h4 (fun hc => ?_) (fun hc => ?_)
      · replace H := H.1 hc
        refine e_nx hcd rfl rfl ?_
        refine r_cv hcd rfl (by omega) rfl rfl rfl (Nat.le_of_ble_eq_true rfl) ?_
        refine Cl.mono H (fun v τ3 hq => ?_)
        obtain ⟨rfl, H⟩ := hq
        show Ev X 173 26 _ [] τ3 Q
        iterate 3 (refine e_nx hcd rfl rfl ?_)
        refine r_cs hcd rfl (by omega) (Nat.le_of_ble_eq_true rfl) rfl rfl (Nat.le_of_ble_eq_true rfl) ?_
        refine Cl.mono H (fun v τ4 hq => ?_)
        obtain ⟨r5, rfl, H⟩ := hq
        show Ev X 173 30 _ [vI r5] τ4 Q
        obtain ⟨h6, H⟩ := H
        refine r_if hcd rfl h6 (fun hc => ?_) (fun hc => ?_)
        · replace H := H.1 hc
          refine e_nx hcd rfl rfl ?_
          exact r_iret hcd rfl rfl rfl H
        · replace H := H.2 hc
          iterate 2 (refine e_nx hcd rfl rfl ?_)
          exact r_iret hcd rfl rfl rfl H
      · replace H := H.2 hc
        iterate 3 (refine e_nx hcd rfl rfl ?_)
        refine r_getI hcd rfl rfl rfl ?_
        refine r_cv hcd rfl (by omega) rfl rfl rfl (Nat.le_of_ble_eq_true rfl) ?_
        refine Cl.mono H (fun v τ5 hq => ?_)
        obtain ⟨rfl, H⟩ := hq
        show Ev X 173 24 _ [] τ5 Q
        refine e_nx hcd rfl rfl ?_
        refine r_cv hcd rfl (by omega) rfl rfl rfl (Nat.le_of_ble_eq_true rfl) ?_
        refine Cl.mono H (fun v τ6 hq => ?_)
        obtain ⟨rfl, H⟩ := hq
        show Ev X 173 26 _ [] τ6 Q
        iterate 3 (refine e_nx hcd rfl rfl ?_)
        refine r_cs hcd rfl (by omega) (Nat.le_of_ble_eq_true rfl) rfl rfl (Nat.le_of_ble_eq_true rfl) ?_
        refine Cl.mono H (fun v τ7 hq => ?_)
        obtain ⟨r7, rfl, H⟩ := hq
        show Ev X 173 30 _ [vI r7] τ7 Q
        obtain ⟨h8, H⟩ := H
        refine r_if hcd rfl h8 (fun hc => ?_) (fun hc => ?_)
        · replace H := H.1 hc
          refine e_nx hcd rfl rfl ?_
          exact r_iret hcd rfl rfl rfl H
        · replace H := H.2 hc
          iterate 2 (refine e_nx hcd rfl rfl ?_)
          exact r_iret hcd rfl rfl rfl H
    · replace H := H.2 hc
      refine e_nx hcd rfl rfl ?_
      refine r_cv hcd rfl (by omega) rfl rfl rfl (Nat.le_of_ble_eq_true rfl) ?_
      refine Cl.mono H (fun v τ8 hq => ?_)
      obtain ⟨rfl, H⟩ := hq
      show Ev X 173 9 _ [] τ8 Q
      refine e_nx hcd rfl rfl ?_
      exact r_iret hcd rfl rfl rfl H
/-! X12_wordIn -/
set_option maxRecDepth 20000 in
set_option maxHeartbeats 8000000 in
theorem v_174 {X : PX} {σ : Sg} {Q : Option PV → Sg → Prop} {a1 : Int} {a2 : Int}  (H : InR (σ.1 170 8) ∧ (σ.1 170 8 ≠ 0 → CV X 171 [vR (some 170)] σ (fun τ1 => Q (some (vI 0)) τ1)) ∧ (¬ σ.1 170 8 ≠ 0 → InR (σ.1 170 5) ∧ (σ.1 170 5 ≠ 3 → CV X 171 [vR (some 170)] σ (fun τ2 => Q (some (vI 0)) τ2)) ∧ (¬ σ.1 170 5 ≠ 3 → CI X 161 [vI (σ.1 170 7), vI a1, vI a2] σ (fun r3 τ3 => InR r3 ∧ (r3 ≠ 0 → CV X 170 [vR (some 170)] τ3 (fun τ4 => Q (some (vI (τ3.1 170 7))) τ4)) ∧ (¬ r3 ≠ 0 → CV X 171 [vR (some 170)] τ3 (fun τ5 => Q (some (vI 0)) τ5)))))) : Cl X 174 [vR (some 170), vI a1, vI a2] σ Q := by
  have hcd : cds 174 = cd_174 := rfl
  refine c_in (Nat.le_of_ble_eq_true rfl) rfl rfl ?_
  show Ev X 174 0 [some (vR (some 170)), some (vI a1), some (vI a2), none] [] σ Q
  refine e_nx hcd rfl rfl ?_
  refine r_getI hcd rfl rfl rfl ?_
  obtain ⟨h1, H⟩ := H
  refine r_if hcd rfl h1 (fun hc => ?_) (fun hc => ?_)
  · replace H := H.1 hc
    refine e_nx hcd rfl rfl ?_
    refine r_cv hcd rfl (by omega) rfl rfl rfl (Nat.le_of_ble_eq_true rfl) ?_
    refine Cl.mono H (fun v τ1 hq => ?_)
    obtain ⟨rfl, H⟩ := hq
    show Ev X 174 15 _ [] τ1 Q
    refine e_nx hcd rfl rfl ?_
    exact r_iret hcd rfl rfl rfl H
  · replace H := H.2 hc
    refine e_nx hcd rfl rfl ?_
    refine r_getI hcd rfl rfl rfl ?_
    refine e_nx hcd rfl rfl ?_
    obtain ⟨h2, H⟩ := H
    refine r_icmp hcd rfl h2 (by omega) (fun hc => ?_) (fun hc => ?_)
    · replace H := H.1 hc
      refine e_nx hcd rfl rfl ?_
      refine r_cv hcd rfl (by omega) rfl rfl rfl (Nat.le_of_ble_eq_true rfl) ?_
      refine Cl.mono H (fun v τ2 hq => ?_)
      obtain ⟨rfl, H⟩ := hq
      show Ev X 174 15 _ [] τ2 Q
      refine e_nx hcd rfl rfl ?_
      exact r_iret hcd rfl rfl rfl H
    · replace H := H.2 hc
      refine e_nx hcd rfl rfl ?_
      refine r_getI hcd rfl rfl rfl ?_
      iterate 2 (refine e_nx hcd rfl rfl ?_)
      refine r_cs hcd rfl (by omega) (Nat.le_of_ble_eq_true rfl) rfl rfl (Nat.le_of_ble_eq_true rfl) ?_
      refine Cl.mono H (fun v τ3 hq => ?_)
      obtain ⟨r3, rfl, H⟩ := hq
      show Ev X 174 12 _ [vI r3] τ3 Q
      obtain ⟨h4, H⟩ := H
      refine r_if hcd rfl h4 (fun hc => ?_) (fun hc => ?_)
      · replace H := H.1 hc
        refine e_nx hcd rfl rfl ?_
        refine r_getI hcd rfl rfl rfl ?_
        refine e_nx hcd rfl rfl ?_
        show Ev X 174 20 [some (vR (some 170)), some (vI a1), some (vI a2), some (vI (τ3.1 170 7))] [] _ Q
        refine e_nx hcd rfl rfl ?_
        refine r_cv hcd rfl (by omega) rfl rfl rfl (Nat.le_of_ble_eq_true rfl) ?_
        refine Cl.mono H (fun v τ4 hq => ?_)
        obtain ⟨rfl, H⟩ := hq
        show Ev X 174 22 _ [] τ4 Q
        refine e_nx hcd rfl rfl ?_
        exact r_iret hcd rfl rfl rfl H
      · replace H := H.2 hc
        refine e_nx hcd rfl rfl ?_
        refine r_cv hcd rfl (by omega) rfl rfl rfl (Nat.le_of_ble_eq_true rfl) ?_
        refine Cl.mono H (fun v τ5 hq => ?_)
        obtain ⟨rfl, H⟩ := hq
        show Ev X 174 15 _ [] τ5 Q
        refine e_nx hcd rfl rfl ?_
        exact r_iret hcd rfl rfl rfl H
/-! X12_endsLine -/
theorem v_175 {X : PX} {σ : Sg} {Q : Option PV → Sg → Prop}   (H : InR (σ.1 170 8) ∧ (σ.1 170 8 ≠ 0 → CV X 171 [vR (some 170)] σ (fun τ1 => Q none τ1)) ∧ (¬ σ.1 170 8 ≠ 0 → InR (σ.1 170 5) ∧ (σ.1 170 5 ≠ 2 → CV X 171 [vR (some 170)] σ (fun τ2 => Q none τ2)) ∧ (¬ σ.1 170 5 ≠ 2 → CV X 170 [vR (some 170)] σ (fun τ3 => Q none τ3)))) : Cl X 175 [vR (some 170)] σ Q := by
  have hcd : cds 175 = cd_175 := rfl
  refine c_in (Nat.le_of_ble_eq_true rfl) rfl rfl ?_
  show Ev X 175 0 [some (vR (some 170))] [] σ Q
  refine e_nx hcd rfl rfl ?_
  refine r_getI hcd rfl rfl rfl ?_
  obtain ⟨h1, H⟩ := H
  refine r_if hcd rfl h1 (fun hc => ?_) (fun hc => ?_)
  · replace H := H.1 hc
    refine e_nx hcd rfl rfl ?_
    refine r_cv hcd rfl (by omega) rfl rfl rfl (Nat.le_of_ble_eq_true rfl) ?_
    refine Cl.mono H (fun v τ1 hq => ?_)
    obtain ⟨rfl, H⟩ := hq
    show Ev X 175 12 _ [] τ1 Q
    exact r_vret hcd rfl rfl rfl H
  · replace H := H.2 hc
    refine e_nx hcd rfl rfl ?_
    refine r_getI hcd rfl rfl rfl ?_
    refine e_nx hcd rfl rfl ?_
    obtain ⟨h2, H⟩ := H
    refine r_icmp hcd rfl h2 (by omega) (fun hc => ?_) (fun hc => ?_)
    · replace H := H.1 hc
      refine e_nx hcd rfl rfl ?_
      refine r_cv hcd rfl (by omega) rfl rfl rfl (Nat.le_of_ble_eq_true rfl) ?_
      refine Cl.mono H (fun v τ2 hq => ?_)
      obtain ⟨rfl, H⟩ := hq
      show Ev X 175 12 _ [] τ2 Q
      exact r_vret hcd rfl rfl rfl H
    · replace H := H.2 hc
      refine e_nx hcd rfl rfl ?_
      refine r_cv hcd rfl (by omega) rfl rfl rfl (Nat.le_of_ble_eq_true rfl) ?_
      refine Cl.mono H (fun v τ3 hq => ?_)
      obtain ⟨rfl, H⟩ := hq
      show Ev X 175 9 _ [] τ3 Q
      refine e_nx hcd rfl rfl ?_
      exact r_vret hcd rfl rfl rfl H
/-! X12_houseTold -/
theorem v_176 {X : PX} {σ : Sg} {Q : Option PV → Sg → Prop}   (H : CI X 173 [vR (some 170), vI 0, vI 6] σ (fun r1 τ1 => InR r1 ∧ InR (τ1.1 170 9) ∧ (r1 ≤ τ1.1 170 9 → Q (some (vI r1)) (up2 τ1.1 170 9 (τ1.1 170 9), τ1.2)) ∧ (¬ r1 ≤ τ1.1 170 9 → Q (some (vI r1)) (up2 τ1.1 170 9 r1, τ1.2)))) : Cl X 176 [vR (some 170)] σ Q := by
  have hcd : cds 176 = cd_176 := rfl
  refine c_in (Nat.le_of_ble_eq_true rfl) rfl rfl ?_
  show Ev X 176 0 [some (vR (some 170)), none] [] σ Q
  iterate 3 (refine e_nx hcd rfl rfl ?_)
  refine r_cv hcd rfl (by omega) rfl rfl rfl (Nat.le_of_ble_eq_true rfl) ?_
  refine Cl.mono H (fun v τ1 hq => ?_)
  obtain ⟨r1, rfl, H⟩ := hq
  show Ev X 176 4 _ [vI r1] τ1 Q
  refine e_nx hcd rfl rfl ?_
  show Ev X 176 5 [some (vR (some 170)), some (vI r1)] [] _ Q
  iterate 3 (refine e_nx hcd rfl rfl ?_)
  refine r_getI hcd rfl rfl rfl ?_
  obtain ⟨h2, H⟩ := H
  obtain ⟨h3, H⟩ := H
  refine r_icmp hcd rfl h2 h3 (fun hc => ?_) (fun hc => ?_)
  · replace H := H.1 hc
    refine e_nx hcd rfl rfl ?_
    refine r_getI hcd rfl rfl rfl ?_
    refine r_putI hcd rfl rfl rfl rfl ?_
    refine e_nx hcd rfl rfl ?_
    exact r_iret hcd rfl rfl rfl H
  · replace H := H.2 hc
    iterate 2 (refine e_nx hcd rfl rfl ?_)
    refine r_putI hcd rfl rfl rfl rfl ?_
    refine e_nx hcd rfl rfl ?_
    exact r_iret hcd rfl rfl rfl H
/-! X12_patronTold -/
set_option maxRecDepth 20000 in
set_option maxHeartbeats 8000000 in
theorem v_177 {X : PX} {σ : Sg} {Q : Option PV → Sg → Prop} {a1 : Int} {a2 : Int}  (H : InR (σ.1 170 8) ∧ (σ.1 170 8 ≠ 0 → CI X 176 [vR (some 170)] σ (fun r2 τ1 => Q (some (vI r2)) τ1)) ∧ (¬ σ.1 170 8 ≠ 0 → InR (σ.1 170 5) ∧ (σ.1 170 5 ≠ 1 → CI X 176 [vR (some 170)] σ (fun r4 τ2 => Q (some (vI r4)) τ2)) ∧ (¬ σ.1 170 5 ≠ 1 → InR (σ.1 170 6) ∧ InR a1 ∧ (σ.1 170 6 = a1 → CV X 172 [vR (some 170), vI 2, vI (σ.1 170 4)] σ (fun τ3 => CI X 176 [vR (some 170)] τ3 (fun r7 τ4 => Q (some (vI r7)) τ4))) ∧ (¬ σ.1 170 6 = a1 → InR a2 ∧ (σ.1 170 6 ≠ a2 → CI X 176 [vR (some 170)] σ (fun r9 τ5 => Q (some (vI r9)) τ5)) ∧ (¬ σ.1 170 6 ≠ a2 → CV X 172 [vR (some 170), vI 2, vI (σ.1 170 4)] σ (fun τ6 => CI X 176 [vR (some 170)] τ6 (fun r10 τ7 => Q (some (vI r10)) τ7))))))) : Cl X 177 [vR (some 170), vI a1, vI a2] σ Q := by
  have hcd : cds 177 = cd_177 := rfl
  refine c_in (Nat.le_of_ble_eq_true rfl) rfl rfl ?_
  show Ev X 177 0 [some (vR (some 170)), some (vI a1), some (vI a2)] [] σ Q
  refine e_nx hcd rfl rfl ?_
  refine r_getI hcd rfl rfl rfl ?_
  obtain ⟨h1, H⟩ := H
  refine r_if hcd rfl h1 (fun hc => ?_) (fun hc => ?_)
  · replace H := H.1 hc
    refine e_nx hcd rfl rfl ?_
    refine r_cv hcd rfl (by omega) rfl rfl rfl (Nat.le_of_ble_eq_true rfl) ?_
    refine Cl.mono H (fun v τ1 hq => ?_)
    obtain ⟨r2, rfl, H⟩ := hq
    show Ev X 177 22 _ [vI r2] τ1 Q
    exact r_iret hcd rfl rfl rfl H
  · replace H := H.2 hc
    refine e_nx hcd rfl rfl ?_
    refine r_getI hcd rfl rfl rfl ?_
    refine e_nx hcd rfl rfl ?_
    obtain ⟨h3, H⟩ := H
    refine r_icmp hcd rfl h3 (by omega) (fun hc => ?_) (fun hc => ?_)
    · replace H := H.1 hc
      refine e_nx hcd rfl rfl ?_
      refine r_cv hcd rfl (by omega) rfl rfl rfl (Nat.le_of_ble_eq_true rfl) ?_
      refine Cl.mono H (fun v τ2 hq => ?_)
      obtain ⟨r4, rfl, H⟩ := hq
      show Ev X 177 22 _ [vI r4] τ2 Q
      exact r_iret hcd rfl rfl rfl H
    · replace H := H.2 hc
      refine e_nx hcd rfl rfl ?_
      refine r_getI hcd rfl rfl rfl ?_
      refine e_nx hcd rfl rfl ?_
      obtain ⟨h5, H⟩ := H
      obtain ⟨h6, H⟩ := H
      refine r_icmp hcd rfl h5 h6 (fun hc => ?_) (fun hc => ?_)
      · replace H := H.1 hc
        iterate 3 (refine e_nx hcd rfl rfl ?_)
        refine r_getI hcd rfl rfl rfl ?_
        refine r_cv hcd rfl (by omega) rfl rfl rfl (Nat.le_of_ble_eq_true rfl) ?_
        refine Cl.mono H (fun v τ3 hq => ?_)
        obtain ⟨rfl, H⟩ := hq
        show Ev X 177 20 _ [] τ3 Q
        refine e_nx hcd rfl rfl ?_
        refine r_cv hcd rfl (by omega) rfl rfl rfl (Nat.le_of_ble_eq_true rfl) ?_
        refine Cl.mono H (fun v τ4 hq => ?_)
        obtain ⟨r7, rfl, H⟩ := hq
        show Ev X 177 22 _ [vI r7] τ4 Q
        exact r_iret hcd rfl rfl rfl H
      · replace H := H.2 hc
        refine e_nx hcd rfl rfl ?_
        refine r_getI hcd rfl rfl rfl ?_
        refine e_nx hcd rfl rfl ?_
        obtain ⟨h8, H⟩ := H
        refine r_icmp hcd rfl h5 h8 (fun hc => ?_) (fun hc => ?_)
        · replace H := H.1 hc
          refine e_nx hcd rfl rfl ?_
          refine r_cv hcd rfl (by omega) rfl rfl rfl (Nat.le_of_ble_eq_true rfl) ?_
          refine Cl.mono H (fun v τ5 hq => ?_)
          obtain ⟨r9, rfl, H⟩ := hq
          show Ev X 177 22 _ [vI r9] τ5 Q
          exact r_iret hcd rfl rfl rfl H
        · replace H := H.2 hc
          iterate 3 (refine e_nx hcd rfl rfl ?_)
          refine r_getI hcd rfl rfl rfl ?_
          refine r_cv hcd rfl (by omega) rfl rfl rfl (Nat.le_of_ble_eq_true rfl) ?_
          refine Cl.mono H (fun v τ6 hq => ?_)
          obtain ⟨rfl, H⟩ := hq
          show Ev X 177 20 _ [] τ6 Q
          refine e_nx hcd rfl rfl ?_
          refine r_cv hcd rfl (by omega) rfl rfl rfl (Nat.le_of_ble_eq_true rfl) ?_
          refine Cl.mono H (fun v τ7 hq => ?_)
          obtain ⟨r10, rfl, H⟩ := hq
          show Ev X 177 22 _ [vI r10] τ7 Q
          exact r_iret hcd rfl rfl rfl H
/-! X12_houseLine -/
set_option maxRecDepth 20000 in
set_option maxHeartbeats 8000000 in
theorem v_178 {X : PX} {σ : Sg} {Q : Option PV → Sg → Prop} {a1 : Int}  (H : InR (σ.2 173 2) ∧ (σ.2 173 2 < 7 → CI X 173 [vR (some 170), vI 0, vI 99] σ (fun r2 τ1 => CI X 173 [vR (some 170), vI 0, vI 9] τ1 (fun r3 τ2 => InR (τ2.2 173 2) ∧ (τ2.2 173 2 < 7 → (0 ≤ 5 + (2 * (τ2.2 173 2)) ∧ 5 + (2 * (τ2.2 173 2)) < 81) ∧ (0 ≤ 6 + (2 * ((up2 τ2.2 173 (5 + (2 * (τ2.2 173 2))).toNat r2) 173 2)) ∧ 6 + (2 * ((up2 τ2.2 173 (5 + (2 * (τ2.2 173 2))).toNat r2) 173 2)) < 81) ∧ Q none (τ2.1, up2 (up2 (up2 τ2.2 173 (5 + (2 * (τ2.2 173 2))).toNat r2) 173 (6 + (2 * ((up2 τ2.2 173 (5 + (2 * (τ2.2 173 2))).toNat r2) 173 2))).toNat r3) 173 2 (((up2 (up2 τ2.2 173 (5 + (2 * (τ2.2 173 2))).toNat r2) 173 (6 + (2 * ((up2 τ2.2 173 (5 + (2 * (τ2.2 173 2))).toNat r2) 173 2))).toNat r3) 173 2) + 1))) ∧ (¬ τ2.2 173 2 < 7 → Q none τ2)))) ∧ (¬ σ.2 173 2 < 7 → CV X 172 [vR (some 170), vI 3, vI a1] σ (fun τ3 => CI X 173 [vR (some 170), vI 0, vI 99] τ3 (fun r7 τ4 => CI X 173 [vR (some 170), vI 0, vI 9] τ4 (fun r8 τ5 => InR (τ5.2 173 2) ∧ (τ5.2 173 2 < 7 → (0 ≤ 5 + (2 * (τ5.2 173 2)) ∧ 5 + (2 * (τ5.2 173 2)) < 81) ∧ (0 ≤ 6 + (2 * ((up2 τ5.2 173 (5 + (2 * (τ5.2 173 2))).toNat r7) 173 2)) ∧ 6 + (2 * ((up2 τ5.2 173 (5 + (2 * (τ5.2 173 2))).toNat r7) 173 2)) < 81) ∧ Q none (τ5.1, up2 (up2 (up2 τ5.2 173 (5 + (2 * (τ5.2 173 2))).toNat r7) 173 (6 + (2 * ((up2 τ5.2 173 (5 + (2 * (τ5.2 173 2))).toNat r7) 173 2))).toNat r8) 173 2 (((up2 (up2 τ5.2 173 (5 + (2 * (τ5.2 173 2))).toNat r7) 173 (6 + (2 * ((up2 τ5.2 173 (5 + (2 * (τ5.2 173 2))).toNat r7) 173 2))).toNat r8) 173 2) + 1))) ∧ (¬ τ5.2 173 2 < 7 → Q none τ5)))))) : Cl X 178 [vR (some 170), vI a1] σ Q := by
  have hcd : cds 178 = cd_178 := rfl
  refine c_in (Nat.le_of_ble_eq_true rfl) rfl rfl ?_
  show Ev X 178 0 [some (vR (some 170)), some (vI a1), none, none] [] σ Q
  refine e_nx hcd rfl rfl ?_
  refine r_getR hcd rfl rfl rfl ?_
  refine e_nx hcd rfl rfl ?_
  refine r_ild hcd rfl rfl (by omega) (by omega) ?_
  refine e_nx hcd rfl rfl ?_
  obtain ⟨h1, H⟩ := H
  refine r_icmp hcd rfl h1 (by omega) (fun hc => ?_) (fun hc => ?_)
  · replace H := H.1 hc
    iterate 3 (refine e_nx hcd rfl rfl ?_)
    refine r_cv hcd rfl (by omega) rfl rfl rfl (Nat.le_of_ble_eq_true rfl) ?_
    refine Cl.mono H (fun v τ1 hq => ?_)
    obtain ⟨r2, rfl, H⟩ := hq
    show Ev X 178 14 _ [vI r2] τ1 Q
    refine e_nx hcd rfl rfl ?_
    show Ev X 178 15 [some (vR (some 170)), some (vI a1), some (vI r2), none] [] _ Q
    iterate 3 (refine e_nx hcd rfl rfl ?_)
    refine r_cv hcd rfl (by omega) rfl rfl rfl (Nat.le_of_ble_eq_true rfl) ?_
    refine Cl.mono H (fun v τ2 hq => ?_)
    obtain ⟨r3, rfl, H⟩ := hq
    show Ev X 178 19 _ [vI r3] τ2 Q
    refine e_nx hcd rfl rfl ?_
    show Ev X 178 20 [some (vR (some 170)), some (vI a1), some (vI r2), some (vI r3)] [] _ Q
    refine e_nx hcd rfl rfl ?_
    refine r_getR hcd rfl rfl rfl ?_
    refine e_nx hcd rfl rfl ?_
    refine r_ild hcd rfl rfl (by omega) (by omega) ?_
    refine e_nx hcd rfl rfl ?_
    obtain ⟨h4, H⟩ := H
    refine r_icmp hcd rfl h4 (by omega) (fun hc => ?_) (fun hc => ?_)
    · replace H := H.1 hc
      refine e_nx hcd rfl rfl ?_
      refine r_getR hcd rfl rfl rfl ?_
      iterate 3 (refine e_nx hcd rfl rfl ?_)
      refine r_getR hcd rfl rfl rfl ?_
      refine e_nx hcd rfl rfl ?_
      refine r_ild hcd rfl rfl (by omega) (by omega) ?_
      iterate 3 (refine e_nx hcd rfl rfl ?_)
      obtain ⟨h5, H⟩ := H
      refine r_ist hcd rfl rfl (by omega) h5 ?_
      refine e_nx hcd rfl rfl ?_
      refine r_getR hcd rfl rfl rfl ?_
      iterate 3 (refine e_nx hcd rfl rfl ?_)
      refine r_getR hcd rfl rfl rfl ?_
      refine e_nx hcd rfl rfl ?_
      refine r_ild hcd rfl rfl (by omega) (by omega) ?_
      iterate 3 (refine e_nx hcd rfl rfl ?_)
      obtain ⟨h6, H⟩ := H
      refine r_ist hcd rfl rfl (by omega) h6 ?_
      refine e_nx hcd rfl rfl ?_
      refine r_getR hcd rfl rfl rfl ?_
      iterate 2 (refine e_nx hcd rfl rfl ?_)
      refine r_ild hcd rfl rfl (by omega) (by omega) ?_
      iterate 2 (refine e_nx hcd rfl rfl ?_)
      refine r_ist hcd rfl rfl (by omega) (by omega) ?_
      exact r_vret hcd rfl rfl rfl H
    · replace H := H.2 hc
      exact r_vret hcd rfl rfl rfl H
  · replace H := H.2 hc
    iterate 3 (refine e_nx hcd rfl rfl ?_)
    refine r_cv hcd rfl (by omega) rfl rfl rfl (Nat.le_of_ble_eq_true rfl) ?_
    refine Cl.mono H (fun v τ3 hq => ?_)
    obtain ⟨rfl, H⟩ := hq
    show Ev X 178 10 _ [] τ3 Q
    iterate 3 (refine e_nx hcd rfl rfl ?_)
    refine r_cv hcd rfl (by omega) rfl rfl rfl (Nat.le_of_ble_eq_true rfl) ?_
    refine Cl.mono H (fun v τ4 hq => ?_)
    obtain ⟨r7, rfl, H⟩ := hq
    show Ev X 178 14 _ [vI r7] τ4 Q
    refine e_nx hcd rfl rfl ?_
    show Ev X 178 15 [some (vR (some 170)), some (vI a1), some (vI r7), none] [] _ Q
    iterate 3 (refine e_nx hcd rfl rfl ?_)
    refine r_cv hcd rfl (by omega) rfl rfl rfl (Nat.le_of_ble_eq_true rfl) ?_
    refine Cl.mono H (fun v τ5 hq => ?_)
    obtain ⟨r8, rfl, H⟩ := hq
    show Ev X 178 19 _ [vI r8] τ5 Q
    refine e_nx hcd rfl rfl ?_
    show Ev X 178 20 [some (vR (some 170)), some (vI a1), some (vI r7), some (vI r8)] [] _ Q
    refine e_nx hcd rfl rfl ?_
    refine r_getR hcd rfl rfl rfl ?_
    refine e_nx hcd rfl rfl ?_
    refine r_ild hcd rfl rfl (by omega) (by omega) ?_
    refine e_nx hcd rfl rfl ?_
    obtain ⟨h9, H⟩ := H
    refine r_icmp hcd rfl h9 (by omega) (fun hc => ?_) (fun hc => ?_)
    · replace H := H.1 hc
      refine e_nx hcd rfl rfl ?_
      refine r_getR hcd rfl rfl rfl ?_
      iterate 3 (refine e_nx hcd rfl rfl ?_)
      refine r_getR hcd rfl rfl rfl ?_
      refine e_nx hcd rfl rfl ?_
      refine r_ild hcd rfl rfl (by omega) (by omega) ?_
      iterate 3 (refine e_nx hcd rfl rfl ?_)
      obtain ⟨h10, H⟩ := H
      refine r_ist hcd rfl rfl (by omega) h10 ?_
      refine e_nx hcd rfl rfl ?_
      refine r_getR hcd rfl rfl rfl ?_
      iterate 3 (refine e_nx hcd rfl rfl ?_)
      refine r_getR hcd rfl rfl rfl ?_
      refine e_nx hcd rfl rfl ?_
      refine r_ild hcd rfl rfl (by omega) (by omega) ?_
      iterate 3 (refine e_nx hcd rfl rfl ?_)
      obtain ⟨h11, H⟩ := H
      refine r_ist hcd rfl rfl (by omega) h11 ?_
      refine e_nx hcd rfl rfl ?_
      refine r_getR hcd rfl rfl rfl ?_
      iterate 2 (refine e_nx hcd rfl rfl ?_)
      refine r_ild hcd rfl rfl (by omega) (by omega) ?_
      iterate 2 (refine e_nx hcd rfl rfl ?_)
      refine r_ist hcd rfl rfl (by omega) (by omega) ?_
      exact r_vret hcd rfl rfl rfl H
    · replace H := H.2 hc
      exact r_vret hcd rfl rfl rfl H
/-! X12_ruleTold -/
set_option maxRecDepth 20000 in
set_option maxHeartbeats 8000000 in
theorem v_179 {X : PX} {σ : Sg} {Q : Option PV → Sg → Prop} {a1 : Int} {a2 : Int}  (H : InR (σ.2 173 3) ∧ (σ.2 173 3 < 10 → CI X 176 [vR (some 170)] σ (fun r2 τ1 => CI X 177 [vR (some 170), vI r2, vI r2] τ1 (fun r3 τ2 => InR a2 ∧ (a2 = 0 → InR (τ2.2 173 3) ∧ (τ2.2 173 3 < 10 → (0 ≤ 19 + (3 * (τ2.2 173 3)) ∧ 19 + (3 * (τ2.2 173 3)) < 81) ∧ (0 ≤ (19 + (3 * (τ2.2 173 3))) + 1 ∧ (19 + (3 * (τ2.2 173 3))) + 1 < 81) ∧ (0 ≤ (19 + (3 * (τ2.2 173 3))) + 2 ∧ (19 + (3 * (τ2.2 173 3))) + 2 < 81) ∧ Q none (τ2.1, up2 (up2 (up2 (up2 τ2.2 173 (19 + (3 * (τ2.2 173 3))).toNat r2) 173 ((19 + (3 * (τ2.2 173 3))) + 1).toNat r3) 173 ((19 + (3 * (τ2.2 173 3))) + 2).toNat (-1)) 173 3 (((up2 (up2 (up2 τ2.2 173 (19 + (3 * (τ2.2 173 3))).toNat r2) 173 ((19 + (3 * (τ2.2 173 3))) + 1).toNat r3) 173 ((19 + (3 * (τ2.2 173 3))) + 2).toNat (-1)) 173 3) + 1))) ∧ (¬ τ2.2 173 3 < 10 → Q none τ2)) ∧ (¬ a2 = 0 → CI X 177 [vR (some 170), vI r2, vI r3] τ2 (fun r9 τ3 => InR (τ3.2 173 3) ∧ (τ3.2 173 3 < 10 → (0 ≤ 19 + (3 * (τ3.2 173 3)) ∧ 19 + (3 * (τ3.2 173 3)) < 81) ∧ (0 ≤ (19 + (3 * (τ3.2 173 3))) + 1 ∧ (19 + (3 * (τ3.2 173 3))) + 1 < 81) ∧ (0 ≤ (19 + (3 * (τ3.2 173 3))) + 2 ∧ (19 + (3 * (τ3.2 173 3))) + 2 < 81) ∧ Q none (τ3.1, up2 (up2 (up2 (up2 τ3.2 173 (19 + (3 * (τ3.2 173 3))).toNat r2) 173 ((19 + (3 * (τ3.2 173 3))) + 1).toNat r3) 173 ((19 + (3 * (τ3.2 173 3))) + 2).toNat r9) 173 3 (((up2 (up2 (up2 τ3.2 173 (19 + (3 * (τ3.2 173 3))).toNat r2) 173 ((19 + (3 * (τ3.2 173 3))) + 1).toNat r3) 173 ((19 + (3 * (τ3.2 173 3))) + 2).toNat r9) 173 3) + 1))) ∧ (¬ τ3.2 173 3 < 10 → Q none τ3)))))) ∧ (¬ σ.2 173 3 < 10 → CV X 172 [vR (some 170), vI 3, vI a1] σ (fun τ4 => CI X 176 [vR (some 170)] τ4 (fun r14 τ5 => CI X 177 [vR (some 170), vI r14, vI r14] τ5 (fun r15 τ6 => InR a2 ∧ (a2 = 0 → InR (τ6.2 173 3) ∧ (τ6.2 173 3 < 10 → (0 ≤ 19 + (3 * (τ6.2 173 3)) ∧ 19 + (3 * (τ6.2 173 3)) < 81) ∧ (0 ≤ (19 + (3 * (τ6.2 173 3))) + 1 ∧ (19 + (3 * (τ6.2 173 3))) + 1 < 81) ∧ (0 ≤ (19 + (3 * (τ6.2 173 3))) + 2 ∧ (19 + (3 * (τ6.2 173 3))) + 2 < 81) ∧ Q none (τ6.1, up2 (up2 (up2 (up2 τ6.2 173 (19 + (3 * (τ6.2 173 3))).toNat r14) 173 ((19 + (3 * (τ6.2 173 3))) + 1).toNat r15) 173 ((19 + (3 * (τ6.2 173 3))) + 2).toNat (-1)) 173 3 (((up2 (up2 (up2 τ6.2 173 (19 + (3 * (τ6.2 173 3))).toNat r14) 173 ((19 + (3 * (τ6.2 173 3))) + 1).toNat r15) 173 ((19 + (3 * (τ6.2 173 3))) + 2).toNat (-1)) 173 3) + 1))) ∧ (¬ τ6.2 173 3 < 10 → Q none τ6)) ∧ (¬ a2 = 0 → CI X 177 [vR (some 170), vI r14, vI r15] τ6 (fun r21 τ7 => InR (τ7.2 173 3) ∧ (τ7.2 173 3 < 10 → (0 ≤ 19 + (3 * (τ7.2 173 3)) ∧ 19 + (3 * (τ7.2 173 3)) < 81) ∧ (0 ≤ (19 + (3 * (τ7.2 173 3))) + 1 ∧ (19 + (3 * (τ7.2 173 3))) + 1 < 81) ∧ (0 ≤ (19 + (3 * (τ7.2 173 3))) + 2 ∧ (19 + (3 * (τ7.2 173 3))) + 2 < 81) ∧ Q none (τ7.1, up2 (up2 (up2 (up2 τ7.2 173 (19 + (3 * (τ7.2 173 3))).toNat r14) 173 ((19 + (3 * (τ7.2 173 3))) + 1).toNat r15) 173 ((19 + (3 * (τ7.2 173 3))) + 2).toNat r21) 173 3 (((up2 (up2 (up2 τ7.2 173 (19 + (3 * (τ7.2 173 3))).toNat r14) 173 ((19 + (3 * (τ7.2 173 3))) + 1).toNat r15) 173 ((19 + (3 * (τ7.2 173 3))) + 2).toNat r21) 173 3) + 1))) ∧ (¬ τ7.2 173 3 < 10 → Q none τ7)))))))) : Cl X 179 [vR (some 170), vI a1, vI a2] σ Q := by
  have hcd : cds 179 = cd_179 := rfl
  refine c_in (Nat.le_of_ble_eq_true rfl) rfl rfl ?_
  show Ev X 179 0 [some (vR (some 170)), some (vI a1), some (vI a2), none, none, none, none] [] σ Q
  refine e_nx hcd rfl rfl ?_
  refine r_getR hcd rfl rfl rfl ?_
  refine e_nx hcd rfl rfl ?_
  refine r_ild hcd rfl rfl (by omega) (by omega) ?_
  refine e_nx hcd rfl rfl ?_
  obtain ⟨h1, H⟩ := H
  refine r_icmp hcd rfl h1 (by omega) (fun hc => ?_) (fun hc => ?_)
  · replace H := H.1 hc
    refine e_nx hcd rfl rfl ?_
    refine r_cv hcd rfl (by omega) rfl rfl rfl (Nat.le_of_ble_eq_true rfl) ?_
    refine Cl.mono H (fun v τ1 hq => ?_)
    obtain ⟨r2, rfl, H⟩ := hq
    show Ev X 179 12 _ [vI r2] τ1 Q
    refine e_nx hcd rfl rfl ?_
    show Ev X 179 13 [some (vR (some 170)), some (vI a1), some (vI a2), some (vI r2), none, none, none] [] _ Q
    iterate 3 (refine e_nx hcd rfl rfl ?_)
    refine r_cv hcd rfl (by omega) rfl rfl rfl (Nat.le_of_ble_eq_true rfl) ?_
    refine Cl.mono H (fun v τ2 hq => ?_)
    obtain ⟨r3, rfl, H⟩ := hq
    show Ev X 179 17 _ [vI r3] τ2 Q
    refine e_nx hcd rfl rfl ?_
    show Ev X 179 18 [some (vR (some 170)), some (vI a1), some (vI a2), some (vI r2), some (vI r3), none, none] [] _ Q
    refine e_nx hcd rfl rfl ?_
    obtain ⟨h4, H⟩ := H
    refine r_if hcd rfl h4 (fun hc => ?_) (fun hc => ?_)
    · replace H := H.1 hc
      iterate 2 (refine e_nx hcd rfl rfl ?_)
      show Ev X 179 27 [some (vR (some 170)), some (vI a1), some (vI a2), some (vI r2), some (vI r3), some (vI (-1)), none] [] _ Q
      refine e_nx hcd rfl rfl ?_
      refine r_getR hcd rfl rfl rfl ?_
      refine e_nx hcd rfl rfl ?_
      refine r_ild hcd rfl rfl (by omega) (by omega) ?_
      refine e_nx hcd rfl rfl ?_
      obtain ⟨h5, H⟩ := H
      refine r_icmp hcd rfl h5 (by omega) (fun hc => ?_) (fun hc => ?_)
      · replace H := H.1 hc
        iterate 3 (refine e_nx hcd rfl rfl ?_)
        refine r_getR hcd rfl rfl rfl ?_
        refine e_nx hcd rfl rfl ?_
        refine r_ild hcd rfl rfl (by omega) (by omega) ?_
        iterate 3 (refine e_nx hcd rfl rfl ?_)
        show Ev X 179 43 [some (vR (some 170)), some (vI a1), some (vI a2), some (vI r2), some (vI r3), some (vI (-1)), some (vI (19 + (3 * (τ2.2 173 3))))] [] _ Q
        refine e_nx hcd rfl rfl ?_
        refine r_getR hcd rfl rfl rfl ?_
        iterate 2 (refine e_nx hcd rfl rfl ?_)
        obtain ⟨h6, H⟩ := H
        refine r_ist hcd rfl rfl (by omega) h6 ?_
        refine e_nx hcd rfl rfl ?_
        refine r_getR hcd rfl rfl rfl ?_
        iterate 4 (refine e_nx hcd rfl rfl ?_)
        obtain ⟨h7, H⟩ := H
        refine r_ist hcd rfl rfl (by omega) h7 ?_
        refine e_nx hcd rfl rfl ?_
        refine r_getR hcd rfl rfl rfl ?_
        iterate 4 (refine e_nx hcd rfl rfl ?_)
        obtain ⟨h8, H⟩ := H
        refine r_ist hcd rfl rfl (by omega) h8 ?_
        refine e_nx hcd rfl rfl ?_
        refine r_getR hcd rfl rfl rfl ?_
        iterate 2 (refine e_nx hcd rfl rfl ?_)
        refine r_ild hcd rfl rfl (by omega) (by omega) ?_
        iterate 2 (refine e_nx hcd rfl rfl ?_)
        refine r_ist hcd rfl rfl (by omega) (by omega) ?_
        exact r_vret hcd rfl rfl rfl H
      · replace H := H.2 hc
        exact r_vret hcd rfl rfl rfl H
    · replace H := H.2 hc
      iterate 3 (refine e_nx hcd rfl rfl ?_)
      refine r_cv hcd rfl (by omega) rfl rfl rfl (Nat.le_of_ble_eq_true rfl) ?_
      refine Cl.mono H (fun v τ3 hq => ?_)
      obtain ⟨r9, rfl, H⟩ := hq
      show Ev X 179 24 _ [vI r9] τ3 Q
      iterate 2 (refine e_nx hcd rfl rfl ?_)
      show Ev X 179 27 [some (vR (some 170)), some (vI a1), some (vI a2), some (vI r2), some (vI r3), some (vI r9), none] [] _ Q
      refine e_nx hcd rfl rfl ?_
      refine r_getR hcd rfl rfl rfl ?_
      refine e_nx hcd rfl rfl ?_
      refine r_ild hcd rfl rfl (by omega) (by omega) ?_
      refine e_nx hcd rfl rfl ?_
      obtain ⟨h10, H⟩ := H
      refine r_icmp hcd rfl h10 (by omega) (fun hc => ?_) (fun hc => ?_)
      · replace H := H.1 hc
        iterate 3 (refine e_nx hcd rfl rfl ?_)
        refine r_getR hcd rfl rfl rfl ?_
        refine e_nx hcd rfl rfl ?_
        refine r_ild hcd rfl rfl (by omega) (by omega) ?_
        iterate 3 (refine e_nx hcd rfl rfl ?_)
        show Ev X 179 43 [some (vR (some 170)), some (vI a1), some (vI a2), some (vI r2), some (vI r3), some (vI r9), some (vI (19 + (3 * (τ3.2 173 3))))] [] _ Q
        refine e_nx hcd rfl rfl ?_
        refine r_getR hcd rfl rfl rfl ?_
        iterate 2 (refine e_nx hcd rfl rfl ?_)
        obtain ⟨h11, H⟩ := H
        refine r_ist hcd rfl rfl (by omega) h11 ?_
        refine e_nx hcd rfl rfl ?_
        refine r_getR hcd rfl rfl rfl ?_
        iterate 4 (refine e_nx hcd rfl rfl ?_)
        obtain ⟨h12, H⟩ := H
        refine r_ist hcd rfl rfl (by omega) h12 ?_
        refine e_nx hcd rfl rfl ?_
        refine r_getR hcd rfl rfl rfl ?_
        iterate 4 (refine e_nx hcd rfl rfl ?_)
        obtain ⟨h13, H⟩ := H
        refine r_ist hcd rfl rfl (by omega) h13 ?_
        refine e_nx hcd rfl rfl ?_
        refine r_getR hcd rfl rfl rfl ?_
        iterate 2 (refine e_nx hcd rfl rfl ?_)
        refine r_ild hcd rfl rfl (by omega) (by omega) ?_
        iterate 2 (refine e_nx hcd rfl rfl ?_)
        refine r_ist hcd rfl rfl (by omega) (by omega) ?_
        exact r_vret hcd rfl rfl rfl H
      · replace H := H.2 hc
        exact r_vret hcd rfl rfl rfl H
  · replace H := H.2 hc
    iterate 3 (refine e_nx hcd rfl rfl ?_)
    refine r_cv hcd rfl (by omega) rfl rfl rfl (Nat.le_of_ble_eq_true rfl) ?_
    refine Cl.mono H (fun v τ4 hq => ?_)
    obtain ⟨rfl, H⟩ := hq
    show Ev X 179 10 _ [] τ4 Q
    refine e_nx hcd rfl rfl ?_
    refine r_cv hcd rfl (by omega) rfl rfl rfl (Nat.le_of_ble_eq_true rfl) ?_
    refine Cl.mono H (fun v τ5 hq => ?_)
    obtain ⟨r14, rfl, H⟩ := hq
    show Ev X 179 12 _ [vI r14] τ5 Q
    refine e_nx hcd rfl rfl ?_
    show Ev X 179 13 [some (vR (some 170)), some (vI a1), some (vI a2), some (vI r14), none, none, none] [] _ Q
    iterate 3 (refine e_nx hcd rfl rfl ?_)
    refine r_cv hcd rfl (by omega) rfl rfl rfl (Nat.le_of_ble_eq_true rfl) ?_
    refine Cl.mono H (fun v τ6 hq => ?_)
    obtain ⟨r15, rfl, H⟩ := hq
    show Ev X 179 17 _ [vI r15] τ6 Q
    refine e_nx hcd rfl rfl ?_
    show Ev X 179 18 [some (vR (some 170)), some (vI a1), some (vI a2), some (vI r14), some (vI r15), none, none] [] _ Q
    refine e_nx hcd rfl rfl ?_
    obtain ⟨h16, H⟩ := H
    refine r_if hcd rfl h16 (fun hc => ?_) (fun hc => ?_)
    · replace H := H.1 hc
      iterate 2 (refine e_nx hcd rfl rfl ?_)
      show Ev X 179 27 [some (vR (some 170)), some (vI a1), some (vI a2), some (vI r14), some (vI r15), some (vI (-1)), none] [] _ Q
      refine e_nx hcd rfl rfl ?_
      refine r_getR hcd rfl rfl rfl ?_
      refine e_nx hcd rfl rfl ?_
      refine r_ild hcd rfl rfl (by omega) (by omega) ?_
      refine e_nx hcd rfl rfl ?_
      obtain ⟨h17, H⟩ := H
      refine r_icmp hcd rfl h17 (by omega) (fun hc => ?_) (fun hc => ?_)
      · replace H := H.1 hc
        iterate 3 (refine e_nx hcd rfl rfl ?_)
        refine r_getR hcd rfl rfl rfl ?_
        refine e_nx hcd rfl rfl ?_
        refine r_ild hcd rfl rfl (by omega) (by omega) ?_
        iterate 3 (refine e_nx hcd rfl rfl ?_)
        show Ev X 179 43 [some (vR (some 170)), some (vI a1), some (vI a2), some (vI r14), some (vI r15), some (vI (-1)), some (vI (19 + (3 * (τ6.2 173 3))))] [] _ Q
        refine e_nx hcd rfl rfl ?_
        refine r_getR hcd rfl rfl rfl ?_
        iterate 2 (refine e_nx hcd rfl rfl ?_)
        obtain ⟨h18, H⟩ := H
        refine r_ist hcd rfl rfl (by omega) h18 ?_
        refine e_nx hcd rfl rfl ?_
        refine r_getR hcd rfl rfl rfl ?_
        iterate 4 (refine e_nx hcd rfl rfl ?_)
        obtain ⟨h19, H⟩ := H
        refine r_ist hcd rfl rfl (by omega) h19 ?_
        refine e_nx hcd rfl rfl ?_
        refine r_getR hcd rfl rfl rfl ?_
        iterate 4 (refine e_nx hcd rfl rfl ?_)
        obtain ⟨h20, H⟩ := H
        refine r_ist hcd rfl rfl (by omega) h20 ?_
        refine e_nx hcd rfl rfl ?_
        refine r_getR hcd rfl rfl rfl ?_
        iterate 2 (refine e_nx hcd rfl rfl ?_)
        refine r_ild hcd rfl rfl (by omega) (by omega) ?_
        iterate 2 (refine e_nx hcd rfl rfl ?_)
        refine r_ist hcd rfl rfl (by omega) (by omega) ?_
        exact r_vret hcd rfl rfl rfl H
      · replace H := H.2 hc
        exact r_vret hcd rfl rfl rfl H
    · replace H := H.2 hc
      iterate 3 (refine e_nx hcd rfl rfl ?_)
      refine r_cv hcd rfl (by omega) rfl rfl rfl (Nat.le_of_ble_eq_true rfl) ?_
      refine Cl.mono H (fun v τ7 hq => ?_)
      obtain ⟨r21, rfl, H⟩ := hq
      show Ev X 179 24 _ [vI r21] τ7 Q
      iterate 2 (refine e_nx hcd rfl rfl ?_)
      show Ev X 179 27 [some (vR (some 170)), some (vI a1), some (vI a2), some (vI r14), some (vI r15), some (vI r21), none] [] _ Q
      refine e_nx hcd rfl rfl ?_
      refine r_getR hcd rfl rfl rfl ?_
      refine e_nx hcd rfl rfl ?_
      refine r_ild hcd rfl rfl (by omega) (by omega) ?_
      refine e_nx hcd rfl rfl ?_
      obtain ⟨h22, H⟩ := H
      refine r_icmp hcd rfl h22 (by omega) (fun hc => ?_) (fun hc => ?_)
      · replace H := H.1 hc
        iterate 3 (refine e_nx hcd rfl rfl ?_)
        refine r_getR hcd rfl rfl rfl ?_
        refine e_nx hcd rfl rfl ?_
        refine r_ild hcd rfl rfl (by omega) (by omega) ?_
        iterate 3 (refine e_nx hcd rfl rfl ?_)
        show Ev X 179 43 [some (vR (some 170)), some (vI a1), some (vI a2), some (vI r14), some (vI r15), some (vI r21), some (vI (19 + (3 * (τ7.2 173 3))))] [] _ Q
        refine e_nx hcd rfl rfl ?_
        refine r_getR hcd rfl rfl rfl ?_
        iterate 2 (refine e_nx hcd rfl rfl ?_)
        obtain ⟨h23, H⟩ := H
        refine r_ist hcd rfl rfl (by omega) h23 ?_
        refine e_nx hcd rfl rfl ?_
        refine r_getR hcd rfl rfl rfl ?_
        iterate 4 (refine e_nx hcd rfl rfl ?_)
        obtain ⟨h24, H⟩ := H
        refine r_ist hcd rfl rfl (by omega) h24 ?_
        refine e_nx hcd rfl rfl ?_
        refine r_getR hcd rfl rfl rfl ?_
        iterate 4 (refine e_nx hcd rfl rfl ?_)
        obtain ⟨h25, H⟩ := H
        refine r_ist hcd rfl rfl (by omega) h25 ?_
        refine e_nx hcd rfl rfl ?_
        refine r_getR hcd rfl rfl rfl ?_
        iterate 2 (refine e_nx hcd rfl rfl ?_)
        refine r_ild hcd rfl rfl (by omega) (by omega) ?_
        iterate 2 (refine e_nx hcd rfl rfl ?_)
        refine r_ist hcd rfl rfl (by omega) (by omega) ?_
        exact r_vret hcd rfl rfl rfl H
      · replace H := H.2 hc
        exact r_vret hcd rfl rfl rfl H
/-! X12_parishLine -/
set_option maxRecDepth 20000 in
set_option maxHeartbeats 8000000 in
theorem v_180 {X : PX} {σ : Sg} {Q : Option PV → Sg → Prop}   (H : CI X 174 [vR (some 170), vI 1, vI 6] σ (fun r1 τ1 => InR (τ1.1 170 8) ∧ (τ1.1 170 8 = 0 → InR r1 ∧ (r1 = 1 → CI X 176 [vR (some 170)] τ1 (fun r4 τ2 => CV X 175 [vR (some 170)] (τ2.1, up2 τ2.2 173 4 (iOr (τ1.2 173 4) (iShl 1 r4))) (fun τ3 => Q none τ3))) ∧ (r1 = 2 → CV X 178 [vR (some 170), vI (σ.1 170 4)] τ1 (fun τ4 => CV X 175 [vR (some 170)] τ4 (fun τ5 => Q none τ5))) ∧ (r1 = 3 → (r1 ≠ 4 → CV X 179 [vR (some 170), vI (σ.1 170 4), vI 0] τ1 (fun τ6 => CV X 175 [vR (some 170)] τ6 (fun τ7 => Q none τ7))) ∧ (¬ r1 ≠ 4 → CV X 179 [vR (some 170), vI (σ.1 170 4), vI 1] τ1 (fun τ8 => CV X 175 [vR (some 170)] τ8 (fun τ9 => Q none τ9)))) ∧ (r1 = 4 → (r1 ≠ 4 → CV X 179 [vR (some 170), vI (σ.1 170 4), vI 0] τ1 (fun τ10 => CV X 175 [vR (some 170)] τ10 (fun τ11 => Q none τ11))) ∧ (¬ r1 ≠ 4 → CV X 179 [vR (some 170), vI (σ.1 170 4), vI 1] τ1 (fun τ12 => CV X 175 [vR (some 170)] τ12 (fun τ13 => Q none τ13)))) ∧ (r1 = 5 → CI X 173 [vR (some 170), vI 0, vI 99] τ1 (fun r5 τ14 => CV X 175 [vR (some 170)] (τ14.1, up2 τ14.2 173 0 r5) (fun τ15 => Q none τ15))) ∧ (r1 = 6 → CI X 173 [vR (some 170), vI 0, vI 99] τ1 (fun r6 τ16 => CV X 175 [vR (some 170)] (τ16.1, up2 τ16.2 173 1 r6) (fun τ17 => Q none τ17))) ∧ (r1 ≠ 1 ∧ r1 ≠ 2 ∧ r1 ≠ 3 ∧ r1 ≠ 4 ∧ r1 ≠ 5 ∧ r1 ≠ 6 → CV X 175 [vR (some 170)] τ1 (fun τ18 => Q none τ18))) ∧ (¬ τ1.1 170 8 = 0 → (0 = 1 → CI X 176 [vR (some 170)] τ1 (fun r13 τ19 => CV X 175 [vR (some 170)] (τ19.1, up2 τ19.2 173 4 (iOr (τ1.2 173 4) (iShl 1 r13))) (fun τ20 => Q none τ20))) ∧ (0 = 2 → CV X 178 [vR (some 170), vI (σ.1 170 4)] τ1 (fun τ21 => CV X 175 [vR (some 170)] τ21 (fun τ22 => Q none τ22))) ∧ (0 = 3 → InR r1 ∧ (r1 ≠ 4 → CV X 179 [vR (some 170), vI (σ.1 170 4), vI 0] τ1 (fun τ23 => CV X 175 [vR (some 170)] τ23 (fun τ24 => Q none τ24))) ∧ (¬ r1 ≠ 4 → CV X 179 [vR (some 170), vI (σ.1 170 4), vI 1] τ1 (fun τ25 => CV X 175 [vR (some 170)] τ25 (fun τ26 => Q none τ26)))) ∧ (0 = 4 → InR r1 ∧ (r1 ≠ 4 → CV X 179 [vR (some 170), vI (σ.1 170 4), vI 0] τ1 (fun τ27 => CV X 175 [vR (some 170)] τ27 (fun τ28 => Q none τ28))) ∧ (¬ r1 ≠ 4 → CV X 179 [vR (some 170), vI (σ.1 170 4), vI 1] τ1 (fun τ29 => CV X 175 [vR (some 170)] τ29 (fun τ30 => Q none τ30)))) ∧ (0 = 5 → CI X 173 [vR (some 170), vI 0, vI 99] τ1 (fun r16 τ31 => CV X 175 [vR (some 170)] (τ31.1, up2 τ31.2 173 0 r16) (fun τ32 => Q none τ32))) ∧ (0 = 6 → CI X 173 [vR (some 170), vI 0, vI 99] τ1 (fun r17 τ33 => CV X 175 [vR (some 170)] (τ33.1, up2 τ33.2 173 1 r17) (fun τ34 => Q none τ34))) ∧ (0 ≠ 1 ∧ 0 ≠ 2 ∧ 0 ≠ 3 ∧ 0 ≠ 4 ∧ 0 ≠ 5 ∧ 0 ≠ 6 → CV X 175 [vR (some 170)] τ1 (fun τ35 => Q none τ35))))) : Cl X 180 [vR (some 170)] σ Q := by
  have hcd : cds 180 = cd_180 := rfl
  refine c_in (Nat.le_of_ble_eq_true rfl) rfl rfl ?_
  show Ev X 180 0 [some (vR (some 170)), none, none] [] σ Q
  refine e_nx hcd rfl rfl ?_
  refine r_getI hcd rfl rfl rfl ?_
  refine e_nx hcd rfl rfl ?_
  show Ev X 180 3 [some (vR (some 170)), some (vI (σ.1 170 4)), none] [] _ Q
  iterate 3 (refine e_nx hcd rfl rfl ?_)
  refine r_cv hcd rfl (by omega) rfl rfl rfl (Nat.le_of_ble_eq_true rfl) ?_
  refine Cl.mono H (fun v τ1 hq => ?_)
  obtain ⟨r1, rfl, H⟩ := hq
  show Ev X 180 7 _ [vI r1] τ1 Q
  refine e_nx hcd rfl rfl ?_
  show Ev X 180 8 [some (vR (some 170)), some (vI (σ.1 170 4)), some (vI r1)] [] _ Q
  refine e_nx hcd rfl rfl ?_
  refine r_getI hcd rfl rfl rfl ?_
  obtain ⟨h2, H⟩ := H
  refine r_if hcd rfl h2 (fun hc => ?_) (fun hc => ?_)
  · replace H := H.1 hc
    refine e_nx hcd rfl rfl ?_
    obtain ⟨h3, H⟩ := H
    refine r_tab hcd rfl h3 ?_
    by_cases hs7 : r1 = 1
    · replace H := H.1 hs7
      refine e_pc (i2 := 15) (by rw [hs7]; rfl) ?_
      refine e_nx hcd rfl rfl ?_
      refine r_getR hcd rfl rfl rfl ?_
      iterate 2 (refine e_nx hcd rfl rfl ?_)
      refine r_ild hcd rfl rfl (by omega) (by omega) ?_
      iterate 2 (refine e_nx hcd rfl rfl ?_)
      refine r_cv hcd rfl (by omega) rfl rfl rfl (Nat.le_of_ble_eq_true rfl) ?_
      refine Cl.mono H (fun v τ2 hq => ?_)
      obtain ⟨r4, rfl, H⟩ := hq
      show Ev X 180 23 _ [vI r4, vI 1, vI (τ1.2 173 4), vI 4, vR (some 173)] τ2 Q
      iterate 2 (refine e_nx hcd rfl rfl ?_)
      refine r_ist hcd rfl rfl (by omega) (by omega) ?_
      iterate 2 (refine e_nx hcd rfl rfl ?_)
      refine r_cv hcd rfl (by omega) rfl rfl rfl (Nat.le_of_ble_eq_true rfl) ?_
      refine Cl.mono H (fun v τ3 hq => ?_)
      obtain ⟨rfl, H⟩ := hq
      show Ev X 180 61 _ [] τ3 Q
      exact r_vret hcd rfl rfl rfl H
    by_cases hs8 : r1 = 2
    · replace H := H.2.1 hs8
      refine e_pc (i2 := 27) (by rw [hs8]; rfl) ?_
      iterate 2 (refine e_nx hcd rfl rfl ?_)
      refine r_cv hcd rfl (by omega) rfl rfl rfl (Nat.le_of_ble_eq_true rfl) ?_
      refine Cl.mono H (fun v τ4 hq => ?_)
      obtain ⟨rfl, H⟩ := hq
      show Ev X 180 30 _ [] τ4 Q
      iterate 2 (refine e_nx hcd rfl rfl ?_)
      refine r_cv hcd rfl (by omega) rfl rfl rfl (Nat.le_of_ble_eq_true rfl) ?_
      refine Cl.mono H (fun v τ5 hq => ?_)
      obtain ⟨rfl, H⟩ := hq
      show Ev X 180 61 _ [] τ5 Q
      exact r_vret hcd rfl rfl rfl H
    by_cases hs9 : r1 = 3
    · replace H := H.2.2.1 hs9
      refine e_pc (i2 := 31) (by rw [hs9]; rfl) ?_
      iterate 4 (refine e_nx hcd rfl rfl ?_)
      refine r_icmp hcd rfl h3 (by omega) (fun hc => ?_) (fun hc => ?_)
      · replace H := H.1 hc
        refine e_nx hcd rfl rfl ?_
        refine r_cv hcd rfl (by omega) rfl rfl rfl (Nat.le_of_ble_eq_true rfl) ?_
        refine Cl.mono H (fun v τ6 hq => ?_)
        obtain ⟨rfl, H⟩ := hq
        show Ev X 180 40 _ [] τ6 Q
        iterate 2 (refine e_nx hcd rfl rfl ?_)
        refine r_cv hcd rfl (by omega) rfl rfl rfl (Nat.le_of_ble_eq_true rfl) ?_
        refine Cl.mono H (fun v τ7 hq => ?_)
        obtain ⟨rfl, H⟩ := hq
        show Ev X 180 61 _ [] τ7 Q
        exact r_vret hcd rfl rfl rfl H
      · replace H := H.2 hc
        iterate 2 (refine e_nx hcd rfl rfl ?_)
        refine r_cv hcd rfl (by omega) rfl rfl rfl (Nat.le_of_ble_eq_true rfl) ?_
        refine Cl.mono H (fun v τ8 hq => ?_)
        obtain ⟨rfl, H⟩ := hq
        show Ev X 180 40 _ [] τ8 Q
        iterate 2 (refine e_nx hcd rfl rfl ?_)
        refine r_cv hcd rfl (by omega) rfl rfl rfl (Nat.le_of_ble_eq_true rfl) ?_
        refine Cl.mono H (fun v τ9 hq => ?_)
        obtain ⟨rfl, H⟩ := hq
        show Ev X 180 61 _ [] τ9 Q
        exact r_vret hcd rfl rfl rfl H
    by_cases hs10 : r1 = 4
    · replace H := H.2.2.2.1 hs10
      refine e_pc (i2 := 31) (by rw [hs10]; rfl) ?_
      iterate 4 (refine e_nx hcd rfl rfl ?_)
      refine r_icmp hcd rfl h3 (by omega) (fun hc => ?_) (fun hc => ?_)
      · replace H := H.1 hc
        refine e_nx hcd rfl rfl ?_
        refine r_cv hcd rfl (by omega) rfl rfl rfl (Nat.le_of_ble_eq_true rfl) ?_
        refine Cl.mono H (fun v τ10 hq => ?_)
        obtain ⟨rfl, H⟩ := hq
        show Ev X 180 40 _ [] τ10 Q
        iterate 2 (refine e_nx hcd rfl rfl ?_)
        refine r_cv hcd rfl (by omega) rfl rfl rfl (Nat.le_of_ble_eq_true rfl) ?_
        refine Cl.mono H (fun v τ11 hq => ?_)
        obtain ⟨rfl, H⟩ := hq
        show Ev X 180 61 _ [] τ11 Q
        exact r_vret hcd rfl rfl rfl H
      · replace H := H.2 hc
        iterate 2 (refine e_nx hcd rfl rfl ?_)
        refine r_cv hcd rfl (by omega) rfl rfl rfl (Nat.le_of_ble_eq_true rfl) ?_
        refine Cl.mono H (fun v τ12 hq => ?_)
        obtain ⟨rfl, H⟩ := hq
        show Ev X 180 40 _ [] τ12 Q
        iterate 2 (refine e_nx hcd rfl rfl ?_)
        refine r_cv hcd rfl (by omega) rfl rfl rfl (Nat.le_of_ble_eq_true rfl) ?_
        refine Cl.mono H (fun v τ13 hq => ?_)
        obtain ⟨rfl, H⟩ := hq
        show Ev X 180 61 _ [] τ13 Q
        exact r_vret hcd rfl rfl rfl H
    by_cases hs11 : r1 = 5
    · replace H := H.2.2.2.2.1 hs11
      refine e_pc (i2 := 41) (by rw [hs11]; rfl) ?_
      refine e_nx hcd rfl rfl ?_
      refine r_getR hcd rfl rfl rfl ?_
      iterate 4 (refine e_nx hcd rfl rfl ?_)
      refine r_cv hcd rfl (by omega) rfl rfl rfl (Nat.le_of_ble_eq_true rfl) ?_
      refine Cl.mono H (fun v τ14 hq => ?_)
      obtain ⟨r5, rfl, H⟩ := hq
      show Ev X 180 48 _ [vI r5, vI 0, vR (some 173)] τ14 Q
      refine r_ist hcd rfl rfl (by omega) (by omega) ?_
      iterate 2 (refine e_nx hcd rfl rfl ?_)
      refine r_cv hcd rfl (by omega) rfl rfl rfl (Nat.le_of_ble_eq_true rfl) ?_
      refine Cl.mono H (fun v τ15 hq => ?_)
      obtain ⟨rfl, H⟩ := hq
      show Ev X 180 61 _ [] τ15 Q
      exact r_vret hcd rfl rfl rfl H
    by_cases hs12 : r1 = 6
    · replace H := H.2.2.2.2.2.1 hs12
      refine e_pc (i2 := 50) (by rw [hs12]; rfl) ?_
      refine e_nx hcd rfl rfl ?_
      refine r_getR hcd rfl rfl rfl ?_
      iterate 4 (refine e_nx hcd rfl rfl ?_)
      refine r_cv hcd rfl (by omega) rfl rfl rfl (Nat.le_of_ble_eq_true rfl) ?_
      refine Cl.mono H (fun v τ16 hq => ?_)
      obtain ⟨r6, rfl, H⟩ := hq
      show Ev X 180 57 _ [vI r6, vI 1, vR (some 173)] τ16 Q
      refine r_ist hcd rfl rfl (by omega) (by omega) ?_
      iterate 2 (refine e_nx hcd rfl rfl ?_)
      refine r_cv hcd rfl (by omega) rfl rfl rfl (Nat.le_of_ble_eq_true rfl) ?_
      refine Cl.mono H (fun v τ17 hq => ?_)
      obtain ⟨rfl, H⟩ := hq
      show Ev X 180 61 _ [] τ17 Q
      exact r_vret hcd rfl rfl rfl H
    replace H := H.2.2.2.2.2.2 ⟨hs7, hs8, hs9, hs10, hs11, hs12⟩
    refine e_pc (i2 := 59) (tab_def (lo := 1) (hi := 6) (fun h1 h2 => ?_)) ?_
    · omega
    · refine e_nx hcd rfl rfl ?_
      refine r_cv hcd rfl (by omega) rfl rfl rfl (Nat.le_of_ble_eq_true rfl) ?_
      refine Cl.mono H (fun v τ18 hq => ?_)
      obtain ⟨rfl, H⟩ := hq
      show Ev X 180 61 _ [] τ18 Q
      exact r_vret hcd rfl rfl rfl H
  · replace H := H.2 hc
    iterate 2 (refine e_nx hcd rfl rfl ?_)
    refine r_tab hcd rfl (by omega) ?_
    by_cases hs18 : 0 = 1
    · replace H := H.1 hs18
      refine e_pc (i2 := 15) (by rw [hs18]; rfl) ?_
      refine e_nx hcd rfl rfl ?_
      refine r_getR hcd rfl rfl rfl ?_
      iterate 2 (refine e_nx hcd rfl rfl ?_)
      refine r_ild hcd rfl rfl (by omega) (by omega) ?_
      iterate 2 (refine e_nx hcd rfl rfl ?_)
      refine r_cv hcd rfl (by omega) rfl rfl rfl (Nat.le_of_ble_eq_true rfl) ?_
      refine Cl.mono H (fun v τ19 hq => ?_)
      obtain ⟨r13, rfl, H⟩ := hq
      show Ev X 180 23 _ [vI r13, vI 1, vI (τ1.2 173 4), vI 4, vR (some 173)] τ19 Q
      iterate 2 (refine e_nx hcd rfl rfl ?_)
      refine r_ist hcd rfl rfl (by omega) (by omega) ?_
      iterate 2 (refine e_nx hcd rfl rfl ?_)
      refine r_cv hcd rfl (by omega) rfl rfl rfl (Nat.le_of_ble_eq_true rfl) ?_
      refine Cl.mono H (fun v τ20 hq => ?_)
      obtain ⟨rfl, H⟩ := hq
      show Ev X 180 61 _ [] τ20 Q
      exact r_vret hcd rfl rfl rfl H
    by_cases hs19 : 0 = 2
    · replace H := H.2.1 hs19
      refine e_pc (i2 := 27) (by rw [hs19]; rfl) ?_
      iterate 2 (refine e_nx hcd rfl rfl ?_)
      refine r_cv hcd rfl (by omega) rfl rfl rfl (Nat.le_of_ble_eq_true rfl) ?_
      refine Cl.mono H (fun v τ21 hq => ?_)
      obtain ⟨rfl, H⟩ := hq
      show Ev X 180 30 _ [] τ21 Q
      iterate 2 (refine e_nx hcd rfl rfl ?_)
      refine r_cv hcd rfl (by omega) rfl rfl rfl (Nat.le_of_ble_eq_true rfl) ?_
      refine Cl.mono H (fun v τ22 hq => ?_)
      obtain ⟨rfl, H⟩ := hq
      show Ev X 180 61 _ [] τ22 Q
      exact r_vret hcd rfl rfl rfl H
    by_cases hs20 : 0 = 3
    · replace H := H.2.2.1 hs20
      refine e_pc (i2 := 31) (by rw [hs20]; rfl) ?_
      iterate 4 (refine e_nx hcd rfl rfl ?_)
      obtain ⟨h14, H⟩ := H
      refine r_icmp hcd rfl h14 (by omega) (fun hc => ?_) (fun hc => ?_)
      · replace H := H.1 hc
        refine e_nx hcd rfl rfl ?_
        refine r_cv hcd rfl (by omega) rfl rfl rfl (Nat.le_of_ble_eq_true rfl) ?_
        refine Cl.mono H (fun v τ23 hq => ?_)
        obtain ⟨rfl, H⟩ := hq
        show Ev X 180 40 _ [] τ23 Q
        iterate 2 (refine e_nx hcd rfl rfl ?_)
        refine r_cv hcd rfl (by omega) rfl rfl rfl (Nat.le_of_ble_eq_true rfl) ?_
        refine Cl.mono H (fun v τ24 hq => ?_)
        obtain ⟨rfl, H⟩ := hq
        show Ev X 180 61 _ [] τ24 Q
        exact r_vret hcd rfl rfl rfl H
      · replace H := H.2 hc
        iterate 2 (refine e_nx hcd rfl rfl ?_)
        refine r_cv hcd rfl (by omega) rfl rfl rfl (Nat.le_of_ble_eq_true rfl) ?_
        refine Cl.mono H (fun v τ25 hq => ?_)
        obtain ⟨rfl, H⟩ := hq
        show Ev X 180 40 _ [] τ25 Q
        iterate 2 (refine e_nx hcd rfl rfl ?_)
        refine r_cv hcd rfl (by omega) rfl rfl rfl (Nat.le_of_ble_eq_true rfl) ?_
        refine Cl.mono H (fun v τ26 hq => ?_)
        obtain ⟨rfl, H⟩ := hq
        show Ev X 180 61 _ [] τ26 Q
        exact r_vret hcd rfl rfl rfl H
    by_cases hs21 : 0 = 4
    · replace H := H.2.2.2.1 hs21
      refine e_pc (i2 := 31) (by rw [hs21]; rfl) ?_
      iterate 4 (refine e_nx hcd rfl rfl ?_)
      obtain ⟨h15, H⟩ := H
      refine r_icmp hcd rfl h15 (by omega) (fun hc => ?_) (fun hc => ?_)
      · replace H := H.1 hc
        refine e_nx hcd rfl rfl ?_
        refine r_cv hcd rfl (by omega) rfl rfl rfl (Nat.le_of_ble_eq_true rfl) ?_
        refine Cl.mono H (fun v τ27 hq => ?_)
        obtain ⟨rfl, H⟩ := hq
        show Ev X 180 40 _ [] τ27 Q
        iterate 2 (refine e_nx hcd rfl rfl ?_)
        refine r_cv hcd rfl (by omega) rfl rfl rfl (Nat.le_of_ble_eq_true rfl) ?_
        refine Cl.mono H (fun v τ28 hq => ?_)
        obtain ⟨rfl, H⟩ := hq
        show Ev X 180 61 _ [] τ28 Q
        exact r_vret hcd rfl rfl rfl H
      · replace H := H.2 hc
        iterate 2 (refine e_nx hcd rfl rfl ?_)
        refine r_cv hcd rfl (by omega) rfl rfl rfl (Nat.le_of_ble_eq_true rfl) ?_
        refine Cl.mono H (fun v τ29 hq => ?_)
        obtain ⟨rfl, H⟩ := hq
        show Ev X 180 40 _ [] τ29 Q
        iterate 2 (refine e_nx hcd rfl rfl ?_)
        refine r_cv hcd rfl (by omega) rfl rfl rfl (Nat.le_of_ble_eq_true rfl) ?_
        refine Cl.mono H (fun v τ30 hq => ?_)
        obtain ⟨rfl, H⟩ := hq
        show Ev X 180 61 _ [] τ30 Q
        exact r_vret hcd rfl rfl rfl H
    by_cases hs22 : 0 = 5
    · replace H := H.2.2.2.2.1 hs22
      refine e_pc (i2 := 41) (by rw [hs22]; rfl) ?_
      refine e_nx hcd rfl rfl ?_
      refine r_getR hcd rfl rfl rfl ?_
      iterate 4 (refine e_nx hcd rfl rfl ?_)
      refine r_cv hcd rfl (by omega) rfl rfl rfl (Nat.le_of_ble_eq_true rfl) ?_
      refine Cl.mono H (fun v τ31 hq => ?_)
      obtain ⟨r16, rfl, H⟩ := hq
      show Ev X 180 48 _ [vI r16, vI 0, vR (some 173)] τ31 Q
      refine r_ist hcd rfl rfl (by omega) (by omega) ?_
      iterate 2 (refine e_nx hcd rfl rfl ?_)
      refine r_cv hcd rfl (by omega) rfl rfl rfl (Nat.le_of_ble_eq_true rfl) ?_
      refine Cl.mono H (fun v τ32 hq => ?_)
      obtain ⟨rfl, H⟩ := hq
      show Ev X 180 61 _ [] τ32 Q
      exact r_vret hcd rfl rfl rfl H
    by_cases hs23 : 0 = 6
    · replace H := H.2.2.2.2.2.1 hs23
      refine e_pc (i2 := 50) (by rw [hs23]; rfl) ?_
      refine e_nx hcd rfl rfl ?_
      refine r_getR hcd rfl rfl rfl ?_
      iterate 4 (refine e_nx hcd rfl rfl ?_)
      refine r_cv hcd rfl (by omega) rfl rfl rfl (Nat.le_of_ble_eq_true rfl) ?_
      refine Cl.mono H (fun v τ33 hq => ?_)
      obtain ⟨r17, rfl, H⟩ := hq
      show Ev X 180 57 _ [vI r17, vI 1, vR (some 173)] τ33 Q
      refine r_ist hcd rfl rfl (by omega) (by omega) ?_
      iterate 2 (refine e_nx hcd rfl rfl ?_)
      refine r_cv hcd rfl (by omega) rfl rfl rfl (Nat.le_of_ble_eq_true rfl) ?_
      refine Cl.mono H (fun v τ34 hq => ?_)
      obtain ⟨rfl, H⟩ := hq
      show Ev X 180 61 _ [] τ34 Q
      exact r_vret hcd rfl rfl rfl H
    replace H := H.2.2.2.2.2.2 ⟨hs18, hs19, hs20, hs21, hs22, hs23⟩
    refine e_pc (i2 := 59) (tab_def (lo := 1) (hi := 6) (fun h1 h2 => ?_)) ?_
    · omega
    · refine e_nx hcd rfl rfl ?_
      refine r_cv hcd rfl (by omega) rfl rfl rfl (Nat.le_of_ble_eq_true rfl) ?_
      refine Cl.mono H (fun v τ35 hq => ?_)
      obtain ⟨rfl, H⟩ := hq
      show Ev X 180 61 _ [] τ35 Q
      exact r_vret hcd rfl rfl rfl H
/-! X12_deedOf -/
theorem v_181 {X : PX} {σ : Sg} {Q : Option PV → Sg → Prop} {a1 : Int}  (H : InR a1 ∧ (a1 = 5 → Q (some (vI 3)) σ) ∧ (a1 = 6 → Q (some (vI 4)) σ) ∧ (a1 = 10 → Q (some (vI 5)) σ) ∧ (a1 ≠ 5 ∧ a1 ≠ 6 ∧ a1 ≠ 10 → Q (some (vI ((a1 - 6) - 1))) σ)) : Cl X 181 [vI a1] σ Q := by
  have hcd : cds 181 = cd_181 := rfl
  refine c_in (Nat.le_of_ble_eq_true rfl) rfl rfl ?_
  show Ev X 181 0 [some (vI a1)] [] σ Q
  refine e_nx hcd rfl rfl ?_
  obtain ⟨h1, H⟩ := H
  refine r_lkp hcd rfl h1 ?_
  by_cases hs2 : a1 = 5
  · replace H := H.1 hs2
    refine e_pc (i2 := 2) (by rw [hs2]; rfl) ?_
    refine e_nx hcd rfl rfl ?_
    exact r_iret hcd rfl rfl rfl H
  by_cases hs3 : a1 = 6
  · replace H := H.2.1 hs3
    refine e_pc (i2 := 4) (by rw [hs3]; rfl) ?_
    refine e_nx hcd rfl rfl ?_
    exact r_iret hcd rfl rfl rfl H
  by_cases hs4 : a1 = 10
  · replace H := H.2.2.1 hs4
    refine e_pc (i2 := 6) (by rw [hs4]; rfl) ?_
    refine e_nx hcd rfl rfl ?_
    exact r_iret hcd rfl rfl rfl H
  replace H := H.2.2.2 ⟨hs2, hs3, hs4⟩
  refine e_pc (i2 := 8) (by simp [List.findIdx?_cons, Ne.symm hs2, hs2, Ne.symm hs3, hs3, Ne.symm hs4, hs4, ord]) ?_
  iterate 5 (refine e_nx hcd rfl rfl ?_)
  exact r_iret hcd rfl rfl rfl H
