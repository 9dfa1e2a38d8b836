/-! X12_shares -/
theorem v_199 {X : PX} {σ : Sg} {Q : Option PV → Sg → Prop}   (H : CI X 197 [vR (some 170), vI (σ.1 170 16)] σ (fun r1 τ1 => Ev X 199 10 [some (vR (some 170)), some (vI 0), some (vI 0), none, none] [] (up2 τ1.1 170 18 r1, τ1.2) Q)) : Cl X 199 [vR (some 170)] σ Q := by
  have hcd : cds 199 = cd_199 := rfl
  refine c_in (Nat.le_of_ble_eq_true rfl) rfl rfl ?_
  show Ev X 199 0 [some (vR (some 170)), none, none, none, none] [] σ Q
  iterate 3 (refine e_nx hcd rfl rfl ?_)
  refine r_getI hcd rfl rfl rfl ?_
  refine r_cv hcd rfl (by omega) rfl rfl rfl (Nat.le_of_ble_eq_true rfl) ?_
  refine Cl.mono H (fun v τ1 hq => ?_)
  obtain ⟨r1, rfl, H⟩ := hq
  show Ev X 199 5 _ [vI r1, vR (some 170)] τ1 Q
  refine r_putI hcd rfl rfl rfl rfl ?_
  iterate 2 (refine e_nx hcd rfl rfl ?_)
  show Ev X 199 8 [some (vR (some 170)), some (vI 0), none, none, none] [] _ Q
  iterate 2 (refine e_nx hcd rfl rfl ?_)
  show Ev X 199 10 [some (vR (some 170)), some (vI 0), some (vI 0), none, none] [] _ Q
  exact H
set_option maxRecDepth 20000 in
set_option maxHeartbeats 8000000 in
theorem v_199_10 {X : PX} {σ : Sg} {Q : Option PV → Sg → Prop} {x1 : Int} {x2 : Int}  (H : InR x2 ∧ InR (σ.1 170 12) ∧ (σ.1 170 12 ≤ x2 → InR x1 ∧ (x1 ≠ 0 → Ev X 199 38 [some (vR (some 170)), some (vI x1), some (vI (σ.1 170 14)), some (vI 0), none] [] σ Q) ∧ (¬ x1 ≠ 0 → Ev X 199 38 [some (vR (some 170)), some (vI x1), some (vI 0), some (vI 0), none] [] σ Q)) ∧ (¬ σ.1 170 12 ≤ x2 → CI X 198 [vR (some 170), vI x2] σ (fun r4 τ1 => InR r4 ∧ (r4 = 0 → (0 ≤ x2 ∧ x2 < 7) ∧ Ev X 199 10 [some (vR (some 170)), some (vI (x1 + (τ1.2 174 x2.toNat))), some (vI (x2 + 1)), none, none] [] τ1 Q) ∧ (¬ r4 = 0 → Ev X 199 10 [some (vR (some 170)), some (vI (x1 + 0)), some (vI (x2 + 1)), none, none] [] τ1 Q)))) : Ev X 199 10 [some (vR (some 170)), some (vI x1), some (vI x2), none, none] [] σ Q := by
  have hcd : cds 199 = cd_199 := rfl
  iterate 2 (refine e_nx hcd rfl rfl ?_)
  refine r_getI hcd rfl rfl rfl ?_
  obtain ⟨h1, H⟩ := H
  obtain ⟨h2, H⟩ := H
  refine r_icmp hcd rfl h1 h2 (fun hc => ?_) (fun hc => ?_)
  · replace H := H.1 hc
    refine e_nx hcd rfl rfl ?_
    obtain ⟨h3, H⟩ := H
    refine r_if hcd rfl h3 (fun hc => ?_) (fun hc => ?_)
    · replace H := H.1 hc
      refine e_nx hcd rfl rfl ?_
      refine r_getI hcd rfl rfl rfl ?_
      refine e_nx hcd rfl rfl ?_
      show Ev X 199 36 [some (vR (some 170)), some (vI x1), some (vI (σ.1 170 14)), none, none] [] _ Q
      iterate 2 (refine e_nx hcd rfl rfl ?_)
      show Ev X 199 38 [some (vR (some 170)), some (vI x1), some (vI (σ.1 170 14)), some (vI 0), none] [] _ Q
      exact H
    · replace H := H.2 hc
      iterate 3 (refine e_nx hcd rfl rfl ?_)
      show Ev X 199 36 [some (vR (some 170)), some (vI x1), some (vI 0), none, none] [] _ Q
      iterate 2 (refine e_nx hcd rfl rfl ?_)
      show Ev X 199 38 [some (vR (some 170)), some (vI x1), some (vI 0), some (vI 0), none] [] _ Q
      exact H
  · replace H := H.2 hc
    iterate 3 (refine e_nx hcd rfl rfl ?_)
    refine r_cv hcd rfl (by omega) rfl rfl rfl (Nat.le_of_ble_eq_true rfl) ?_
    refine Cl.mono H (fun v τ1 hq => ?_)
    obtain ⟨r4, rfl, H⟩ := hq
    show Ev X 199 18 _ [vI r4, vI x1] τ1 Q
    obtain ⟨h5, H⟩ := H
    refine r_if hcd rfl h5 (fun hc => ?_) (fun hc => ?_)
    · replace H := H.1 hc
      refine e_nx hcd rfl rfl ?_
      refine r_getR hcd rfl rfl rfl ?_
      refine e_nx hcd rfl rfl ?_
      obtain ⟨h6, H⟩ := H
      refine r_ild hcd rfl rfl (by omega) h6 ?_
      iterate 2 (refine e_nx hcd rfl rfl ?_)
      show Ev X 199 27 [some (vR (some 170)), some (vI (x1 + (τ1.2 174 x2.toNat))), some (vI x2), none, none] [] _ Q
      refine e_nx hcd rfl rfl ?_
      show Ev X 199 28 [some (vR (some 170)), some (vI (x1 + (τ1.2 174 x2.toNat))), some (vI (x2 + 1)), none, none] [] _ Q
      refine e_nx hcd rfl rfl ?_
      exact H
    · replace H := H.2 hc
      iterate 4 (refine e_nx hcd rfl rfl ?_)
      show Ev X 199 27 [some (vR (some 170)), some (vI (x1 + 0)), some (vI x2), none, none] [] _ Q
      refine e_nx hcd rfl rfl ?_
      show Ev X 199 28 [some (vR (some 170)), some (vI (x1 + 0)), some (vI (x2 + 1)), none, none] [] _ Q
      refine e_nx hcd rfl rfl ?_
      exact H
set_option maxRecDepth 20000 in
set_option maxHeartbeats 8000000 in
theorem v_199_38 {X : PX} {σ : Sg} {Q : Option PV → Sg → Prop} {x1 : Int} {x2 : Int} {x3 : Int}  (H : InR x3 ∧ InR (σ.1 170 12) ∧ (σ.1 170 12 ≤ x3 → Ev X 199 95 [some (vR (some 170)), none, some (vI x2), none, none] [] σ Q) ∧ (¬ σ.1 170 12 ≤ x3 → InR x1 ∧ (x1 ≤ 0 → (0 ≤ x3 ∧ x3 < 7) ∧ Ev X 199 38 [some (vR (some 170)), some (vI x1), some (vI (x2 - ((up2 (up2 σ.2 175 x3.toNat 0) 176 x3.toNat (-1)) 175 x3.toNat))), some (vI (x3 + 1)), none] [] (σ.1, up2 (up2 σ.2 175 x3.toNat 0) 176 x3.toNat (-1)) Q) ∧ (¬ x1 ≤ 0 → CI X 198 [vR (some 170), vI x3] σ (fun r5 τ1 => InR r5 ∧ (r5 ≠ 0 → (0 ≤ x3 ∧ x3 < 7) ∧ Ev X 199 38 [some (vR (some 170)), some (vI x1), some (vI (x2 - ((up2 (up2 τ1.2 175 x3.toNat 0) 176 x3.toNat (-1)) 175 x3.toNat))), some (vI (x3 + 1)), none] [] (τ1.1, up2 (up2 τ1.2 175 x3.toNat 0) 176 x3.toNat (-1)) Q) ∧ (¬ r5 ≠ 0 → (0 ≤ x3 ∧ x3 < 7) ∧ (x1 ≠ 0) ∧ Ev X 199 38 [some (vR (some 170)), some (vI x1), some (vI (x2 - ((up2 (up2 τ1.2 175 x3.toNat (iDiv ((τ1.1 170 14) * (τ1.2 174 x3.toNat)) x1)) 176 x3.toNat (iRem ((τ1.1 170 14) * (τ1.2 174 x3.toNat)) x1)) 175 x3.toNat))), some (vI (x3 + 1)), none] [] (τ1.1, up2 (up2 τ1.2 175 x3.toNat (iDiv ((τ1.1 170 14) * (τ1.2 174 x3.toNat)) x1)) 176 x3.toNat (iRem ((τ1.1 170 14) * (τ1.2 174 x3.toNat)) x1)) Q))))) : Ev X 199 38 [some (vR (some 170)), some (vI x1), some (vI x2), some (vI x3), none] [] σ Q := by
  have hcd : cds 199 = cd_199 := rfl
  iterate 2 (refine e_nx hcd rfl rfl ?_)
  refine r_getI hcd rfl rfl rfl ?_
  obtain ⟨h1, H⟩ := H
  obtain ⟨h2, H⟩ := H
  refine r_icmp hcd rfl h1 h2 (fun hc => ?_) (fun hc => ?_)
  · replace H := H.1 hc
    refine e_fg [1, 3] ?_
    exact H
  · replace H := H.2 hc
    refine e_nx hcd rfl rfl ?_
    obtain ⟨h3, H⟩ := H
    refine r_if hcd rfl h3 (fun hc => ?_) (fun hc => ?_)
    · replace H := H.1 hc
      iterate 2 (refine e_nx hcd rfl rfl ?_)
      show Ev X 199 52 [some (vR (some 170)), some (vI x1), some (vI x2), some (vI x3), some (vI 0)] [] _ Q
      refine e_nx hcd rfl rfl ?_
      refine r_getR hcd rfl rfl rfl ?_
      iterate 2 (refine e_nx hcd rfl rfl ?_)
      refine r_if hcd rfl (by omega) (fun hc => ?_) (fun hc => ?_)
      · refine e_nx hcd rfl rfl ?_
        obtain ⟨h4, H⟩ := H
        refine r_ist hcd rfl rfl (by omega) h4 ?_
        refine e_nx hcd rfl rfl ?_
        refine r_getR hcd rfl rfl rfl ?_
        iterate 2 (refine e_nx hcd rfl rfl ?_)
        refine r_if hcd rfl (by omega) (fun hc => ?_) (fun hc => ?_)
        · refine e_nx hcd rfl rfl ?_
          refine r_ist hcd rfl rfl (by omega) h4 ?_
          iterate 2 (refine e_nx hcd rfl rfl ?_)
          refine r_getR hcd rfl rfl rfl ?_
          refine e_nx hcd rfl rfl ?_
          refine r_ild hcd rfl rfl (by omega) h4 ?_
          iterate 2 (refine e_nx hcd rfl rfl ?_)
          show Ev X 199 93 [some (vR (some 170)), some (vI x1), some (vI (x2 - ((up2 (up2 σ.2 175 x3.toNat 0) 176 x3.toNat (-1)) 175 x3.toNat))), some (vI x3), some (vI 0)] [] _ Q
          refine e_nx hcd rfl rfl ?_
          show Ev X 199 94 [some (vR (some 170)), some (vI x1), some (vI (x2 - ((up2 (up2 σ.2 175 x3.toNat 0) 176 x3.toNat (-1)) 175 x3.toNat))), some (vI (x3 + 1)), some (vI 0)] [] _ Q
          refine e_nx hcd rfl rfl ?_
          refine e_fg [4] ?_
          exact H
        · exact absurd hc (by simp [cmpP])
      · exact absurd hc (by simp [cmpP])
    · replace H := H.2 hc
      iterate 2 (refine e_nx hcd rfl rfl ?_)
      refine r_cv hcd rfl (by omega) rfl rfl rfl (Nat.le_of_ble_eq_true rfl) ?_
      refine Cl.mono H (fun v τ1 hq => ?_)
      obtain ⟨r5, rfl, H⟩ := hq
      show Ev X 199 47 _ [vI r5] τ1 Q
      obtain ⟨h6, H⟩ := H
      refine r_if hcd rfl h6 (fun hc => ?_) (fun hc => ?_)
      · replace H := H.1 hc
        iterate 2 (refine e_nx hcd rfl rfl ?_)
        show Ev X 199 52 [some (vR (some 170)), some (vI x1), some (vI x2), some (vI x3), some (vI 0)] [] _ Q
        refine e_nx hcd rfl rfl ?_
        refine r_getR hcd rfl rfl rfl ?_
        iterate 2 (refine e_nx hcd rfl rfl ?_)
        refine r_if hcd rfl (by omega) (fun hc => ?_) (fun hc => ?_)
        · refine e_nx hcd rfl rfl ?_
          obtain ⟨h7, H⟩ := H
          refine r_ist hcd rfl rfl (by omega) h7 ?_
          refine e_nx hcd rfl rfl ?_
          refine r_getR hcd rfl rfl rfl ?_
          iterate 2 (refine e_nx hcd rfl rfl ?_)
          refine r_if hcd rfl (by omega) (fun hc => ?_) (fun hc => ?_)
          · refine e_nx hcd rfl rfl ?_
            refine r_ist hcd rfl rfl (by omega) h7 ?_
            iterate 2 (refine e_nx hcd rfl rfl ?_)
            refine r_getR hcd rfl rfl rfl ?_
            refine e_nx hcd rfl rfl ?_
            refine r_ild hcd rfl rfl (by omega) h7 ?_
            iterate 2 (refine e_nx hcd rfl rfl ?_)
            show Ev X 199 93 [some (vR (some 170)), some (vI x1), some (vI (x2 - ((up2 (up2 τ1.2 175 x3.toNat 0) 176 x3.toNat (-1)) 175 x3.toNat))), some (vI x3), some (vI 0)] [] _ Q
            refine e_nx hcd rfl rfl ?_
            show Ev X 199 94 [some (vR (some 170)), some (vI x1), some (vI (x2 - ((up2 (up2 τ1.2 175 x3.toNat 0) 176 x3.toNat (-1)) 175 x3.toNat))), some (vI (x3 + 1)), some (vI 0)] [] _ Q
            refine e_nx hcd rfl rfl ?_
            refine e_fg [4] ?_
            exact H
          · exact absurd hc (by simp [cmpP])
        · exact absurd hc (by simp [cmpP])
      · replace H := H.2 hc
        iterate 3 (refine e_nx hcd rfl rfl ?_)
        show Ev X 199 52 [some (vR (some 170)), some (vI x1), some (vI x2), some (vI x3), some (vI 1)] [] _ Q
        refine e_nx hcd rfl rfl ?_
        refine r_getR hcd rfl rfl rfl ?_
        iterate 2 (refine e_nx hcd rfl rfl ?_)
        refine r_if hcd rfl (by omega) (fun hc => ?_) (fun hc => ?_)
        · exact absurd hc (by simp [cmpP])
        · refine e_nx hcd rfl rfl ?_
          refine r_getI hcd rfl rfl rfl ?_
          refine e_nx hcd rfl rfl ?_
          refine r_getR hcd rfl rfl rfl ?_
          refine e_nx hcd rfl rfl ?_
          obtain ⟨h8, H⟩ := H
          refine r_ild hcd rfl rfl (by omega) h8 ?_
          iterate 2 (refine e_nx hcd rfl rfl ?_)
          obtain ⟨h9, H⟩ := H
          refine r_div hcd rfl h3 h9 ?_
          refine e_nx hcd rfl rfl ?_
          refine r_ist hcd rfl rfl (by omega) h8 ?_
          refine e_nx hcd rfl rfl ?_
          refine r_getR hcd rfl rfl rfl ?_
          iterate 2 (refine e_nx hcd rfl rfl ?_)
          refine r_if hcd rfl (by omega) (fun hc => ?_) (fun hc => ?_)
          · exact absurd hc (by simp [cmpP])
          · refine e_nx hcd rfl rfl ?_
            refine r_getI hcd rfl rfl rfl ?_
            refine e_nx hcd rfl rfl ?_
            refine r_getR hcd rfl rfl rfl ?_
            refine e_nx hcd rfl rfl ?_
            refine r_ild hcd rfl rfl (by omega) h8 ?_
            iterate 2 (refine e_nx hcd rfl rfl ?_)
            refine r_rem hcd rfl h3 h9 ?_
            refine e_nx hcd rfl rfl ?_
            refine r_ist hcd rfl rfl (by omega) h8 ?_
            iterate 2 (refine e_nx hcd rfl rfl ?_)
            refine r_getR hcd rfl rfl rfl ?_
            refine e_nx hcd rfl rfl ?_
            refine r_ild hcd rfl rfl (by omega) h8 ?_
            iterate 2 (refine e_nx hcd rfl rfl ?_)
            show Ev X 199 93 [some (vR (some 170)), some (vI x1), some (vI (x2 - ((up2 (up2 τ1.2 175 x3.toNat (iDiv ((τ1.1 170 14) * (τ1.2 174 x3.toNat)) x1)) 176 x3.toNat (iRem ((τ1.1 170 14) * (τ1.2 174 x3.toNat)) x1)) 175 x3.toNat))), some (vI x3), some (vI 1)] [] _ Q
            refine e_nx hcd rfl rfl ?_
            show Ev X 199 94 [some (vR (some 170)), some (vI x1), some (vI (x2 - ((up2 (up2 τ1.2 175 x3.toNat (iDiv ((τ1.1 170 14) * (τ1.2 174 x3.toNat)) x1)) 176 x3.toNat (iRem ((τ1.1 170 14) * (τ1.2 174 x3.toNat)) x1)) 175 x3.toNat))), some (vI (x3 + 1)), some (vI 1)] [] _ Q
            refine e_nx hcd rfl rfl ?_
            refine e_fg [4] ?_
            exact H
theorem v_199_95 {X : PX} {σ : Sg} {Q : Option PV → Sg → Prop} {x2 : Int}  (H : InR x2 ∧ (x2 ≤ 0 → Q none σ) ∧ (¬ x2 ≤ 0 → Ev X 199 101 [some (vR (some 170)), none, some (vI x2), some (vI 0), some (vI 1)] [] σ Q)) : Ev X 199 95 [some (vR (some 170)), none, some (vI x2), none, none] [] σ Q := by
  have hcd : cds 199 = cd_199 := rfl
  refine e_nx hcd rfl rfl ?_
  obtain ⟨h1, H⟩ := H
  refine r_if hcd rfl h1 (fun hc => ?_) (fun hc => ?_)
  · replace H := H.1 hc
    exact r_vret hcd rfl rfl rfl H
  · replace H := H.2 hc
    iterate 2 (refine e_nx hcd rfl rfl ?_)
    show Ev X 199 99 [some (vR (some 170)), none, some (vI x2), some (vI 0), none] [] _ Q
    iterate 2 (refine e_nx hcd rfl rfl ?_)
    show Ev X 199 101 [some (vR (some 170)), none, some (vI x2), some (vI 0), some (vI 1)] [] _ Q
    exact H
set_option maxRecDepth 20000 in
set_option maxHeartbeats 8000000 in
theorem v_199_101 {X : PX} {σ : Sg} {Q : Option PV → Sg → Prop} {x2 : Int} {x3 : Int} {x4 : Int}  (H : InR x4 ∧ InR (σ.1 170 12) ∧ (σ.1 170 12 ≤ x4 → (0 ≤ x3 ∧ x3 < 7) ∧ Ev X 199 95 [some (vR (some 170)), none, some (vI (x2 + (-1))), none, none] [] (σ.1, up2 (up2 σ.2 175 x3.toNat ((σ.2 175 x3.toNat) + 1)) 176 x3.toNat (-1)) Q) ∧ (¬ σ.1 170 12 ≤ x4 → (0 ≤ x4 ∧ x4 < 7) ∧ (0 ≤ x3 ∧ x3 < 7) ∧ InR (σ.2 176 x4.toNat) ∧ InR (σ.2 176 x3.toNat) ∧ (σ.2 176 x4.toNat ≤ σ.2 176 x3.toNat → Ev X 199 101 [some (vR (some 170)), none, some (vI x2), some (vI x3), some (vI (x4 + 1))] [] σ Q) ∧ (¬ σ.2 176 x4.toNat ≤ σ.2 176 x3.toNat → Ev X 199 101 [some (vR (some 170)), none, some (vI x2), some (vI x4), some (vI (x4 + 1))] [] σ Q))) : Ev X 199 101 [some (vR (some 170)), none, some (vI x2), some (vI x3), some (vI x4)] [] σ Q := by
  have hcd : cds 199 = cd_199 := rfl
  iterate 2 (refine e_nx hcd rfl rfl ?_)
  refine r_getI hcd rfl rfl rfl ?_
  obtain ⟨h1, H⟩ := H
  obtain ⟨h2, H⟩ := H
  refine r_icmp hcd rfl h1 h2 (fun hc => ?_) (fun hc => ?_)
  · replace H := H.1 hc
    refine e_nx hcd rfl rfl ?_
    refine r_getR hcd rfl rfl rfl ?_
    iterate 2 (refine e_nx hcd rfl rfl ?_)
    obtain ⟨h3, H⟩ := H
    refine r_ild hcd rfl rfl (by omega) h3 ?_
    iterate 2 (refine e_nx hcd rfl rfl ?_)
    refine r_ist hcd rfl rfl (by omega) h3 ?_
    refine e_nx hcd rfl rfl ?_
    refine r_getR hcd rfl rfl rfl ?_
    iterate 2 (refine e_nx hcd rfl rfl ?_)
    refine r_ist hcd rfl rfl (by omega) h3 ?_
    refine e_nx hcd rfl rfl ?_
    show Ev X 199 132 [some (vR (some 170)), none, some (vI (x2 + (-1))), some (vI x3), some (vI x4)] [] _ Q
    refine e_nx hcd rfl rfl ?_
    refine e_fg [3, 4] ?_
    exact H
  · replace H := H.2 hc
    refine e_nx hcd rfl rfl ?_
    refine r_getR hcd rfl rfl rfl ?_
    refine e_nx hcd rfl rfl ?_
    obtain ⟨h4, H⟩ := H
    refine r_ild hcd rfl rfl (by omega) h4 ?_
    refine e_nx hcd rfl rfl ?_
    refine r_getR hcd rfl rfl rfl ?_
    refine e_nx hcd rfl rfl ?_
    obtain ⟨h5, H⟩ := H
    refine r_ild hcd rfl rfl (by omega) h5 ?_
    obtain ⟨h6, H⟩ := H
    obtain ⟨h7, H⟩ := H
    refine r_icmp hcd rfl h6 h7 (fun hc => ?_) (fun hc => ?_)
    · replace H := H.1 hc
      refine e_nx hcd rfl rfl ?_
      show Ev X 199 117 [some (vR (some 170)), none, some (vI x2), some (vI x3), some (vI (x4 + 1))] [] _ Q
      refine e_nx hcd rfl rfl ?_
      exact H
    · replace H := H.2 hc
      iterate 2 (refine e_nx hcd rfl rfl ?_)
      show Ev X 199 116 [some (vR (some 170)), none, some (vI x2), some (vI x4), some (vI x4)] [] _ Q
      refine e_nx hcd rfl rfl ?_
      show Ev X 199 117 [some (vR (some 170)), none, some (vI x2), some (vI x4), some (vI (x4 + 1))] [] _ Q
      refine e_nx hcd rfl rfl ?_
      exact H
/-! X12_taxTogether -/
theorem v_200 {X : PX} {σ : Sg} {Q : Option PV → Sg → Prop}   (H : Ev X 200 4 [some (vR (some 170)), some (vI 0), some (vI 0)] [] σ Q) : Cl X 200 [vR (some 170)] σ Q := by
  have hcd : cds 200 = cd_200 := rfl
  refine c_in (Nat.le_of_ble_eq_true rfl) rfl rfl ?_
  show Ev X 200 0 [some (vR (some 170)), none, none] [] σ Q
  iterate 2 (refine e_nx hcd rfl rfl ?_)
  show Ev X 200 2 [some (vR (some 170)), some (vI 0), none] [] _ Q
  iterate 2 (refine e_nx hcd rfl rfl ?_)
  show Ev X 200 4 [some (vR (some 170)), some (vI 0), some (vI 0)] [] _ Q
  exact H
theorem v_200_4 {X : PX} {σ : Sg} {Q : Option PV → Sg → Prop} {x1 : Int} {x2 : Int}  (H : InR x2 ∧ InR (σ.1 170 12) ∧ (σ.1 170 12 ≤ x2 → Q (some (vI x1)) σ) ∧ (¬ σ.1 170 12 ≤ x2 → (0 ≤ x2 ∧ x2 < 7) ∧ Ev X 200 4 [some (vR (some 170)), some (vI (x1 + (σ.2 175 x2.toNat))), some (vI (x2 + 1))] [] σ Q)) : Ev X 200 4 [some (vR (some 170)), some (vI x1), some (vI x2)] [] σ Q := by
  have hcd : cds 200 = cd_200 := rfl
  iterate 2 (refine e_nx hcd rfl rfl ?_)
  refine r_getI hcd rfl rfl rfl ?_
  obtain ⟨h1, H⟩ := H
  obtain ⟨h2, H⟩ := H
  refine r_icmp hcd rfl h1 h2 (fun hc => ?_) (fun hc => ?_)
  · replace H := H.1 hc
    refine e_nx hcd rfl rfl ?_
    exact r_iret hcd rfl rfl rfl H
  · replace H := H.2 hc
    iterate 2 (refine e_nx hcd rfl rfl ?_)
    refine r_getR hcd rfl rfl rfl ?_
    refine e_nx hcd rfl rfl ?_
    obtain ⟨h3, H⟩ := H
    refine r_ild hcd rfl rfl (by omega) h3 ?_
    iterate 2 (refine e_nx hcd rfl rfl ?_)
    show Ev X 200 15 [some (vR (some 170)), some (vI (x1 + (σ.2 175 x2.toNat))), some (vI x2)] [] _ Q
    refine e_nx hcd rfl rfl ?_
    show Ev X 200 16 [some (vR (some 170)), some (vI (x1 + (σ.2 175 x2.toNat))), some (vI (x2 + 1))] [] _ Q
    refine e_nx hcd rfl rfl ?_
    exact H
/-! X12_begins -/
set_option maxRecDepth 20000 in
set_option maxHeartbeats 8000000 in
theorem v_201 {X : PX} {σ : Sg} {Q : Option PV → Sg → Prop}   (H : (0 ≤ σ.1 170 11 ∧ σ.1 170 11 < 3616) ∧ (0 ≤ (σ.1 170 11) + 1 ∧ (σ.1 170 11) + 1 < 3616) ∧ (0 ≤ (σ.1 170 11) + 4 ∧ (σ.1 170 11) + 4 < 3616) ∧ Ev X 201 42 [some (vR (some 170)), some (vI 0)] [] (up2 (up2 (up2 (up2 (up2 (up2 (up2 (up2 σ.1 170 14 (σ.2 171 (σ.1 170 11).toNat)) 170 15 (σ.2 171 ((σ.1 170 11) + 1).toNat)) 170 16 (σ.2 171 ((σ.1 170 11) + 4).toNat)) 170 17 0) 170 19 0) 170 20 0) 170 21 0) 170 22 0, σ.2) Q) : Cl X 201 [vR (some 170)] σ Q := by
  have hcd : cds 201 = cd_201 := rfl
  refine c_in (Nat.le_of_ble_eq_true rfl) rfl rfl ?_
  show Ev X 201 0 [some (vR (some 170)), none] [] σ Q
  iterate 2 (refine e_nx hcd rfl rfl ?_)
  refine r_getR hcd rfl rfl rfl ?_
  refine e_nx hcd rfl rfl ?_
  refine r_getI hcd rfl rfl rfl ?_
  obtain ⟨h1, H⟩ := H
  refine r_ild hcd rfl rfl (by omega) h1 ?_
  refine r_putI hcd rfl rfl rfl rfl ?_
  iterate 2 (refine e_nx hcd rfl rfl ?_)
  refine r_getR hcd rfl rfl rfl ?_
  refine e_nx hcd rfl rfl ?_
  refine r_getI hcd rfl rfl rfl ?_
  show Ev X 201 12 _ [vI (σ.1 170 11), vR (some 171), vR (some 170)] _ Q
  iterate 2 (refine e_nx hcd rfl rfl ?_)
  obtain ⟨h2, H⟩ := H
  refine r_ild hcd rfl rfl (by omega) h2 ?_
  refine r_putI hcd rfl rfl rfl rfl ?_
  iterate 2 (refine e_nx hcd rfl rfl ?_)
  refine r_getR hcd rfl rfl rfl ?_
  refine e_nx hcd rfl rfl ?_
  refine r_getI hcd rfl rfl rfl ?_
  show Ev X 201 21 _ [vI (σ.1 170 11), vR (some 171), vR (some 170)] _ Q
  iterate 2 (refine e_nx hcd rfl rfl ?_)
  obtain ⟨h3, H⟩ := H
  refine r_ild hcd rfl rfl (by omega) h3 ?_
  refine r_putI hcd rfl rfl rfl rfl ?_
  iterate 2 (refine e_nx hcd rfl rfl ?_)
  refine r_putI hcd rfl rfl rfl rfl ?_
  iterate 2 (refine e_nx hcd rfl rfl ?_)
  refine r_putI hcd rfl rfl rfl rfl ?_
  iterate 2 (refine e_nx hcd rfl rfl ?_)
  refine r_putI hcd rfl rfl rfl rfl ?_
  iterate 2 (refine e_nx hcd rfl rfl ?_)
  refine r_putI hcd rfl rfl rfl rfl ?_
  iterate 2 (refine e_nx hcd rfl rfl ?_)
  refine r_putI hcd rfl rfl rfl rfl ?_
  iterate 2 (refine e_nx hcd rfl rfl ?_)
  show Ev X 201 42 [some (vR (some 170)), some (vI 0)] [] _ Q
  exact H
theorem v_201_42 {X : PX} {σ : Sg} {Q : Option PV → Sg → Prop} {x1 : Int}  (H : InR x1 ∧ (7 ≤ x1 → CV X 199 [vR (some 170)] σ (fun τ1 => Q none τ1)) ∧ (¬ 7 ≤ x1 → CI X 192 [vR (some 170), vI x1] σ (fun r2 τ2 => (0 ≤ x1 ∧ x1 < 7) ∧ Ev X 201 42 [some (vR (some 170)), some (vI (x1 + 1))] [] (τ2.1, up2 τ2.2 174 x1.toNat r2) Q))) : Ev X 201 42 [some (vR (some 170)), some (vI x1)] [] σ Q := by
  have hcd : cds 201 = cd_201 := rfl
  iterate 2 (refine e_nx hcd rfl rfl ?_)
  obtain ⟨h1, H⟩ := H
  refine r_icmp hcd rfl h1 (by omega) (fun hc => ?_) (fun hc => ?_)
  · replace H := H.1 hc
    refine e_nx hcd rfl rfl ?_
    refine r_cv hcd rfl (by omega) rfl rfl rfl (Nat.le_of_ble_eq_true rfl) ?_
    refine Cl.mono H (fun v τ1 hq => ?_)
    obtain ⟨rfl, H⟩ := hq
    show Ev X 201 56 _ [] τ1 Q
    exact r_vret hcd rfl rfl rfl H
  · replace H := H.2 hc
    refine e_nx hcd rfl rfl ?_
    refine r_getR hcd rfl rfl rfl ?_
    iterate 3 (refine e_nx hcd rfl rfl ?_)
    refine r_cv hcd rfl (by omega) rfl rfl rfl (Nat.le_of_ble_eq_true rfl) ?_
    refine Cl.mono H (fun v τ2 hq => ?_)
    obtain ⟨r2, rfl, H⟩ := hq
    show Ev X 201 51 _ [vI r2, vI x1, vR (some 174)] τ2 Q
    obtain ⟨h3, H⟩ := H
    refine r_ist hcd rfl rfl (by omega) h3 ?_
    refine e_nx hcd rfl rfl ?_
    show Ev X 201 53 [some (vR (some 170)), some (vI (x1 + 1))] [] _ Q
    refine e_nx hcd rfl rfl ?_
    exact H
/-! X12_goesYear -/
theorem v_202 {X : PX} {σ : Sg} {Q : Option PV → Sg → Prop}   (H : CI X 200 [vR (some 170)] (up2 (up2 σ.1 170 23 0) 170 24 (-1), σ.2) (fun r1 τ1 => Ev X 202 18 [some (vR (some 170)), some (vI 0), none] [] (up2 τ1.1 170 21 ((σ.1 170 21) + ((σ.1 170 14) - r1)), τ1.2) Q)) : Cl X 202 [vR (some 170)] σ Q := by
  have hcd : cds 202 = cd_202 := rfl
  refine c_in (Nat.le_of_ble_eq_true rfl) rfl rfl ?_
  show Ev X 202 0 [some (vR (some 170)), none, none] [] σ Q
  iterate 2 (refine e_nx hcd rfl rfl ?_)
  refine r_putI hcd rfl rfl rfl rfl ?_
  iterate 2 (refine e_nx hcd rfl rfl ?_)
  refine r_putI hcd rfl rfl rfl rfl ?_
  iterate 2 (refine e_nx hcd rfl rfl ?_)
  refine r_getI hcd rfl rfl rfl ?_
  show Ev X 202 9 _ [vI (σ.1 170 21), vR (some 170)] _ Q
  refine e_nx hcd rfl rfl ?_
  refine r_getI hcd rfl rfl rfl ?_
  show Ev X 202 11 _ [vI (σ.1 170 14), vI (σ.1 170 21), vR (some 170)] _ Q
  refine e_nx hcd rfl rfl ?_
  refine r_cv hcd rfl (by omega) rfl rfl rfl (Nat.le_of_ble_eq_true rfl) ?_
  refine Cl.mono H (fun v τ1 hq => ?_)
  obtain ⟨r1, rfl, H⟩ := hq
  show Ev X 202 13 _ [vI r1, vI (σ.1 170 14), vI (σ.1 170 21), vR (some 170)] τ1 Q
  iterate 2 (refine e_nx hcd rfl rfl ?_)
  refine r_putI hcd rfl rfl rfl rfl ?_
  iterate 2 (refine e_nx hcd rfl rfl ?_)
  show Ev X 202 18 [some (vR (some 170)), some (vI 0), none] [] _ Q
  exact H
set_option maxRecDepth 20000 in
set_option maxHeartbeats 8000000 in
theorem v_202_18 {X : PX} {σ : Sg} {Q : Option PV → Sg → Prop} {x1 : Int}  (H : InR x1 ∧ InR (σ.1 170 12) ∧ (σ.1 170 12 ≤ x1 → CV X 199 [vR (some 170)] (up2 (up2 σ.1 170 20 ((σ.1 170 20) + (σ.1 170 23))) 170 19 ((σ.1 170 19) + 1), σ.2) (fun τ1 => Q none τ1)) ∧ (¬ σ.1 170 12 ≤ x1 → (0 ≤ x1 ∧ x1 < 7) ∧ InR (σ.2 175 x1.toNat) ∧ InR (σ.2 174 x1.toNat) ∧ (σ.2 175 x1.toNat ≤ σ.2 174 x1.toNat → (σ.2 175 x1.toNat ≤ σ.2 175 x1.toNat → CI X 193 [vR (some 170), vI x1] (up2 (up2 σ.1 170 21 ((σ.1 170 21) + ((σ.2 175 x1.toNat) - (σ.2 175 x1.toNat)))) 170 23 ((σ.1 170 23) + (σ.2 175 x1.toNat)), σ.2) (fun r6 τ2 => InR (((σ.2 174 x1.toNat) - (σ.2 175 x1.toNat)) + r6) ∧ (((σ.2 174 x1.toNat) - (σ.2 175 x1.toNat)) + r6 ≤ 99 → CI X 193 [vR (some 170), vI x1] τ2 (fun r8 τ3 => Ev X 202 18 [some (vR (some 170)), some (vI (x1 + 1)), none] [] (τ3.1, up2 τ3.2 174 x1.toNat (((τ2.2 174 x1.toNat) - (σ.2 175 x1.toNat)) + r8)) Q)) ∧ (¬ ((σ.2 174 x1.toNat) - (σ.2 175 x1.toNat)) + r6 ≤ 99 → Ev X 202 18 [some (vR (some 170)), some (vI (x1 + 1)), none] [] (τ2.1, up2 τ2.2 174 x1.toNat 99) Q))) ∧ (¬ σ.2 175 x1.toNat ≤ σ.2 175 x1.toNat → InR (σ.1 170 24) ∧ (σ.1 170 24 ≠ (-1) → CI X 193 [vR (some 170), vI x1] (up2 (up2 σ.1 170 21 ((σ.1 170 21) + ((σ.2 175 x1.toNat) - (σ.2 175 x1.toNat)))) 170 23 ((σ.1 170 23) + (σ.2 175 x1.toNat)), σ.2) (fun r10 τ4 => InR (((σ.2 174 x1.toNat) - (σ.2 175 x1.toNat)) + r10) ∧ (((σ.2 174 x1.toNat) - (σ.2 175 x1.toNat)) + r10 ≤ 99 → CI X 193 [vR (some 170), vI x1] τ4 (fun r12 τ5 => Ev X 202 18 [some (vR (some 170)), some (vI (x1 + 1)), none] [] (τ5.1, up2 τ5.2 174 x1.toNat (((τ4.2 174 x1.toNat) - (σ.2 175 x1.toNat)) + r12)) Q)) ∧ (¬ ((σ.2 174 x1.toNat) - (σ.2 175 x1.toNat)) + r10 ≤ 99 → Ev X 202 18 [some (vR (some 170)), some (vI (x1 + 1)), none] [] (τ4.1, up2 τ4.2 174 x1.toNat 99) Q))) ∧ (¬ σ.1 170 24 ≠ (-1) → CI X 193 [vR (some 170), vI x1] (up2 (up2 (up2 σ.1 170 24 x1) 170 21 ((σ.1 170 21) + ((σ.2 175 x1.toNat) - (σ.2 175 x1.toNat)))) 170 23 ((σ.1 170 23) + (σ.2 175 x1.toNat)), σ.2) (fun r13 τ6 => InR (((σ.2 174 x1.toNat) - (σ.2 175 x1.toNat)) + r13) ∧ (((σ.2 174 x1.toNat) - (σ.2 175 x1.toNat)) + r13 ≤ 99 → CI X 193 [vR (some 170), vI x1] τ6 (fun r15 τ7 => Ev X 202 18 [some (vR (some 170)), some (vI (x1 + 1)), none] [] (τ7.1, up2 τ7.2 174 x1.toNat (((τ6.2 174 x1.toNat) - (σ.2 175 x1.toNat)) + r15)) Q)) ∧ (¬ ((σ.2 174 x1.toNat) - (σ.2 175 x1.toNat)) + r13 ≤ 99 → Ev X 202 18 [some (vR (some 170)), some (vI (x1 + 1)), none] [] (τ6.1, up2 τ6.2 174 x1.toNat 99) Q))))) ∧ (¬ σ.2 175 x1.toNat ≤ σ.2 174 x1.toNat → (σ.2 175 x1.toNat ≤ σ.2 174 x1.toNat → CI X 193 [vR (some 170), vI x1] (up2 (up2 σ.1 170 21 ((σ.1 170 21) + ((σ.2 175 x1.toNat) - (σ.2 174 x1.toNat)))) 170 23 ((σ.1 170 23) + (σ.2 174 x1.toNat)), σ.2) (fun r16 τ8 => InR (((σ.2 174 x1.toNat) - (σ.2 174 x1.toNat)) + r16) ∧ (((σ.2 174 x1.toNat) - (σ.2 174 x1.toNat)) + r16 ≤ 99 → CI X 193 [vR (some 170), vI x1] τ8 (fun r18 τ9 => Ev X 202 18 [some (vR (some 170)), some (vI (x1 + 1)), none] [] (τ9.1, up2 τ9.2 174 x1.toNat (((τ8.2 174 x1.toNat) - (σ.2 174 x1.toNat)) + r18)) Q)) ∧ (¬ ((σ.2 174 x1.toNat) - (σ.2 174 x1.toNat)) + r16 ≤ 99 → Ev X 202 18 [some (vR (some 170)), some (vI (x1 + 1)), none] [] (τ8.1, up2 τ8.2 174 x1.toNat 99) Q))) ∧ (¬ σ.2 175 x1.toNat ≤ σ.2 174 x1.toNat → InR (σ.1 170 24) ∧ (σ.1 170 24 ≠ (-1) → CI X 193 [vR (some 170), vI x1] (up2 (up2 σ.1 170 21 ((σ.1 170 21) + ((σ.2 175 x1.toNat) - (σ.2 174 x1.toNat)))) 170 23 ((σ.1 170 23) + (σ.2 174 x1.toNat)), σ.2) (fun r20 τ10 => InR (((σ.2 174 x1.toNat) - (σ.2 174 x1.toNat)) + r20) ∧ (((σ.2 174 x1.toNat) - (σ.2 174 x1.toNat)) + r20 ≤ 99 → CI X 193 [vR (some 170), vI x1] τ10 (fun r22 τ11 => Ev X 202 18 [some (vR (some 170)), some (vI (x1 + 1)), none] [] (τ11.1, up2 τ11.2 174 x1.toNat (((τ10.2 174 x1.toNat) - (σ.2 174 x1.toNat)) + r22)) Q)) ∧ (¬ ((σ.2 174 x1.toNat) - (σ.2 174 x1.toNat)) + r20 ≤ 99 → Ev X 202 18 [some (vR (some 170)), some (vI (x1 + 1)), none] [] (τ10.1, up2 τ10.2 174 x1.toNat 99) Q))) ∧ (¬ σ.1 170 24 ≠ (-1) → CI X 193 [vR (some 170), vI x1] (up2 (up2 (up2 σ.1 170 24 x1) 170 21 ((σ.1 170 21) + ((σ.2 175 x1.toNat) - (σ.2 174 x1.toNat)))) 170 23 ((σ.1 170 23) + (σ.2 174 x1.toNat)), σ.2) (fun r23 τ12 => InR (((σ.2 174 x1.toNat) - (σ.2 174 x1.toNat)) + r23) ∧ (((σ.2 174 x1.toNat) - (σ.2 174 x1.toNat)) + r23 ≤ 99 → CI X 193 [vR (some 170), vI x1] τ12 (fun r25 τ13 => Ev X 202 18 [some (vR (some 170)), some (vI (x1 + 1)), none] [] (τ13.1, up2 τ13.2 174 x1.toNat (((τ12.2 174 x1.toNat) - (σ.2 174 x1.toNat)) + r25)) Q)) ∧ (¬ ((σ.2 174 x1.toNat) - (σ.2 174 x1.toNat)) + r23 ≤ 99 → Ev X 202 18 [some (vR (some 170)), some (vI (x1 + 1)), none] [] (τ12.1, up2 τ12.2 174 x1.toNat 99) Q))))))) : Ev X 202 18 [some (vR (some 170)), some (vI x1), none] [] σ Q := by
  have hcd : cds 202 = cd_202 := rfl
  iterate 2 (refine e_nx hcd rfl rfl ?_)
  refine r_getI hcd rfl rfl rfl ?_
  obtain ⟨h1, H⟩ := H
  obtain ⟨h2, H⟩ := H
  refine r_icmp hcd rfl h1 h2 (fun hc => ?_) (fun hc => ?_)
  · replace H := H.1 hc
    iterate 2 (refine e_nx hcd rfl rfl ?_)
    refine r_getI hcd rfl rfl rfl ?_
    refine e_nx hcd rfl rfl ?_
    refine r_getI hcd rfl rfl rfl ?_
    refine e_nx hcd rfl rfl ?_
    refine r_putI hcd rfl rfl rfl rfl ?_
    iterate 2 (refine e_nx hcd rfl rfl ?_)
    refine r_getI hcd rfl rfl rfl ?_
    show Ev X 202 111 _ [vI (σ.1 170 19), vR (some 170)] _ Q
    iterate 2 (refine e_nx hcd rfl rfl ?_)
    refine r_putI hcd rfl rfl rfl rfl ?_
    refine e_nx hcd rfl rfl ?_
    refine r_cv hcd rfl (by omega) rfl rfl rfl (Nat.le_of_ble_eq_true rfl) ?_
    refine Cl.mono H (fun v τ1 hq => ?_)
    obtain ⟨rfl, H⟩ := hq
    show Ev X 202 116 _ [] τ1 Q
    exact r_vret hcd rfl rfl rfl H
  · replace H := H.2 hc
    refine e_nx hcd rfl rfl ?_
    refine r_getR hcd rfl rfl rfl ?_
    refine e_nx hcd rfl rfl ?_
    obtain ⟨h3, H⟩ := H
    refine r_ild hcd rfl rfl (by omega) h3 ?_
    refine e_nx hcd rfl rfl ?_
    refine r_getR hcd rfl rfl rfl ?_
    refine e_nx hcd rfl rfl ?_
    refine r_ild hcd rfl rfl (by omega) h3 ?_
    obtain ⟨h4, H⟩ := H
    obtain ⟨h5, H⟩ := H
    refine r_icmp hcd rfl h4 h5 (fun hc => ?_) (fun hc => ?_)
    · replace H := H.1 hc
      refine e_nx hcd rfl rfl ?_
      refine r_getR hcd rfl rfl rfl ?_
      refine e_nx hcd rfl rfl ?_
      refine r_ild hcd rfl rfl (by omega) h3 ?_
      refine e_nx hcd rfl rfl ?_
      show Ev X 202 41 [some (vR (some 170)), some (vI x1), some (vI (σ.2 175 x1.toNat))] [] _ Q
      iterate 2 (refine e_nx hcd rfl rfl ?_)
      refine r_getR hcd rfl rfl rfl ?_
      refine e_nx hcd rfl rfl ?_
      refine r_ild hcd rfl rfl (by omega) h3 ?_
      refine r_icmp hcd rfl h4 h4 (fun hc => ?_) (fun hc => ?_)
      · replace H := H.1 hc
        iterate 2 (refine e_nx hcd rfl rfl ?_)
        refine r_getI hcd rfl rfl rfl ?_
        refine e_nx hcd rfl rfl ?_
        refine r_getR hcd rfl rfl rfl ?_
        refine e_nx hcd rfl rfl ?_
        refine r_ild hcd rfl rfl (by omega) h3 ?_
        iterate 3 (refine e_nx hcd rfl rfl ?_)
        refine r_putI hcd rfl rfl rfl rfl ?_
        iterate 2 (refine e_nx hcd rfl rfl ?_)
        refine r_getI hcd rfl rfl rfl ?_
        show Ev X 202 68 _ [vI (σ.1 170 23), vR (some 170)] _ Q
        iterate 2 (refine e_nx hcd rfl rfl ?_)
        refine r_putI hcd rfl rfl rfl rfl ?_
        refine e_nx hcd rfl rfl ?_
        refine r_getR hcd rfl rfl rfl ?_
        iterate 2 (refine e_nx hcd rfl rfl ?_)
        refine r_getR hcd rfl rfl rfl ?_
        refine e_nx hcd rfl rfl ?_
        refine r_ild hcd rfl rfl (by omega) h3 ?_
        iterate 4 (refine e_nx hcd rfl rfl ?_)
        refine r_cv hcd rfl (by omega) rfl rfl rfl (Nat.le_of_ble_eq_true rfl) ?_
        refine Cl.mono H (fun v τ2 hq => ?_)
        obtain ⟨r6, rfl, H⟩ := hq
        show Ev X 202 83 _ [vI r6, vI ((σ.2 174 x1.toNat) - (σ.2 175 x1.toNat)), vI x1, vR (some 174)] τ2 Q
        iterate 2 (refine e_nx hcd rfl rfl ?_)
        obtain ⟨h7, H⟩ := H
        refine r_icmp hcd rfl h7 (by omega) (fun hc => ?_) (fun hc => ?_)
        · replace H := H.1 hc
          refine e_nx hcd rfl rfl ?_
          refine r_getR hcd rfl rfl rfl ?_
          refine e_nx hcd rfl rfl ?_
          refine r_ild hcd rfl rfl (by omega) h3 ?_
          iterate 4 (refine e_nx hcd rfl rfl ?_)
          refine r_cv hcd rfl (by omega) rfl rfl rfl (Nat.le_of_ble_eq_true rfl) ?_
          refine Cl.mono H (fun v τ3 hq => ?_)
          obtain ⟨r8, rfl, H⟩ := hq
          show Ev X 202 97 _ [vI r8, vI ((τ2.2 174 x1.toNat) - (σ.2 175 x1.toNat)), vI x1, vR (some 174)] τ3 Q
          refine e_nx hcd rfl rfl ?_
          refine r_ist hcd rfl rfl (by omega) h3 ?_
          refine e_nx hcd rfl rfl ?_
          show Ev X 202 100 [some (vR (some 170)), some (vI (x1 + 1)), some (vI (σ.2 175 x1.toNat))] [] _ Q
          refine e_nx hcd rfl rfl ?_
          refine e_fg [2] ?_
          exact H
        · replace H := H.2 hc
          iterate 2 (refine e_nx hcd rfl rfl ?_)
          refine r_ist hcd rfl rfl (by omega) h3 ?_
          refine e_nx hcd rfl rfl ?_
          show Ev X 202 100 [some (vR (some 170)), some (vI (x1 + 1)), some (vI (σ.2 175 x1.toNat))] [] _ Q
          refine e_nx hcd rfl rfl ?_
          refine e_fg [2] ?_
          exact H
      · replace H := H.2 hc
        refine e_nx hcd rfl rfl ?_
        refine r_getI hcd rfl rfl rfl ?_
        refine e_nx hcd rfl rfl ?_
        obtain ⟨h9, H⟩ := H
        refine r_icmp hcd rfl h9 (by omega) (fun hc => ?_) (fun hc => ?_)
        · replace H := H.1 hc
          iterate 2 (refine e_nx hcd rfl rfl ?_)
          refine r_getI hcd rfl rfl rfl ?_
          refine e_nx hcd rfl rfl ?_
          refine r_getR hcd rfl rfl rfl ?_
          refine e_nx hcd rfl rfl ?_
          refine r_ild hcd rfl rfl (by omega) h3 ?_
          iterate 3 (refine e_nx hcd rfl rfl ?_)
          refine r_putI hcd rfl rfl rfl rfl ?_
          iterate 2 (refine e_nx hcd rfl rfl ?_)
          refine r_getI hcd rfl rfl rfl ?_
          show Ev X 202 68 _ [vI (σ.1 170 23), vR (some 170)] _ Q
          iterate 2 (refine e_nx hcd rfl rfl ?_)
          refine r_putI hcd rfl rfl rfl rfl ?_
          refine e_nx hcd rfl rfl ?_
          refine r_getR hcd rfl rfl rfl ?_
          iterate 2 (refine e_nx hcd rfl rfl ?_)
          refine r_getR hcd rfl rfl rfl ?_
          refine e_nx hcd rfl rfl ?_
          refine r_ild hcd rfl rfl (by omega) h3 ?_
          iterate 4 (refine e_nx hcd rfl rfl ?_)
          refine r_cv hcd rfl (by omega) rfl rfl rfl (Nat.le_of_ble_eq_true rfl) ?_
          refine Cl.mono H (fun v τ4 hq => ?_)
          obtain ⟨r10, rfl, H⟩ := hq
          show Ev X 202 83 _ [vI r10, vI ((σ.2 174 x1.toNat) - (σ.2 175 x1.toNat)), vI x1, vR (some 174)] τ4 Q
          iterate 2 (refine e_nx hcd rfl rfl ?_)
          obtain ⟨h11, H⟩ := H
          refine r_icmp hcd rfl h11 (by omega) (fun hc => ?_) (fun hc => ?_)
          · replace H := H.1 hc
            refine e_nx hcd rfl rfl ?_
            refine r_getR hcd rfl rfl rfl ?_
            refine e_nx hcd rfl rfl ?_
            refine r_ild hcd rfl rfl (by omega) h3 ?_
            iterate 4 (refine e_nx hcd rfl rfl ?_)
            refine r_cv hcd rfl (by omega) rfl rfl rfl (Nat.le_of_ble_eq_true rfl) ?_
            refine Cl.mono H (fun v τ5 hq => ?_)
            obtain ⟨r12, rfl, H⟩ := hq
            show Ev X 202 97 _ [vI r12, vI ((τ4.2 174 x1.toNat) - (σ.2 175 x1.toNat)), vI x1, vR (some 174)] τ5 Q
            refine e_nx hcd rfl rfl ?_
            refine r_ist hcd rfl rfl (by omega) h3 ?_
            refine e_nx hcd rfl rfl ?_
            show Ev X 202 100 [some (vR (some 170)), some (vI (x1 + 1)), some (vI (σ.2 175 x1.toNat))] [] _ Q
            refine e_nx hcd rfl rfl ?_
            refine e_fg [2] ?_
            exact H
          · replace H := H.2 hc
            iterate 2 (refine e_nx hcd rfl rfl ?_)
            refine r_ist hcd rfl rfl (by omega) h3 ?_
            refine e_nx hcd rfl rfl ?_
            show Ev X 202 100 [some (vR (some 170)), some (vI (x1 + 1)), some (vI (σ.2 175 x1.toNat))] [] _ Q
            refine e_nx hcd rfl rfl ?_
            refine e_fg [2] ?_
            exact H
        · replace H := H.2 hc
          iterate 2 (refine e_nx hcd rfl rfl ?_)
          refine r_putI hcd rfl rfl rfl rfl ?_
          iterate 2 (refine e_nx hcd rfl rfl ?_)
          refine r_getI hcd rfl rfl rfl ?_
          show Ev X 202 57 _ [vI (σ.1 170 21), vR (some 170)] _ Q
          refine e_nx hcd rfl rfl ?_
          refine r_getR hcd rfl rfl rfl ?_
          refine e_nx hcd rfl rfl ?_
          refine r_ild hcd rfl rfl (by omega) h3 ?_
          iterate 3 (refine e_nx hcd rfl rfl ?_)
          refine r_putI hcd rfl rfl rfl rfl ?_
          iterate 2 (refine e_nx hcd rfl rfl ?_)
          refine r_getI hcd rfl rfl rfl ?_
          show Ev X 202 68 _ [vI (σ.1 170 23), vR (some 170)] _ Q
          iterate 2 (refine e_nx hcd rfl rfl ?_)
          refine r_putI hcd rfl rfl rfl rfl ?_
          refine e_nx hcd rfl rfl ?_
          refine r_getR hcd rfl rfl rfl ?_
          iterate 2 (refine e_nx hcd rfl rfl ?_)
          refine r_getR hcd rfl rfl rfl ?_
          refine e_nx hcd rfl rfl ?_
          refine r_ild hcd rfl rfl (by omega) h3 ?_
          iterate 4 (refine e_nx hcd rfl rfl ?_)
          refine r_cv hcd rfl (by omega) rfl rfl rfl (Nat.le_of_ble_eq_true rfl) ?_
          refine Cl.mono H (fun v τ6 hq => ?_)
          obtain ⟨r13, rfl, H⟩ := hq
          show Ev X 202 83 _ [vI r13, vI ((σ.2 174 x1.toNat) - (σ.2 175 x1.toNat)), vI x1, vR (some 174)] τ6 Q
          iterate 2 (refine e_nx hcd rfl rfl ?_)
          obtain ⟨h14, H⟩ := H
          refine r_icmp hcd rfl h14 (by omega) (fun hc => ?_) (fun hc => ?_)
          · replace H := H.1 hc
            refine e_nx hcd rfl rfl ?_
            refine r_getR hcd rfl rfl rfl ?_
            refine e_nx hcd rfl rfl ?_
            refine r_ild hcd rfl rfl (by omega) h3 ?_
            iterate 4 (refine e_nx hcd rfl rfl ?_)
            refine r_cv hcd rfl (by omega) rfl rfl rfl (Nat.le_of_ble_eq_true rfl) ?_
            refine Cl.mono H (fun v τ7 hq => ?_)
            obtain ⟨r15, rfl, H⟩ := hq
            show Ev X 202 97 _ [vI r15, vI ((τ6.2 174 x1.toNat) - (σ.2 175 x1.toNat)), vI x1, vR (some 174)] τ7 Q
            refine e_nx hcd rfl rfl ?_
            refine r_ist hcd rfl rfl (by omega) h3 ?_
            refine e_nx hcd rfl rfl ?_
            show Ev X 202 100 [some (vR (some 170)), some (vI (x1 + 1)), some (vI (σ.2 175 x1.toNat))] [] _ Q
            refine e_nx hcd rfl rfl ?_
            refine e_fg [2] ?_
            exact H
          · replace H := H.2 hc
            iterate 2 (refine e_nx hcd rfl rfl ?_)
            refine r_ist hcd rfl rfl (by omega) h3 ?_
            refine e_nx hcd rfl rfl ?_
            show Ev X 202 100 [some (vR (some 170)), some (vI (x1 + 1)), some (vI (σ.2 175 x1.toNat))] [] _ Q
            refine e_nx hcd rfl rfl ?_
            refine e_fg [2] ?_
            exact H
    · replace H := H.2 hc
      refine e_nx hcd rfl rfl ?_
      refine r_getR hcd rfl rfl rfl ?_
      refine e_nx hcd rfl rfl ?_
      refine r_ild hcd rfl rfl (by omega) h3 ?_
      iterate 2 (refine e_nx hcd rfl rfl ?_)
      show Ev X 202 41 [some (vR (some 170)), some (vI x1), some (vI (σ.2 174 x1.toNat))] [] _ Q
      iterate 2 (refine e_nx hcd rfl rfl ?_)
      refine r_getR hcd rfl rfl rfl ?_
      refine e_nx hcd rfl rfl ?_
      refine r_ild hcd rfl rfl (by omega) h3 ?_
      refine r_icmp hcd rfl h5 h4 (fun hc => ?_) (fun hc => ?_)
      · replace H := H.1 hc
        iterate 2 (refine e_nx hcd rfl rfl ?_)
        refine r_getI hcd rfl rfl rfl ?_
        refine e_nx hcd rfl rfl ?_
        refine r_getR hcd rfl rfl rfl ?_
        refine e_nx hcd rfl rfl ?_
        refine r_ild hcd rfl rfl (by omega) h3 ?_
        iterate 3 (refine e_nx hcd rfl rfl ?_)
        refine r_putI hcd rfl rfl rfl rfl ?_
        iterate 2 (refine e_nx hcd rfl rfl ?_)
        refine r_getI hcd rfl rfl rfl ?_
        show Ev X 202 68 _ [vI (σ.1 170 23), vR (some 170)] _ Q
        iterate 2 (refine e_nx hcd rfl rfl ?_)
        refine r_putI hcd rfl rfl rfl rfl ?_
        refine e_nx hcd rfl rfl ?_
        refine r_getR hcd rfl rfl rfl ?_
        iterate 2 (refine e_nx hcd rfl rfl ?_)
        refine r_getR hcd rfl rfl rfl ?_
        refine e_nx hcd rfl rfl ?_
        refine r_ild hcd rfl rfl (by omega) h3 ?_
        iterate 4 (refine e_nx hcd rfl rfl ?_)
        refine r_cv hcd rfl (by omega) rfl rfl rfl (Nat.le_of_ble_eq_true rfl) ?_
        refine Cl.mono H (fun v τ8 hq => ?_)
        obtain ⟨r16, rfl, H⟩ := hq
        show Ev X 202 83 _ [vI r16, vI ((σ.2 174 x1.toNat) - (σ.2 174 x1.toNat)), vI x1, vR (some 174)] τ8 Q
        iterate 2 (refine e_nx hcd rfl rfl ?_)
        obtain ⟨h17, H⟩ := H
        refine r_icmp hcd rfl h17 (by omega) (fun hc => ?_) (fun hc => ?_)
        · replace H := H.1 hc
          refine e_nx hcd rfl rfl ?_
          refine r_getR hcd rfl rfl rfl ?_
          refine e_nx hcd rfl rfl ?_
          refine r_ild hcd rfl rfl (by omega) h3 ?_
          iterate 4 (refine e_nx hcd rfl rfl ?_)
          refine r_cv hcd rfl (by omega) rfl rfl rfl (Nat.le_of_ble_eq_true rfl) ?_
          refine Cl.mono H (fun v τ9 hq => ?_)
          obtain ⟨r18, rfl, H⟩ := hq
          show Ev X 202 97 _ [vI r18, vI ((τ8.2 174 x1.toNat) - (σ.2 174 x1.toNat)), vI x1, vR (some 174)] τ9 Q
          refine e_nx hcd rfl rfl ?_
          refine r_ist hcd rfl rfl (by omega) h3 ?_
          refine e_nx hcd rfl rfl ?_
          show Ev X 202 100 [some (vR (some 170)), some (vI (x1 + 1)), some (vI (σ.2 174 x1.toNat))] [] _ Q
          refine e_nx hcd rfl rfl ?_
          refine e_fg [2] ?_
          exact H
        · replace H := H.2 hc
          iterate 2 (refine e_nx hcd rfl rfl ?_)
          refine r_ist hcd rfl rfl (by omega) h3 ?_
          refine e_nx hcd rfl rfl ?_
          show Ev X 202 100 [some (vR (some 170)), some (vI (x1 + 1)), some (vI (σ.2 174 x1.toNat))] [] _ Q
          refine e_nx hcd rfl rfl ?_
          refine e_fg [2] ?_
          exact H
      · replace H := H.2 hc
        refine e_nx hcd rfl rfl ?_
        refine r_getI hcd rfl rfl rfl ?_
        refine e_nx hcd rfl rfl ?_
        obtain ⟨h19, H⟩ := H
        refine r_icmp hcd rfl h19 (by omega) (fun hc => ?_) (fun hc => ?_)
        · replace H := H.1 hc
          iterate 2 (refine e_nx hcd rfl rfl ?_)
          refine r_getI hcd rfl rfl rfl ?_
          refine e_nx hcd rfl rfl ?_
          refine r_getR hcd rfl rfl rfl ?_
          refine e_nx hcd rfl rfl ?_
          refine r_ild hcd rfl rfl (by omega) h3 ?_
          iterate 3 (refine e_nx hcd rfl rfl ?_)
          refine r_putI hcd rfl rfl rfl rfl ?_
          iterate 2 (refine e_nx hcd rfl rfl ?_)
          refine r_getI hcd rfl rfl rfl ?_
          show Ev X 202 68 _ [vI (σ.1 170 23), vR (some 170)] _ Q
          iterate 2 (refine e_nx hcd rfl rfl ?_)
          refine r_putI hcd rfl rfl rfl rfl ?_
          refine e_nx hcd rfl rfl ?_
          refine r_getR hcd rfl rfl rfl ?_
          iterate 2 (refine e_nx hcd rfl rfl ?_)
          refine r_getR hcd rfl rfl rfl ?_
          refine e_nx hcd rfl rfl ?_
          refine r_ild hcd rfl rfl (by omega) h3 ?_
          iterate 4 (refine e_nx hcd rfl rfl ?_)
          refine r_cv hcd rfl (by omega) rfl rfl rfl (Nat.le_of_ble_eq_true rfl) ?_
          refine Cl.mono H (fun v τ10 hq => ?_)
          obtain ⟨r20, rfl, H⟩ := hq
          show Ev X 202 83 _ [vI r20, vI ((σ.2 174 x1.toNat) - (σ.2 174 x1.toNat)), vI x1, vR (some 174)] τ10 Q
          iterate 2 (refine e_nx hcd rfl rfl ?_)
          obtain ⟨h21, H⟩ := H
          refine r_icmp hcd rfl h21 (by omega) (fun hc => ?_) (fun hc => ?_)
          · replace H := H.1 hc
            refine e_nx hcd rfl rfl ?_
            refine r_getR hcd rfl rfl rfl ?_
            refine e_nx hcd rfl rfl ?_
            refine r_ild hcd rfl rfl (by omega) h3 ?_
            iterate 4 (refine e_nx hcd rfl rfl ?_)
            refine r_cv hcd rfl (by omega) rfl rfl rfl (Nat.le_of_ble_eq_true rfl) ?_
            refine Cl.mono H (fun v τ11 hq => ?_)
            obtain ⟨r22, rfl, H⟩ := hq
            show Ev X 202 97 _ [vI r22, vI ((τ10.2 174 x1.toNat) - (σ.2 174 x1.toNat)), vI x1, vR (some 174)] τ11 Q
            refine e_nx hcd rfl rfl ?_
            refine r_ist hcd rfl rfl (by omega) h3 ?_
            refine e_nx hcd rfl rfl ?_
            show Ev X 202 100 [some (vR (some 170)), some (vI (x1 + 1)), some (vI (σ.2 174 x1.toNat))] [] _ Q
            refine e_nx hcd rfl rfl ?_
            refine e_fg [2] ?_
            exact H
          · replace H := H.2 hc
            iterate 2 (refine e_nx hcd rfl rfl ?_)
            refine r_ist hcd rfl rfl (by omega) h3 ?_
            refine e_nx hcd rfl rfl ?_
            show Ev X 202 100 [some (vR (some 170)), some (vI (x1 + 1)), some (vI (σ.2 174 x1.toNat))] [] _ Q
            refine e_nx hcd rfl rfl ?_
            refine e_fg [2] ?_
            exact H
        · replace H := H.2 hc
          iterate 2 (refine e_nx hcd rfl rfl ?_)
          refine r_putI hcd rfl rfl rfl rfl ?_
          iterate 2 (refine e_nx hcd rfl rfl ?_)
          refine r_getI hcd rfl rfl rfl ?_
          show Ev X 202 57 _ [vI (σ.1 170 21), vR (some 170)] _ Q
          refine e_nx hcd rfl rfl ?_
          refine r_getR hcd rfl rfl rfl ?_
          refine e_nx hcd rfl rfl ?_
          refine r_ild hcd rfl rfl (by omega) h3 ?_
          iterate 3 (refine e_nx hcd rfl rfl ?_)
          refine r_putI hcd rfl rfl rfl rfl ?_
          iterate 2 (refine e_nx hcd rfl rfl ?_)
          refine r_getI hcd rfl rfl rfl ?_
          show Ev X 202 68 _ [vI (σ.1 170 23), vR (some 170)] _ Q
          iterate 2 (refine e_nx hcd rfl rfl ?_)
          refine r_putI hcd rfl rfl rfl rfl ?_
          refine e_nx hcd rfl rfl ?_
          refine r_getR hcd rfl rfl rfl ?_
          iterate 2 (refine e_nx hcd rfl rfl ?_)
          refine r_getR hcd rfl rfl rfl ?_
          refine e_nx hcd rfl rfl ?_
          refine r_ild hcd rfl rfl (by omega) h3 ?_
          iterate 4 (refine e_nx hcd rfl rfl ?_)
          refine r_cv hcd rfl (by omega) rfl rfl rfl (Nat.le_of_ble_eq_true rfl) ?_
          refine Cl.mono H (fun v τ12 hq => ?_)
          obtain ⟨r23, rfl, H⟩ := hq
          show Ev X 202 83 _ [vI r23, vI ((σ.2 174 x1.toNat) - (σ.2 174 x1.toNat)), vI x1, vR (some 174)] τ12 Q
          iterate 2 (refine e_nx hcd rfl rfl ?_)
          obtain ⟨h24, H⟩ := H
          refine r_icmp hcd rfl h24 (by omega) (fun hc => ?_) (fun hc => ?_)
          · replace H := H.1 hc
            refine e_nx hcd rfl rfl ?_
            refine r_getR hcd rfl rfl rfl ?_
            refine e_nx hcd rfl rfl ?_
            refine r_ild hcd rfl rfl (by omega) h3 ?_
            iterate 4 (refine e_nx hcd rfl rfl ?_)
            refine r_cv hcd rfl (by omega) rfl rfl rfl (Nat.le_of_ble_eq_true rfl) ?_
            refine Cl.mono H (fun v τ13 hq => ?_)
            obtain ⟨r25, rfl, H⟩ := hq
            show Ev X 202 97 _ [vI r25, vI ((τ12.2 174 x1.toNat) - (σ.2 174 x1.toNat)), vI x1, vR (some 174)] τ13 Q
            refine e_nx hcd rfl rfl ?_
            refine r_ist hcd rfl rfl (by omega) h3 ?_
            refine e_nx hcd rfl rfl ?_
            show Ev X 202 100 [some (vR (some 170)), some (vI (x1 + 1)), some (vI (σ.2 174 x1.toNat))] [] _ Q
            refine e_nx hcd rfl rfl ?_
            refine e_fg [2] ?_
            exact H
          · replace H := H.2 hc
            iterate 2 (refine e_nx hcd rfl rfl ?_)
            refine r_ist hcd rfl rfl (by omega) h3 ?_
            refine e_nx hcd rfl rfl ?_
            show Ev X 202 100 [some (vR (some 170)), some (vI (x1 + 1)), some (vI (σ.2 174 x1.toNat))] [] _ Q
            refine e_nx hcd rfl rfl ?_
            refine e_fg [2] ?_
            exact H
/-! X12_canBuy -/
theorem v_203 {X : PX} {σ : Sg} {Q : Option PV → Sg → Prop} {a1 : Int}  (H : InR (iAnd (iShr (σ.1 170 16) a1) 1) ∧ (iAnd (iShr (σ.1 170 16) a1) 1 ≠ 0 → Q (some (vI 0)) σ) ∧ (¬ iAnd (iShr (σ.1 170 16) a1) 1 ≠ 0 → (0 ≤ a1 ∧ a1 < 7) ∧ InR (σ.2 174 a1.toNat) ∧ InR (σ.1 170 15) ∧ (σ.2 174 a1.toNat < σ.1 170 15 → Q (some (vI 0)) σ) ∧ (¬ σ.2 174 a1.toNat < σ.1 170 15 → Q (some (vI 1)) σ))) : Cl X 203 [vR (some 170), vI a1] σ Q := by
  have hcd : cds 203 = cd_203 := rfl
  refine c_in (Nat.le_of_ble_eq_true rfl) rfl rfl ?_
  show Ev X 203 0 [some (vR (some 170)), some (vI a1)] [] σ Q
  refine e_nx hcd rfl rfl ?_
  refine r_getI hcd rfl rfl rfl ?_
  iterate 4 (refine e_nx hcd rfl rfl ?_)
  obtain ⟨h1, H⟩ := H
  refine r_if hcd rfl h1 (fun hc => ?_) (fun hc => ?_)
  · replace H := H.1 hc
    refine e_nx hcd rfl rfl ?_
    exact r_zret hcd rfl rfl rfl (by omega) H
  · replace H := H.2 hc
    refine e_nx hcd rfl rfl ?_
    refine r_getR hcd rfl rfl rfl ?_
    refine e_nx hcd rfl rfl ?_
    obtain ⟨h2, H⟩ := H
    refine r_ild hcd rfl rfl (by omega) h2 ?_
    refine e_nx hcd rfl rfl ?_
    refine r_getI hcd rfl rfl rfl ?_
    obtain ⟨h3, H⟩ := H
    obtain ⟨h4, H⟩ := H
    refine r_icmp hcd rfl h3 h4 (fun hc => ?_) (fun hc => ?_)
    · replace H := H.1 hc
      refine e_nx hcd rfl rfl ?_
      exact r_zret hcd rfl rfl rfl (by omega) H
    · replace H := H.2 hc
      iterate 2 (refine e_nx hcd rfl rfl ?_)
      exact r_zret hcd rfl rfl rfl (by omega) H
/-! X12_buysNow -/
theorem v_204 {X : PX} {σ : Sg} {Q : Option PV → Sg → Prop} {a1 : Int}  (H : (0 ≤ a1 ∧ a1 < 7) ∧ CV X 199 [vR (some 170)] (up2 σ.1 170 16 (iOr (σ.1 170 16) (iShl 1 a1)), up2 σ.2 174 a1.toNat ((σ.2 174 a1.toNat) - (σ.1 170 15))) (fun τ1 => Q none τ1)) : Cl X 204 [vR (some 170), vI a1] σ Q := by
  have hcd : cds 204 = cd_204 := rfl
  refine c_in (Nat.le_of_ble_eq_true rfl) rfl rfl ?_
  show Ev X 204 0 [some (vR (some 170)), some (vI a1)] [] σ Q
  refine e_nx hcd rfl rfl ?_
  refine r_getR hcd rfl rfl rfl ?_
  iterate 2 (refine e_nx hcd rfl rfl ?_)
  obtain ⟨h1, H⟩ := H
  refine r_ild hcd rfl rfl (by omega) h1 ?_
  refine e_nx hcd rfl rfl ?_
  refine r_getI hcd rfl rfl rfl ?_
  refine e_nx hcd rfl rfl ?_
  refine r_ist hcd rfl rfl (by omega) h1 ?_
  iterate 2 (refine e_nx hcd rfl rfl ?_)
  refine r_getI hcd rfl rfl rfl ?_
  iterate 4 (refine e_nx hcd rfl rfl ?_)
  refine r_putI hcd rfl rfl rfl rfl ?_
  refine e_nx hcd rfl rfl ?_
  refine r_cv hcd rfl (by omega) rfl rfl rfl (Nat.le_of_ble_eq_true rfl) ?_
  refine Cl.mono H (fun v τ1 hq => ?_)
  obtain ⟨rfl, H⟩ := hq
  show Ev X 204 19 _ [] τ1 Q
  exact r_vret hcd rfl rfl rfl H
/-! X12_parish -/
set_option maxRecDepth 20000 in
set_option maxHeartbeats 8000000 in
theorem v_205 {X : PX} {σ : Sg} {Q : Option PV → Sg → Prop} {a1 : Int} {a2 : Int}  (H : CI X 189 [vR (some 170), vI a1] σ (fun r1 τ1 => InR r1 ∧ (r1 = 0 → Q (some (vI (-1))) τ1) ∧ (¬ r1 = 0 → InR a2 ∧ (0 ≤ a2 → CI X 161 [vI a2, vI 0, vI 4] τ1 (fun r4 τ2 => InR r4 ∧ (r4 = 0 → (a2 ≠ 5 → (a2 ≠ 6 → InR (iDiv a2 10) ∧ (iDiv a2 10 = 1 → CI X 190 [vR (some 170), vI (iRem a2 10)] τ2 (fun r7 τ3 => InR r7 ∧ (r7 = 0 → Q (some (vI (-1))) τ3) ∧ (¬ r7 = 0 → (0 ≤ iRem a2 10 ∧ iRem a2 10 < 7) ∧ Q (some (vI (τ3.2 174 (iRem a2 10).toNat))) τ3))) ∧ (iDiv a2 10 = 2 → CI X 190 [vR (some 170), vI (iRem a2 10)] τ2 (fun r10 τ4 => InR r10 ∧ (r10 = 0 → Q (some (vI (-1))) τ4) ∧ (¬ r10 = 0 → CI X 193 [vR (some 170), vI (iRem a2 10)] τ4 (fun r12 τ5 => Q (some (vI r12)) τ5)))) ∧ (iDiv a2 10 = 3 → CI X 190 [vR (some 170), vI (iRem a2 10)] τ2 (fun r13 τ6 => InR r13 ∧ (r13 = 0 → Q (some (vI (-1))) τ6) ∧ (¬ r13 = 0 → (0 ≤ iRem a2 10 ∧ iRem a2 10 < 7) ∧ Q (some (vI (τ6.2 175 (iRem a2 10).toNat))) τ6))) ∧ (iDiv a2 10 = 4 → InR (iRem a2 10) ∧ InR (τ2.1 170 13) ∧ (τ2.1 170 13 ≤ iRem a2 10 → Q (some (vI (-1))) τ2) ∧ (¬ τ2.1 170 13 ≤ iRem a2 10 → CI X 194 [vR (some 170), vI (iRem a2 10), vI ((iDiv a2 10) - 4)] τ2 (fun r18 τ7 => Q (some (vI r18)) τ7))) ∧ (iDiv a2 10 = 5 → InR (iRem a2 10) ∧ InR (τ2.1 170 13) ∧ (τ2.1 170 13 ≤ iRem a2 10 → Q (some (vI (-1))) τ2) ∧ (¬ τ2.1 170 13 ≤ iRem a2 10 → CI X 194 [vR (some 170), vI (iRem a2 10), vI ((iDiv a2 10) - 4)] τ2 (fun r21 τ8 => Q (some (vI r21)) τ8))) ∧ (iDiv a2 10 = 6 → InR (iRem a2 10) ∧ InR (τ2.1 170 13) ∧ (τ2.1 170 13 ≤ iRem a2 10 → Q (some (vI (-1))) τ2) ∧ (¬ τ2.1 170 13 ≤ iRem a2 10 → CI X 194 [vR (some 170), vI (iRem a2 10), vI ((iDiv a2 10) - 4)] τ2 (fun r24 τ9 => Q (some (vI r24)) τ9))) ∧ (iDiv a2 10 ≠ 1 ∧ iDiv a2 10 ≠ 2 ∧ iDiv a2 10 ≠ 3 ∧ iDiv a2 10 ≠ 4 ∧ iDiv a2 10 ≠ 5 ∧ iDiv a2 10 ≠ 6 → Q (some (vI (-1))) τ2)) ∧ (¬ a2 ≠ 6 → CI X 200 [vR (some 170)] τ2 (fun r31 τ10 => Q (some (vI ((τ2.1 170 14) - r31))) τ10))) ∧ (¬ a2 ≠ 5 → Q (some (vI (τ2.1 170 18))) τ2)) ∧ (¬ r4 = 0 → (0 ≤ (τ2.1 170 11) + a2 ∧ (τ2.1 170 11) + a2 < 3616) ∧ Q (some (vI (τ2.2 171 ((τ2.1 170 11) + a2).toNat))) τ2))) ∧ (¬ 0 ≤ a2 → Q (some (vI (-1))) τ1)))) : Cl X 205 [vR (some 170), vI a1, vI a2] σ Q := by
  have hcd : cds 205 = cd_205 := rfl
  refine c_in (Nat.le_of_ble_eq_true rfl) rfl rfl ?_
  show Ev X 205 0 [some (vR (some 170)), some (vI a1), some (vI a2), none] [] σ Q
  iterate 2 (refine e_nx hcd rfl rfl ?_)
  refine r_cv hcd rfl (by omega) rfl rfl rfl (Nat.le_of_ble_eq_true rfl) ?_
  refine Cl.mono H (fun v τ1 hq => ?_)
  obtain ⟨r1, rfl, H⟩ := hq
  show Ev X 205 3 _ [vI r1] τ1 Q
  obtain ⟨h2, H⟩ := H
  refine r_if hcd rfl h2 (fun hc => ?_) (fun hc => ?_)
  · replace H := H.1 hc
    refine e_nx hcd rfl rfl ?_
    exact r_iret hcd rfl rfl rfl H
  · replace H := H.2 hc
    refine e_nx hcd rfl rfl ?_
    obtain ⟨h3, H⟩ := H
    refine r_if hcd rfl h3 (fun hc => ?_) (fun hc => ?_)
    · replace H := H.1 hc
      iterate 3 (refine e_nx hcd rfl rfl ?_)
      refine r_cs hcd rfl (by omega) (Nat.le_of_ble_eq_true rfl) rfl rfl (Nat.le_of_ble_eq_true rfl) ?_
      refine Cl.mono H (fun v τ2 hq => ?_)
      obtain ⟨r4, rfl, H⟩ := hq
      show Ev X 205 12 _ [vI r4] τ2 Q
      obtain ⟨h5, H⟩ := H
      refine r_if hcd rfl h5 (fun hc => ?_) (fun hc => ?_)
      · replace H := H.1 hc
        iterate 2 (refine e_nx hcd rfl rfl ?_)
        refine r_icmp hcd rfl h3 (by omega) (fun hc => ?_) (fun hc => ?_)
        · replace H := H.1 hc
          iterate 2 (refine e_nx hcd rfl rfl ?_)
          refine r_icmp hcd rfl h3 (by omega) (fun hc => ?_) (fun hc => ?_)
          · replace H := H.1 hc
            iterate 2 (refine e_nx hcd rfl rfl ?_)
            refine r_rem hcd rfl (by omega) (by omega) ?_
            refine e_nx hcd rfl rfl ?_
            show Ev X 205 40 [some (vR (some 170)), some (vI a1), some (vI a2), some (vI (iRem a2 10))] [] _ Q
            iterate 2 (refine e_nx hcd rfl rfl ?_)
            refine r_div hcd rfl (by omega) (by omega) ?_
            obtain ⟨h6, H⟩ := H
            refine r_tab hcd rfl h6 ?_
            by_cases hs25 : iDiv a2 10 = 1
            · replace H := H.1 hs25
              refine e_pc (i2 := 44) (by rw [hs25]; rfl) ?_
              iterate 2 (refine e_nx hcd rfl rfl ?_)
              refine r_cv hcd rfl (by omega) rfl rfl rfl (Nat.le_of_ble_eq_true rfl) ?_
              refine Cl.mono H (fun v τ3 hq => ?_)
              obtain ⟨r7, rfl, H⟩ := hq
              show Ev X 205 47 _ [vI r7] τ3 Q
              obtain ⟨h8, H⟩ := H
              refine r_if hcd rfl h8 (fun hc => ?_) (fun hc => ?_)
              · replace H := H.1 hc
                refine e_nx hcd rfl rfl ?_
                exact r_iret hcd rfl rfl rfl H
              · replace H := H.2 hc
                refine e_nx hcd rfl rfl ?_
                refine r_getR hcd rfl rfl rfl ?_
                refine e_nx hcd rfl rfl ?_
                obtain ⟨h9, H⟩ := H
                refine r_ild hcd rfl rfl (by omega) h9 ?_
                refine e_nx hcd rfl rfl ?_
                exact r_iret hcd rfl rfl rfl H
            by_cases hs26 : iDiv a2 10 = 2
            · replace H := H.2.1 hs26
              refine e_pc (i2 := 55) (by rw [hs26]; rfl) ?_
              iterate 2 (refine e_nx hcd rfl rfl ?_)
              refine r_cv hcd rfl (by omega) rfl rfl rfl (Nat.le_of_ble_eq_true rfl) ?_
              refine Cl.mono H (fun v τ4 hq => ?_)
              obtain ⟨r10, rfl, H⟩ := hq
              show Ev X 205 58 _ [vI r10] τ4 Q
              obtain ⟨h11, H⟩ := H
              refine r_if hcd rfl h11 (fun hc => ?_) (fun hc => ?_)
              · replace H := H.1 hc
                refine e_nx hcd rfl rfl ?_
                exact r_iret hcd rfl rfl rfl H
              · replace H := H.2 hc
                iterate 2 (refine e_nx hcd rfl rfl ?_)
                refine r_cv hcd rfl (by omega) rfl rfl rfl (Nat.le_of_ble_eq_true rfl) ?_
                refine Cl.mono H (fun v τ5 hq => ?_)
                obtain ⟨r12, rfl, H⟩ := hq
                show Ev X 205 62 _ [vI r12] τ5 Q
                refine e_nx hcd rfl rfl ?_
                exact r_iret hcd rfl rfl rfl H
            by_cases hs27 : iDiv a2 10 = 3
            · replace H := H.2.2.1 hs27
              refine e_pc (i2 := 65) (by rw [hs27]; rfl) ?_
              iterate 2 (refine e_nx hcd rfl rfl ?_)
              refine r_cv hcd rfl (by omega) rfl rfl rfl (Nat.le_of_ble_eq_true rfl) ?_
              refine Cl.mono H (fun v τ6 hq => ?_)
              obtain ⟨r13, rfl, H⟩ := hq
              show Ev X 205 68 _ [vI r13] τ6 Q
              obtain ⟨h14, H⟩ := H
              refine r_if hcd rfl h14 (fun hc => ?_) (fun hc => ?_)
              · replace H := H.1 hc
                refine e_nx hcd rfl rfl ?_
                exact r_iret hcd rfl rfl rfl H
              · replace H := H.2 hc
                refine e_nx hcd rfl rfl ?_
                refine r_getR hcd rfl rfl rfl ?_
                refine e_nx hcd rfl rfl ?_
                obtain ⟨h15, H⟩ := H
                refine r_ild hcd rfl rfl (by omega) h15 ?_
                refine e_nx hcd rfl rfl ?_
                exact r_iret hcd rfl rfl rfl H
            by_cases hs28 : iDiv a2 10 = 4
            · replace H := H.2.2.2.1 hs28
              refine e_pc (i2 := 76) (by rw [hs28]; rfl) ?_
              iterate 2 (refine e_nx hcd rfl rfl ?_)
              refine r_getI hcd rfl rfl rfl ?_
              obtain ⟨h16, H⟩ := H
              obtain ⟨h17, H⟩ := H
              refine r_icmp hcd rfl h16 h17 (fun hc => ?_) (fun hc => ?_)
              · replace H := H.1 hc
                refine e_nx hcd rfl rfl ?_
                exact r_iret hcd rfl rfl rfl H
              · replace H := H.2 hc
                iterate 4 (refine e_nx hcd rfl rfl ?_)
                refine r_div hcd rfl (by omega) (by omega) ?_
                iterate 2 (refine e_nx hcd rfl rfl ?_)
                refine r_cv hcd rfl (by omega) rfl rfl rfl (Nat.le_of_ble_eq_true rfl) ?_
                refine Cl.mono H (fun v τ7 hq => ?_)
                obtain ⟨r18, rfl, H⟩ := hq
                show Ev X 205 88 _ [vI r18] τ7 Q
                refine e_nx hcd rfl rfl ?_
                exact r_iret hcd rfl rfl rfl H
            by_cases hs29 : iDiv a2 10 = 5
            · replace H := H.2.2.2.2.1 hs29
              refine e_pc (i2 := 76) (by rw [hs29]; rfl) ?_
              iterate 2 (refine e_nx hcd rfl rfl ?_)
              refine r_getI hcd rfl rfl rfl ?_
              obtain ⟨h19, H⟩ := H
              obtain ⟨h20, H⟩ := H
              refine r_icmp hcd rfl h19 h20 (fun hc => ?_) (fun hc => ?_)
              · replace H := H.1 hc
                refine e_nx hcd rfl rfl ?_
                exact r_iret hcd rfl rfl rfl H
              · replace H := H.2 hc
                iterate 4 (refine e_nx hcd rfl rfl ?_)
                refine r_div hcd rfl (by omega) (by omega) ?_
                iterate 2 (refine e_nx hcd rfl rfl ?_)
                refine r_cv hcd rfl (by omega) rfl rfl rfl (Nat.le_of_ble_eq_true rfl) ?_
                refine Cl.mono H (fun v τ8 hq => ?_)
                obtain ⟨r21, rfl, H⟩ := hq
                show Ev X 205 88 _ [vI r21] τ8 Q
                refine e_nx hcd rfl rfl ?_
                exact r_iret hcd rfl rfl rfl H
            by_cases hs30 : iDiv a2 10 = 6
            · replace H := H.2.2.2.2.2.1 hs30
              refine e_pc (i2 := 76) (by rw [hs30]; rfl) ?_
              iterate 2 (refine e_nx hcd rfl rfl ?_)
              refine r_getI hcd rfl rfl rfl ?_
              obtain ⟨h22, H⟩ := H
              obtain ⟨h23, H⟩ := H
              refine r_icmp hcd rfl h22 h23 (fun hc => ?_) (fun hc => ?_)
              · replace H := H.1 hc
                refine e_nx hcd rfl rfl ?_
                exact r_iret hcd rfl rfl rfl H
              · replace H := H.2 hc
                iterate 4 (refine e_nx hcd rfl rfl ?_)
                refine r_div hcd rfl (by omega) (by omega) ?_
                iterate 2 (refine e_nx hcd rfl rfl ?_)
                refine r_cv hcd rfl (by omega) rfl rfl rfl (Nat.le_of_ble_eq_true rfl) ?_
                refine Cl.mono H (fun v τ9 hq => ?_)
                obtain ⟨r24, rfl, H⟩ := hq
                show Ev X 205 88 _ [vI r24] τ9 Q
                refine e_nx hcd rfl rfl ?_
                exact r_iret hcd rfl rfl rfl H
            replace H := H.2.2.2.2.2.2 ⟨hs25, hs26, hs27, hs28, hs29, hs30⟩
            refine e_pc (i2 := 91) (tab_def (lo := 1) (hi := 6) (fun h1 h2 => ?_)) ?_
            · omega
            · refine e_nx hcd rfl rfl ?_
              exact r_iret hcd rfl rfl rfl H
          · replace H := H.2 hc
            refine e_nx hcd rfl rfl ?_
            refine r_getI hcd rfl rfl rfl ?_
            refine e_nx hcd rfl rfl ?_
            refine r_cv hcd rfl (by omega) rfl rfl rfl (Nat.le_of_ble_eq_true rfl) ?_
            refine Cl.mono H (fun v τ10 hq => ?_)
            obtain ⟨r31, rfl, H⟩ := hq
            show Ev X 205 34 _ [vI r31, vI (τ2.1 170 14)] τ10 Q
            refine e_nx hcd rfl rfl ?_
            exact r_iret hcd rfl rfl rfl H
        · replace H := H.2 hc
          refine e_nx hcd rfl rfl ?_
          refine r_getI hcd rfl rfl rfl ?_
          exact r_iret hcd rfl rfl rfl H
      · replace H := H.2 hc
        refine e_nx hcd rfl rfl ?_
        refine r_getR hcd rfl rfl rfl ?_
        refine e_nx hcd rfl rfl ?_
        refine r_getI hcd rfl rfl rfl ?_
        iterate 2 (refine e_nx hcd rfl rfl ?_)
        obtain ⟨h32, H⟩ := H
        refine r_ild hcd rfl rfl (by omega) h32 ?_
        exact r_iret hcd rfl rfl rfl H
    · replace H := H.2 hc
      refine e_nx hcd rfl rfl ?_
      exact r_iret hcd rfl rfl rfl H
/-! X12_rushes -/
theorem v_206 {X : PX} {σ : Sg} {Q : Option PV → Sg → Prop} {a1 : Int}  (H : Ev X 206 8 [some (vR (some 170)), some (vI a1), some (vI 1), none] [] (up2 (up2 σ.1 170 29 0) 170 30 0, σ.2) Q) : Cl X 206 [vR (some 170), vI a1] σ Q := by
  have hcd : cds 206 = cd_206 := rfl
  refine c_in (Nat.le_of_ble_eq_true rfl) rfl rfl ?_
  show Ev X 206 0 [some (vR (some 170)), some (vI a1), none, none] [] σ Q
  iterate 2 (refine e_nx hcd rfl rfl ?_)
  refine r_putI hcd rfl rfl rfl rfl ?_
  iterate 2 (refine e_nx hcd rfl rfl ?_)
  refine r_putI hcd rfl rfl rfl rfl ?_
  iterate 2 (refine e_nx hcd rfl rfl ?_)
  show Ev X 206 8 [some (vR (some 170)), some (vI a1), some (vI 1), none] [] _ Q
  exact H
theorem v_206_8 {X : PX} {σ : Sg} {Q : Option PV → Sg → Prop} {x1 : Int} {x2 : Int}  (H : InR x2 ∧ (x2 = 0 → Q none σ) ∧ (¬ x2 = 0 → Ev X 206 14 [some (vR (some 170)), some (vI x1), some (vI 0), some (vI 0)] [] σ Q)) : Ev X 206 8 [some (vR (some 170)), some (vI x1), some (vI x2), none] [] σ Q := by
  have hcd : cds 206 = cd_206 := rfl
  refine e_nx hcd rfl rfl ?_
  obtain ⟨h1, H⟩ := H
  refine r_if hcd rfl h1 (fun hc => ?_) (fun hc => ?_)
  · replace H := H.1 hc
    exact r_vret hcd rfl rfl rfl H
  · replace H := H.2 hc
    iterate 2 (refine e_nx hcd rfl rfl ?_)
    show Ev X 206 12 [some (vR (some 170)), some (vI x1), some (vI 0), none] [] _ Q
    iterate 2 (refine e_nx hcd rfl rfl ?_)
    show Ev X 206 14 [some (vR (some 170)), some (vI x1), some (vI 0), some (vI 0)] [] _ Q
    exact H
set_option maxRecDepth 20000 in
set_option maxHeartbeats 8000000 in
theorem v_206_14 {X : PX} {σ : Sg} {Q : Option PV → Sg → Prop} {x1 : Int} {x2 : Int} {x3 : Int}  (H : InR x3 ∧ InR (σ.1 170 12) ∧ (σ.1 170 12 ≤ x3 → InR x2 ∧ (x2 = 0 → Ev X 206 8 [some (vR (some 170)), some (vI x1), some (vI x2), none] [] (up2 σ.1 170 30 ((σ.1 170 30) + 0), σ.2) Q) ∧ (¬ x2 = 0 → Ev X 206 8 [some (vR (some 170)), some (vI x1), some (vI x2), none] [] (up2 σ.1 170 30 ((σ.1 170 30) + 1), σ.2) Q)) ∧ (¬ σ.1 170 12 ≤ x3 → CI X 198 [vR (some 170), vI x3] σ (fun r4 τ1 => InR r4 ∧ (r4 ≠ 0 → Ev X 206 14 [some (vR (some 170)), some (vI x1), some (vI x2), some (vI (x3 + 1))] [] τ1 Q) ∧ (¬ r4 ≠ 0 → (0 ≤ x3 ∧ x3 < 7) ∧ InR (x1 * (τ1.2 175 x3.toNat)) ∧ InR (τ1.1 170 15) ∧ (x1 * (τ1.2 175 x3.toNat) ≤ τ1.1 170 15 → Ev X 206 14 [some (vR (some 170)), some (vI x1), some (vI x2), some (vI (x3 + 1))] [] τ1 Q) ∧ (¬ x1 * (τ1.2 175 x3.toNat) ≤ τ1.1 170 15 → CI X 203 [vR (some 170), vI x3] τ1 (fun r9 τ2 => InR r9 ∧ (r9 ≠ 0 → CV X 204 [vR (some 170), vI x3] τ2 (fun τ3 => (0 ≤ τ3.1 170 29 ∧ τ3.1 170 29 < 7) ∧ Ev X 206 14 [some (vR (some 170)), some (vI x1), some (vI 1), some (vI (x3 + 1))] [] (up2 τ3.1 170 29 ((τ3.1 170 29) + 1), up2 τ3.2 177 (τ3.1 170 29).toNat x3) Q)) ∧ (¬ r9 ≠ 0 → Ev X 206 14 [some (vR (some 170)), some (vI x1), some (vI x2), some (vI (x3 + 1))] [] τ2 Q))))))) : Ev X 206 14 [some (vR (some 170)), some (vI x1), some (vI x2), some (vI x3)] [] σ Q := by
  have hcd : cds 206 = cd_206 := rfl
  iterate 2 (refine e_nx hcd rfl rfl ?_)
  refine r_getI hcd rfl rfl rfl ?_
  obtain ⟨h1, H⟩ := H
  obtain ⟨h2, H⟩ := H
  refine r_icmp hcd rfl h1 h2 (fun hc => ?_) (fun hc => ?_)
  · replace H := H.1 hc
    iterate 2 (refine e_nx hcd rfl rfl ?_)
    refine r_getI hcd rfl rfl rfl ?_
    refine e_nx hcd rfl rfl ?_
    obtain ⟨h3, H⟩ := H
    refine r_if hcd rfl h3 (fun hc => ?_) (fun hc => ?_)
    · replace H := H.1 hc
      iterate 2 (refine e_nx hcd rfl rfl ?_)
      refine r_putI hcd rfl rfl rfl rfl ?_
      refine e_nx hcd rfl rfl ?_
      refine e_fg [3] ?_
      exact H
    · replace H := H.2 hc
      iterate 3 (refine e_nx hcd rfl rfl ?_)
      refine r_putI hcd rfl rfl rfl rfl ?_
      refine e_nx hcd rfl rfl ?_
      refine e_fg [3] ?_
      exact H
  · replace H := H.2 hc
    iterate 2 (refine e_nx hcd rfl rfl ?_)
    refine r_cv hcd rfl (by omega) rfl rfl rfl (Nat.le_of_ble_eq_true rfl) ?_
    refine Cl.mono H (fun v τ1 hq => ?_)
    obtain ⟨r4, rfl, H⟩ := hq
    show Ev X 206 21 _ [vI r4] τ1 Q
    obtain ⟨h5, H⟩ := H
    refine r_if hcd rfl h5 (fun hc => ?_) (fun hc => ?_)
    · replace H := H.1 hc
      refine e_nx hcd rfl rfl ?_
      show Ev X 206 54 [some (vR (some 170)), some (vI x1), some (vI x2), some (vI (x3 + 1))] [] _ Q
      refine e_nx hcd rfl rfl ?_
      exact H
    · replace H := H.2 hc
      iterate 2 (refine e_nx hcd rfl rfl ?_)
      refine r_getR hcd rfl rfl rfl ?_
      refine e_nx hcd rfl rfl ?_
      obtain ⟨h6, H⟩ := H
      refine r_ild hcd rfl rfl (by omega) h6 ?_
      iterate 2 (refine e_nx hcd rfl rfl ?_)
      refine r_getI hcd rfl rfl rfl ?_
      obtain ⟨h7, H⟩ := H
      obtain ⟨h8, H⟩ := H
      refine r_icmp hcd rfl h7 h8 (fun hc => ?_) (fun hc => ?_)
      · replace H := H.1 hc
        refine e_nx hcd rfl rfl ?_
        show Ev X 206 54 [some (vR (some 170)), some (vI x1), some (vI x2), some (vI (x3 + 1))] [] _ Q
        refine e_nx hcd rfl rfl ?_
        exact H
      · replace H := H.2 hc
        iterate 2 (refine e_nx hcd rfl rfl ?_)
        refine r_cv hcd rfl (by omega) rfl rfl rfl (Nat.le_of_ble_eq_true rfl) ?_
        refine Cl.mono H (fun v τ2 hq => ?_)
        obtain ⟨r9, rfl, H⟩ := hq
        show Ev X 206 34 _ [vI r9] τ2 Q
        obtain ⟨h10, H⟩ := H
        refine r_if hcd rfl h10 (fun hc => ?_) (fun hc => ?_)
        · replace H := H.1 hc
          iterate 2 (refine e_nx hcd rfl rfl ?_)
          refine r_cv hcd rfl (by omega) rfl rfl rfl (Nat.le_of_ble_eq_true rfl) ?_
          refine Cl.mono H (fun v τ3 hq => ?_)
          obtain ⟨rfl, H⟩ := hq
          show Ev X 206 39 _ [] τ3 Q
          refine e_nx hcd rfl rfl ?_
          refine r_getR hcd rfl rfl rfl ?_
          refine e_nx hcd rfl rfl ?_
          refine r_getI hcd rfl rfl rfl ?_
          refine e_nx hcd rfl rfl ?_
          obtain ⟨h11, H⟩ := H
          refine r_ist hcd rfl rfl (by omega) h11 ?_
          iterate 2 (refine e_nx hcd rfl rfl ?_)
          refine r_getI hcd rfl rfl rfl ?_
          iterate 2 (refine e_nx hcd rfl rfl ?_)
          refine r_putI hcd rfl rfl rfl rfl ?_
          iterate 2 (refine e_nx hcd rfl rfl ?_)
          show Ev X 206 53 [some (vR (some 170)), some (vI x1), some (vI 1), some (vI x3)] [] _ Q
          refine e_nx hcd rfl rfl ?_
          show Ev X 206 54 [some (vR (some 170)), some (vI x1), some (vI 1), some (vI (x3 + 1))] [] _ Q
          refine e_nx hcd rfl rfl ?_
          exact H
        · replace H := H.2 hc
          iterate 2 (refine e_nx hcd rfl rfl ?_)
          show Ev X 206 54 [some (vR (some 170)), some (vI x1), some (vI x2), some (vI (x3 + 1))] [] _ Q
          refine e_nx hcd rfl rfl ?_
          exact H
/-! X12_rush -/
set_option maxRecDepth 20000 in
set_option maxHeartbeats 8000000 in
theorem v_207 {X : PX} {σ : Sg} {Q : Option PV → Sg → Prop} {a1 : Int} {a2 : Int} {a3 : Int}  (H : CI X 189 [vR (some 170), vI a1] σ (fun r1 τ1 => InR r1 ∧ (r1 = 0 → Q (some (vI (-1))) τ1) ∧ (¬ r1 = 0 → CI X 161 [vI a2, vI 1, vI 9] τ1 (fun r3 τ2 => InR r3 ∧ (r3 ≠ 0 → CV X 206 [vR (some 170), vI a2] τ2 (fun τ3 => InR a3 ∧ (a3 = 0 → Q (some (vI (τ3.1 170 16))) τ3) ∧ (a3 = 1 → Q (some (vI (τ3.1 170 29))) τ3) ∧ (a3 = 2 → Q (some (vI (τ3.1 170 30))) τ3) ∧ (a3 ≠ 0 ∧ a3 ≠ 1 ∧ a3 ≠ 2 → CI X 161 [vI a3, vI 10, vI 16] τ3 (fun r6 τ4 => InR r6 ∧ (r6 = 0 → CI X 161 [vI a3, vI 20, vI 26] τ4 (fun r8 τ5 => InR r8 ∧ (r8 = 0 → Q (some (vI (-1))) τ5) ∧ (¬ r8 = 0 → CI X 190 [vR (some 170), vI (a3 - 20)] τ5 (fun r10 τ6 => InR r10 ∧ (r10 = 0 → Q (some (vI (-1))) τ6) ∧ (¬ r10 = 0 → (0 ≤ a3 - 20 ∧ a3 - 20 < 7) ∧ Q (some (vI (τ6.2 175 (a3 - 20).toNat))) τ6))))) ∧ (¬ r6 = 0 → InR (a3 - 10) ∧ InR (τ4.1 170 29) ∧ (τ4.1 170 29 ≤ a3 - 10 → Q (some (vI (-1))) τ4) ∧ (¬ τ4.1 170 29 ≤ a3 - 10 → (0 ≤ a3 - 10 ∧ a3 - 10 < 7) ∧ Q (some (vI (τ4.2 177 (a3 - 10).toNat))) τ4)))))) ∧ (¬ r3 ≠ 0 → Q (some (vI (-1))) τ2))))) : Cl X 207 [vR (some 170), vI a1, vI a2, vI a3] σ Q := by
  have hcd : cds 207 = cd_207 := rfl
  refine c_in (Nat.le_of_ble_eq_true rfl) rfl rfl ?_
  show Ev X 207 0 [some (vR (some 170)), some (vI a1), some (vI a2), some (vI a3)] [] σ Q
  iterate 2 (refine e_nx hcd rfl rfl ?_)
  refine r_cv hcd rfl (by omega) rfl rfl rfl (Nat.le_of_ble_eq_true rfl) ?_
  refine Cl.mono H (fun v τ1 hq => ?_)
  obtain ⟨r1, rfl, H⟩ := hq
  show Ev X 207 3 _ [vI r1] τ1 Q
  obtain ⟨h2, H⟩ := H
  refine r_if hcd rfl h2 (fun hc => ?_) (fun hc => ?_)
  · replace H := H.1 hc
    refine e_nx hcd rfl rfl ?_
    exact r_iret hcd rfl rfl rfl H
  · replace H := H.2 hc
    iterate 3 (refine e_nx hcd rfl rfl ?_)
    refine r_cs hcd rfl (by omega) (Nat.le_of_ble_eq_true rfl) rfl rfl (Nat.le_of_ble_eq_true rfl) ?_
    refine Cl.mono H (fun v τ2 hq => ?_)
    obtain ⟨r3, rfl, H⟩ := hq
    show Ev X 207 8 _ [vI r3] τ2 Q
    obtain ⟨h4, H⟩ := H
    refine r_if hcd rfl h4 (fun hc => ?_) (fun hc => ?_)
    · replace H := H.1 hc
      iterate 2 (refine e_nx hcd rfl rfl ?_)
      refine r_cv hcd rfl (by omega) rfl rfl rfl (Nat.le_of_ble_eq_true rfl) ?_
      refine Cl.mono H (fun v τ3 hq => ?_)
      obtain ⟨rfl, H⟩ := hq
      show Ev X 207 14 _ [] τ3 Q
      refine e_nx hcd rfl rfl ?_
      obtain ⟨h5, H⟩ := H
      refine r_tab hcd rfl h5 ?_
      by_cases hs16 : a3 = 0
      · replace H := H.1 hs16
        refine e_pc (i2 := 16) (by rw [hs16]; rfl) ?_
        refine e_nx hcd rfl rfl ?_
        refine r_getI hcd rfl rfl rfl ?_
        exact r_iret hcd rfl rfl rfl H
      by_cases hs17 : a3 = 1
      · replace H := H.2.1 hs17
        refine e_pc (i2 := 19) (by rw [hs17]; rfl) ?_
        refine e_nx hcd rfl rfl ?_
        refine r_getI hcd rfl rfl rfl ?_
        exact r_iret hcd rfl rfl rfl H
      by_cases hs18 : a3 = 2
      · replace H := H.2.2.1 hs18
        refine e_pc (i2 := 22) (by rw [hs18]; rfl) ?_
        refine e_nx hcd rfl rfl ?_
        refine r_getI hcd rfl rfl rfl ?_
        exact r_iret hcd rfl rfl rfl H
      replace H := H.2.2.2 ⟨hs16, hs17, hs18⟩
      refine e_pc (i2 := 25) (tab_def (lo := 0) (hi := 2) (fun h1 h2 => ?_)) ?_
      · omega
      · refine e_nx hcd rfl rfl ?_
        iterate 2 (refine e_nx hcd rfl rfl ?_)
        refine r_cs hcd rfl (by omega) (Nat.le_of_ble_eq_true rfl) rfl rfl (Nat.le_of_ble_eq_true rfl) ?_
        refine Cl.mono H (fun v τ4 hq => ?_)
        obtain ⟨r6, rfl, H⟩ := hq
        show Ev X 207 29 _ [vI r6] τ4 Q
        obtain ⟨h7, H⟩ := H
        refine r_if hcd rfl h7 (fun hc => ?_) (fun hc => ?_)
        · replace H := H.1 hc
          iterate 3 (refine e_nx hcd rfl rfl ?_)
          refine r_cs hcd rfl (by omega) (Nat.le_of_ble_eq_true rfl) rfl rfl (Nat.le_of_ble_eq_true rfl) ?_
          refine Cl.mono H (fun v τ5 hq => ?_)
          obtain ⟨r8, rfl, H⟩ := hq
          show Ev X 207 49 _ [vI r8] τ5 Q
          obtain ⟨h9, H⟩ := H
          refine r_if hcd rfl h9 (fun hc => ?_) (fun hc => ?_)
          · replace H := H.1 hc
            refine e_nx hcd rfl rfl ?_
            exact r_iret hcd rfl rfl rfl H
          · replace H := H.2 hc
            iterate 4 (refine e_nx hcd rfl rfl ?_)
            refine r_cv hcd rfl (by omega) rfl rfl rfl (Nat.le_of_ble_eq_true rfl) ?_
            refine Cl.mono H (fun v τ6 hq => ?_)
            obtain ⟨r10, rfl, H⟩ := hq
            show Ev X 207 55 _ [vI r10] τ6 Q
            obtain ⟨h11, H⟩ := H
            refine r_if hcd rfl h11 (fun hc => ?_) (fun hc => ?_)
            · replace H := H.1 hc
              refine e_nx hcd rfl rfl ?_
              exact r_iret hcd rfl rfl rfl H
            · replace H := H.2 hc
              refine e_nx hcd rfl rfl ?_
              refine r_getR hcd rfl rfl rfl ?_
              iterate 3 (refine e_nx hcd rfl rfl ?_)
              obtain ⟨h12, H⟩ := H
              refine r_ild hcd rfl rfl (by omega) h12 ?_
              refine e_nx hcd rfl rfl ?_
              exact r_iret hcd rfl rfl rfl H
        · replace H := H.2 hc
          iterate 4 (refine e_nx hcd rfl rfl ?_)
          refine r_getI hcd rfl rfl rfl ?_
          obtain ⟨h13, H⟩ := H
          obtain ⟨h14, H⟩ := H
          refine r_icmp hcd rfl h13 h14 (fun hc => ?_) (fun hc => ?_)
          · replace H := H.1 hc
            refine e_nx hcd rfl rfl ?_
            exact r_iret hcd rfl rfl rfl H
          · replace H := H.2 hc
            refine e_nx hcd rfl rfl ?_
            refine r_getR hcd rfl rfl rfl ?_
            iterate 3 (refine e_nx hcd rfl rfl ?_)
            obtain ⟨h15, H⟩ := H
            refine r_ild hcd rfl rfl (by omega) h15 ?_
            refine e_nx hcd rfl rfl ?_
            exact r_iret hcd rfl rfl rfl H
    · replace H := H.2 hc
      refine e_nx hcd rfl rfl ?_
      exact r_iret hcd rfl rfl rfl H
/-! X12_seeds -/
theorem v_208 {X : PX} {σ : Sg} {Q : Option PV → Sg → Prop} {a1 : Int} {a2 : Int}  (H : CI X 189 [vR (some 170), vI a1] σ (fun r1 τ1 => InR r1 ∧ (r1 ≠ 0 → CI X 191 [vR (some 170)] τ1 (fun r3 τ2 => Ev X 208 11 [some (vR (some 170)), none, some (vI a2), some (vI r3), some (vI r3)] [] τ2 Q)) ∧ (¬ r1 ≠ 0 → Q (some (vI (-1))) τ1))) : Cl X 208 [vR (some 170), vI a1, vI a2] σ Q := by
  have hcd : cds 208 = cd_208 := rfl
  refine c_in (Nat.le_of_ble_eq_true rfl) rfl rfl ?_
  show Ev X 208 0 [some (vR (some 170)), some (vI a1), some (vI a2), none, none] [] σ Q
  iterate 2 (refine e_nx hcd rfl rfl ?_)
  refine r_cv hcd rfl (by omega) rfl rfl rfl (Nat.le_of_ble_eq_true rfl) ?_
  refine Cl.mono H (fun v τ1 hq => ?_)
  obtain ⟨r1, rfl, H⟩ := hq
  show Ev X 208 3 _ [vI r1] τ1 Q
  obtain ⟨h2, H⟩ := H
  refine r_if hcd rfl h2 (fun hc => ?_) (fun hc => ?_)
  · replace H := H.1 hc
    refine e_nx hcd rfl rfl ?_
    refine r_cv hcd rfl (by omega) rfl rfl rfl (Nat.le_of_ble_eq_true rfl) ?_
    refine Cl.mono H (fun v τ2 hq => ?_)
    obtain ⟨r3, rfl, H⟩ := hq
    show Ev X 208 8 _ [vI r3] τ2 Q
    refine e_nx hcd rfl rfl ?_
    show Ev X 208 9 [some (vR (some 170)), some (vI a1), some (vI a2), some (vI r3), none] [] _ Q
    iterate 2 (refine e_nx hcd rfl rfl ?_)
    show Ev X 208 11 [some (vR (some 170)), some (vI a1), some (vI a2), some (vI r3), some (vI r3)] [] _ Q
    refine e_fg [1] ?_
    exact H
  · replace H := H.2 hc
    refine e_nx hcd rfl rfl ?_
    exact r_iret hcd rfl rfl rfl H
set_option maxRecDepth 20000 in
set_option maxHeartbeats 8000000 in
theorem v_208_11 {X : PX} {σ : Sg} {Q : Option PV → Sg → Prop} {x2 : Int} {x3 : Int} {x4 : Int}  (H : InR x4 ∧ (x4 < 0 → InR x2 ∧ (x2 = 0 → CI X 195 [vI x3] σ (fun r3 τ1 => Q (some (vI r3)) τ1)) ∧ (¬ x2 = 0 → Q (some (vI x3)) σ)) ∧ (¬ x4 < 0 → CI X 195 [vI x4] σ (fun r4 τ2 => CI X 195 [vI x3] τ2 (fun r5 τ3 => InR r4 ∧ InR r5 ∧ (r5 < r4 → Ev X 208 11 [some (vR (some 170)), none, some (vI x2), some (vI x3), some (vI (x4 + (-1)))] [] τ3 Q) ∧ (¬ r5 < r4 → CI X 197 [vR (some 170), vI (iOr (τ3.1 170 16) x4)] τ3 (fun r8 τ4 => CI X 191 [vR (some 170)] τ4 (fun r9 τ5 => InR r8 ∧ InR r9 ∧ (r8 ≠ r9 → Ev X 208 11 [some (vR (some 170)), none, some (vI x2), some (vI x3), some (vI (x4 + (-1)))] [] τ5 Q) ∧ (¬ r8 ≠ r9 → Ev X 208 11 [some (vR (some 170)), none, some (vI x2), some (vI x4), some (vI (x4 + (-1)))] [] τ5 Q)))))))) : Ev X 208 11 [some (vR (some 170)), none, some (vI x2), some (vI x3), some (vI x4)] [] σ Q := by
  have hcd : cds 208 = cd_208 := rfl
  refine e_nx hcd rfl rfl ?_
  obtain ⟨h1, H⟩ := H
  refine r_if hcd rfl h1 (fun hc => ?_) (fun hc => ?_)
  · replace H := H.1 hc
    refine e_nx hcd rfl rfl ?_
    obtain ⟨h2, H⟩ := H
    refine r_if hcd rfl h2 (fun hc => ?_) (fun hc => ?_)
    · replace H := H.1 hc
      refine e_nx hcd rfl rfl ?_
      refine r_cs hcd rfl (by omega) (Nat.le_of_ble_eq_true rfl) rfl rfl (Nat.le_of_ble_eq_true rfl) ?_
      refine Cl.mono H (fun v τ1 hq => ?_)
      obtain ⟨r3, rfl, H⟩ := hq
      show Ev X 208 37 _ [vI r3] τ1 Q
      exact r_iret hcd rfl rfl rfl H
    · replace H := H.2 hc
      iterate 2 (refine e_nx hcd rfl rfl ?_)
      exact r_iret hcd rfl rfl rfl H
  · replace H := H.2 hc
    refine e_nx hcd rfl rfl ?_
    refine r_cs hcd rfl (by omega) (Nat.le_of_ble_eq_true rfl) rfl rfl (Nat.le_of_ble_eq_true rfl) ?_
    refine Cl.mono H (fun v τ2 hq => ?_)
    obtain ⟨r4, rfl, H⟩ := hq
    show Ev X 208 15 _ [vI r4] τ2 Q
    refine e_nx hcd rfl rfl ?_
    refine r_cs hcd rfl (by omega) (Nat.le_of_ble_eq_true rfl) rfl rfl (Nat.le_of_ble_eq_true rfl) ?_
    refine Cl.mono H (fun v τ3 hq => ?_)
    obtain ⟨r5, rfl, H⟩ := hq
    show Ev X 208 17 _ [vI r5, vI r4] τ3 Q
    obtain ⟨h6, H⟩ := H
    obtain ⟨h7, H⟩ := H
    refine r_icmp hcd rfl h6 h7 (fun hc => ?_) (fun hc => ?_)
    · replace H := H.1 hc
      refine e_nx hcd rfl rfl ?_
      show Ev X 208 30 [some (vR (some 170)), none, some (vI x2), some (vI x3), some (vI (x4 + (-1)))] [] _ Q
      refine e_nx hcd rfl rfl ?_
      exact H
    · replace H := H.2 hc
      iterate 2 (refine e_nx hcd rfl rfl ?_)
      refine r_getI hcd rfl rfl rfl ?_
      iterate 2 (refine e_nx hcd rfl rfl ?_)
      refine r_cv hcd rfl (by omega) rfl rfl rfl (Nat.le_of_ble_eq_true rfl) ?_
      refine Cl.mono H (fun v τ4 hq => ?_)
      obtain ⟨r8, rfl, H⟩ := hq
      show Ev X 208 24 _ [vI r8] τ4 Q
      refine e_nx hcd rfl rfl ?_
      refine r_cv hcd rfl (by omega) rfl rfl rfl (Nat.le_of_ble_eq_true rfl) ?_
      refine Cl.mono H (fun v τ5 hq => ?_)
      obtain ⟨r9, rfl, H⟩ := hq
      show Ev X 208 26 _ [vI r9, vI r8] τ5 Q
      obtain ⟨h10, H⟩ := H
      obtain ⟨h11, H⟩ := H
      refine r_icmp hcd rfl h10 h11 (fun hc => ?_) (fun hc => ?_)
      · replace H := H.1 hc
        refine e_nx hcd rfl rfl ?_
        show Ev X 208 30 [some (vR (some 170)), none, some (vI x2), some (vI x3), some (vI (x4 + (-1)))] [] _ Q
        refine e_nx hcd rfl rfl ?_
        exact H
      · replace H := H.2 hc
        iterate 2 (refine e_nx hcd rfl rfl ?_)
        show Ev X 208 29 [some (vR (some 170)), none, some (vI x2), some (vI x4), some (vI x4)] [] _ Q
        refine e_nx hcd rfl rfl ?_
        show Ev X 208 30 [some (vR (some 170)), none, some (vI x2), some (vI x4), some (vI (x4 + (-1)))] [] _ Q
        refine e_nx hcd rfl rfl ?_
        exact H
/-! X12_cutsOf -/
theorem v_209 {X : PX} {σ : Sg} {Q : Option PV → Sg → Prop} {a1 : Int}  (H : Ev X 209 4 [some (vR (some 170)), some (vI a1), some (vI (-1)), some (vI 0)] [] σ Q) : Cl X 209 [vR (some 170), vI a1] σ Q := by
  have hcd : cds 209 = cd_209 := rfl
  refine c_in (Nat.le_of_ble_eq_true rfl) rfl rfl ?_
  show Ev X 209 0 [some (vR (some 170)), some (vI a1), none, none] [] σ Q
  iterate 2 (refine e_nx hcd rfl rfl ?_)
  show Ev X 209 2 [some (vR (some 170)), some (vI a1), some (vI (-1)), none] [] _ Q
  iterate 2 (refine e_nx hcd rfl rfl ?_)
  show Ev X 209 4 [some (vR (some 170)), some (vI a1), some (vI (-1)), some (vI 0)] [] _ Q
  exact H
set_option maxRecDepth 20000 in
set_option maxHeartbeats 8000000 in
theorem v_209_4 {X : PX} {σ : Sg} {Q : Option PV → Sg → Prop} {x1 : Int} {x2 : Int} {x3 : Int}  (H : InR x3 ∧ InR (iShl 1 (σ.1 170 13)) ∧ (iShl 1 (σ.1 170 13) ≤ x3 → Q (some (vI x2)) σ) ∧ (¬ iShl 1 (σ.1 170 13) ≤ x3 → InR x2 ∧ (x2 = (-1) → CI X 197 [vR (some 170), vI (σ.1 170 16)] (up2 σ.1 170 17 x3, σ.2) (fun r4 τ1 => InR (iAnd (iShr r4 x1) 1) ∧ (iAnd (iShr r4 x1) 1 ≠ 0 → Ev X 209 4 [some (vR (some 170)), some (vI x1), some (vI x2), some (vI (x3 + 1))] [] τ1 Q) ∧ (¬ iAnd (iShr r4 x1) 1 ≠ 0 → Ev X 209 4 [some (vR (some 170)), some (vI x1), some (vI x3), some (vI (x3 + 1))] [] τ1 Q))) ∧ (¬ x2 = (-1) → CI X 195 [vI x3] σ (fun r6 τ2 => CI X 195 [vI x2] τ2 (fun r7 τ3 => InR r6 ∧ InR r7 ∧ (r6 < r7 → CI X 197 [vR (some 170), vI (τ3.1 170 16)] (up2 τ3.1 170 17 x3, τ3.2) (fun r10 τ4 => InR (iAnd (iShr r10 x1) 1) ∧ (iAnd (iShr r10 x1) 1 ≠ 0 → Ev X 209 4 [some (vR (some 170)), some (vI x1), some (vI x2), some (vI (x3 + 1))] [] τ4 Q) ∧ (¬ iAnd (iShr r10 x1) 1 ≠ 0 → Ev X 209 4 [some (vR (some 170)), some (vI x1), some (vI x3), some (vI (x3 + 1))] [] τ4 Q))) ∧ (¬ r6 < r7 → Ev X 209 4 [some (vR (some 170)), some (vI x1), some (vI x2), some (vI (x3 + 1))] [] τ3 Q)))))) : Ev X 209 4 [some (vR (some 170)), some (vI x1), some (vI x2), some (vI x3)] [] σ Q := by
  have hcd : cds 209 = cd_209 := rfl
  iterate 3 (refine e_nx hcd rfl rfl ?_)
  refine r_getI hcd rfl rfl rfl ?_
  refine e_nx hcd rfl rfl ?_
  obtain ⟨h1, H⟩ := H
  obtain ⟨h2, H⟩ := H
  refine r_icmp hcd rfl h1 h2 (fun hc => ?_) (fun hc => ?_)
  · replace H := H.1 hc
    refine e_nx hcd rfl rfl ?_
    exact r_iret hcd rfl rfl rfl H
  · replace H := H.2 hc
    iterate 2 (refine e_nx hcd rfl rfl ?_)
    obtain ⟨h3, H⟩ := H
    refine r_icmp hcd rfl h3 (by omega) (fun hc => ?_) (fun hc => ?_)
    · replace H := H.1 hc
      iterate 2 (refine e_nx hcd rfl rfl ?_)
      refine r_putI hcd rfl rfl rfl rfl ?_
      iterate 2 (refine e_nx hcd rfl rfl ?_)
      refine r_getI hcd rfl rfl rfl ?_
      show Ev X 209 25 _ [vI (σ.1 170 16), vR (some 170)] _ Q
      refine r_cv hcd rfl (by omega) rfl rfl rfl (Nat.le_of_ble_eq_true rfl) ?_
      refine Cl.mono H (fun v τ1 hq => ?_)
      obtain ⟨r4, rfl, H⟩ := hq
      show Ev X 209 26 _ [vI r4] τ1 Q
      iterate 4 (refine e_nx hcd rfl rfl ?_)
      obtain ⟨h5, H⟩ := H
      refine r_if hcd rfl h5 (fun hc => ?_) (fun hc => ?_)
      · replace H := H.1 hc
        refine e_nx hcd rfl rfl ?_
        show Ev X 209 34 [some (vR (some 170)), some (vI x1), some (vI x2), some (vI (x3 + 1))] [] _ Q
        refine e_nx hcd rfl rfl ?_
        exact H
      · replace H := H.2 hc
        iterate 2 (refine e_nx hcd rfl rfl ?_)
        show Ev X 209 33 [some (vR (some 170)), some (vI x1), some (vI x3), some (vI x3)] [] _ Q
        refine e_nx hcd rfl rfl ?_
        show Ev X 209 34 [some (vR (some 170)), some (vI x1), some (vI x3), some (vI (x3 + 1))] [] _ Q
        refine e_nx hcd rfl rfl ?_
        exact H
    · replace H := H.2 hc
      refine e_nx hcd rfl rfl ?_
      refine r_cs hcd rfl (by omega) (Nat.le_of_ble_eq_true rfl) rfl rfl (Nat.le_of_ble_eq_true rfl) ?_
      refine Cl.mono H (fun v τ2 hq => ?_)
      obtain ⟨r6, rfl, H⟩ := hq
      show Ev X 209 15 _ [vI r6] τ2 Q
      refine e_nx hcd rfl rfl ?_
      refine r_cs hcd rfl (by omega) (Nat.le_of_ble_eq_true rfl) rfl rfl (Nat.le_of_ble_eq_true rfl) ?_
      refine Cl.mono H (fun v τ3 hq => ?_)
      obtain ⟨r7, rfl, H⟩ := hq
      show Ev X 209 17 _ [vI r7, vI r6] τ3 Q
      obtain ⟨h8, H⟩ := H
      obtain ⟨h9, H⟩ := H
      refine r_icmp hcd rfl h8 h9 (fun hc => ?_) (fun hc => ?_)
      · replace H := H.1 hc
        iterate 2 (refine e_nx hcd rfl rfl ?_)
        refine r_putI hcd rfl rfl rfl rfl ?_
        iterate 2 (refine e_nx hcd rfl rfl ?_)
        refine r_getI hcd rfl rfl rfl ?_
        show Ev X 209 25 _ [vI (τ3.1 170 16), vR (some 170)] _ Q
        refine r_cv hcd rfl (by omega) rfl rfl rfl (Nat.le_of_ble_eq_true rfl) ?_
        refine Cl.mono H (fun v τ4 hq => ?_)
        obtain ⟨r10, rfl, H⟩ := hq
        show Ev X 209 26 _ [vI r10] τ4 Q
        iterate 4 (refine e_nx hcd rfl rfl ?_)
        obtain ⟨h11, H⟩ := H
        refine r_if hcd rfl h11 (fun hc => ?_) (fun hc => ?_)
        · replace H := H.1 hc
          refine e_nx hcd rfl rfl ?_
          show Ev X 209 34 [some (vR (some 170)), some (vI x1), some (vI x2), some (vI (x3 + 1))] [] _ Q
          refine e_nx hcd rfl rfl ?_
          exact H
        · replace H := H.2 hc
          iterate 2 (refine e_nx hcd rfl rfl ?_)
          show Ev X 209 33 [some (vR (some 170)), some (vI x1), some (vI x3), some (vI x3)] [] _ Q
          refine e_nx hcd rfl rfl ?_
          show Ev X 209 34 [some (vR (some 170)), some (vI x1), some (vI x3), some (vI (x3 + 1))] [] _ Q
          refine e_nx hcd rfl rfl ?_
          exact H
      · replace H := H.2 hc
        iterate 2 (refine e_nx hcd rfl rfl ?_)
        show Ev X 209 34 [some (vR (some 170)), some (vI x1), some (vI x2), some (vI (x3 + 1))] [] _ Q
        refine e_nx hcd rfl rfl ?_
        exact H
/-! X12_cuts -/
set_option maxRecDepth 20000 in
set_option maxHeartbeats 8000000 in
theorem v_210 {X : PX} {σ : Sg} {Q : Option PV → Sg → Prop} {a1 : Int} {a2 : Int} {a3 : Int}  (H : CI X 189 [vR (some 170), vI a1] σ (fun r1 τ1 => InR r1 ∧ (r1 = 0 → Q (some (vI (-1))) τ1) ∧ (¬ r1 = 0 → CI X 190 [vR (some 170), vI a2] τ1 (fun r3 τ2 => InR r3 ∧ (r3 = 0 → Q (some (vI (-1))) τ2) ∧ (¬ r3 = 0 → CI X 198 [vR (some 170), vI a2] τ2 (fun r5 τ3 => InR r5 ∧ (r5 = 0 → Q (some (vI (-1))) τ3) ∧ (¬ r5 = 0 → InR (iAnd (iShr (τ3.1 170 16) a2) 1) ∧ (iAnd (iShr (τ3.1 170 16) a2) 1 ≠ 1 → CI X 209 [vR (some 170), vI a2] τ3 (fun r8 τ4 => InR a3 ∧ (a3 = 0 → CI X 195 [vI r8] τ4 (fun r10 τ5 => Q (some (vI r10)) τ5)) ∧ (¬ a3 = 0 → Q (some (vI r8)) τ4))) ∧ (¬ iAnd (iShr (τ3.1 170 16) a2) 1 ≠ 1 → Q (some (vI (-1))) τ3)))))))) : Cl X 210 [vR (some 170), vI a1, vI a2, vI a3] σ Q := by
  have hcd : cds 210 = cd_210 := rfl
  refine c_in (Nat.le_of_ble_eq_true rfl) rfl rfl ?_
  show Ev X 210 0 [some (vR (some 170)), some (vI a1), some (vI a2), some (vI a3), none] [] σ Q
  iterate 2 (refine e_nx hcd rfl rfl ?_)
  refine r_cv hcd rfl (by omega) rfl rfl rfl (Nat.le_of_ble_eq_true rfl) ?_
  refine Cl.mono H (fun v τ1 hq => ?_)
  obtain ⟨r1, rfl, H⟩ := hq
  show Ev X 210 3 _ [vI r1] τ1 Q
  obtain ⟨h2, H⟩ := H
  refine r_if hcd rfl h2 (fun hc => ?_) (fun hc => ?_)
  · replace H := H.1 hc
    refine e_nx hcd rfl rfl ?_
    exact r_iret hcd rfl rfl rfl H
  · replace H := H.2 hc
    iterate 2 (refine e_nx hcd rfl rfl ?_)
    refine r_cv hcd rfl (by omega) rfl rfl rfl (Nat.le_of_ble_eq_true rfl) ?_
    refine Cl.mono H (fun v τ2 hq => ?_)
    obtain ⟨r3, rfl, H⟩ := hq
    show Ev X 210 7 _ [vI r3] τ2 Q
    obtain ⟨h4, H⟩ := H
    refine r_if hcd rfl h4 (fun hc => ?_) (fun hc => ?_)
    · replace H := H.1 hc
      refine e_nx hcd rfl rfl ?_
      exact r_iret hcd rfl rfl rfl H
    · replace H := H.2 hc
      iterate 2 (refine e_nx hcd rfl rfl ?_)
      refine r_cv hcd rfl (by omega) rfl rfl rfl (Nat.le_of_ble_eq_true rfl) ?_
      refine Cl.mono H (fun v τ3 hq => ?_)
      obtain ⟨r5, rfl, H⟩ := hq
      show Ev X 210 11 _ [vI r5] τ3 Q
      obtain ⟨h6, H⟩ := H
      refine r_if hcd rfl h6 (fun hc => ?_) (fun hc => ?_)
      · replace H := H.1 hc
        refine e_nx hcd rfl rfl ?_
        exact r_iret hcd rfl rfl rfl H
      · replace H := H.2 hc
        refine e_nx hcd rfl rfl ?_
        refine r_getI hcd rfl rfl rfl ?_
        iterate 5 (refine e_nx hcd rfl rfl ?_)
        obtain ⟨h7, H⟩ := H
        refine r_icmp hcd rfl h7 (by omega) (fun hc => ?_) (fun hc => ?_)
        · replace H := H.1 hc
          iterate 2 (refine e_nx hcd rfl rfl ?_)
          refine r_cv hcd rfl (by omega) rfl rfl rfl (Nat.le_of_ble_eq_true rfl) ?_
          refine Cl.mono H (fun v τ4 hq => ?_)
          obtain ⟨r8, rfl, H⟩ := hq
          show Ev X 210 25 _ [vI r8] τ4 Q
          refine e_nx hcd rfl rfl ?_
          show Ev X 210 26 [some (vR (some 170)), some (vI a1), some (vI a2), some (vI a3), some (vI r8)] [] _ Q
          refine e_nx hcd rfl rfl ?_
          obtain ⟨h9, H⟩ := H
          refine r_if hcd rfl h9 (fun hc => ?_) (fun hc => ?_)
          · replace H := H.1 hc
            refine e_nx hcd rfl rfl ?_
            refine r_cs hcd rfl (by omega) (Nat.le_of_ble_eq_true rfl) rfl rfl (Nat.le_of_ble_eq_true rfl) ?_
            refine Cl.mono H (fun v τ5 hq => ?_)
            obtain ⟨r10, rfl, H⟩ := hq
            show Ev X 210 32 _ [vI r10] τ5 Q
            exact r_iret hcd rfl rfl rfl H
          · replace H := H.2 hc
            iterate 2 (refine e_nx hcd rfl rfl ?_)
            exact r_iret hcd rfl rfl rfl H
        · replace H := H.2 hc
          refine e_nx hcd rfl rfl ?_
          exact r_iret hcd rfl rfl rfl H
/-! X12_ruin -/
theorem v_211 {X : PX} {σ : Sg} {Q : Option PV → Sg → Prop} {a1 : Int} {a2 : Int}  (H : CI X 189 [vR (some 170), vI a1] σ (fun r1 τ1 => InR r1 ∧ (r1 ≠ 0 → Ev X 211 6 [some (vR (some 170)), none, some (vI a2)] [] τ1 Q) ∧ (¬ r1 ≠ 0 → Q (some (vI (-1))) τ1))) : Cl X 211 [vR (some 170), vI a1, vI a2] σ Q := by
  have hcd : cds 211 = cd_211 := rfl
  refine c_in (Nat.le_of_ble_eq_true rfl) rfl rfl ?_
  show Ev X 211 0 [some (vR (some 170)), some (vI a1), some (vI a2)] [] σ Q
  iterate 2 (refine e_nx hcd rfl rfl ?_)
  refine r_cv hcd rfl (by omega) rfl rfl rfl (Nat.le_of_ble_eq_true rfl) ?_
  refine Cl.mono H (fun v τ1 hq => ?_)
  obtain ⟨r1, rfl, H⟩ := hq
  show Ev X 211 3 _ [vI r1] τ1 Q
  obtain ⟨h2, H⟩ := H
  refine r_if hcd rfl h2 (fun hc => ?_) (fun hc => ?_)
  · replace H := H.1 hc
    refine e_fg [1] ?_
    exact H
  · replace H := H.2 hc
    refine e_nx hcd rfl rfl ?_
    exact r_iret hcd rfl rfl rfl H
theorem v_211_6 {X : PX} {σ : Sg} {Q : Option PV → Sg → Prop} {x2 : Int}  (H : InR (σ.1 170 19) ∧ (50 ≤ σ.1 170 19 → Q (some (vI (-1))) σ) ∧ (¬ 50 ≤ σ.1 170 19 → CV X 202 [vR (some 170)] σ (fun τ1 => InR (τ1.1 170 24) ∧ (τ1.1 170 24 = (-1) → Ev X 211 6 [some (vR (some 170)), none, some (vI x2)] [] τ1 Q) ∧ (¬ τ1.1 170 24 = (-1) → InR x2 ∧ (x2 = 0 → Q (some (vI (τ1.1 170 19))) τ1) ∧ (¬ x2 = 0 → Q (some (vI (τ1.1 170 24))) τ1))))) : Ev X 211 6 [some (vR (some 170)), none, some (vI x2)] [] σ Q := by
  have hcd : cds 211 = cd_211 := rfl
  refine e_nx hcd rfl rfl ?_
  refine r_getI hcd rfl rfl rfl ?_
  refine e_nx hcd rfl rfl ?_
  obtain ⟨h1, H⟩ := H
  refine r_icmp hcd rfl h1 (by omega) (fun hc => ?_) (fun hc => ?_)
  · replace H := H.1 hc
    refine e_nx hcd rfl rfl ?_
    exact r_iret hcd rfl rfl rfl H
  · replace H := H.2 hc
    refine e_nx hcd rfl rfl ?_
    refine r_cv hcd rfl (by omega) rfl rfl rfl (Nat.le_of_ble_eq_true rfl) ?_
    refine Cl.mono H (fun v τ1 hq => ?_)
    obtain ⟨rfl, H⟩ := hq
    show Ev X 211 12 _ [] τ1 Q
    refine e_nx hcd rfl rfl ?_
    refine r_getI hcd rfl rfl rfl ?_
    refine e_nx hcd rfl rfl ?_
    obtain ⟨h2, H⟩ := H
    refine r_icmp hcd rfl h2 (by omega) (fun hc => ?_) (fun hc => ?_)
    · replace H := H.1 hc
      exact H
    · replace H := H.2 hc
      refine e_nx hcd rfl rfl ?_
      obtain ⟨h3, H⟩ := H
      refine r_if hcd rfl h3 (fun hc => ?_) (fun hc => ?_)
      · replace H := H.1 hc
        refine e_nx hcd rfl rfl ?_
        refine r_getI hcd rfl rfl rfl ?_
        exact r_iret hcd rfl rfl rfl H
      · replace H := H.2 hc
        refine e_nx hcd rfl rfl ?_
        refine r_getI hcd rfl rfl rfl ?_
        refine e_nx hcd rfl rfl ?_
        exact r_iret hcd rfl rfl rfl H
/-! X12_bid -/
theorem v_212 {X : PX} {σ : Sg} {Q : Option PV → Sg → Prop} {a1 : Int} {a2 : Int}  (H : CI X 189 [vR (some 170), vI a1] σ (fun r1 τ1 => InR r1 ∧ (r1 = 0 → Q (some (vI (-1))) τ1) ∧ (¬ r1 = 0 → CI X 161 [vI a2, vI 0, vI 50] τ1 (fun r3 τ2 => InR r3 ∧ (r3 ≠ 0 → Ev X 212 11 [some (vR (some 170)), none, some (vI a2)] [] τ2 Q) ∧ (¬ r3 ≠ 0 → Q (some (vI (-1))) τ2))))) : Cl X 212 [vR (some 170), vI a1, vI a2] σ Q := by
  have hcd : cds 212 = cd_212 := rfl
  refine c_in (Nat.le_of_ble_eq_true rfl) rfl rfl ?_
  show Ev X 212 0 [some (vR (some 170)), some (vI a1), some (vI a2)] [] σ Q
  iterate 2 (refine e_nx hcd rfl rfl ?_)
  refine r_cv hcd rfl (by omega) rfl rfl rfl (Nat.le_of_ble_eq_true rfl) ?_
  refine Cl.mono H (fun v τ1 hq => ?_)
  obtain ⟨r1, rfl, H⟩ := hq
  show Ev X 212 3 _ [vI r1] τ1 Q
  obtain ⟨h2, H⟩ := H
  refine r_if hcd rfl h2 (fun hc => ?_) (fun hc => ?_)
  · replace H := H.1 hc
    refine e_nx hcd rfl rfl ?_
    exact r_iret hcd rfl rfl rfl H
  · replace H := H.2 hc
    iterate 3 (refine e_nx hcd rfl rfl ?_)
    refine r_cs hcd rfl (by omega) (Nat.le_of_ble_eq_true rfl) rfl rfl (Nat.le_of_ble_eq_true rfl) ?_
    refine Cl.mono H (fun v τ2 hq => ?_)
    obtain ⟨r3, rfl, H⟩ := hq
    show Ev X 212 8 _ [vI r3] τ2 Q
    obtain ⟨h4, H⟩ := H
    refine r_if hcd rfl h4 (fun hc => ?_) (fun hc => ?_)
    · replace H := H.1 hc
      refine e_fg [1] ?_
      exact H
    · replace H := H.2 hc
      refine e_nx hcd rfl rfl ?_
      exact r_iret hcd rfl rfl rfl H
theorem v_212_11 {X : PX} {σ : Sg} {Q : Option PV → Sg → Prop} {x2 : Int}  (H : InR (σ.1 170 19) ∧ InR x2 ∧ (x2 ≤ σ.1 170 19 → Q (some (vI (σ.1 170 20))) σ) ∧ (¬ x2 ≤ σ.1 170 19 → CV X 202 [vR (some 170)] σ (fun τ1 => Ev X 212 11 [some (vR (some 170)), none, some (vI x2)] [] τ1 Q))) : Ev X 212 11 [some (vR (some 170)), none, some (vI x2)] [] σ Q := by
  have hcd : cds 212 = cd_212 := rfl
  refine e_nx hcd rfl rfl ?_
  refine r_getI hcd rfl rfl rfl ?_
  refine e_nx hcd rfl rfl ?_
  obtain ⟨h1, H⟩ := H
  obtain ⟨h2, H⟩ := H
  refine r_icmp hcd rfl h1 h2 (fun hc => ?_) (fun hc => ?_)
  · replace H := H.1 hc
    refine e_nx hcd rfl rfl ?_
    refine r_getI hcd rfl rfl rfl ?_
    exact r_iret hcd rfl rfl rfl H
  · replace H := H.2 hc
    refine e_nx hcd rfl rfl ?_
    refine r_cv hcd rfl (by omega) rfl rfl rfl (Nat.le_of_ble_eq_true rfl) ?_
    refine Cl.mono H (fun v τ1 hq => ?_)
    obtain ⟨rfl, H⟩ := hq
    show Ev X 212 17 _ [] τ1 Q
    refine e_nx hcd rfl rfl ?_
    exact H
/-! X12_common -/
theorem v_213 {X : PX} {σ : Sg} {Q : Option PV → Sg → Prop} {a1 : Int} {a2 : Int}  (H : Ev X 213 4 [none, none, some (vI a1), some (vI a2), none] [] σ Q) : Cl X 213 [vI a1, vI a2] σ Q := by
  have hcd : cds 213 = cd_213 := rfl
  refine c_in (Nat.le_of_ble_eq_true rfl) rfl rfl ?_
  show Ev X 213 0 [some (vI a1), some (vI a2), none, none, none] [] σ Q
  iterate 2 (refine e_nx hcd rfl rfl ?_)
  show Ev X 213 2 [some (vI a1), some (vI a2), some (vI a1), none, none] [] _ Q
  iterate 2 (refine e_nx hcd rfl rfl ?_)
  show Ev X 213 4 [some (vI a1), some (vI a2), some (vI a1), some (vI a2), none] [] _ Q
  refine e_fg [0, 1] ?_
  exact H
theorem v_213_4 {X : PX} {σ : Sg} {Q : Option PV → Sg → Prop} {x2 : Int} {x3 : Int}  (H : InR x3 ∧ (x3 = 0 → Q (some (vI x2)) σ) ∧ (¬ x3 = 0 → (x3 ≠ 0) ∧ Ev X 213 4 [none, none, some (vI x3), some (vI (iRem x2 x3)), none] [] σ Q)) : Ev X 213 4 [none, none, some (vI x2), some (vI x3), none] [] σ Q := by
  have hcd : cds 213 = cd_213 := rfl
  refine e_nx hcd rfl rfl ?_
  obtain ⟨h1, H⟩ := H
  refine r_if hcd rfl h1 (fun hc => ?_) (fun hc => ?_)
  · replace H := H.1 hc
    refine e_nx hcd rfl rfl ?_
    exact r_iret hcd rfl rfl rfl H
  · replace H := H.2 hc
    iterate 2 (refine e_nx hcd rfl rfl ?_)
    obtain ⟨h2, H⟩ := H
    refine r_rem hcd rfl h1 h2 ?_
    refine e_nx hcd rfl rfl ?_
    show Ev X 213 10 [none, none, some (vI x2), some (vI x3), some (vI (iRem x2 x3))] [] _ Q
    iterate 2 (refine e_nx hcd rfl rfl ?_)
    show Ev X 213 12 [none, none, some (vI x3), some (vI x3), some (vI (iRem x2 x3))] [] _ Q
    iterate 2 (refine e_nx hcd rfl rfl ?_)
    show Ev X 213 14 [none, none, some (vI x3), some (vI (iRem x2 x3)), some (vI (iRem x2 x3))] [] _ Q
    refine e_nx hcd rfl rfl ?_
    refine e_fg [4] ?_
    exact H
/-! X12_parted -/
theorem v_214 {X : PX} {σ : Sg} {Q : Option PV → Sg → Prop} {a1 : Int} {a2 : Int} {a3 : Int}  (H : InR a3 ∧ (a3 = 0 → CI X 213 [vI a1, vI a2] σ (fun r2 τ1 => InR r2 ∧ (r2 ≠ 0) ∧ Q (some (vI (iDiv a1 r2))) τ1)) ∧ (¬ a3 = 0 → CI X 213 [vI a1, vI a2] σ (fun r5 τ2 => InR r5 ∧ (r5 ≠ 0) ∧ Q (some (vI (iDiv a2 r5))) τ2))) : Cl X 214 [vI a1, vI a2, vI a3] σ Q := by
  have hcd : cds 214 = cd_214 := rfl
  refine c_in (Nat.le_of_ble_eq_true rfl) rfl rfl ?_
  show Ev X 214 0 [some (vI a1), some (vI a2), some (vI a3)] [] σ Q
  refine e_nx hcd rfl rfl ?_
  obtain ⟨h1, H⟩ := H
  refine r_if hcd rfl h1 (fun hc => ?_) (fun hc => ?_)
  · replace H := H.1 hc
    iterate 3 (refine e_nx hcd rfl rfl ?_)
    refine r_cs hcd rfl (by omega) (Nat.le_of_ble_eq_true rfl) rfl rfl (Nat.le_of_ble_eq_true rfl) ?_
    refine Cl.mono H (fun v τ1 hq => ?_)
    obtain ⟨r2, rfl, H⟩ := hq
    show Ev X 214 8 _ [vI r2, vI a1] τ1 Q
    obtain ⟨h3, H⟩ := H
    obtain ⟨h4, H⟩ := H
    refine r_div hcd rfl h3 h4 ?_
    exact r_iret hcd rfl rfl rfl H
  · replace H := H.2 hc
    iterate 4 (refine e_nx hcd rfl rfl ?_)
    refine r_cs hcd rfl (by omega) (Nat.le_of_ble_eq_true rfl) rfl rfl (Nat.le_of_ble_eq_true rfl) ?_
    refine Cl.mono H (fun v τ2 hq => ?_)
    obtain ⟨r5, rfl, H⟩ := hq
    show Ev X 214 8 _ [vI r5, vI a2] τ2 Q
    obtain ⟨h6, H⟩ := H
    obtain ⟨h7, H⟩ := H
    refine r_div hcd rfl h6 h7 ?_
    exact r_iret hcd rfl rfl rfl H
/-! X12_burden -/
theorem v_215 {X : PX} {σ : Sg} {Q : Option PV → Sg → Prop} {a1 : Int} {a2 : Int}  (H : CI X 189 [vR (some 170), vI a1] σ (fun r1 τ1 => InR r1 ∧ (r1 = 0 → Q (some (vI (-1))) τ1) ∧ (¬ r1 = 0 → CI X 161 [vI a2, vI 0, vI 2] τ1 (fun r3 τ2 => InR r3 ∧ (r3 ≠ 0 → Ev X 215 15 [some (vR (some 170)), none, some (vI a2), some (vI (-1)), some (vI 0)] [] τ2 Q) ∧ (¬ r3 ≠ 0 → Q (some (vI (-1))) τ2))))) : Cl X 215 [vR (some 170), vI a1, vI a2] σ Q := by
  have hcd : cds 215 = cd_215 := rfl
  refine c_in (Nat.le_of_ble_eq_true rfl) rfl rfl ?_
  show Ev X 215 0 [some (vR (some 170)), some (vI a1), some (vI a2), none, none] [] σ Q
  iterate 2 (refine e_nx hcd rfl rfl ?_)
  refine r_cv hcd rfl (by omega) rfl rfl rfl (Nat.le_of_ble_eq_true rfl) ?_
  refine Cl.mono H (fun v τ1 hq => ?_)
  obtain ⟨r1, rfl, H⟩ := hq
  show Ev X 215 3 _ [vI r1] τ1 Q
  obtain ⟨h2, H⟩ := H
  refine r_if hcd rfl h2 (fun hc => ?_) (fun hc => ?_)
  · replace H := H.1 hc
    refine e_nx hcd rfl rfl ?_
    exact r_iret hcd rfl rfl rfl H
  · replace H := H.2 hc
    iterate 3 (refine e_nx hcd rfl rfl ?_)
    refine r_cs hcd rfl (by omega) (Nat.le_of_ble_eq_true rfl) rfl rfl (Nat.le_of_ble_eq_true rfl) ?_
    refine Cl.mono H (fun v τ2 hq => ?_)
    obtain ⟨r3, rfl, H⟩ := hq
    show Ev X 215 8 _ [vI r3] τ2 Q
    obtain ⟨h4, H⟩ := H
    refine r_if hcd rfl h4 (fun hc => ?_) (fun hc => ?_)
    · replace H := H.1 hc
      iterate 2 (refine e_nx hcd rfl rfl ?_)
      show Ev X 215 13 [some (vR (some 170)), some (vI a1), some (vI a2), some (vI (-1)), none] [] _ Q
      iterate 2 (refine e_nx hcd rfl rfl ?_)
      show Ev X 215 15 [some (vR (some 170)), some (vI a1), some (vI a2), some (vI (-1)), some (vI 0)] [] _ Q
      refine e_fg [1] ?_
      exact H
    · replace H := H.2 hc
      refine e_nx hcd rfl rfl ?_
      exact r_iret hcd rfl rfl rfl H
set_option maxRecDepth 20000 in
set_option maxHeartbeats 8000000 in
theorem v_215_15 {X : PX} {σ : Sg} {Q : Option PV → Sg → Prop} {x2 : Int} {x3 : Int} {x4 : Int}  (H : InR x4 ∧ InR (σ.1 170 12) ∧ (σ.1 170 12 ≤ x4 → InR x3 ∧ (x3 = (-1) → Q (some (vI x3)) σ) ∧ (¬ x3 = (-1) → InR x2 ∧ (x2 ≠ 0 → (0 ≤ x3 ∧ x3 < 7) ∧ (x2 ≠ 2 → CI X 214 [vI (σ.2 175 x3.toNat), vI (σ.2 174 x3.toNat), vI 0] σ (fun r6 τ1 => Q (some (vI r6)) τ1)) ∧ (¬ x2 ≠ 2 → CI X 214 [vI (σ.2 175 x3.toNat), vI (σ.2 174 x3.toNat), vI 1] σ (fun r7 τ2 => Q (some (vI r7)) τ2))) ∧ (¬ x2 ≠ 0 → Q (some (vI x3)) σ))) ∧ (¬ σ.1 170 12 ≤ x4 → (0 ≤ x4 ∧ x4 < 7) ∧ InR (σ.2 175 x4.toNat) ∧ (σ.2 175 x4.toNat ≤ 0 → Ev X 215 15 [some (vR (some 170)), none, some (vI x2), some (vI x3), some (vI (x4 + 1))] [] σ Q) ∧ (¬ σ.2 175 x4.toNat ≤ 0 → InR x3 ∧ (x3 = (-1) → Ev X 215 15 [some (vR (some 170)), none, some (vI x2), some (vI x4), some (vI (x4 + 1))] [] σ Q) ∧ (¬ x3 = (-1) → (0 ≤ x3 ∧ x3 < 7) ∧ InR ((σ.2 175 x4.toNat) * (σ.2 174 x3.toNat)) ∧ InR ((σ.2 175 x3.toNat) * (σ.2 174 x4.toNat)) ∧ ((σ.2 175 x4.toNat) * (σ.2 174 x3.toNat) ≤ (σ.2 175 x3.toNat) * (σ.2 174 x4.toNat) → Ev X 215 15 [some (vR (some 170)), none, some (vI x2), some (vI x3), some (vI (x4 + 1))] [] σ Q) ∧ (¬ (σ.2 175 x4.toNat) * (σ.2 174 x3.toNat) ≤ (σ.2 175 x3.toNat) * (σ.2 174 x4.toNat) → Ev X 215 15 [some (vR (some 170)), none, some (vI x2), some (vI x4), some (vI (x4 + 1))] [] σ Q))))) : Ev X 215 15 [some (vR (some 170)), none, some (vI x2), some (vI x3), some (vI x4)] [] σ Q := by
  have hcd : cds 215 = cd_215 := rfl
  iterate 2 (refine e_nx hcd rfl rfl ?_)
  refine r_getI hcd rfl rfl rfl ?_
  obtain ⟨h1, H⟩ := H
  obtain ⟨h2, H⟩ := H
  refine r_icmp hcd rfl h1 h2 (fun hc => ?_) (fun hc => ?_)
  · replace H := H.1 hc
    iterate 2 (refine e_nx hcd rfl rfl ?_)
    obtain ⟨h3, H⟩ := H
    refine r_icmp hcd rfl h3 (by omega) (fun hc => ?_) (fun hc => ?_)
    · replace H := H.1 hc
      iterate 2 (refine e_nx hcd rfl rfl ?_)
      exact r_iret hcd rfl rfl rfl H
    · replace H := H.2 hc
      refine e_nx hcd rfl rfl ?_
      obtain ⟨h4, H⟩ := H
      refine r_if hcd rfl h4 (fun hc => ?_) (fun hc => ?_)
      · replace H := H.1 hc
        refine e_nx hcd rfl rfl ?_
        refine r_getR hcd rfl rfl rfl ?_
        refine e_nx hcd rfl rfl ?_
        obtain ⟨h5, H⟩ := H
        refine r_ild hcd rfl rfl (by omega) h5 ?_
        refine e_nx hcd rfl rfl ?_
        refine r_getR hcd rfl rfl rfl ?_
        refine e_nx hcd rfl rfl ?_
        refine r_ild hcd rfl rfl (by omega) h5 ?_
        iterate 2 (refine e_nx hcd rfl rfl ?_)
        refine r_icmp hcd rfl h4 (by omega) (fun hc => ?_) (fun hc => ?_)
        · replace H := H.1 hc
          refine e_nx hcd rfl rfl ?_
          refine r_cs hcd rfl (by omega) (Nat.le_of_ble_eq_true rfl) rfl rfl (Nat.le_of_ble_eq_true rfl) ?_
          refine Cl.mono H (fun v τ1 hq => ?_)
          obtain ⟨r6, rfl, H⟩ := hq
          show Ev X 215 72 _ [vI r6] τ1 Q
          exact r_iret hcd rfl rfl rfl H
        · replace H := H.2 hc
          iterate 2 (refine e_nx hcd rfl rfl ?_)
          refine r_cs hcd rfl (by omega) (Nat.le_of_ble_eq_true rfl) rfl rfl (Nat.le_of_ble_eq_true rfl) ?_
          refine Cl.mono H (fun v τ2 hq => ?_)
          obtain ⟨r7, rfl, H⟩ := hq
          show Ev X 215 72 _ [vI r7] τ2 Q
          exact r_iret hcd rfl rfl rfl H
      · replace H := H.2 hc
        iterate 2 (refine e_nx hcd rfl rfl ?_)
        exact r_iret hcd rfl rfl rfl H
  · replace H := H.2 hc
    refine e_nx hcd rfl rfl ?_
    refine r_getR hcd rfl rfl rfl ?_
    refine e_nx hcd rfl rfl ?_
    obtain ⟨h8, H⟩ := H
    refine r_ild hcd rfl rfl (by omega) h8 ?_
    obtain ⟨h9, H⟩ := H
    refine r_if hcd rfl h9 (fun hc => ?_) (fun hc => ?_)
    · replace H := H.1 hc
      refine e_nx hcd rfl rfl ?_
      show Ev X 215 49 [some (vR (some 170)), none, some (vI x2), some (vI x3), some (vI (x4 + 1))] [] _ Q
      refine e_nx hcd rfl rfl ?_
      exact H
    · replace H := H.2 hc
      iterate 2 (refine e_nx hcd rfl rfl ?_)
      obtain ⟨h10, H⟩ := H
      refine r_icmp hcd rfl h10 (by omega) (fun hc => ?_) (fun hc => ?_)
      · replace H := H.1 hc
        iterate 2 (refine e_nx hcd rfl rfl ?_)
        show Ev X 215 48 [some (vR (some 170)), none, some (vI x2), some (vI x4), some (vI x4)] [] _ Q
        refine e_nx hcd rfl rfl ?_
        show Ev X 215 49 [some (vR (some 170)), none, some (vI x2), some (vI x4), some (vI (x4 + 1))] [] _ Q
        refine e_nx hcd rfl rfl ?_
        exact H
      · replace H := H.2 hc
        refine e_nx hcd rfl rfl ?_
        refine r_getR hcd rfl rfl rfl ?_
        refine e_nx hcd rfl rfl ?_
        refine r_ild hcd rfl rfl (by omega) h8 ?_
        refine e_nx hcd rfl rfl ?_
        refine r_getR hcd rfl rfl rfl ?_
        refine e_nx hcd rfl rfl ?_
        obtain ⟨h11, H⟩ := H
        refine r_ild hcd rfl rfl (by omega) h11 ?_
        iterate 2 (refine e_nx hcd rfl rfl ?_)
        refine r_getR hcd rfl rfl rfl ?_
        refine e_nx hcd rfl rfl ?_
        refine r_ild hcd rfl rfl (by omega) h11 ?_
        refine e_nx hcd rfl rfl ?_
        refine r_getR hcd rfl rfl rfl ?_
        refine e_nx hcd rfl rfl ?_
        refine r_ild hcd rfl rfl (by omega) h8 ?_
        refine e_nx hcd rfl rfl ?_
        obtain ⟨h12, H⟩ := H
        obtain ⟨h13, H⟩ := H
        refine r_icmp hcd rfl h12 h13 (fun hc => ?_) (fun hc => ?_)
        · replace H := H.1 hc
          refine e_nx hcd rfl rfl ?_
          show Ev X 215 49 [some (vR (some 170)), none, some (vI x2), some (vI x3), some (vI (x4 + 1))] [] _ Q
          refine e_nx hcd rfl rfl ?_
          exact H
        · replace H := H.2 hc
          iterate 2 (refine e_nx hcd rfl rfl ?_)
          show Ev X 215 48 [some (vR (some 170)), none, some (vI x2), some (vI x4), some (vI x4)] [] _ Q
          refine e_nx hcd rfl rfl ?_
          show Ev X 215 49 [some (vR (some 170)), none, some (vI x2), some (vI x4), some (vI (x4 + 1))] [] _ Q
          refine e_nx hcd rfl rfl ?_
          exact H
/-! X12_taxBy -/
theorem v_216 {X : PX} {σ : Sg} {Q : Option PV → Sg → Prop} {a1 : Int} {a2 : Int}  (H : CV X 199 [vR (some 170)] (up2 σ.1 170 14 a1, σ.2) (fun τ1 => (0 ≤ a2 ∧ a2 < 7) ∧ Q (some (vI (τ1.2 175 a2.toNat))) τ1)) : Cl X 216 [vR (some 170), vI a1, vI a2] σ Q := by
  have hcd : cds 216 = cd_216 := rfl
  refine c_in (Nat.le_of_ble_eq_true rfl) rfl rfl ?_
  show Ev X 216 0 [some (vR (some 170)), some (vI a1), some (vI a2)] [] σ Q
  iterate 2 (refine e_nx hcd rfl rfl ?_)
  refine r_putI hcd rfl rfl rfl rfl ?_
  refine e_nx hcd rfl rfl ?_
  refine r_cv hcd rfl (by omega) rfl rfl rfl (Nat.le_of_ble_eq_true rfl) ?_
  refine Cl.mono H (fun v τ1 hq => ?_)
  obtain ⟨rfl, H⟩ := hq
  show Ev X 216 5 _ [] τ1 Q
  refine e_nx hcd rfl rfl ?_
  refine r_getR hcd rfl rfl rfl ?_
  refine e_nx hcd rfl rfl ?_
  obtain ⟨h1, H⟩ := H
  refine r_ild hcd rfl rfl (by omega) h1 ?_
  exact r_iret hcd rfl rfl rfl H
/-! X12_falls -/
theorem v_217 {X : PX} {σ : Sg} {Q : Option PV → Sg → Prop} {a1 : Int} {a2 : Int} {a3 : Int}  (H : CI X 189 [vR (some 170), vI a1] σ (fun r1 τ1 => InR r1 ∧ (r1 = 0 → Q (some (vI (-1))) τ1) ∧ (¬ r1 = 0 → CI X 190 [vR (some 170), vI a2] τ1 (fun r3 τ2 => InR r3 ∧ (r3 = 0 → Q (some (vI (-1))) τ2) ∧ (¬ r3 = 0 → InR a3 ∧ ((-1) ≤ a3 → Ev X 217 17 [some (vR (some 170)), none, some (vI a2), some (vI a3), some (vI 0), some (vI 1), none] [] τ2 Q) ∧ (¬ (-1) ≤ a3 → Q (some (vI (-1))) τ2)))))) : Cl X 217 [vR (some 170), vI a1, vI a2, vI a3] σ Q := by
  have hcd : cds 217 = cd_217 := rfl
  refine c_in (Nat.le_of_ble_eq_true rfl) rfl rfl ?_
  show Ev X 217 0 [some (vR (some 170)), some (vI a1), some (vI a2), some (vI a3), none, none, none] [] σ Q
  iterate 2 (refine e_nx hcd rfl rfl ?_)
  refine r_cv hcd rfl (by omega) rfl rfl rfl (Nat.le_of_ble_eq_true rfl) ?_
  refine Cl.mono H (fun v τ1 hq => ?_)
  obtain ⟨r1, rfl, H⟩ := hq
  show Ev X 217 3 _ [vI r1] τ1 Q
  obtain ⟨h2, H⟩ := H
  refine r_if hcd rfl h2 (fun hc => ?_) (fun hc => ?_)
  · replace H := H.1 hc
    refine e_nx hcd rfl rfl ?_
    exact r_iret hcd rfl rfl rfl H
  · replace H := H.2 hc
    iterate 2 (refine e_nx hcd rfl rfl ?_)
    refine r_cv hcd rfl (by omega) rfl rfl rfl (Nat.le_of_ble_eq_true rfl) ?_
    refine Cl.mono H (fun v τ2 hq => ?_)
    obtain ⟨r3, rfl, H⟩ := hq
    show Ev X 217 7 _ [vI r3] τ2 Q
    obtain ⟨h4, H⟩ := H
    refine r_if hcd rfl h4 (fun hc => ?_) (fun hc => ?_)
    · replace H := H.1 hc
      refine e_nx hcd rfl rfl ?_
      exact r_iret hcd rfl rfl rfl H
    · replace H := H.2 hc
      iterate 2 (refine e_nx hcd rfl rfl ?_)
      obtain ⟨h5, H⟩ := H
      refine r_icmp hcd rfl h5 (by omega) (fun hc => ?_) (fun hc => ?_)
      · replace H := H.1 hc
        iterate 2 (refine e_nx hcd rfl rfl ?_)
        show Ev X 217 15 [some (vR (some 170)), some (vI a1), some (vI a2), some (vI a3), some (vI 0), none, none] [] _ Q
        iterate 2 (refine e_nx hcd rfl rfl ?_)
        show Ev X 217 17 [some (vR (some 170)), some (vI a1), some (vI a2), some (vI a3), some (vI 0), some (vI 1), none] [] _ Q
        refine e_fg [1] ?_
        exact H
      · replace H := H.2 hc
        refine e_nx hcd rfl rfl ?_
        exact r_iret hcd rfl rfl rfl H
set_option maxRecDepth 20000 in
set_option maxHeartbeats 8000000 in
theorem v_217_17 {X : PX} {σ : Sg} {Q : Option PV → Sg → Prop} {x2 : Int} {x3 : Int} {x4 : Int} {x5 : Int}  (H : InR x5 ∧ (100 ≤ x5 → InR x3 ∧ (x3 ≠ (-1) → Q (some (vI (-1))) σ) ∧ (¬ x3 ≠ (-1) → Q (some (vI x4)) σ)) ∧ (¬ 100 ≤ x5 → CI X 216 [vR (some 170), vI (x5 - 1), vI x2] σ (fun r3 τ1 => CI X 216 [vR (some 170), vI x5, vI x2] τ1 (fun r4 τ2 => InR r4 ∧ InR r3 ∧ (r4 < r3 → InR x4 ∧ InR x3 ∧ (x4 ≠ x3 → Ev X 217 17 [some (vR (some 170)), none, some (vI x2), some (vI x3), some (vI (x4 + 1)), some (vI (x5 + 1)), none] [] τ2 Q) ∧ (¬ x4 ≠ x3 → Q (some (vI x5)) τ2)) ∧ (¬ r4 < r3 → Ev X 217 17 [some (vR (some 170)), none, some (vI x2), some (vI x3), some (vI x4), some (vI (x5 + 1)), none] [] τ2 Q))))) : Ev X 217 17 [some (vR (some 170)), none, some (vI x2), some (vI x3), some (vI x4), some (vI x5), none] [] σ Q := by
  have hcd : cds 217 = cd_217 := rfl
  iterate 2 (refine e_nx hcd rfl rfl ?_)
  obtain ⟨h1, H⟩ := H
  refine r_icmp hcd rfl h1 (by omega) (fun hc => ?_) (fun hc => ?_)
  · replace H := H.1 hc
    iterate 2 (refine e_nx hcd rfl rfl ?_)
    obtain ⟨h2, H⟩ := H
    refine r_icmp hcd rfl h2 (by omega) (fun hc => ?_) (fun hc => ?_)
    · replace H := H.1 hc
      refine e_nx hcd rfl rfl ?_
      exact r_iret hcd rfl rfl rfl H
    · replace H := H.2 hc
      iterate 2 (refine e_nx hcd rfl rfl ?_)
      exact r_iret hcd rfl rfl rfl H
  · replace H := H.2 hc
    iterate 5 (refine e_nx hcd rfl rfl ?_)
    refine r_cv hcd rfl (by omega) rfl rfl rfl (Nat.le_of_ble_eq_true rfl) ?_
    refine Cl.mono H (fun v τ1 hq => ?_)
    obtain ⟨r3, rfl, H⟩ := hq
    show Ev X 217 26 _ [vI r3] τ1 Q
    refine e_nx hcd rfl rfl ?_
    show Ev X 217 27 [some (vR (some 170)), none, some (vI x2), some (vI x3), some (vI x4), some (vI x5), some (vI r3)] [] _ Q
    iterate 3 (refine e_nx hcd rfl rfl ?_)
    refine r_cv hcd rfl (by omega) rfl rfl rfl (Nat.le_of_ble_eq_true rfl) ?_
    refine Cl.mono H (fun v τ2 hq => ?_)
    obtain ⟨r4, rfl, H⟩ := hq
    show Ev X 217 31 _ [vI r4] τ2 Q
    refine e_nx hcd rfl rfl ?_
    obtain ⟨h5, H⟩ := H
    obtain ⟨h6, H⟩ := H
    refine r_icmp hcd rfl h5 h6 (fun hc => ?_) (fun hc => ?_)
    · replace H := H.1 hc
      iterate 2 (refine e_nx hcd rfl rfl ?_)
      obtain ⟨h7, H⟩ := H
      obtain ⟨h8, H⟩ := H
      refine r_icmp hcd rfl h7 h8 (fun hc => ?_) (fun hc => ?_)
      · replace H := H.1 hc
        refine e_nx hcd rfl rfl ?_
        show Ev X 217 40 [some (vR (some 170)), none, some (vI x2), some (vI x3), some (vI (x4 + 1)), some (vI x5), some (vI r3)] [] _ Q
        refine e_nx hcd rfl rfl ?_
        show Ev X 217 41 [some (vR (some 170)), none, some (vI x2), some (vI x3), some (vI (x4 + 1)), some (vI (x5 + 1)), some (vI r3)] [] _ Q
        refine e_nx hcd rfl rfl ?_
        refine e_fg [6] ?_
        exact H
      · replace H := H.2 hc
        refine e_nx hcd rfl rfl ?_
        exact r_iret hcd rfl rfl rfl H
    · replace H := H.2 hc
      iterate 2 (refine e_nx hcd rfl rfl ?_)
      show Ev X 217 41 [some (vR (some 170)), none, some (vI x2), some (vI x3), some (vI x4), some (vI (x5 + 1)), some (vI r3)] [] _ Q
      refine e_nx hcd rfl rfl ?_
      refine e_fg [6] ?_
      exact H
/-! X12_strifeBy -/
theorem v_218 {X : PX} {σ : Sg} {Q : Option PV → Sg → Prop} {a1 : Int} {a2 : Int} {a3 : Int} {a4 : Int}  (H : CV X 201 [vR (some 170)] σ (fun τ1 => Ev X 218 6 [some (vR (some 170)), some (vI a1), some (vI a2), some (vI a3), some (vI a4), some (vI (a4 - 1)), none] [] τ1 Q)) : Cl X 218 [vR (some 170), vI a1, vI a2, vI a3, vI a4] σ Q := by
  have hcd : cds 218 = cd_218 := rfl
  refine c_in (Nat.le_of_ble_eq_true rfl) rfl rfl ?_
  show Ev X 218 0 [some (vR (some 170)), some (vI a1), some (vI a2), some (vI a3), some (vI a4), none, none] [] σ Q
  refine e_nx hcd rfl rfl ?_
  refine r_cv hcd rfl (by omega) rfl rfl rfl (Nat.le_of_ble_eq_true rfl) ?_
  refine Cl.mono H (fun v τ1 hq => ?_)
  obtain ⟨rfl, H⟩ := hq
  show Ev X 218 2 _ [] τ1 Q
  iterate 4 (refine e_nx hcd rfl rfl ?_)
  show Ev X 218 6 [some (vR (some 170)), some (vI a1), some (vI a2), some (vI a3), some (vI a4), some (vI (a4 - 1)), none] [] _ Q
  exact H
set_option maxRecDepth 20000 in
set_option maxHeartbeats 8000000 in
theorem v_218_6 {X : PX} {σ : Sg} {Q : Option PV → Sg → Prop} {x1 : Int} {x2 : Int} {x3 : Int} {x4 : Int} {x5 : Int}  (H : InR x5 ∧ (x5 < 0 → CV X 202 [vR (some 170)] σ (fun τ1 => (0 ≤ x2 ∧ x2 < 7) ∧ (0 ≤ x3 ∧ x3 < 7) ∧ Q (some (vI ((τ1.2 174 x2.toNat) - (τ1.2 174 x3.toNat)))) τ1)) ∧ (¬ x5 < 0 → InR (iAnd (iShr x1 x5) 1) ∧ (iAnd (iShr x1 x5) 1 ≠ 0 → InR (iRem ((x4 - 1) - x5) 2) ∧ (iRem ((x4 - 1) - x5) 2 ≠ 0 → CI X 203 [vR (some 170), vI x3] σ (fun r6 τ2 => InR r6 ∧ (r6 ≠ 0 → CV X 204 [vR (some 170), vI x3] τ2 (fun τ3 => Ev X 218 6 [some (vR (some 170)), some (vI x1), some (vI x2), some (vI x3), some (vI x4), some (vI (x5 + (-1))), none] [] τ3 Q)) ∧ (¬ r6 ≠ 0 → Q (some (vI 99999999)) τ2))) ∧ (¬ iRem ((x4 - 1) - x5) 2 ≠ 0 → CI X 203 [vR (some 170), vI x2] σ (fun r8 τ4 => InR r8 ∧ (r8 ≠ 0 → CV X 204 [vR (some 170), vI x2] τ4 (fun τ5 => Ev X 218 6 [some (vR (some 170)), some (vI x1), some (vI x2), some (vI x3), some (vI x4), some (vI (x5 + (-1))), none] [] τ5 Q)) ∧ (¬ r8 ≠ 0 → Q (some (vI 99999999)) τ4)))) ∧ (¬ iAnd (iShr x1 x5) 1 ≠ 0 → Ev X 218 6 [some (vR (some 170)), some (vI x1), some (vI x2), some (vI x3), some (vI x4), some (vI (x5 + (-1))), none] [] σ Q))) : Ev X 218 6 [some (vR (some 170)), some (vI x1), some (vI x2), some (vI x3), some (vI x4), some (vI x5), none] [] σ Q := by
  have hcd : cds 218 = cd_218 := rfl
  refine e_nx hcd rfl rfl ?_
  obtain ⟨h1, H⟩ := H
  refine r_if hcd rfl h1 (fun hc => ?_) (fun hc => ?_)
  · replace H := H.1 hc
    refine e_nx hcd rfl rfl ?_
    refine r_cv hcd rfl (by omega) rfl rfl rfl (Nat.le_of_ble_eq_true rfl) ?_
    refine Cl.mono H (fun v τ1 hq => ?_)
    obtain ⟨rfl, H⟩ := hq
    show Ev X 218 40 _ [] τ1 Q
    refine e_nx hcd rfl rfl ?_
    refine r_getR hcd rfl rfl rfl ?_
    refine e_nx hcd rfl rfl ?_
    obtain ⟨h2, H⟩ := H
    refine r_ild hcd rfl rfl (by omega) h2 ?_
    refine e_nx hcd rfl rfl ?_
    refine r_getR hcd rfl rfl rfl ?_
    refine e_nx hcd rfl rfl ?_
    obtain ⟨h3, H⟩ := H
    refine r_ild hcd rfl rfl (by omega) h3 ?_
    refine e_nx hcd rfl rfl ?_
    exact r_iret hcd rfl rfl rfl H
  · replace H := H.2 hc
    iterate 5 (refine e_nx hcd rfl rfl ?_)
    obtain ⟨h4, H⟩ := H
    refine r_if hcd rfl h4 (fun hc => ?_) (fun hc => ?_)
    · replace H := H.1 hc
      iterate 6 (refine e_nx hcd rfl rfl ?_)
      refine r_rem hcd rfl (by omega) (by omega) ?_
      obtain ⟨h5, H⟩ := H
      refine r_if hcd rfl h5 (fun hc => ?_) (fun hc => ?_)
      · replace H := H.1 hc
        iterate 2 (refine e_nx hcd rfl rfl ?_)
        show Ev X 218 27 [some (vR (some 170)), some (vI x1), some (vI x2), some (vI x3), some (vI x4), some (vI x5), some (vI x3)] [] _ Q
        iterate 2 (refine e_nx hcd rfl rfl ?_)
        refine r_cv hcd rfl (by omega) rfl rfl rfl (Nat.le_of_ble_eq_true rfl) ?_
        refine Cl.mono H (fun v τ2 hq => ?_)
        obtain ⟨r6, rfl, H⟩ := hq
        show Ev X 218 30 _ [vI r6] τ2 Q
        obtain ⟨h7, H⟩ := H
        refine r_if hcd rfl h7 (fun hc => ?_) (fun hc => ?_)
        · replace H := H.1 hc
          iterate 2 (refine e_nx hcd rfl rfl ?_)
          refine r_cv hcd rfl (by omega) rfl rfl rfl (Nat.le_of_ble_eq_true rfl) ?_
          refine Cl.mono H (fun v τ3 hq => ?_)
          obtain ⟨rfl, H⟩ := hq
          show Ev X 218 36 _ [] τ3 Q
          refine e_nx hcd rfl rfl ?_
          show Ev X 218 37 [some (vR (some 170)), some (vI x1), some (vI x2), some (vI x3), some (vI x4), some (vI (x5 + (-1))), some (vI x3)] [] _ Q
          refine e_nx hcd rfl rfl ?_
          refine e_fg [6] ?_
          exact H
        · replace H := H.2 hc
          refine e_nx hcd rfl rfl ?_
          exact r_iret hcd rfl rfl rfl H
      · replace H := H.2 hc
        iterate 3 (refine e_nx hcd rfl rfl ?_)
        show Ev X 218 27 [some (vR (some 170)), some (vI x1), some (vI x2), some (vI x3), some (vI x4), some (vI x5), some (vI x2)] [] _ Q
        iterate 2 (refine e_nx hcd rfl rfl ?_)
        refine r_cv hcd rfl (by omega) rfl rfl rfl (Nat.le_of_ble_eq_true rfl) ?_
        refine Cl.mono H (fun v τ4 hq => ?_)
        obtain ⟨r8, rfl, H⟩ := hq
        show Ev X 218 30 _ [vI r8] τ4 Q
        obtain ⟨h9, H⟩ := H
        refine r_if hcd rfl h9 (fun hc => ?_) (fun hc => ?_)
        · replace H := H.1 hc
          iterate 2 (refine e_nx hcd rfl rfl ?_)
          refine r_cv hcd rfl (by omega) rfl rfl rfl (Nat.le_of_ble_eq_true rfl) ?_
          refine Cl.mono H (fun v τ5 hq => ?_)
          obtain ⟨rfl, H⟩ := hq
          show Ev X 218 36 _ [] τ5 Q
          refine e_nx hcd rfl rfl ?_
          show Ev X 218 37 [some (vR (some 170)), some (vI x1), some (vI x2), some (vI x3), some (vI x4), some (vI (x5 + (-1))), some (vI x2)] [] _ Q
          refine e_nx hcd rfl rfl ?_
          refine e_fg [6] ?_
          exact H
        · replace H := H.2 hc
          refine e_nx hcd rfl rfl ?_
          exact r_iret hcd rfl rfl rfl H
    · replace H := H.2 hc
      iterate 2 (refine e_nx hcd rfl rfl ?_)
      show Ev X 218 37 [some (vR (some 170)), some (vI x1), some (vI x2), some (vI x3), some (vI x4), some (vI (x5 + (-1))), none] [] _ Q
      refine e_nx hcd rfl rfl ?_
      exact H
