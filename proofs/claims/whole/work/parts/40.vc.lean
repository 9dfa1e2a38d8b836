/-! X12_levelOf -/
theorem v_245 {X : PX} {σ : Sg} {Q : Option PV → Sg → Prop}   (H : Ev X 245 2 [some (vR (some 170)), some (vI 0), none, none] [] σ Q) : Cl X 245 [vR (some 170)] σ Q := by
  have hcd : cds 245 = cd_245 := rfl
  refine c_in (Nat.le_of_ble_eq_true rfl) rfl rfl ?_
  show Ev X 245 0 [some (vR (some 170)), none, none, none] [] σ Q
  iterate 2 (refine e_nx hcd rfl rfl ?_)
  show Ev X 245 2 [some (vR (some 170)), some (vI 0), none, none] [] _ Q
  exact H
theorem v_245_2 {X : PX} {σ : Sg} {Q : Option PV → Sg → Prop} {x1 : Int}  (H : InR x1 ∧ (50 < x1 → Q (some (vI (-1))) σ) ∧ (¬ 50 < x1 → Ev X 245 7 [some (vR (some 170)), some (vI x1), some (vI 0), none] [] σ Q)) : Ev X 245 2 [some (vR (some 170)), some (vI x1), none, none] [] σ Q := by
  have hcd : cds 245 = cd_245 := rfl
  iterate 2 (refine e_nx hcd rfl rfl ?_)
  obtain ⟨h1, H⟩ := H
  refine r_icmp hcd rfl h1 (by omega) (fun hc => ?_) (fun hc => ?_)
  · replace H := H.1 hc
    refine e_nx hcd rfl rfl ?_
    exact r_iret hcd rfl rfl rfl H
  · replace H := H.2 hc
    iterate 2 (refine e_nx hcd rfl rfl ?_)
    show Ev X 245 7 [some (vR (some 170)), some (vI x1), some (vI 0), none] [] _ Q
    exact H
theorem v_245_7 {X : PX} {σ : Sg} {Q : Option PV → Sg → Prop} {x1 : Int} {x2 : Int}  (H : InR x2 ∧ (7 ≤ x2 → CV X 202 [vR (some 170)] σ (fun τ1 => Ev X 245 26 [some (vR (some 170)), some (vI x1), some (vI 1), some (vI 0)] [] τ1 Q)) ∧ (¬ 7 ≤ x2 → (0 ≤ x2 ∧ x2 < 7) ∧ Ev X 245 7 [some (vR (some 170)), some (vI x1), some (vI (x2 + 1)), none] [] (σ.1, up2 σ.2 180 x2.toNat (σ.2 174 x2.toNat)) Q)) : Ev X 245 7 [some (vR (some 170)), some (vI x1), some (vI x2), none] [] σ Q := by
  have hcd : cds 245 = cd_245 := rfl
  iterate 2 (refine e_nx hcd rfl rfl ?_)
  obtain ⟨h1, H⟩ := H
  refine r_icmp hcd rfl h1 (by omega) (fun hc => ?_) (fun hc => ?_)
  · replace H := H.1 hc
    refine e_nx hcd rfl rfl ?_
    refine r_cv hcd rfl (by omega) rfl rfl rfl (Nat.le_of_ble_eq_true rfl) ?_
    refine Cl.mono H (fun v τ1 hq => ?_)
    obtain ⟨rfl, H⟩ := hq
    show Ev X 245 22 _ [] τ1 Q
    iterate 2 (refine e_nx hcd rfl rfl ?_)
    show Ev X 245 24 [some (vR (some 170)), some (vI x1), some (vI 1), none] [] _ Q
    iterate 2 (refine e_nx hcd rfl rfl ?_)
    show Ev X 245 26 [some (vR (some 170)), some (vI x1), some (vI 1), some (vI 0)] [] _ Q
    exact H
  · replace H := H.2 hc
    refine e_nx hcd rfl rfl ?_
    refine r_getR hcd rfl rfl rfl ?_
    iterate 2 (refine e_nx hcd rfl rfl ?_)
    refine r_getR hcd rfl rfl rfl ?_
    refine e_nx hcd rfl rfl ?_
    obtain ⟨h2, H⟩ := H
    refine r_ild hcd rfl rfl (by omega) h2 ?_
    refine r_ist hcd rfl rfl (by omega) h2 ?_
    refine e_nx hcd rfl rfl ?_
    show Ev X 245 19 [some (vR (some 170)), some (vI x1), some (vI (x2 + 1)), none] [] _ Q
    refine e_nx hcd rfl rfl ?_
    exact H
set_option maxRecDepth 20000 in
set_option maxHeartbeats 8000000 in
theorem v_245_26 {X : PX} {σ : Sg} {Q : Option PV → Sg → Prop} {x1 : Int} {x2 : Int} {x3 : Int}  (H : InR x3 ∧ InR (σ.1 170 12) ∧ (σ.1 170 12 ≤ x3 → InR x2 ∧ (x2 = 0 → Ev X 245 2 [some (vR (some 170)), some (vI (x1 + 1)), none, none] [] σ Q) ∧ (¬ x2 = 0 → Q (some (vI x1)) σ)) ∧ (¬ σ.1 170 12 ≤ x3 → InR x2 ∧ (x2 = 0 → Ev X 245 26 [some (vR (some 170)), some (vI x1), some (vI 0), some (vI (x3 + 1))] [] σ Q) ∧ (¬ x2 = 0 → (0 ≤ x3 ∧ x3 < 7) ∧ InR (σ.2 174 x3.toNat) ∧ InR (σ.2 180 x3.toNat) ∧ (σ.2 174 x3.toNat ≠ σ.2 180 x3.toNat → Ev X 245 26 [some (vR (some 170)), some (vI x1), some (vI 0), some (vI (x3 + 1))] [] σ Q) ∧ (¬ σ.2 174 x3.toNat ≠ σ.2 180 x3.toNat → Ev X 245 26 [some (vR (some 170)), some (vI x1), some (vI 1), some (vI (x3 + 1))] [] σ Q)))) : Ev X 245 26 [some (vR (some 170)), some (vI x1), some (vI x2), some (vI x3)] [] σ Q := by
  have hcd : cds 245 = cd_245 := rfl
  iterate 2 (refine e_nx hcd rfl rfl ?_)
  refine r_getI hcd rfl rfl rfl ?_
  obtain ⟨h1, H⟩ := H
  obtain ⟨h2, H⟩ := H
  refine r_icmp hcd rfl h1 h2 (fun hc => ?_) (fun hc => ?_)
  · replace H := H.1 hc
    refine e_nx hcd rfl rfl ?_
    obtain ⟨h3, H⟩ := H
    refine r_if hcd rfl h3 (fun hc => ?_) (fun hc => ?_)
    · replace H := H.1 hc
      refine e_nx hcd rfl rfl ?_
      show Ev X 245 52 [some (vR (some 170)), some (vI (x1 + 1)), some (vI x2), some (vI x3)] [] _ Q
      refine e_nx hcd rfl rfl ?_
      refine e_fg [2, 3] ?_
      exact H
    · replace H := H.2 hc
      refine e_nx hcd rfl rfl ?_
      exact r_iret hcd rfl rfl rfl H
  · replace H := H.2 hc
    refine e_nx hcd rfl rfl ?_
    obtain ⟨h4, H⟩ := H
    refine r_if hcd rfl h4 (fun hc => ?_) (fun hc => ?_)
    · replace H := H.1 hc
      iterate 2 (refine e_nx hcd rfl rfl ?_)
      show Ev X 245 45 [some (vR (some 170)), some (vI x1), some (vI 0), some (vI x3)] [] _ Q
      refine e_nx hcd rfl rfl ?_
      show Ev X 245 46 [some (vR (some 170)), some (vI x1), some (vI 0), some (vI (x3 + 1))] [] _ Q
      refine e_nx hcd rfl rfl ?_
      exact H
    · replace H := H.2 hc
      refine e_nx hcd rfl rfl ?_
      refine r_getR hcd rfl rfl rfl ?_
      refine e_nx hcd rfl rfl ?_
      obtain ⟨h5, H⟩ := H
      refine r_ild hcd rfl rfl (by omega) h5 ?_
      refine e_nx hcd rfl rfl ?_
      refine r_getR hcd rfl rfl rfl ?_
      refine e_nx hcd rfl rfl ?_
      refine r_ild hcd rfl rfl (by omega) h5 ?_
      obtain ⟨h6, H⟩ := H
      obtain ⟨h7, H⟩ := H
      refine r_icmp hcd rfl h6 h7 (fun hc => ?_) (fun hc => ?_)
      · replace H := H.1 hc
        iterate 2 (refine e_nx hcd rfl rfl ?_)
        show Ev X 245 45 [some (vR (some 170)), some (vI x1), some (vI 0), some (vI x3)] [] _ Q
        refine e_nx hcd rfl rfl ?_
        show Ev X 245 46 [some (vR (some 170)), some (vI x1), some (vI 0), some (vI (x3 + 1))] [] _ Q
        refine e_nx hcd rfl rfl ?_
        exact H
      · replace H := H.2 hc
        iterate 3 (refine e_nx hcd rfl rfl ?_)
        show Ev X 245 45 [some (vR (some 170)), some (vI x1), some (vI 1), some (vI x3)] [] _ Q
        refine e_nx hcd rfl rfl ?_
        show Ev X 245 46 [some (vR (some 170)), some (vI x1), some (vI 1), some (vI (x3 + 1))] [] _ Q
        refine e_nx hcd rfl rfl ?_
        exact H
/-! X12_spreadOf -/
theorem v_246 {X : PX} {σ : Sg} {Q : Option PV → Sg → Prop}   (H : Ev X 246 6 [some (vR (some 170)), some (vI 0), some (vI 99999999), some (vI 0)] [] σ Q) : Cl X 246 [vR (some 170)] σ Q := by
  have hcd : cds 246 = cd_246 := rfl
  refine c_in (Nat.le_of_ble_eq_true rfl) rfl rfl ?_
  show Ev X 246 0 [some (vR (some 170)), none, none, none] [] σ Q
  iterate 2 (refine e_nx hcd rfl rfl ?_)
  show Ev X 246 2 [some (vR (some 170)), some (vI 0), none, none] [] _ Q
  iterate 2 (refine e_nx hcd rfl rfl ?_)
  show Ev X 246 4 [some (vR (some 170)), some (vI 0), some (vI 99999999), none] [] _ Q
  iterate 2 (refine e_nx hcd rfl rfl ?_)
  show Ev X 246 6 [some (vR (some 170)), some (vI 0), some (vI 99999999), some (vI 0)] [] _ Q
  exact H
set_option maxRecDepth 20000 in
set_option maxHeartbeats 8000000 in
theorem v_246_6 {X : PX} {σ : Sg} {Q : Option PV → Sg → Prop} {x1 : Int} {x2 : Int} {x3 : Int}  (H : InR x3 ∧ InR (σ.1 170 12) ∧ (σ.1 170 12 ≤ x3 → InR x2 ∧ (x2 ≠ 99999999 → Q (some (vI (x1 - x2))) σ) ∧ (¬ x2 ≠ 99999999 → Q (some (vI 0)) σ)) ∧ (¬ σ.1 170 12 ≤ x3 → (0 ≤ x3 ∧ x3 < 7) ∧ InR (σ.2 175 x3.toNat) ∧ InR x1 ∧ (σ.2 175 x3.toNat ≤ x1 → CI X 198 [vR (some 170), vI x3] σ (fun r7 τ1 => InR r7 ∧ (r7 ≠ 0 → Ev X 246 6 [some (vR (some 170)), some (vI x1), some (vI x2), some (vI (x3 + 1))] [] τ1 Q) ∧ (¬ r7 ≠ 0 → InR (τ1.2 175 x3.toNat) ∧ InR x2 ∧ (x2 ≤ τ1.2 175 x3.toNat → Ev X 246 6 [some (vR (some 170)), some (vI x1), some (vI x2), some (vI (x3 + 1))] [] τ1 Q) ∧ (¬ x2 ≤ τ1.2 175 x3.toNat → Ev X 246 6 [some (vR (some 170)), some (vI x1), some (vI (τ1.2 175 x3.toNat)), some (vI (x3 + 1))] [] τ1 Q)))) ∧ (¬ σ.2 175 x3.toNat ≤ x1 → CI X 198 [vR (some 170), vI x3] σ (fun r11 τ2 => InR r11 ∧ (r11 ≠ 0 → Ev X 246 6 [some (vR (some 170)), some (vI (σ.2 175 x3.toNat)), some (vI x2), some (vI (x3 + 1))] [] τ2 Q) ∧ (¬ r11 ≠ 0 → InR (τ2.2 175 x3.toNat) ∧ InR x2 ∧ (x2 ≤ τ2.2 175 x3.toNat → Ev X 246 6 [some (vR (some 170)), some (vI (σ.2 175 x3.toNat)), some (vI x2), some (vI (x3 + 1))] [] τ2 Q) ∧ (¬ x2 ≤ τ2.2 175 x3.toNat → Ev X 246 6 [some (vR (some 170)), some (vI (σ.2 175 x3.toNat)), some (vI (τ2.2 175 x3.toNat)), some (vI (x3 + 1))] [] τ2 Q)))))) : Ev X 246 6 [some (vR (some 170)), some (vI x1), some (vI x2), some (vI x3)] [] σ Q := by
  have hcd : cds 246 = cd_246 := rfl
  iterate 2 (refine e_nx hcd rfl rfl ?_)
  refine r_getI hcd rfl rfl rfl ?_
  obtain ⟨h1, H⟩ := H
  obtain ⟨h2, H⟩ := H
  refine r_icmp hcd rfl h1 h2 (fun hc => ?_) (fun hc => ?_)
  · replace H := H.1 hc
    iterate 2 (refine e_nx hcd rfl rfl ?_)
    obtain ⟨h3, H⟩ := H
    refine r_icmp hcd rfl h3 (by omega) (fun hc => ?_) (fun hc => ?_)
    · replace H := H.1 hc
      iterate 3 (refine e_nx hcd rfl rfl ?_)
      exact r_iret hcd rfl rfl rfl H
    · replace H := H.2 hc
      iterate 2 (refine e_nx hcd rfl rfl ?_)
      exact r_iret hcd rfl rfl rfl H
  · replace H := H.2 hc
    refine e_nx hcd rfl rfl ?_
    refine r_getR hcd rfl rfl rfl ?_
    refine e_nx hcd rfl rfl ?_
    obtain ⟨h4, H⟩ := H
    refine r_ild hcd rfl rfl (by omega) h4 ?_
    refine e_nx hcd rfl rfl ?_
    obtain ⟨h5, H⟩ := H
    obtain ⟨h6, H⟩ := H
    refine r_icmp hcd rfl h5 h6 (fun hc => ?_) (fun hc => ?_)
    · replace H := H.1 hc
      iterate 2 (refine e_nx hcd rfl rfl ?_)
      show Ev X 246 23 [some (vR (some 170)), some (vI x1), some (vI x2), some (vI x3)] [] _ Q
      iterate 2 (refine e_nx hcd rfl rfl ?_)
      refine r_cv hcd rfl (by omega) rfl rfl rfl (Nat.le_of_ble_eq_true rfl) ?_
      refine Cl.mono H (fun v τ1 hq => ?_)
      obtain ⟨r7, rfl, H⟩ := hq
      show Ev X 246 26 _ [vI r7] τ1 Q
      obtain ⟨h8, H⟩ := H
      refine r_if hcd rfl h8 (fun hc => ?_) (fun hc => ?_)
      · replace H := H.1 hc
        iterate 2 (refine e_nx hcd rfl rfl ?_)
        show Ev X 246 40 [some (vR (some 170)), some (vI x1), some (vI x2), some (vI x3)] [] _ Q
        refine e_nx hcd rfl rfl ?_
        show Ev X 246 41 [some (vR (some 170)), some (vI x1), some (vI x2), some (vI (x3 + 1))] [] _ Q
        refine e_nx hcd rfl rfl ?_
        exact H
      · replace H := H.2 hc
        refine e_nx hcd rfl rfl ?_
        refine r_getR hcd rfl rfl rfl ?_
        refine e_nx hcd rfl rfl ?_
        refine r_ild hcd rfl rfl (by omega) h4 ?_
        refine e_nx hcd rfl rfl ?_
        obtain ⟨h9, H⟩ := H
        obtain ⟨h10, H⟩ := H
        refine r_icmp hcd rfl h9 h10 (fun hc => ?_) (fun hc => ?_)
        · replace H := H.1 hc
          iterate 2 (refine e_nx hcd rfl rfl ?_)
          show Ev X 246 40 [some (vR (some 170)), some (vI x1), some (vI x2), some (vI x3)] [] _ Q
          refine e_nx hcd rfl rfl ?_
          show Ev X 246 41 [some (vR (some 170)), some (vI x1), some (vI x2), some (vI (x3 + 1))] [] _ Q
          refine e_nx hcd rfl rfl ?_
          exact H
        · replace H := H.2 hc
          refine e_nx hcd rfl rfl ?_
          refine r_getR hcd rfl rfl rfl ?_
          refine e_nx hcd rfl rfl ?_
          refine r_ild hcd rfl rfl (by omega) h4 ?_
          iterate 2 (refine e_nx hcd rfl rfl ?_)
          show Ev X 246 40 [some (vR (some 170)), some (vI x1), some (vI (τ1.2 175 x3.toNat)), some (vI x3)] [] _ Q
          refine e_nx hcd rfl rfl ?_
          show Ev X 246 41 [some (vR (some 170)), some (vI x1), some (vI (τ1.2 175 x3.toNat)), some (vI (x3 + 1))] [] _ Q
          refine e_nx hcd rfl rfl ?_
          exact H
    · replace H := H.2 hc
      refine e_nx hcd rfl rfl ?_
      refine r_getR hcd rfl rfl rfl ?_
      refine e_nx hcd rfl rfl ?_
      refine r_ild hcd rfl rfl (by omega) h4 ?_
      iterate 2 (refine e_nx hcd rfl rfl ?_)
      show Ev X 246 23 [some (vR (some 170)), some (vI (σ.2 175 x3.toNat)), some (vI x2), some (vI x3)] [] _ Q
      iterate 2 (refine e_nx hcd rfl rfl ?_)
      refine r_cv hcd rfl (by omega) rfl rfl rfl (Nat.le_of_ble_eq_true rfl) ?_
      refine Cl.mono H (fun v τ2 hq => ?_)
      obtain ⟨r11, rfl, H⟩ := hq
      show Ev X 246 26 _ [vI r11] τ2 Q
      obtain ⟨h12, H⟩ := H
      refine r_if hcd rfl h12 (fun hc => ?_) (fun hc => ?_)
      · replace H := H.1 hc
        iterate 2 (refine e_nx hcd rfl rfl ?_)
        show Ev X 246 40 [some (vR (some 170)), some (vI (σ.2 175 x3.toNat)), some (vI x2), some (vI x3)] [] _ Q
        refine e_nx hcd rfl rfl ?_
        show Ev X 246 41 [some (vR (some 170)), some (vI (σ.2 175 x3.toNat)), some (vI x2), some (vI (x3 + 1))] [] _ Q
        refine e_nx hcd rfl rfl ?_
        exact H
      · replace H := H.2 hc
        refine e_nx hcd rfl rfl ?_
        refine r_getR hcd rfl rfl rfl ?_
        refine e_nx hcd rfl rfl ?_
        refine r_ild hcd rfl rfl (by omega) h4 ?_
        refine e_nx hcd rfl rfl ?_
        obtain ⟨h13, H⟩ := H
        obtain ⟨h14, H⟩ := H
        refine r_icmp hcd rfl h13 h14 (fun hc => ?_) (fun hc => ?_)
        · replace H := H.1 hc
          iterate 2 (refine e_nx hcd rfl rfl ?_)
          show Ev X 246 40 [some (vR (some 170)), some (vI (σ.2 175 x3.toNat)), some (vI x2), some (vI x3)] [] _ Q
          refine e_nx hcd rfl rfl ?_
          show Ev X 246 41 [some (vR (some 170)), some (vI (σ.2 175 x3.toNat)), some (vI x2), some (vI (x3 + 1))] [] _ Q
          refine e_nx hcd rfl rfl ?_
          exact H
        · replace H := H.2 hc
          refine e_nx hcd rfl rfl ?_
          refine r_getR hcd rfl rfl rfl ?_
          refine e_nx hcd rfl rfl ?_
          refine r_ild hcd rfl rfl (by omega) h4 ?_
          iterate 2 (refine e_nx hcd rfl rfl ?_)
          show Ev X 246 40 [some (vR (some 170)), some (vI (σ.2 175 x3.toNat)), some (vI (τ2.2 175 x3.toNat)), some (vI x3)] [] _ Q
          refine e_nx hcd rfl rfl ?_
          show Ev X 246 41 [some (vR (some 170)), some (vI (σ.2 175 x3.toNat)), some (vI (τ2.2 175 x3.toNat)), some (vI (x3 + 1))] [] _ Q
          refine e_nx hcd rfl rfl ?_
          exact H
/-! X12_unevenOf -/
theorem v_247 {X : PX} {σ : Sg} {Q : Option PV → Sg → Prop}   (H : Ev X 247 4 [some (vR (some 170)), some (vI 0), some (vI 0), none] [] σ Q) : Cl X 247 [vR (some 170)] σ Q := by
  have hcd : cds 247 = cd_247 := rfl
  refine c_in (Nat.le_of_ble_eq_true rfl) rfl rfl ?_
  show Ev X 247 0 [some (vR (some 170)), none, none, none] [] σ Q
  iterate 2 (refine e_nx hcd rfl rfl ?_)
  show Ev X 247 2 [some (vR (some 170)), some (vI 0), none, none] [] _ Q
  iterate 2 (refine e_nx hcd rfl rfl ?_)
  show Ev X 247 4 [some (vR (some 170)), some (vI 0), some (vI 0), none] [] _ Q
  exact H
theorem v_247_4 {X : PX} {σ : Sg} {Q : Option PV → Sg → Prop} {x1 : Int} {x2 : Int}  (H : InR x2 ∧ InR (σ.1 170 12) ∧ (σ.1 170 12 ≤ x2 → Q (some (vI x1)) σ) ∧ (¬ σ.1 170 12 ≤ x2 → Ev X 247 10 [some (vR (some 170)), some (vI x1), some (vI x2), some (vI 0)] [] σ Q)) : Ev X 247 4 [some (vR (some 170)), some (vI x1), some (vI x2), none] [] σ Q := by
  have hcd : cds 247 = cd_247 := rfl
  iterate 2 (refine e_nx hcd rfl rfl ?_)
  refine r_getI hcd rfl rfl rfl ?_
  obtain ⟨h1, H⟩ := H
  obtain ⟨h2, H⟩ := H
  refine r_icmp hcd rfl h1 h2 (fun hc => ?_) (fun hc => ?_)
  · replace H := H.1 hc
    refine e_nx hcd rfl rfl ?_
    exact r_iret hcd rfl rfl rfl H
  · replace H := H.2 hc
    iterate 2 (refine e_nx hcd rfl rfl ?_)
    show Ev X 247 10 [some (vR (some 170)), some (vI x1), some (vI x2), some (vI 0)] [] _ Q
    exact H
set_option maxRecDepth 20000 in
set_option maxHeartbeats 8000000 in
theorem v_247_10 {X : PX} {σ : Sg} {Q : Option PV → Sg → Prop} {x1 : Int} {x2 : Int} {x3 : Int}  (H : InR x3 ∧ InR x2 ∧ (x2 ≤ x3 → Ev X 247 4 [some (vR (some 170)), some (vI x1), some (vI (x2 + 1)), none] [] σ Q) ∧ (¬ x2 ≤ x3 → CI X 198 [vR (some 170), vI x2] σ (fun r3 τ1 => InR r3 ∧ (r3 ≠ 0 → Ev X 247 10 [some (vR (some 170)), some (vI (x1 + 0)), some (vI x2), some (vI (x3 + 1))] [] τ1 Q) ∧ (¬ r3 ≠ 0 → CI X 198 [vR (some 170), vI x3] τ1 (fun r5 τ2 => InR r5 ∧ (r5 ≠ 0 → Ev X 247 10 [some (vR (some 170)), some (vI (x1 + 0)), some (vI x2), some (vI (x3 + 1))] [] τ2 Q) ∧ (¬ r5 ≠ 0 → (0 ≤ x2 ∧ x2 < 7) ∧ (0 ≤ x3 ∧ x3 < 7) ∧ InR (τ2.2 174 x2.toNat) ∧ InR (τ2.2 174 x3.toNat) ∧ (τ2.2 174 x2.toNat ≠ τ2.2 174 x3.toNat → Ev X 247 10 [some (vR (some 170)), some (vI (x1 + 0)), some (vI x2), some (vI (x3 + 1))] [] τ2 Q) ∧ (¬ τ2.2 174 x2.toNat ≠ τ2.2 174 x3.toNat → InR (τ2.2 175 x2.toNat) ∧ InR (τ2.2 175 x3.toNat) ∧ (τ2.2 175 x2.toNat = τ2.2 175 x3.toNat → Ev X 247 10 [some (vR (some 170)), some (vI (x1 + 0)), some (vI x2), some (vI (x3 + 1))] [] τ2 Q) ∧ (¬ τ2.2 175 x2.toNat = τ2.2 175 x3.toNat → Ev X 247 10 [some (vR (some 170)), some (vI (x1 + 1)), some (vI x2), some (vI (x3 + 1))] [] τ2 Q)))))))) : Ev X 247 10 [some (vR (some 170)), some (vI x1), some (vI x2), some (vI x3)] [] σ Q := by
  have hcd : cds 247 = cd_247 := rfl
  iterate 2 (refine e_nx hcd rfl rfl ?_)
  obtain ⟨h1, H⟩ := H
  obtain ⟨h2, H⟩ := H
  refine r_icmp hcd rfl h1 h2 (fun hc => ?_) (fun hc => ?_)
  · replace H := H.1 hc
    refine e_nx hcd rfl rfl ?_
    show Ev X 247 48 [some (vR (some 170)), some (vI x1), some (vI (x2 + 1)), some (vI x3)] [] _ Q
    refine e_nx hcd rfl rfl ?_
    refine e_fg [3] ?_
    exact H
  · replace H := H.2 hc
    iterate 3 (refine e_nx hcd rfl rfl ?_)
    refine r_cv hcd rfl (by omega) rfl rfl rfl (Nat.le_of_ble_eq_true rfl) ?_
    refine Cl.mono H (fun v τ1 hq => ?_)
    obtain ⟨r3, rfl, H⟩ := hq
    show Ev X 247 17 _ [vI r3, vI x1] τ1 Q
    obtain ⟨h4, H⟩ := H
    refine r_if hcd rfl h4 (fun hc => ?_) (fun hc => ?_)
    · replace H := H.1 hc
      iterate 3 (refine e_nx hcd rfl rfl ?_)
      show Ev X 247 45 [some (vR (some 170)), some (vI (x1 + 0)), some (vI x2), some (vI x3)] [] _ Q
      refine e_nx hcd rfl rfl ?_
      show Ev X 247 46 [some (vR (some 170)), some (vI (x1 + 0)), some (vI x2), some (vI (x3 + 1))] [] _ Q
      refine e_nx hcd rfl rfl ?_
      exact H
    · replace H := H.2 hc
      iterate 2 (refine e_nx hcd rfl rfl ?_)
      refine r_cv hcd rfl (by omega) rfl rfl rfl (Nat.le_of_ble_eq_true rfl) ?_
      refine Cl.mono H (fun v τ2 hq => ?_)
      obtain ⟨r5, rfl, H⟩ := hq
      show Ev X 247 21 _ [vI r5, vI x1] τ2 Q
      obtain ⟨h6, H⟩ := H
      refine r_if hcd rfl h6 (fun hc => ?_) (fun hc => ?_)
      · replace H := H.1 hc
        iterate 3 (refine e_nx hcd rfl rfl ?_)
        show Ev X 247 45 [some (vR (some 170)), some (vI (x1 + 0)), some (vI x2), some (vI x3)] [] _ Q
        refine e_nx hcd rfl rfl ?_
        show Ev X 247 46 [some (vR (some 170)), some (vI (x1 + 0)), some (vI x2), some (vI (x3 + 1))] [] _ Q
        refine e_nx hcd rfl rfl ?_
        exact H
      · replace H := H.2 hc
        refine e_nx hcd rfl rfl ?_
        refine r_getR hcd rfl rfl rfl ?_
        refine e_nx hcd rfl rfl ?_
        obtain ⟨h7, H⟩ := H
        refine r_ild hcd rfl rfl (by omega) h7 ?_
        refine e_nx hcd rfl rfl ?_
        refine r_getR hcd rfl rfl rfl ?_
        refine e_nx hcd rfl rfl ?_
        obtain ⟨h8, H⟩ := H
        refine r_ild hcd rfl rfl (by omega) h8 ?_
        obtain ⟨h9, H⟩ := H
        obtain ⟨h10, H⟩ := H
        refine r_icmp hcd rfl h9 h10 (fun hc => ?_) (fun hc => ?_)
        · replace H := H.1 hc
          iterate 3 (refine e_nx hcd rfl rfl ?_)
          show Ev X 247 45 [some (vR (some 170)), some (vI (x1 + 0)), some (vI x2), some (vI x3)] [] _ Q
          refine e_nx hcd rfl rfl ?_
          show Ev X 247 46 [some (vR (some 170)), some (vI (x1 + 0)), some (vI x2), some (vI (x3 + 1))] [] _ Q
          refine e_nx hcd rfl rfl ?_
          exact H
        · replace H := H.2 hc
          refine e_nx hcd rfl rfl ?_
          refine r_getR hcd rfl rfl rfl ?_
          refine e_nx hcd rfl rfl ?_
          refine r_ild hcd rfl rfl (by omega) h7 ?_
          refine e_nx hcd rfl rfl ?_
          refine r_getR hcd rfl rfl rfl ?_
          refine e_nx hcd rfl rfl ?_
          refine r_ild hcd rfl rfl (by omega) h8 ?_
          obtain ⟨h11, H⟩ := H
          obtain ⟨h12, H⟩ := H
          refine r_icmp hcd rfl h11 h12 (fun hc => ?_) (fun hc => ?_)
          · replace H := H.1 hc
            iterate 3 (refine e_nx hcd rfl rfl ?_)
            show Ev X 247 45 [some (vR (some 170)), some (vI (x1 + 0)), some (vI x2), some (vI x3)] [] _ Q
            refine e_nx hcd rfl rfl ?_
            show Ev X 247 46 [some (vR (some 170)), some (vI (x1 + 0)), some (vI x2), some (vI (x3 + 1))] [] _ Q
            refine e_nx hcd rfl rfl ?_
            exact H
          · replace H := H.2 hc
            iterate 4 (refine e_nx hcd rfl rfl ?_)
            show Ev X 247 45 [some (vR (some 170)), some (vI (x1 + 1)), some (vI x2), some (vI x3)] [] _ Q
            refine e_nx hcd rfl rfl ?_
            show Ev X 247 46 [some (vR (some 170)), some (vI (x1 + 1)), some (vI x2), some (vI (x3 + 1))] [] _ Q
            refine e_nx hcd rfl rfl ?_
            exact H
/-! X12_passed -/
set_option maxRecDepth 20000 in
set_option maxHeartbeats 8000000 in
theorem v_248 {X : PX} {σ : Sg} {Q : Option PV → Sg → Prop} {a1 : Int} {a2 : Int}  (H : CI X 189 [vR (some 170), vI a1] σ (fun r1 τ1 => InR r1 ∧ (r1 ≠ 0 → InR a2 ∧ (a2 = 0 → CI X 244 [vR (some 170)] τ1 (fun r4 τ2 => Q (some (vI r4)) τ2)) ∧ (a2 = 1 → CI X 245 [vR (some 170)] τ1 (fun r5 τ3 => Q (some (vI r5)) τ3)) ∧ (a2 = 2 → CI X 246 [vR (some 170)] τ1 (fun r6 τ4 => Q (some (vI r6)) τ4)) ∧ (a2 = 3 → CI X 247 [vR (some 170)] τ1 (fun r7 τ5 => Q (some (vI r7)) τ5)) ∧ (a2 ≠ 0 ∧ a2 ≠ 1 ∧ a2 ≠ 2 ∧ a2 ≠ 3 → Q (some (vI (-2))) τ1)) ∧ (¬ r1 ≠ 0 → Q (some (vI (-2))) τ1))) : Cl X 248 [vR (some 170), vI a1, vI a2] σ Q := by
  have hcd : cds 248 = cd_248 := rfl
  refine c_in (Nat.le_of_ble_eq_true rfl) rfl rfl ?_
  show Ev X 248 0 [some (vR (some 170)), some (vI a1), some (vI a2)] [] σ Q
  iterate 2 (refine e_nx hcd rfl rfl ?_)
  refine r_cv hcd rfl (by omega) rfl rfl rfl (Nat.le_of_ble_eq_true rfl) ?_
  refine Cl.mono H (fun v τ1 hq => ?_)
  obtain ⟨r1, rfl, H⟩ := hq
  show Ev X 248 3 _ [vI r1] τ1 Q
  obtain ⟨h2, H⟩ := H
  refine r_if hcd rfl h2 (fun hc => ?_) (fun hc => ?_)
  · replace H := H.1 hc
    refine e_nx hcd rfl rfl ?_
    obtain ⟨h3, H⟩ := H
    refine r_tab hcd rfl h3 ?_
    by_cases hs8 : a2 = 0
    · replace H := H.1 hs8
      refine e_pc (i2 := 8) (by rw [hs8]; rfl) ?_
      refine e_nx hcd rfl rfl ?_
      refine r_cv hcd rfl (by omega) rfl rfl rfl (Nat.le_of_ble_eq_true rfl) ?_
      refine Cl.mono H (fun v τ2 hq => ?_)
      obtain ⟨r4, rfl, H⟩ := hq
      show Ev X 248 10 _ [vI r4] τ2 Q
      exact r_iret hcd rfl rfl rfl H
    by_cases hs9 : a2 = 1
    · replace H := H.2.1 hs9
      refine e_pc (i2 := 11) (by rw [hs9]; rfl) ?_
      refine e_nx hcd rfl rfl ?_
      refine r_cv hcd rfl (by omega) rfl rfl rfl (Nat.le_of_ble_eq_true rfl) ?_
      refine Cl.mono H (fun v τ3 hq => ?_)
      obtain ⟨r5, rfl, H⟩ := hq
      show Ev X 248 13 _ [vI r5] τ3 Q
      exact r_iret hcd rfl rfl rfl H
    by_cases hs10 : a2 = 2
    · replace H := H.2.2.1 hs10
      refine e_pc (i2 := 14) (by rw [hs10]; rfl) ?_
      refine e_nx hcd rfl rfl ?_
      refine r_cv hcd rfl (by omega) rfl rfl rfl (Nat.le_of_ble_eq_true rfl) ?_
      refine Cl.mono H (fun v τ4 hq => ?_)
      obtain ⟨r6, rfl, H⟩ := hq
      show Ev X 248 16 _ [vI r6] τ4 Q
      exact r_iret hcd rfl rfl rfl H
    by_cases hs11 : a2 = 3
    · replace H := H.2.2.2.1 hs11
      refine e_pc (i2 := 17) (by rw [hs11]; rfl) ?_
      refine e_nx hcd rfl rfl ?_
      refine r_cv hcd rfl (by omega) rfl rfl rfl (Nat.le_of_ble_eq_true rfl) ?_
      refine Cl.mono H (fun v τ5 hq => ?_)
      obtain ⟨r7, rfl, H⟩ := hq
      show Ev X 248 19 _ [vI r7] τ5 Q
      exact r_iret hcd rfl rfl rfl H
    replace H := H.2.2.2.2 ⟨hs8, hs9, hs10, hs11⟩
    refine e_pc (i2 := 20) (tab_def (lo := 0) (hi := 3) (fun h1 h2 => ?_)) ?_
    · omega
    · refine e_nx hcd rfl rfl ?_
      exact r_iret hcd rfl rfl rfl H
  · replace H := H.2 hc
    refine e_nx hcd rfl rfl ?_
    exact r_iret hcd rfl rfl rfl H
/-! X12_isYears -/
theorem v_249 {X : PX} {σ : Sg} {Q : Option PV → Sg → Prop} {a1 : Int}  (H : CI X 186 [vR (some 170), vI 1, vI a1] σ (fun r1 τ1 => InR r1 ∧ (r1 ≠ 0 → CI X 184 [vI 1, vI a1] τ1 (fun r3 τ2 => Q (some (vI 1)) (up2 τ2.1 170 34 r3, τ2.2))) ∧ (¬ r1 ≠ 0 → Q (some (vI 0)) τ1))) : Cl X 249 [vR (some 170), vI a1] σ Q := by
  have hcd : cds 249 = cd_249 := rfl
  refine c_in (Nat.le_of_ble_eq_true rfl) rfl rfl ?_
  show Ev X 249 0 [some (vR (some 170)), some (vI a1)] [] σ Q
  iterate 3 (refine e_nx hcd rfl rfl ?_)
  refine r_cv hcd rfl (by omega) rfl rfl rfl (Nat.le_of_ble_eq_true rfl) ?_
  refine Cl.mono H (fun v τ1 hq => ?_)
  obtain ⟨r1, rfl, H⟩ := hq
  show Ev X 249 4 _ [vI r1] τ1 Q
  obtain ⟨h2, H⟩ := H
  refine r_if hcd rfl h2 (fun hc => ?_) (fun hc => ?_)
  · replace H := H.1 hc
    iterate 3 (refine e_nx hcd rfl rfl ?_)
    refine r_cs hcd rfl (by omega) (Nat.le_of_ble_eq_true rfl) rfl rfl (Nat.le_of_ble_eq_true rfl) ?_
    refine Cl.mono H (fun v τ2 hq => ?_)
    obtain ⟨r3, rfl, H⟩ := hq
    show Ev X 249 11 _ [vI r3, vR (some 170)] τ2 Q
    refine r_putI hcd rfl rfl rfl rfl ?_
    refine e_nx hcd rfl rfl ?_
    exact r_zret hcd rfl rfl rfl (by omega) H
  · replace H := H.2 hc
    refine e_nx hcd rfl rfl ?_
    exact r_zret hcd rfl rfl rfl (by omega) H
/-! X12_deed -/
set_option maxRecDepth 20000 in
set_option maxHeartbeats 8000000 in
theorem v_250 {X : PX} {σ : Sg} {Q : Option PV → Sg → Prop} {a1 : Int} {a2 : Int} {a3 : Int}  (H : CI X 249 [vR (some 170), vI a1] σ (fun r1 τ1 => InR r1 ∧ (r1 ≠ 0 → InR a2 ∧ (a2 ≠ (-1) → (0 ≤ τ1.1 170 34 ∧ τ1.1 170 34 < 3616) ∧ CI X 161 [vI a2, vI 0, vI ((τ1.2 171 (τ1.1 170 34).toNat) - 1)] τ1 (fun r5 τ2 => InR r5 ∧ (r5 = 0 → Q (some (vI (-2))) τ2) ∧ (¬ r5 = 0 → CI X 161 [vI a3, vI 0, vI 1] τ2 (fun r7 τ3 => InR r7 ∧ (r7 = 0 → Q (some (vI (-2))) τ3) ∧ (¬ r7 = 0 → (0 ≤ (((τ3.1 170 34) + 1) + (2 * a2)) + a3 ∧ (((τ3.1 170 34) + 1) + (2 * a2)) + a3 < 3616) ∧ Q (some (vI (τ3.2 171 ((((τ3.1 170 34) + 1) + (2 * a2)) + a3).toNat))) τ3))))) ∧ (¬ a2 ≠ (-1) → InR a3 ∧ (a3 ≠ 0 → Q (some (vI (-2))) τ1) ∧ (¬ a3 ≠ 0 → (0 ≤ τ1.1 170 34 ∧ τ1.1 170 34 < 3616) ∧ Q (some (vI (τ1.2 171 (τ1.1 170 34).toNat))) τ1))) ∧ (¬ r1 ≠ 0 → Q (some (vI (-2))) τ1))) : Cl X 250 [vR (some 170), vI a1, vI a2, vI a3] σ Q := by
  have hcd : cds 250 = cd_250 := rfl
  refine c_in (Nat.le_of_ble_eq_true rfl) rfl rfl ?_
  show Ev X 250 0 [some (vR (some 170)), some (vI a1), some (vI a2), some (vI a3)] [] σ Q
  iterate 2 (refine e_nx hcd rfl rfl ?_)
  refine r_cv hcd rfl (by omega) rfl rfl rfl (Nat.le_of_ble_eq_true rfl) ?_
  refine Cl.mono H (fun v τ1 hq => ?_)
  obtain ⟨r1, rfl, H⟩ := hq
  show Ev X 250 3 _ [vI r1] τ1 Q
  obtain ⟨h2, H⟩ := H
  refine r_if hcd rfl h2 (fun hc => ?_) (fun hc => ?_)
  · replace H := H.1 hc
    iterate 2 (refine e_nx hcd rfl rfl ?_)
    obtain ⟨h3, H⟩ := H
    refine r_icmp hcd rfl h3 (by omega) (fun hc => ?_) (fun hc => ?_)
    · replace H := H.1 hc
      iterate 3 (refine e_nx hcd rfl rfl ?_)
      refine r_getR hcd rfl rfl rfl ?_
      refine e_nx hcd rfl rfl ?_
      refine r_getI hcd rfl rfl rfl ?_
      obtain ⟨h4, H⟩ := H
      refine r_ild hcd rfl rfl (by omega) h4 ?_
      iterate 2 (refine e_nx hcd rfl rfl ?_)
      refine r_cs hcd rfl (by omega) (Nat.le_of_ble_eq_true rfl) rfl rfl (Nat.le_of_ble_eq_true rfl) ?_
      refine Cl.mono H (fun v τ2 hq => ?_)
      obtain ⟨r5, rfl, H⟩ := hq
      show Ev X 250 29 _ [vI r5] τ2 Q
      obtain ⟨h6, H⟩ := H
      refine r_if hcd rfl h6 (fun hc => ?_) (fun hc => ?_)
      · replace H := H.1 hc
        refine e_nx hcd rfl rfl ?_
        exact r_iret hcd rfl rfl rfl H
      · replace H := H.2 hc
        iterate 3 (refine e_nx hcd rfl rfl ?_)
        refine r_cs hcd rfl (by omega) (Nat.le_of_ble_eq_true rfl) rfl rfl (Nat.le_of_ble_eq_true rfl) ?_
        refine Cl.mono H (fun v τ3 hq => ?_)
        obtain ⟨r7, rfl, H⟩ := hq
        show Ev X 250 34 _ [vI r7] τ3 Q
        obtain ⟨h8, H⟩ := H
        refine r_if hcd rfl h8 (fun hc => ?_) (fun hc => ?_)
        · replace H := H.1 hc
          refine e_nx hcd rfl rfl ?_
          exact r_iret hcd rfl rfl rfl H
        · replace H := H.2 hc
          refine e_nx hcd rfl rfl ?_
          refine r_getR hcd rfl rfl rfl ?_
          refine e_nx hcd rfl rfl ?_
          refine r_getI hcd rfl rfl rfl ?_
          iterate 8 (refine e_nx hcd rfl rfl ?_)
          obtain ⟨h9, H⟩ := H
          refine r_ild hcd rfl rfl (by omega) h9 ?_
          refine e_nx hcd rfl rfl ?_
          exact r_iret hcd rfl rfl rfl H
    · replace H := H.2 hc
      refine e_nx hcd rfl rfl ?_
      obtain ⟨h10, H⟩ := H
      refine r_if hcd rfl h10 (fun hc => ?_) (fun hc => ?_)
      · replace H := H.1 hc
        refine e_nx hcd rfl rfl ?_
        exact r_iret hcd rfl rfl rfl H
      · replace H := H.2 hc
        refine e_nx hcd rfl rfl ?_
        refine r_getR hcd rfl rfl rfl ?_
        refine e_nx hcd rfl rfl ?_
        refine r_getI hcd rfl rfl rfl ?_
        obtain ⟨h11, H⟩ := H
        refine r_ild hcd rfl rfl (by omega) h11 ?_
        refine e_nx hcd rfl rfl ?_
        exact r_iret hcd rfl rfl rfl H
  · replace H := H.2 hc
    refine e_nx hcd rfl rfl ?_
    exact r_iret hcd rfl rfl rfl H
/-! X12_beginsYears -/
theorem v_251 {X : PX} {σ : Sg} {Q : Option PV → Sg → Prop}   (H : CI X 195 [vI (σ.1 170 18)] (up2 (up2 σ.1 170 35 0) 170 36 (-1), σ.2) (fun r1 τ1 => Ev X 251 19 [some (vR (some 170)), some (vI 0)] [] (up2 (up2 (up2 τ1.1 170 37 r1) 170 38 (-1)) 170 39 99999999, τ1.2) Q)) : Cl X 251 [vR (some 170)] σ Q := by
  have hcd : cds 251 = cd_251 := rfl
  refine c_in (Nat.le_of_ble_eq_true rfl) rfl rfl ?_
  show Ev X 251 0 [some (vR (some 170)), none] [] σ Q
  iterate 2 (refine e_nx hcd rfl rfl ?_)
  refine r_putI hcd rfl rfl rfl rfl ?_
  iterate 2 (refine e_nx hcd rfl rfl ?_)
  refine r_putI hcd rfl rfl rfl rfl ?_
  iterate 2 (refine e_nx hcd rfl rfl ?_)
  refine r_getI hcd rfl rfl rfl ?_
  show Ev X 251 9 _ [vI (σ.1 170 18), vR (some 170)] _ Q
  refine r_cs hcd rfl (by omega) (Nat.le_of_ble_eq_true rfl) rfl rfl (Nat.le_of_ble_eq_true rfl) ?_
  refine Cl.mono H (fun v τ1 hq => ?_)
  obtain ⟨r1, rfl, H⟩ := hq
  show Ev X 251 10 _ [vI r1, vR (some 170)] τ1 Q
  refine r_putI hcd rfl rfl rfl rfl ?_
  iterate 2 (refine e_nx hcd rfl rfl ?_)
  refine r_putI hcd rfl rfl rfl rfl ?_
  iterate 2 (refine e_nx hcd rfl rfl ?_)
  refine r_putI hcd rfl rfl rfl rfl ?_
  iterate 2 (refine e_nx hcd rfl rfl ?_)
  show Ev X 251 19 [some (vR (some 170)), some (vI 0)] [] _ Q
  exact H
theorem v_251_19 {X : PX} {σ : Sg} {Q : Option PV → Sg → Prop} {x1 : Int}  (H : InR x1 ∧ (7 ≤ x1 → Q none σ) ∧ (¬ 7 ≤ x1 → (0 ≤ x1 ∧ x1 < 7) ∧ Ev X 251 19 [some (vR (some 170)), some (vI (x1 + 1))] [] (σ.1, up2 σ.2 181 x1.toNat 0) Q)) : Ev X 251 19 [some (vR (some 170)), some (vI x1)] [] σ Q := by
  have hcd : cds 251 = cd_251 := rfl
  iterate 2 (refine e_nx hcd rfl rfl ?_)
  obtain ⟨h1, H⟩ := H
  refine r_icmp hcd rfl h1 (by omega) (fun hc => ?_) (fun hc => ?_)
  · replace H := H.1 hc
    exact r_vret hcd rfl rfl rfl H
  · replace H := H.2 hc
    refine e_nx hcd rfl rfl ?_
    refine r_getR hcd rfl rfl rfl ?_
    iterate 2 (refine e_nx hcd rfl rfl ?_)
    obtain ⟨h2, H⟩ := H
    refine r_ist hcd rfl rfl (by omega) h2 ?_
    refine e_nx hcd rfl rfl ?_
    show Ev X 251 28 [some (vR (some 170)), some (vI (x1 + 1))] [] _ Q
    refine e_nx hcd rfl rfl ?_
    exact H
/-! X12_goesOn -/
set_option maxRecDepth 20000 in
set_option maxHeartbeats 8000000 in
theorem v_252 {X : PX} {σ : Sg} {Q : Option PV → Sg → Prop}   (H : InR (σ.1 170 19) ∧ (σ.1 170 19 < 50 → CV X 202 [vR (some 170)] σ (fun τ1 => InR (τ1.1 170 21) ∧ InR (σ.1 170 21) ∧ (τ1.1 170 21 ≤ σ.1 170 21 → InR (τ1.1 170 23) ∧ InR (τ1.1 170 39) ∧ (τ1.1 170 39 ≤ τ1.1 170 23 → Q (some (vI 1)) τ1) ∧ (¬ τ1.1 170 39 ≤ τ1.1 170 23 → Q (some (vI 1)) (up2 (up2 τ1.1 170 39 (τ1.1 170 23)) 170 38 (τ1.1 170 19), τ1.2))) ∧ (¬ τ1.1 170 21 ≤ σ.1 170 21 → InR (τ1.1 170 36) ∧ (τ1.1 170 36 ≠ (-1) → InR (τ1.1 170 23) ∧ InR (τ1.1 170 39) ∧ (τ1.1 170 39 ≤ τ1.1 170 23 → Q (some (vI 1)) τ1) ∧ (¬ τ1.1 170 39 ≤ τ1.1 170 23 → Q (some (vI 1)) (up2 (up2 τ1.1 170 39 (τ1.1 170 23)) 170 38 (τ1.1 170 19), τ1.2))) ∧ (¬ τ1.1 170 36 ≠ (-1) → InR (τ1.1 170 23) ∧ InR (τ1.1 170 39) ∧ (τ1.1 170 39 ≤ τ1.1 170 23 → Q (some (vI 1)) (up2 τ1.1 170 36 (τ1.1 170 22), τ1.2)) ∧ (¬ τ1.1 170 39 ≤ τ1.1 170 23 → Q (some (vI 1)) (up2 (up2 (up2 τ1.1 170 36 (τ1.1 170 22)) 170 39 (τ1.1 170 23)) 170 38 (τ1.1 170 19), τ1.2)))))) ∧ (¬ σ.1 170 19 < 50 → Q (some (vI 0)) σ)) : Cl X 252 [vR (some 170)] σ Q := by
  have hcd : cds 252 = cd_252 := rfl
  refine c_in (Nat.le_of_ble_eq_true rfl) rfl rfl ?_
  show Ev X 252 0 [some (vR (some 170)), none] [] σ Q
  refine e_nx hcd rfl rfl ?_
  refine r_getI hcd rfl rfl rfl ?_
  refine e_nx hcd rfl rfl ?_
  obtain ⟨h1, H⟩ := H
  refine r_icmp hcd rfl h1 (by omega) (fun hc => ?_) (fun hc => ?_)
  · replace H := H.1 hc
    refine e_nx hcd rfl rfl ?_
    refine r_getI hcd rfl rfl rfl ?_
    refine e_nx hcd rfl rfl ?_
    show Ev X 252 9 [some (vR (some 170)), some (vI (σ.1 170 21))] [] _ Q
    refine e_nx hcd rfl rfl ?_
    refine r_cv hcd rfl (by omega) rfl rfl rfl (Nat.le_of_ble_eq_true rfl) ?_
    refine Cl.mono H (fun v τ1 hq => ?_)
    obtain ⟨rfl, H⟩ := hq
    show Ev X 252 11 _ [] τ1 Q
    refine e_nx hcd rfl rfl ?_
    refine r_getI hcd rfl rfl rfl ?_
    refine e_nx hcd rfl rfl ?_
    obtain ⟨h2, H⟩ := H
    obtain ⟨h3, H⟩ := H
    refine r_icmp hcd rfl h2 h3 (fun hc => ?_) (fun hc => ?_)
    · replace H := H.1 hc
      refine e_nx hcd rfl rfl ?_
      refine r_getI hcd rfl rfl rfl ?_
      refine e_nx hcd rfl rfl ?_
      refine r_getI hcd rfl rfl rfl ?_
      obtain ⟨h4, H⟩ := H
      obtain ⟨h5, H⟩ := H
      refine r_icmp hcd rfl h4 h5 (fun hc => ?_) (fun hc => ?_)
      · replace H := H.1 hc
        refine e_nx hcd rfl rfl ?_
        exact r_zret hcd rfl rfl rfl (by omega) H
      · replace H := H.2 hc
        iterate 2 (refine e_nx hcd rfl rfl ?_)
        refine r_getI hcd rfl rfl rfl ?_
        refine r_putI hcd rfl rfl rfl rfl ?_
        iterate 2 (refine e_nx hcd rfl rfl ?_)
        refine r_getI hcd rfl rfl rfl ?_
        show Ev X 252 35 _ [vI (τ1.1 170 19), vR (some 170)] _ Q
        refine r_putI hcd rfl rfl rfl rfl ?_
        refine e_nx hcd rfl rfl ?_
        exact r_zret hcd rfl rfl rfl (by omega) H
    · replace H := H.2 hc
      refine e_nx hcd rfl rfl ?_
      refine r_getI hcd rfl rfl rfl ?_
      refine e_nx hcd rfl rfl ?_
      obtain ⟨h6, H⟩ := H
      refine r_icmp hcd rfl h6 (by omega) (fun hc => ?_) (fun hc => ?_)
      · replace H := H.1 hc
        refine e_nx hcd rfl rfl ?_
        refine r_getI hcd rfl rfl rfl ?_
        refine e_nx hcd rfl rfl ?_
        refine r_getI hcd rfl rfl rfl ?_
        obtain ⟨h7, H⟩ := H
        obtain ⟨h8, H⟩ := H
        refine r_icmp hcd rfl h7 h8 (fun hc => ?_) (fun hc => ?_)
        · replace H := H.1 hc
          refine e_nx hcd rfl rfl ?_
          exact r_zret hcd rfl rfl rfl (by omega) H
        · replace H := H.2 hc
          iterate 2 (refine e_nx hcd rfl rfl ?_)
          refine r_getI hcd rfl rfl rfl ?_
          refine r_putI hcd rfl rfl rfl rfl ?_
          iterate 2 (refine e_nx hcd rfl rfl ?_)
          refine r_getI hcd rfl rfl rfl ?_
          show Ev X 252 35 _ [vI (τ1.1 170 19), vR (some 170)] _ Q
          refine r_putI hcd rfl rfl rfl rfl ?_
          refine e_nx hcd rfl rfl ?_
          exact r_zret hcd rfl rfl rfl (by omega) H
      · replace H := H.2 hc
        iterate 2 (refine e_nx hcd rfl rfl ?_)
        refine r_getI hcd rfl rfl rfl ?_
        refine r_putI hcd rfl rfl rfl rfl ?_
        refine e_nx hcd rfl rfl ?_
        refine r_getI hcd rfl rfl rfl ?_
        show Ev X 252 25 _ [vI (τ1.1 170 23)] _ Q
        refine e_nx hcd rfl rfl ?_
        refine r_getI hcd rfl rfl rfl ?_
        show Ev X 252 27 _ [vI (τ1.1 170 39), vI (τ1.1 170 23)] _ Q
        obtain ⟨h9, H⟩ := H
        obtain ⟨h10, H⟩ := H
        refine r_icmp hcd rfl h9 h10 (fun hc => ?_) (fun hc => ?_)
        · replace H := H.1 hc
          refine e_nx hcd rfl rfl ?_
          exact r_zret hcd rfl rfl rfl (by omega) H
        · replace H := H.2 hc
          iterate 2 (refine e_nx hcd rfl rfl ?_)
          refine r_getI hcd rfl rfl rfl ?_
          show Ev X 252 31 _ [vI (τ1.1 170 23), vR (some 170)] _ Q
          refine r_putI hcd rfl rfl rfl rfl ?_
          iterate 2 (refine e_nx hcd rfl rfl ?_)
          refine r_getI hcd rfl rfl rfl ?_
          show Ev X 252 35 _ [vI (τ1.1 170 19), vR (some 170)] _ Q
          refine r_putI hcd rfl rfl rfl rfl ?_
          refine e_nx hcd rfl rfl ?_
          exact r_zret hcd rfl rfl rfl (by omega) H
  · replace H := H.2 hc
    refine e_nx hcd rfl rfl ?_
    exact r_zret hcd rfl rfl rfl (by omega) H
/-! X12_buys -/
set_option maxRecDepth 20000 in
set_option maxHeartbeats 8000000 in
theorem v_253 {X : PX} {σ : Sg} {Q : Option PV → Sg → Prop} {a1 : Int}  (H : CI X 190 [vR (some 170), vI a1] σ (fun r1 τ1 => InR r1 ∧ (r1 = 0 → Q (some (vI 0)) τ1) ∧ (¬ r1 = 0 → CI X 203 [vR (some 170), vI a1] τ1 (fun r3 τ2 => InR r3 ∧ (r3 ≠ 0 → (0 ≤ a1 ∧ a1 < 7) ∧ CV X 204 [vR (some 170), vI a1] (up2 τ2.1 170 35 ((τ2.1 170 35) + (τ2.1 170 15)), up2 τ2.2 181 a1.toNat ((τ2.2 181 a1.toNat) + 1)) (fun τ3 => Q (some (vI 1)) τ3)) ∧ (¬ r3 ≠ 0 → Q (some (vI 0)) τ2))))) : Cl X 253 [vR (some 170), vI a1] σ Q := by
  have hcd : cds 253 = cd_253 := rfl
  refine c_in (Nat.le_of_ble_eq_true rfl) rfl rfl ?_
  show Ev X 253 0 [some (vR (some 170)), some (vI a1)] [] σ Q
  iterate 2 (refine e_nx hcd rfl rfl ?_)
  refine r_cv hcd rfl (by omega) rfl rfl rfl (Nat.le_of_ble_eq_true rfl) ?_
  refine Cl.mono H (fun v τ1 hq => ?_)
  obtain ⟨r1, rfl, H⟩ := hq
  show Ev X 253 3 _ [vI r1] τ1 Q
  obtain ⟨h2, H⟩ := H
  refine r_if hcd rfl h2 (fun hc => ?_) (fun hc => ?_)
  · replace H := H.1 hc
    refine e_nx hcd rfl rfl ?_
    exact r_zret hcd rfl rfl rfl (by omega) H
  · replace H := H.2 hc
    iterate 2 (refine e_nx hcd rfl rfl ?_)
    refine r_cv hcd rfl (by omega) rfl rfl rfl (Nat.le_of_ble_eq_true rfl) ?_
    refine Cl.mono H (fun v τ2 hq => ?_)
    obtain ⟨r3, rfl, H⟩ := hq
    show Ev X 253 7 _ [vI r3] τ2 Q
    obtain ⟨h4, H⟩ := H
    refine r_if hcd rfl h4 (fun hc => ?_) (fun hc => ?_)
    · replace H := H.1 hc
      iterate 2 (refine e_nx hcd rfl rfl ?_)
      refine r_getI hcd rfl rfl rfl ?_
      refine e_nx hcd rfl rfl ?_
      refine r_getI hcd rfl rfl rfl ?_
      refine e_nx hcd rfl rfl ?_
      refine r_putI hcd rfl rfl rfl rfl ?_
      refine e_nx hcd rfl rfl ?_
      refine r_getR hcd rfl rfl rfl ?_
      iterate 2 (refine e_nx hcd rfl rfl ?_)
      obtain ⟨h5, H⟩ := H
      refine r_ild hcd rfl rfl (by omega) h5 ?_
      iterate 2 (refine e_nx hcd rfl rfl ?_)
      refine r_ist hcd rfl rfl (by omega) h5 ?_
      iterate 2 (refine e_nx hcd rfl rfl ?_)
      refine r_cv hcd rfl (by omega) rfl rfl rfl (Nat.le_of_ble_eq_true rfl) ?_
      refine Cl.mono H (fun v τ3 hq => ?_)
      obtain ⟨rfl, H⟩ := hq
      show Ev X 253 28 _ [] τ3 Q
      refine e_nx hcd rfl rfl ?_
      exact r_zret hcd rfl rfl rfl (by omega) H
    · replace H := H.2 hc
      refine e_nx hcd rfl rfl ?_
      exact r_zret hcd rfl rfl rfl (by omega) H
/-! X12_loses -/
theorem v_254 {X : PX} {σ : Sg} {Q : Option PV → Sg → Prop} {a1 : Int}  (H : CI X 190 [vR (some 170), vI a1] σ (fun r1 τ1 => InR r1 ∧ (r1 = 0 → Q (some (vI 0)) τ1) ∧ (¬ r1 = 0 → InR (iAnd (iShr (τ1.1 170 16) a1) 1) ∧ (iAnd (iShr (τ1.1 170 16) a1) 1 ≠ 0 → Q (some (vI 1)) (up2 τ1.1 170 16 (iAnd (τ1.1 170 16) (iXor (iShl 1 a1) (-1))), τ1.2)) ∧ (¬ iAnd (iShr (τ1.1 170 16) a1) 1 ≠ 0 → Q (some (vI 0)) τ1)))) : Cl X 254 [vR (some 170), vI a1] σ Q := by
  have hcd : cds 254 = cd_254 := rfl
  refine c_in (Nat.le_of_ble_eq_true rfl) rfl rfl ?_
  show Ev X 254 0 [some (vR (some 170)), some (vI a1)] [] σ Q
  iterate 2 (refine e_nx hcd rfl rfl ?_)
  refine r_cv hcd rfl (by omega) rfl rfl rfl (Nat.le_of_ble_eq_true rfl) ?_
  refine Cl.mono H (fun v τ1 hq => ?_)
  obtain ⟨r1, rfl, H⟩ := hq
  show Ev X 254 3 _ [vI r1] τ1 Q
  obtain ⟨h2, H⟩ := H
  refine r_if hcd rfl h2 (fun hc => ?_) (fun hc => ?_)
  · replace H := H.1 hc
    refine e_nx hcd rfl rfl ?_
    exact r_zret hcd rfl rfl rfl (by omega) H
  · replace H := H.2 hc
    refine e_nx hcd rfl rfl ?_
    refine r_getI hcd rfl rfl rfl ?_
    iterate 4 (refine e_nx hcd rfl rfl ?_)
    obtain ⟨h3, H⟩ := H
    refine r_if hcd rfl h3 (fun hc => ?_) (fun hc => ?_)
    · replace H := H.1 hc
      iterate 2 (refine e_nx hcd rfl rfl ?_)
      refine r_getI hcd rfl rfl rfl ?_
      iterate 6 (refine e_nx hcd rfl rfl ?_)
      refine r_putI hcd rfl rfl rfl rfl ?_
      refine e_nx hcd rfl rfl ?_
      exact r_zret hcd rfl rfl rfl (by omega) H
    · replace H := H.2 hc
      refine e_nx hcd rfl rfl ?_
      exact r_zret hcd rfl rfl rfl (by omega) H
/-! X12_sets -/
set_option maxRecDepth 20000 in
set_option maxHeartbeats 8000000 in
theorem v_255 {X : PX} {σ : Sg} {Q : Option PV → Sg → Prop} {a1 : Int} {a2 : Int}  (H : InR a1 ∧ (a1 = 0 → InR (σ.1 170 15) ∧ InR a2 ∧ (σ.1 170 15 ≠ a2 → (a1 = 0 → (a1 = 0 → Q (some (vI 1)) (up2 (up2 σ.1 170 14 (σ.1 170 14)) 170 15 a2, σ.2)) ∧ (¬ a1 = 0 → Q (some (vI 1)) (up2 (up2 σ.1 170 14 (σ.1 170 14)) 170 15 (σ.1 170 15), σ.2))) ∧ (¬ a1 = 0 → (a1 = 0 → Q (some (vI 1)) (up2 (up2 σ.1 170 14 a2) 170 15 a2, σ.2)) ∧ (¬ a1 = 0 → Q (some (vI 1)) (up2 (up2 σ.1 170 14 a2) 170 15 (σ.1 170 15), σ.2)))) ∧ (¬ σ.1 170 15 ≠ a2 → Q (some (vI 0)) σ)) ∧ (¬ a1 = 0 → InR (σ.1 170 14) ∧ InR a2 ∧ (σ.1 170 14 ≠ a2 → (a1 = 0 → (a1 = 0 → Q (some (vI 1)) (up2 (up2 σ.1 170 14 (σ.1 170 14)) 170 15 a2, σ.2)) ∧ (¬ a1 = 0 → Q (some (vI 1)) (up2 (up2 σ.1 170 14 (σ.1 170 14)) 170 15 (σ.1 170 15), σ.2))) ∧ (¬ a1 = 0 → (a1 = 0 → Q (some (vI 1)) (up2 (up2 σ.1 170 14 a2) 170 15 a2, σ.2)) ∧ (¬ a1 = 0 → Q (some (vI 1)) (up2 (up2 σ.1 170 14 a2) 170 15 (σ.1 170 15), σ.2)))) ∧ (¬ σ.1 170 14 ≠ a2 → Q (some (vI 0)) σ))) : Cl X 255 [vR (some 170), vI a1, vI a2] σ Q := by
  have hcd : cds 255 = cd_255 := rfl
  refine c_in (Nat.le_of_ble_eq_true rfl) rfl rfl ?_
  show Ev X 255 0 [some (vR (some 170)), some (vI a1), some (vI a2)] [] σ Q
  refine e_nx hcd rfl rfl ?_
  obtain ⟨h1, H⟩ := H
  refine r_if hcd rfl h1 (fun hc => ?_) (fun hc => ?_)
  · replace H := H.1 hc
    refine e_nx hcd rfl rfl ?_
    refine r_getI hcd rfl rfl rfl ?_
    refine e_nx hcd rfl rfl ?_
    obtain ⟨h2, H⟩ := H
    obtain ⟨h3, H⟩ := H
    refine r_icmp hcd rfl h2 h3 (fun hc => ?_) (fun hc => ?_)
    · replace H := H.1 hc
      iterate 2 (refine e_nx hcd rfl rfl ?_)
      refine r_if hcd rfl h1 (fun hc => ?_) (fun hc => ?_)
      · replace H := H.1 hc
        refine e_nx hcd rfl rfl ?_
        refine r_getI hcd rfl rfl rfl ?_
        refine r_putI hcd rfl rfl rfl rfl ?_
        iterate 2 (refine e_nx hcd rfl rfl ?_)
        refine r_if hcd rfl h1 (fun hc => ?_) (fun hc => ?_)
        · replace H := H.1 hc
          refine e_nx hcd rfl rfl ?_
          refine r_putI hcd rfl rfl rfl rfl ?_
          refine e_nx hcd rfl rfl ?_
          exact r_zret hcd rfl rfl rfl (by omega) H
        · replace H := H.2 hc
          refine e_nx hcd rfl rfl ?_
          refine r_getI hcd rfl rfl rfl ?_
          show Ev X 255 24 _ [vI (σ.1 170 15), vR (some 170)] _ Q
          refine e_nx hcd rfl rfl ?_
          refine r_putI hcd rfl rfl rfl rfl ?_
          refine e_nx hcd rfl rfl ?_
          exact r_zret hcd rfl rfl rfl (by omega) H
      · replace H := H.2 hc
        iterate 2 (refine e_nx hcd rfl rfl ?_)
        refine r_putI hcd rfl rfl rfl rfl ?_
        iterate 2 (refine e_nx hcd rfl rfl ?_)
        refine r_if hcd rfl h1 (fun hc => ?_) (fun hc => ?_)
        · replace H := H.1 hc
          refine e_nx hcd rfl rfl ?_
          refine r_putI hcd rfl rfl rfl rfl ?_
          refine e_nx hcd rfl rfl ?_
          exact r_zret hcd rfl rfl rfl (by omega) H
        · replace H := H.2 hc
          refine e_nx hcd rfl rfl ?_
          refine r_getI hcd rfl rfl rfl ?_
          show Ev X 255 24 _ [vI (σ.1 170 15), vR (some 170)] _ Q
          refine e_nx hcd rfl rfl ?_
          refine r_putI hcd rfl rfl rfl rfl ?_
          refine e_nx hcd rfl rfl ?_
          exact r_zret hcd rfl rfl rfl (by omega) H
    · replace H := H.2 hc
      refine e_nx hcd rfl rfl ?_
      exact r_zret hcd rfl rfl rfl (by omega) H
  · replace H := H.2 hc
    refine e_nx hcd rfl rfl ?_
    refine r_getI hcd rfl rfl rfl ?_
    iterate 2 (refine e_nx hcd rfl rfl ?_)
    obtain ⟨h4, H⟩ := H
    obtain ⟨h5, H⟩ := H
    refine r_icmp hcd rfl h4 h5 (fun hc => ?_) (fun hc => ?_)
    · replace H := H.1 hc
      iterate 2 (refine e_nx hcd rfl rfl ?_)
      refine r_if hcd rfl h1 (fun hc => ?_) (fun hc => ?_)
      · replace H := H.1 hc
        refine e_nx hcd rfl rfl ?_
        refine r_getI hcd rfl rfl rfl ?_
        refine r_putI hcd rfl rfl rfl rfl ?_
        iterate 2 (refine e_nx hcd rfl rfl ?_)
        refine r_if hcd rfl h1 (fun hc => ?_) (fun hc => ?_)
        · replace H := H.1 hc
          refine e_nx hcd rfl rfl ?_
          refine r_putI hcd rfl rfl rfl rfl ?_
          refine e_nx hcd rfl rfl ?_
          exact r_zret hcd rfl rfl rfl (by omega) H
        · replace H := H.2 hc
          refine e_nx hcd rfl rfl ?_
          refine r_getI hcd rfl rfl rfl ?_
          show Ev X 255 24 _ [vI (σ.1 170 15), vR (some 170)] _ Q
          refine e_nx hcd rfl rfl ?_
          refine r_putI hcd rfl rfl rfl rfl ?_
          refine e_nx hcd rfl rfl ?_
          exact r_zret hcd rfl rfl rfl (by omega) H
      · replace H := H.2 hc
        iterate 2 (refine e_nx hcd rfl rfl ?_)
        refine r_putI hcd rfl rfl rfl rfl ?_
        iterate 2 (refine e_nx hcd rfl rfl ?_)
        refine r_if hcd rfl h1 (fun hc => ?_) (fun hc => ?_)
        · replace H := H.1 hc
          refine e_nx hcd rfl rfl ?_
          refine r_putI hcd rfl rfl rfl rfl ?_
          refine e_nx hcd rfl rfl ?_
          exact r_zret hcd rfl rfl rfl (by omega) H
        · replace H := H.2 hc
          refine e_nx hcd rfl rfl ?_
          refine r_getI hcd rfl rfl rfl ?_
          show Ev X 255 24 _ [vI (σ.1 170 15), vR (some 170)] _ Q
          refine e_nx hcd rfl rfl ?_
          refine r_putI hcd rfl rfl rfl rfl ?_
          refine e_nx hcd rfl rfl ?_
          exact r_zret hcd rfl rfl rfl (by omega) H
    · replace H := H.2 hc
      refine e_nx hcd rfl rfl ?_
      exact r_zret hcd rfl rfl rfl (by omega) H
/-! X12_cutsRule -/
theorem v_256 {X : PX} {σ : Sg} {Q : Option PV → Sg → Prop} {a1 : Int}  (H : InR a1 ∧ InR (σ.1 170 13) ∧ (σ.1 170 13 ≤ a1 → Q (some (vI 0)) σ) ∧ (¬ σ.1 170 13 ≤ a1 → InR (iAnd (iShr (σ.1 170 17) a1) 1) ∧ (iAnd (iShr (σ.1 170 17) a1) 1 ≠ 1 → Q (some (vI 1)) (up2 σ.1 170 17 (iOr (σ.1 170 17) (iShl 1 a1)), σ.2)) ∧ (¬ iAnd (iShr (σ.1 170 17) a1) 1 ≠ 1 → Q (some (vI 0)) σ))) : Cl X 256 [vR (some 170), vI a1] σ Q := by
  have hcd : cds 256 = cd_256 := rfl
  refine c_in (Nat.le_of_ble_eq_true rfl) rfl rfl ?_
  show Ev X 256 0 [some (vR (some 170)), some (vI a1)] [] σ Q
  iterate 2 (refine e_nx hcd rfl rfl ?_)
  refine r_getI hcd rfl rfl rfl ?_
  obtain ⟨h1, H⟩ := H
  obtain ⟨h2, H⟩ := H
  refine r_icmp hcd rfl h1 h2 (fun hc => ?_) (fun hc => ?_)
  · replace H := H.1 hc
    refine e_nx hcd rfl rfl ?_
    exact r_zret hcd rfl rfl rfl (by omega) H
  · replace H := H.2 hc
    refine e_nx hcd rfl rfl ?_
    refine r_getI hcd rfl rfl rfl ?_
    iterate 5 (refine e_nx hcd rfl rfl ?_)
    obtain ⟨h3, H⟩ := H
    refine r_icmp hcd rfl h3 (by omega) (fun hc => ?_) (fun hc => ?_)
    · replace H := H.1 hc
      iterate 2 (refine e_nx hcd rfl rfl ?_)
      refine r_getI hcd rfl rfl rfl ?_
      iterate 4 (refine e_nx hcd rfl rfl ?_)
      refine r_putI hcd rfl rfl rfl rfl ?_
      refine e_nx hcd rfl rfl ?_
      exact r_zret hcd rfl rfl rfl (by omega) H
    · replace H := H.2 hc
      refine e_nx hcd rfl rfl ?_
      exact r_zret hcd rfl rfl rfl (by omega) H
/-! X12_does -/
set_option maxRecDepth 20000 in
set_option maxHeartbeats 8000000 in
theorem v_257 {X : PX} {σ : Sg} {Q : Option PV → Sg → Prop} {a1 : Int} {a2 : Int}  (H : InR a1 ∧ (a1 = 0 → CI X 252 [vR (some 170)] σ (fun r2 τ1 => (r2 = 0 ∨ r2 = 1) ∧ Q (some (vI r2)) τ1)) ∧ (a1 = 1 → CI X 253 [vR (some 170), vI a2] σ (fun r4 τ2 => (r4 = 0 ∨ r4 = 1) ∧ Q (some (vI r4)) τ2)) ∧ (a1 = 2 → CI X 254 [vR (some 170), vI a2] σ (fun r6 τ3 => (r6 = 0 ∨ r6 = 1) ∧ Q (some (vI r6)) τ3)) ∧ (a1 = 3 → (a1 ≠ 3 → CI X 255 [vR (some 170), vI 0, vI a2] σ (fun r8 τ4 => (r8 = 0 ∨ r8 = 1) ∧ Q (some (vI r8)) τ4)) ∧ (¬ a1 ≠ 3 → CI X 255 [vR (some 170), vI 1, vI a2] σ (fun r10 τ5 => (r10 = 0 ∨ r10 = 1) ∧ Q (some (vI r10)) τ5))) ∧ (a1 = 4 → (a1 ≠ 3 → CI X 255 [vR (some 170), vI 0, vI a2] σ (fun r12 τ6 => (r12 = 0 ∨ r12 = 1) ∧ Q (some (vI r12)) τ6)) ∧ (¬ a1 ≠ 3 → CI X 255 [vR (some 170), vI 1, vI a2] σ (fun r14 τ7 => (r14 = 0 ∨ r14 = 1) ∧ Q (some (vI r14)) τ7))) ∧ (a1 ≠ 0 ∧ a1 ≠ 1 ∧ a1 ≠ 2 ∧ a1 ≠ 3 ∧ a1 ≠ 4 → CI X 256 [vR (some 170), vI a2] σ (fun r16 τ8 => (r16 = 0 ∨ r16 = 1) ∧ Q (some (vI r16)) τ8))) : Cl X 257 [vR (some 170), vI a1, vI a2] σ Q := by
  have hcd : cds 257 = cd_257 := rfl
  refine c_in (Nat.le_of_ble_eq_true rfl) rfl rfl ?_
  show Ev X 257 0 [some (vR (some 170)), some (vI a1), some (vI a2)] [] σ Q
  refine e_nx hcd rfl rfl ?_
  obtain ⟨h1, H⟩ := H
  refine r_tab hcd rfl h1 ?_
  by_cases hs18 : a1 = 0
  · replace H := H.1 hs18
    refine e_pc (i2 := 2) (by rw [hs18]; rfl) ?_
    refine e_nx hcd rfl rfl ?_
    refine r_cv hcd rfl (by omega) rfl rfl rfl (Nat.le_of_ble_eq_true rfl) ?_
    refine Cl.mono H (fun v τ1 hq => ?_)
    obtain ⟨r2, rfl, H⟩ := hq
    show Ev X 257 4 _ [vI r2] τ1 Q
    obtain ⟨h3, H⟩ := H
    exact r_zret hcd rfl rfl rfl h3 H
  by_cases hs19 : a1 = 1
  · replace H := H.2.1 hs19
    refine e_pc (i2 := 5) (by rw [hs19]; rfl) ?_
    iterate 2 (refine e_nx hcd rfl rfl ?_)
    refine r_cv hcd rfl (by omega) rfl rfl rfl (Nat.le_of_ble_eq_true rfl) ?_
    refine Cl.mono H (fun v τ2 hq => ?_)
    obtain ⟨r4, rfl, H⟩ := hq
    show Ev X 257 8 _ [vI r4] τ2 Q
    obtain ⟨h5, H⟩ := H
    exact r_zret hcd rfl rfl rfl h5 H
  by_cases hs20 : a1 = 2
  · replace H := H.2.2.1 hs20
    refine e_pc (i2 := 9) (by rw [hs20]; rfl) ?_
    iterate 2 (refine e_nx hcd rfl rfl ?_)
    refine r_cv hcd rfl (by omega) rfl rfl rfl (Nat.le_of_ble_eq_true rfl) ?_
    refine Cl.mono H (fun v τ3 hq => ?_)
    obtain ⟨r6, rfl, H⟩ := hq
    show Ev X 257 12 _ [vI r6] τ3 Q
    obtain ⟨h7, H⟩ := H
    exact r_zret hcd rfl rfl rfl h7 H
  by_cases hs21 : a1 = 3
  · replace H := H.2.2.2.1 hs21
    refine e_pc (i2 := 13) (by rw [hs21]; rfl) ?_
    iterate 3 (refine e_nx hcd rfl rfl ?_)
    refine r_icmp hcd rfl h1 (by omega) (fun hc => ?_) (fun hc => ?_)
    · replace H := H.1 hc
      iterate 2 (refine e_nx hcd rfl rfl ?_)
      refine r_cv hcd rfl (by omega) rfl rfl rfl (Nat.le_of_ble_eq_true rfl) ?_
      refine Cl.mono H (fun v τ4 hq => ?_)
      obtain ⟨r8, rfl, H⟩ := hq
      show Ev X 257 22 _ [vI r8] τ4 Q
      obtain ⟨h9, H⟩ := H
      exact r_zret hcd rfl rfl rfl h9 H
    · replace H := H.2 hc
      iterate 3 (refine e_nx hcd rfl rfl ?_)
      refine r_cv hcd rfl (by omega) rfl rfl rfl (Nat.le_of_ble_eq_true rfl) ?_
      refine Cl.mono H (fun v τ5 hq => ?_)
      obtain ⟨r10, rfl, H⟩ := hq
      show Ev X 257 22 _ [vI r10] τ5 Q
      obtain ⟨h11, H⟩ := H
      exact r_zret hcd rfl rfl rfl h11 H
  by_cases hs22 : a1 = 4
  · replace H := H.2.2.2.2.1 hs22
    refine e_pc (i2 := 13) (by rw [hs22]; rfl) ?_
    iterate 3 (refine e_nx hcd rfl rfl ?_)
    refine r_icmp hcd rfl h1 (by omega) (fun hc => ?_) (fun hc => ?_)
    · replace H := H.1 hc
      iterate 2 (refine e_nx hcd rfl rfl ?_)
      refine r_cv hcd rfl (by omega) rfl rfl rfl (Nat.le_of_ble_eq_true rfl) ?_
      refine Cl.mono H (fun v τ6 hq => ?_)
      obtain ⟨r12, rfl, H⟩ := hq
      show Ev X 257 22 _ [vI r12] τ6 Q
      obtain ⟨h13, H⟩ := H
      exact r_zret hcd rfl rfl rfl h13 H
    · replace H := H.2 hc
      iterate 3 (refine e_nx hcd rfl rfl ?_)
      refine r_cv hcd rfl (by omega) rfl rfl rfl (Nat.le_of_ble_eq_true rfl) ?_
      refine Cl.mono H (fun v τ7 hq => ?_)
      obtain ⟨r14, rfl, H⟩ := hq
      show Ev X 257 22 _ [vI r14] τ7 Q
      obtain ⟨h15, H⟩ := H
      exact r_zret hcd rfl rfl rfl h15 H
  replace H := H.2.2.2.2.2 ⟨hs18, hs19, hs20, hs21, hs22⟩
  refine e_pc (i2 := 23) (tab_def (lo := 0) (hi := 4) (fun h1 h2 => ?_)) ?_
  · omega
  · refine e_nx hcd rfl rfl ?_
    refine e_nx hcd rfl rfl ?_
    refine r_cv hcd rfl (by omega) rfl rfl rfl (Nat.le_of_ble_eq_true rfl) ?_
    refine Cl.mono H (fun v τ8 hq => ?_)
    obtain ⟨r16, rfl, H⟩ := hq
    show Ev X 257 26 _ [vI r16] τ8 Q
    obtain ⟨h17, H⟩ := H
    exact r_zret hcd rfl rfl rfl h17 H
/-! X12_doesOne -/
set_option maxRecDepth 20000 in
set_option maxHeartbeats 8000000 in
theorem v_258 {X : PX} {σ : Sg} {Q : Option PV → Sg → Prop} {a1 : Int} {a2 : Int}  (H : CI X 257 [vR (some 170), vI a1, vI a2] σ (fun r1 τ1 => InR r1 ∧ (r1 ≠ 0 → CV X 199 [vR (some 170)] τ1 (fun τ2 => CI X 195 [vI (τ2.1 170 18)] τ2 (fun r3 τ3 => InR r3 ∧ InR (τ3.1 170 37) ∧ (r3 ≤ τ3.1 170 37 → Q (some (vI 1)) (up2 τ3.1 170 37 (τ3.1 170 37), τ3.2)) ∧ (¬ r3 ≤ τ3.1 170 37 → CI X 195 [vI (τ3.1 170 18)] τ3 (fun r6 τ4 => Q (some (vI 1)) (up2 τ4.1 170 37 r6, τ4.2)))))) ∧ (¬ r1 ≠ 0 → Q (some (vI 0)) τ1))) : Cl X 258 [vR (some 170), vI a1, vI a2] σ Q := by
  have hcd : cds 258 = cd_258 := rfl
  refine c_in (Nat.le_of_ble_eq_true rfl) rfl rfl ?_
  show Ev X 258 0 [some (vR (some 170)), some (vI a1), some (vI a2)] [] σ Q
  iterate 3 (refine e_nx hcd rfl rfl ?_)
  refine r_cv hcd rfl (by omega) rfl rfl rfl (Nat.le_of_ble_eq_true rfl) ?_
  refine Cl.mono H (fun v τ1 hq => ?_)
  obtain ⟨r1, rfl, H⟩ := hq
  show Ev X 258 4 _ [vI r1] τ1 Q
  obtain ⟨h2, H⟩ := H
  refine r_if hcd rfl h2 (fun hc => ?_) (fun hc => ?_)
  · replace H := H.1 hc
    refine e_nx hcd rfl rfl ?_
    refine r_cv hcd rfl (by omega) rfl rfl rfl (Nat.le_of_ble_eq_true rfl) ?_
    refine Cl.mono H (fun v τ2 hq => ?_)
    obtain ⟨rfl, H⟩ := hq
    show Ev X 258 9 _ [] τ2 Q
    iterate 2 (refine e_nx hcd rfl rfl ?_)
    refine r_getI hcd rfl rfl rfl ?_
    refine r_cs hcd rfl (by omega) (Nat.le_of_ble_eq_true rfl) rfl rfl (Nat.le_of_ble_eq_true rfl) ?_
    refine Cl.mono H (fun v τ3 hq => ?_)
    obtain ⟨r3, rfl, H⟩ := hq
    show Ev X 258 13 _ [vI r3, vR (some 170)] τ3 Q
    refine e_nx hcd rfl rfl ?_
    refine r_getI hcd rfl rfl rfl ?_
    obtain ⟨h4, H⟩ := H
    obtain ⟨h5, H⟩ := H
    refine r_icmp hcd rfl h4 h5 (fun hc => ?_) (fun hc => ?_)
    · replace H := H.1 hc
      refine e_nx hcd rfl rfl ?_
      refine r_getI hcd rfl rfl rfl ?_
      refine r_putI hcd rfl rfl rfl rfl ?_
      refine e_nx hcd rfl rfl ?_
      exact r_zret hcd rfl rfl rfl (by omega) H
    · replace H := H.2 hc
      refine e_nx hcd rfl rfl ?_
      refine r_getI hcd rfl rfl rfl ?_
      refine r_cs hcd rfl (by omega) (Nat.le_of_ble_eq_true rfl) rfl rfl (Nat.le_of_ble_eq_true rfl) ?_
      refine Cl.mono H (fun v τ4 hq => ?_)
      obtain ⟨r6, rfl, H⟩ := hq
      show Ev X 258 19 _ [vI r6, vR (some 170)] τ4 Q
      refine e_nx hcd rfl rfl ?_
      refine r_putI hcd rfl rfl rfl rfl ?_
      refine e_nx hcd rfl rfl ?_
      exact r_zret hcd rfl rfl rfl (by omega) H
  · replace H := H.2 hc
    refine e_nx hcd rfl rfl ?_
    exact r_zret hcd rfl rfl rfl (by omega) H
/-! X12_runs -/
theorem v_259 {X : PX} {σ : Sg} {Q : Option PV → Sg → Prop} {a1 : Int}  (H : CV X 251 [vR (some 170)] σ (fun τ1 => Ev X 259 2 [some (vR (some 170)), some (vI a1)] [] τ1 Q)) : Cl X 259 [vR (some 170), vI a1] σ Q := by
  have hcd : cds 259 = cd_259 := rfl
  refine c_in (Nat.le_of_ble_eq_true rfl) rfl rfl ?_
  show Ev X 259 0 [some (vR (some 170)), some (vI a1)] [] σ Q
  refine e_nx hcd rfl rfl ?_
  refine r_cv hcd rfl (by omega) rfl rfl rfl (Nat.le_of_ble_eq_true rfl) ?_
  refine Cl.mono H (fun v τ1 hq => ?_)
  obtain ⟨rfl, H⟩ := hq
  show Ev X 259 2 _ [] τ1 Q
  exact H
set_option maxRecDepth 20000 in
set_option maxHeartbeats 8000000 in
theorem v_259_2 {X : PX} {σ : Sg} {Q : Option PV → Sg → Prop} {x1 : Int}  (H : InR (σ.1 170 22) ∧ InR x1 ∧ (x1 ≤ σ.1 170 22 → Q none σ) ∧ (¬ x1 ≤ σ.1 170 22 → (0 ≤ σ.1 170 34 ∧ σ.1 170 34 < 3616) ∧ InR (σ.2 171 (σ.1 170 34).toNat) ∧ (σ.2 171 (σ.1 170 34).toNat ≤ σ.1 170 22 → Q none σ) ∧ (¬ σ.2 171 (σ.1 170 34).toNat ≤ σ.1 170 22 → (0 ≤ ((σ.1 170 34) + 1) + (2 * (σ.1 170 22)) ∧ ((σ.1 170 34) + 1) + (2 * (σ.1 170 22)) < 3616) ∧ (0 ≤ ((σ.1 170 34) + 2) + (2 * (σ.1 170 22)) ∧ ((σ.1 170 34) + 2) + (2 * (σ.1 170 22)) < 3616) ∧ CI X 258 [vR (some 170), vI (σ.2 171 (((σ.1 170 34) + 1) + (2 * (σ.1 170 22))).toNat), vI (σ.2 171 (((σ.1 170 34) + 2) + (2 * (σ.1 170 22))).toNat)] σ (fun r7 τ1 => InR r7 ∧ (r7 = 0 → Q none τ1) ∧ (¬ r7 = 0 → Ev X 259 2 [some (vR (some 170)), some (vI x1)] [] (up2 τ1.1 170 22 ((τ1.1 170 22) + 1), τ1.2) Q))))) : Ev X 259 2 [some (vR (some 170)), some (vI x1)] [] σ Q := by
  have hcd : cds 259 = cd_259 := rfl
  refine e_nx hcd rfl rfl ?_
  refine r_getI hcd rfl rfl rfl ?_
  refine e_nx hcd rfl rfl ?_
  obtain ⟨h1, H⟩ := H
  obtain ⟨h2, H⟩ := H
  refine r_icmp hcd rfl h1 h2 (fun hc => ?_) (fun hc => ?_)
  · replace H := H.1 hc
    exact r_vret hcd rfl rfl rfl H
  · replace H := H.2 hc
    refine e_nx hcd rfl rfl ?_
    refine r_getI hcd rfl rfl rfl ?_
    refine e_nx hcd rfl rfl ?_
    refine r_getR hcd rfl rfl rfl ?_
    refine e_nx hcd rfl rfl ?_
    refine r_getI hcd rfl rfl rfl ?_
    obtain ⟨h3, H⟩ := H
    refine r_ild hcd rfl rfl (by omega) h3 ?_
    obtain ⟨h4, H⟩ := H
    refine r_icmp hcd rfl h1 h4 (fun hc => ?_) (fun hc => ?_)
    · replace H := H.1 hc
      exact r_vret hcd rfl rfl rfl H
    · replace H := H.2 hc
      iterate 2 (refine e_nx hcd rfl rfl ?_)
      refine r_getR hcd rfl rfl rfl ?_
      refine e_nx hcd rfl rfl ?_
      refine r_getI hcd rfl rfl rfl ?_
      iterate 4 (refine e_nx hcd rfl rfl ?_)
      refine r_getI hcd rfl rfl rfl ?_
      iterate 2 (refine e_nx hcd rfl rfl ?_)
      obtain ⟨h5, H⟩ := H
      refine r_ild hcd rfl rfl (by omega) h5 ?_
      refine e_nx hcd rfl rfl ?_
      refine r_getR hcd rfl rfl rfl ?_
      refine e_nx hcd rfl rfl ?_
      refine r_getI hcd rfl rfl rfl ?_
      iterate 4 (refine e_nx hcd rfl rfl ?_)
      refine r_getI hcd rfl rfl rfl ?_
      iterate 2 (refine e_nx hcd rfl rfl ?_)
      obtain ⟨h6, H⟩ := H
      refine r_ild hcd rfl rfl (by omega) h6 ?_
      refine r_cv hcd rfl (by omega) rfl rfl rfl (Nat.le_of_ble_eq_true rfl) ?_
      refine Cl.mono H (fun v τ1 hq => ?_)
      obtain ⟨r7, rfl, H⟩ := hq
      show Ev X 259 40 _ [vI r7] τ1 Q
      obtain ⟨h8, H⟩ := H
      refine r_if hcd rfl h8 (fun hc => ?_) (fun hc => ?_)
      · replace H := H.1 hc
        exact r_vret hcd rfl rfl rfl H
      · replace H := H.2 hc
        iterate 2 (refine e_nx hcd rfl rfl ?_)
        refine r_getI hcd rfl rfl rfl ?_
        iterate 2 (refine e_nx hcd rfl rfl ?_)
        refine r_putI hcd rfl rfl rfl rfl ?_
        refine e_nx hcd rfl rfl ?_
        exact H
/-! X12_stop -/
theorem v_260 {X : PX} {σ : Sg} {Q : Option PV → Sg → Prop} {a1 : Int} {a2 : Int}  (H : CI X 189 [vR (some 170), vI a1] σ (fun r1 τ1 => InR r1 ∧ (r1 = 0 → Q (some (vI (-1))) τ1) ∧ (¬ r1 = 0 → CI X 249 [vR (some 170), vI a2] τ1 (fun r3 τ2 => InR r3 ∧ (r3 ≠ 0 → CV X 259 [vR (some 170), vI 40] τ2 (fun τ3 => Q (some (vI (τ3.1 170 22))) τ3)) ∧ (¬ r3 ≠ 0 → Q (some (vI (-1))) τ2))))) : Cl X 260 [vR (some 170), vI a1, vI a2] σ Q := by
  have hcd : cds 260 = cd_260 := rfl
  refine c_in (Nat.le_of_ble_eq_true rfl) rfl rfl ?_
  show Ev X 260 0 [some (vR (some 170)), some (vI a1), some (vI a2)] [] σ Q
  iterate 2 (refine e_nx hcd rfl rfl ?_)
  refine r_cv hcd rfl (by omega) rfl rfl rfl (Nat.le_of_ble_eq_true rfl) ?_
  refine Cl.mono H (fun v τ1 hq => ?_)
  obtain ⟨r1, rfl, H⟩ := hq
  show Ev X 260 3 _ [vI r1] τ1 Q
  obtain ⟨h2, H⟩ := H
  refine r_if hcd rfl h2 (fun hc => ?_) (fun hc => ?_)
  · replace H := H.1 hc
    refine e_nx hcd rfl rfl ?_
    exact r_iret hcd rfl rfl rfl H
  · replace H := H.2 hc
    iterate 2 (refine e_nx hcd rfl rfl ?_)
    refine r_cv hcd rfl (by omega) rfl rfl rfl (Nat.le_of_ble_eq_true rfl) ?_
    refine Cl.mono H (fun v τ2 hq => ?_)
    obtain ⟨r3, rfl, H⟩ := hq
    show Ev X 260 7 _ [vI r3] τ2 Q
    obtain ⟨h4, H⟩ := H
    refine r_if hcd rfl h4 (fun hc => ?_) (fun hc => ?_)
    · replace H := H.1 hc
      iterate 2 (refine e_nx hcd rfl rfl ?_)
      refine r_cv hcd rfl (by omega) rfl rfl rfl (Nat.le_of_ble_eq_true rfl) ?_
      refine Cl.mono H (fun v τ3 hq => ?_)
      obtain ⟨rfl, H⟩ := hq
      show Ev X 260 13 _ [] τ3 Q
      refine e_nx hcd rfl rfl ?_
      refine r_getI hcd rfl rfl rfl ?_
      exact r_iret hcd rfl rfl rfl H
    · replace H := H.2 hc
      refine e_nx hcd rfl rfl ?_
      exact r_iret hcd rfl rfl rfl H
/-! X12_nowOf -/
set_option maxRecDepth 20000 in
set_option maxHeartbeats 8000000 in
theorem v_261 {X : PX} {σ : Sg} {Q : Option PV → Sg → Prop} {a1 : Int}  (H : InR a1 ∧ (a1 = 0 → Q (some (vI (σ.1 170 19))) σ) ∧ (a1 = 1 → Q (some (vI (σ.1 170 20))) σ) ∧ (a1 = 2 → Q (some (vI (σ.1 170 21))) σ) ∧ (a1 = 3 → Q (some (vI (σ.1 170 16))) σ) ∧ (a1 = 4 → Q (some (vI (σ.1 170 18))) σ) ∧ (a1 = 5 → Q (some (vI (σ.1 170 14))) σ) ∧ (a1 = 6 → Q (some (vI (σ.1 170 15))) σ) ∧ (a1 = 7 → Q (some (vI (σ.1 170 17))) σ) ∧ (a1 ≠ 0 ∧ a1 ≠ 1 ∧ a1 ≠ 2 ∧ a1 ≠ 3 ∧ a1 ≠ 4 ∧ a1 ≠ 5 ∧ a1 ≠ 6 ∧ a1 ≠ 7 → CI X 161 [vI a1, vI 10, vI 29] σ (fun r2 τ1 => InR r2 ∧ (r2 = 0 → Q (some (vI (-2))) τ1) ∧ (¬ r2 = 0 → CI X 190 [vR (some 170), vI (iRem a1 10)] τ1 (fun r4 τ2 => InR r4 ∧ (r4 ≠ 0 → (20 ≤ a1 → (0 ≤ iRem a1 10 ∧ iRem a1 10 < 7) ∧ Q (some (vI (τ2.2 175 (iRem a1 10).toNat))) τ2) ∧ (¬ 20 ≤ a1 → (0 ≤ iRem a1 10 ∧ iRem a1 10 < 7) ∧ Q (some (vI (τ2.2 174 (iRem a1 10).toNat))) τ2)) ∧ (¬ r4 ≠ 0 → Q (some (vI (-2))) τ2)))))) : Cl X 261 [vR (some 170), vI a1] σ Q := by
  have hcd : cds 261 = cd_261 := rfl
  refine c_in (Nat.le_of_ble_eq_true rfl) rfl rfl ?_
  show Ev X 261 0 [some (vR (some 170)), some (vI a1), none] [] σ Q
  refine e_nx hcd rfl rfl ?_
  obtain ⟨h1, H⟩ := H
  refine r_tab hcd rfl h1 ?_
  by_cases hs8 : a1 = 0
  · replace H := H.1 hs8
    refine e_pc (i2 := 2) (by rw [hs8]; rfl) ?_
    refine e_nx hcd rfl rfl ?_
    refine r_getI hcd rfl rfl rfl ?_
    exact r_iret hcd rfl rfl rfl H
  by_cases hs9 : a1 = 1
  · replace H := H.2.1 hs9
    refine e_pc (i2 := 5) (by rw [hs9]; rfl) ?_
    refine e_nx hcd rfl rfl ?_
    refine r_getI hcd rfl rfl rfl ?_
    exact r_iret hcd rfl rfl rfl H
  by_cases hs10 : a1 = 2
  · replace H := H.2.2.1 hs10
    refine e_pc (i2 := 8) (by rw [hs10]; rfl) ?_
    refine e_nx hcd rfl rfl ?_
    refine r_getI hcd rfl rfl rfl ?_
    exact r_iret hcd rfl rfl rfl H
  by_cases hs11 : a1 = 3
  · replace H := H.2.2.2.1 hs11
    refine e_pc (i2 := 11) (by rw [hs11]; rfl) ?_
    refine e_nx hcd rfl rfl ?_
    refine r_getI hcd rfl rfl rfl ?_
    exact r_iret hcd rfl rfl rfl H
  by_cases hs12 : a1 = 4
  · replace H := H.2.2.2.2.1 hs12
    refine e_pc (i2 := 14) (by rw [hs12]; rfl) ?_
    refine e_nx hcd rfl rfl ?_
    refine r_getI hcd rfl rfl rfl ?_
    exact r_iret hcd rfl rfl rfl H
  by_cases hs13 : a1 = 5
  · replace H := H.2.2.2.2.2.1 hs13
    refine e_pc (i2 := 17) (by rw [hs13]; rfl) ?_
    refine e_nx hcd rfl rfl ?_
    refine r_getI hcd rfl rfl rfl ?_
    exact r_iret hcd rfl rfl rfl H
  by_cases hs14 : a1 = 6
  · replace H := H.2.2.2.2.2.2.1 hs14
    refine e_pc (i2 := 20) (by rw [hs14]; rfl) ?_
    refine e_nx hcd rfl rfl ?_
    refine r_getI hcd rfl rfl rfl ?_
    exact r_iret hcd rfl rfl rfl H
  by_cases hs15 : a1 = 7
  · replace H := H.2.2.2.2.2.2.2.1 hs15
    refine e_pc (i2 := 23) (by rw [hs15]; rfl) ?_
    refine e_nx hcd rfl rfl ?_
    refine r_getI hcd rfl rfl rfl ?_
    exact r_iret hcd rfl rfl rfl H
  replace H := H.2.2.2.2.2.2.2.2 ⟨hs8, hs9, hs10, hs11, hs12, hs13, hs14, hs15⟩
  refine e_pc (i2 := 26) (tab_def (lo := 0) (hi := 7) (fun h1 h2 => ?_)) ?_
  · omega
  · refine e_nx hcd rfl rfl ?_
    refine e_nx hcd rfl rfl ?_
    refine r_rem hcd rfl (by omega) (by omega) ?_
    refine e_nx hcd rfl rfl ?_
    show Ev X 261 30 [some (vR (some 170)), some (vI a1), some (vI (iRem a1 10))] [] _ Q
    iterate 3 (refine e_nx hcd rfl rfl ?_)
    refine r_cs hcd rfl (by omega) (Nat.le_of_ble_eq_true rfl) rfl rfl (Nat.le_of_ble_eq_true rfl) ?_
    refine Cl.mono H (fun v τ1 hq => ?_)
    obtain ⟨r2, rfl, H⟩ := hq
    show Ev X 261 34 _ [vI r2] τ1 Q
    obtain ⟨h3, H⟩ := H
    refine r_if hcd rfl h3 (fun hc => ?_) (fun hc => ?_)
    · replace H := H.1 hc
      refine e_nx hcd rfl rfl ?_
      exact r_iret hcd rfl rfl rfl H
    · replace H := H.2 hc
      iterate 2 (refine e_nx hcd rfl rfl ?_)
      refine r_cv hcd rfl (by omega) rfl rfl rfl (Nat.le_of_ble_eq_true rfl) ?_
      refine Cl.mono H (fun v τ2 hq => ?_)
      obtain ⟨r4, rfl, H⟩ := hq
      show Ev X 261 38 _ [vI r4] τ2 Q
      obtain ⟨h5, H⟩ := H
      refine r_if hcd rfl h5 (fun hc => ?_) (fun hc => ?_)
      · replace H := H.1 hc
        iterate 2 (refine e_nx hcd rfl rfl ?_)
        refine r_icmp hcd rfl h1 (by omega) (fun hc => ?_) (fun hc => ?_)
        · replace H := H.1 hc
          refine e_nx hcd rfl rfl ?_
          refine r_getR hcd rfl rfl rfl ?_
          refine e_nx hcd rfl rfl ?_
          obtain ⟨h6, H⟩ := H
          refine r_ild hcd rfl rfl (by omega) h6 ?_
          exact r_iret hcd rfl rfl rfl H
        · replace H := H.2 hc
          refine e_nx hcd rfl rfl ?_
          refine r_getR hcd rfl rfl rfl ?_
          refine e_nx hcd rfl rfl ?_
          obtain ⟨h7, H⟩ := H
          refine r_ild hcd rfl rfl (by omega) h7 ?_
          refine e_nx hcd rfl rfl ?_
          exact r_iret hcd rfl rfl rfl H
      · replace H := H.2 hc
        refine e_nx hcd rfl rfl ?_
        exact r_iret hcd rfl rfl rfl H
/-! X12_state -/
set_option maxRecDepth 20000 in
set_option maxHeartbeats 8000000 in
theorem v_262 {X : PX} {σ : Sg} {Q : Option PV → Sg → Prop} {a1 : Int} {a2 : Int} {a3 : Int} {a4 : Int}  (H : CI X 189 [vR (some 170), vI a1] σ (fun r1 τ1 => InR r1 ∧ (r1 = 0 → Q (some (vI (-2))) τ1) ∧ (¬ r1 = 0 → CI X 249 [vR (some 170), vI a2] τ1 (fun r3 τ2 => InR r3 ∧ (r3 = 0 → Q (some (vI (-2))) τ2) ∧ (¬ r3 = 0 → InR a3 ∧ (0 ≤ a3 → CV X 259 [vR (some 170), vI a3] τ2 (fun τ3 => InR (τ3.1 170 22) ∧ (τ3.1 170 22 ≠ a3 → Q (some (vI (-2))) τ3) ∧ (¬ τ3.1 170 22 ≠ a3 → CI X 261 [vR (some 170), vI a4] τ3 (fun r7 τ4 => Q (some (vI r7)) τ4)))) ∧ (¬ 0 ≤ a3 → Q (some (vI (-2))) τ2)))))) : Cl X 262 [vR (some 170), vI a1, vI a2, vI a3, vI a4] σ Q := by
  have hcd : cds 262 = cd_262 := rfl
  refine c_in (Nat.le_of_ble_eq_true rfl) rfl rfl ?_
  show Ev X 262 0 [some (vR (some 170)), some (vI a1), some (vI a2), some (vI a3), some (vI a4)] [] σ Q
  iterate 2 (refine e_nx hcd rfl rfl ?_)
  refine r_cv hcd rfl (by omega) rfl rfl rfl (Nat.le_of_ble_eq_true rfl) ?_
  refine Cl.mono H (fun v τ1 hq => ?_)
  obtain ⟨r1, rfl, H⟩ := hq
  show Ev X 262 3 _ [vI r1] τ1 Q
  obtain ⟨h2, H⟩ := H
  refine r_if hcd rfl h2 (fun hc => ?_) (fun hc => ?_)
  · replace H := H.1 hc
    refine e_nx hcd rfl rfl ?_
    exact r_iret hcd rfl rfl rfl H
  · replace H := H.2 hc
    iterate 2 (refine e_nx hcd rfl rfl ?_)
    refine r_cv hcd rfl (by omega) rfl rfl rfl (Nat.le_of_ble_eq_true rfl) ?_
    refine Cl.mono H (fun v τ2 hq => ?_)
    obtain ⟨r3, rfl, H⟩ := hq
    show Ev X 262 7 _ [vI r3] τ2 Q
    obtain ⟨h4, H⟩ := H
    refine r_if hcd rfl h4 (fun hc => ?_) (fun hc => ?_)
    · replace H := H.1 hc
      refine e_nx hcd rfl rfl ?_
      exact r_iret hcd rfl rfl rfl H
    · replace H := H.2 hc
      refine e_nx hcd rfl rfl ?_
      obtain ⟨h5, H⟩ := H
      refine r_if hcd rfl h5 (fun hc => ?_) (fun hc => ?_)
      · replace H := H.1 hc
        iterate 2 (refine e_nx hcd rfl rfl ?_)
        refine r_cv hcd rfl (by omega) rfl rfl rfl (Nat.le_of_ble_eq_true rfl) ?_
        refine Cl.mono H (fun v τ3 hq => ?_)
        obtain ⟨rfl, H⟩ := hq
        show Ev X 262 15 _ [] τ3 Q
        refine e_nx hcd rfl rfl ?_
        refine r_getI hcd rfl rfl rfl ?_
        refine e_nx hcd rfl rfl ?_
        obtain ⟨h6, H⟩ := H
        refine r_icmp hcd rfl h6 h5 (fun hc => ?_) (fun hc => ?_)
        · replace H := H.1 hc
          refine e_nx hcd rfl rfl ?_
          exact r_iret hcd rfl rfl rfl H
        · replace H := H.2 hc
          iterate 2 (refine e_nx hcd rfl rfl ?_)
          refine r_cv hcd rfl (by omega) rfl rfl rfl (Nat.le_of_ble_eq_true rfl) ?_
          refine Cl.mono H (fun v τ4 hq => ?_)
          obtain ⟨r7, rfl, H⟩ := hq
          show Ev X 262 22 _ [vI r7] τ4 Q
          refine e_nx hcd rfl rfl ?_
          exact r_iret hcd rfl rfl rfl H
      · replace H := H.2 hc
        refine e_nx hcd rfl rfl ?_
        exact r_iret hcd rfl rfl rfl H
/-! X12_buyerOf -/
theorem v_263 {X : PX} {σ : Sg} {Q : Option PV → Sg → Prop}   (H : Ev X 263 4 [some (vR (some 170)), some (vI (-1)), some (vI 0)] [] σ Q) : Cl X 263 [vR (some 170)] σ Q := by
  have hcd : cds 263 = cd_263 := rfl
  refine c_in (Nat.le_of_ble_eq_true rfl) rfl rfl ?_
  show Ev X 263 0 [some (vR (some 170)), none, none] [] σ Q
  iterate 2 (refine e_nx hcd rfl rfl ?_)
  show Ev X 263 2 [some (vR (some 170)), some (vI (-1)), none] [] _ Q
  iterate 2 (refine e_nx hcd rfl rfl ?_)
  show Ev X 263 4 [some (vR (some 170)), some (vI (-1)), some (vI 0)] [] _ Q
  exact H
set_option maxRecDepth 20000 in
set_option maxHeartbeats 8000000 in
theorem v_263_4 {X : PX} {σ : Sg} {Q : Option PV → Sg → Prop} {x1 : Int} {x2 : Int}  (H : InR x2 ∧ InR (σ.1 170 12) ∧ (σ.1 170 12 ≤ x2 → Q (some (vI x1)) σ) ∧ (¬ σ.1 170 12 ≤ x2 → (0 ≤ x2 ∧ x2 < 7) ∧ InR x1 ∧ (x1 ≠ (-1) → (0 ≤ x1 ∧ x1 < 7) ∧ InR (σ.2 181 x2.toNat) ∧ InR (σ.2 181 x1.toNat) ∧ (σ.2 181 x2.toNat ≤ σ.2 181 x1.toNat → Ev X 263 4 [some (vR (some 170)), some (vI x1), some (vI (x2 + 1))] [] σ Q) ∧ (¬ σ.2 181 x2.toNat ≤ σ.2 181 x1.toNat → Ev X 263 4 [some (vR (some 170)), some (vI x2), some (vI (x2 + 1))] [] σ Q)) ∧ (¬ x1 ≠ (-1) → InR (σ.2 181 x2.toNat) ∧ (σ.2 181 x2.toNat ≤ 0 → Ev X 263 4 [some (vR (some 170)), some (vI x1), some (vI (x2 + 1))] [] σ Q) ∧ (¬ σ.2 181 x2.toNat ≤ 0 → Ev X 263 4 [some (vR (some 170)), some (vI x2), some (vI (x2 + 1))] [] σ Q)))) : Ev X 263 4 [some (vR (some 170)), some (vI x1), some (vI x2)] [] σ Q := by
  have hcd : cds 263 = cd_263 := rfl
  iterate 2 (refine e_nx hcd rfl rfl ?_)
  refine r_getI hcd rfl rfl rfl ?_
  obtain ⟨h1, H⟩ := H
  obtain ⟨h2, H⟩ := H
  refine r_icmp hcd rfl h1 h2 (fun hc => ?_) (fun hc => ?_)
  · replace H := H.1 hc
    refine e_nx hcd rfl rfl ?_
    exact r_iret hcd rfl rfl rfl H
  · replace H := H.2 hc
    refine e_nx hcd rfl rfl ?_
    refine r_getR hcd rfl rfl rfl ?_
    refine e_nx hcd rfl rfl ?_
    obtain ⟨h3, H⟩ := H
    refine r_ild hcd rfl rfl (by omega) h3 ?_
    iterate 2 (refine e_nx hcd rfl rfl ?_)
    obtain ⟨h4, H⟩ := H
    refine r_icmp hcd rfl h4 (by omega) (fun hc => ?_) (fun hc => ?_)
    · replace H := H.1 hc
      refine e_nx hcd rfl rfl ?_
      refine r_getR hcd rfl rfl rfl ?_
      refine e_nx hcd rfl rfl ?_
      obtain ⟨h5, H⟩ := H
      refine r_ild hcd rfl rfl (by omega) h5 ?_
      obtain ⟨h6, H⟩ := H
      obtain ⟨h7, H⟩ := H
      refine r_icmp hcd rfl h6 h7 (fun hc => ?_) (fun hc => ?_)
      · replace H := H.1 hc
        refine e_nx hcd rfl rfl ?_
        show Ev X 263 25 [some (vR (some 170)), some (vI x1), some (vI (x2 + 1))] [] _ Q
        refine e_nx hcd rfl rfl ?_
        exact H
      · replace H := H.2 hc
        iterate 2 (refine e_nx hcd rfl rfl ?_)
        show Ev X 263 24 [some (vR (some 170)), some (vI x2), some (vI x2)] [] _ Q
        refine e_nx hcd rfl rfl ?_
        show Ev X 263 25 [some (vR (some 170)), some (vI x2), some (vI (x2 + 1))] [] _ Q
        refine e_nx hcd rfl rfl ?_
        exact H
    · replace H := H.2 hc
      iterate 2 (refine e_nx hcd rfl rfl ?_)
      obtain ⟨h8, H⟩ := H
      refine r_icmp hcd rfl h8 (by omega) (fun hc => ?_) (fun hc => ?_)
      · replace H := H.1 hc
        refine e_nx hcd rfl rfl ?_
        show Ev X 263 25 [some (vR (some 170)), some (vI x1), some (vI (x2 + 1))] [] _ Q
        refine e_nx hcd rfl rfl ?_
        exact H
      · replace H := H.2 hc
        iterate 2 (refine e_nx hcd rfl rfl ?_)
        show Ev X 263 24 [some (vR (some 170)), some (vI x2), some (vI x2)] [] _ Q
        refine e_nx hcd rfl rfl ?_
        show Ev X 263 25 [some (vR (some 170)), some (vI x2), some (vI (x2 + 1))] [] _ Q
        refine e_nx hcd rfl rfl ?_
        exact H
/-! X12_after -/
set_option maxRecDepth 20000 in
set_option maxHeartbeats 8000000 in
theorem v_264 {X : PX} {σ : Sg} {Q : Option PV → Sg → Prop} {a1 : Int} {a2 : Int} {a3 : Int}  (H : CI X 189 [vR (some 170), vI a1] σ (fun r1 τ1 => InR r1 ∧ (r1 = 0 → Q (some (vI (-2))) τ1) ∧ (¬ r1 = 0 → CI X 249 [vR (some 170), vI a2] τ1 (fun r3 τ2 => InR r3 ∧ (r3 ≠ 0 → CV X 259 [vR (some 170), vI 40] τ2 (fun τ3 => InR a3 ∧ (a3 = 0 → Q (some (vI (τ3.1 170 35))) τ3) ∧ (a3 = 1 → Q (some (vI (τ3.1 170 36))) τ3) ∧ (a3 = 2 → Q (some (vI (τ3.1 170 37))) τ3) ∧ (a3 = 3 → Q (some (vI (τ3.1 170 38))) τ3) ∧ (a3 = 4 → CI X 263 [vR (some 170)] τ3 (fun r6 τ4 => Q (some (vI r6)) τ4)) ∧ (a3 ≠ 0 ∧ a3 ≠ 1 ∧ a3 ≠ 2 ∧ a3 ≠ 3 ∧ a3 ≠ 4 → Q (some (vI (-2))) τ3))) ∧ (¬ r3 ≠ 0 → Q (some (vI (-2))) τ2))))) : Cl X 264 [vR (some 170), vI a1, vI a2, vI a3] σ Q := by
  have hcd : cds 264 = cd_264 := rfl
  refine c_in (Nat.le_of_ble_eq_true rfl) rfl rfl ?_
  show Ev X 264 0 [some (vR (some 170)), some (vI a1), some (vI a2), some (vI a3)] [] σ Q
  iterate 2 (refine e_nx hcd rfl rfl ?_)
  refine r_cv hcd rfl (by omega) rfl rfl rfl (Nat.le_of_ble_eq_true rfl) ?_
  refine Cl.mono H (fun v τ1 hq => ?_)
  obtain ⟨r1, rfl, H⟩ := hq
  show Ev X 264 3 _ [vI r1] τ1 Q
  obtain ⟨h2, H⟩ := H
  refine r_if hcd rfl h2 (fun hc => ?_) (fun hc => ?_)
  · replace H := H.1 hc
    refine e_nx hcd rfl rfl ?_
    exact r_iret hcd rfl rfl rfl H
  · replace H := H.2 hc
    iterate 2 (refine e_nx hcd rfl rfl ?_)
    refine r_cv hcd rfl (by omega) rfl rfl rfl (Nat.le_of_ble_eq_true rfl) ?_
    refine Cl.mono H (fun v τ2 hq => ?_)
    obtain ⟨r3, rfl, H⟩ := hq
    show Ev X 264 7 _ [vI r3] τ2 Q
    obtain ⟨h4, H⟩ := H
    refine r_if hcd rfl h4 (fun hc => ?_) (fun hc => ?_)
    · replace H := H.1 hc
      iterate 2 (refine e_nx hcd rfl rfl ?_)
      refine r_cv hcd rfl (by omega) rfl rfl rfl (Nat.le_of_ble_eq_true rfl) ?_
      refine Cl.mono H (fun v τ3 hq => ?_)
      obtain ⟨rfl, H⟩ := hq
      show Ev X 264 13 _ [] τ3 Q
      refine e_nx hcd rfl rfl ?_
      obtain ⟨h5, H⟩ := H
      refine r_tab hcd rfl h5 ?_
      by_cases hs7 : a3 = 0
      · replace H := H.1 hs7
        refine e_pc (i2 := 15) (by rw [hs7]; rfl) ?_
        refine e_nx hcd rfl rfl ?_
        refine r_getI hcd rfl rfl rfl ?_
        exact r_iret hcd rfl rfl rfl H
      by_cases hs8 : a3 = 1
      · replace H := H.2.1 hs8
        refine e_pc (i2 := 18) (by rw [hs8]; rfl) ?_
        refine e_nx hcd rfl rfl ?_
        refine r_getI hcd rfl rfl rfl ?_
        exact r_iret hcd rfl rfl rfl H
      by_cases hs9 : a3 = 2
      · replace H := H.2.2.1 hs9
        refine e_pc (i2 := 21) (by rw [hs9]; rfl) ?_
        refine e_nx hcd rfl rfl ?_
        refine r_getI hcd rfl rfl rfl ?_
        exact r_iret hcd rfl rfl rfl H
      by_cases hs10 : a3 = 3
      · replace H := H.2.2.2.1 hs10
        refine e_pc (i2 := 24) (by rw [hs10]; rfl) ?_
        refine e_nx hcd rfl rfl ?_
        refine r_getI hcd rfl rfl rfl ?_
        exact r_iret hcd rfl rfl rfl H
      by_cases hs11 : a3 = 4
      · replace H := H.2.2.2.2.1 hs11
        refine e_pc (i2 := 27) (by rw [hs11]; rfl) ?_
        refine e_nx hcd rfl rfl ?_
        refine r_cv hcd rfl (by omega) rfl rfl rfl (Nat.le_of_ble_eq_true rfl) ?_
        refine Cl.mono H (fun v τ4 hq => ?_)
        obtain ⟨r6, rfl, H⟩ := hq
        show Ev X 264 29 _ [vI r6] τ4 Q
        exact r_iret hcd rfl rfl rfl H
      replace H := H.2.2.2.2.2 ⟨hs7, hs8, hs9, hs10, hs11⟩
      refine e_pc (i2 := 30) (tab_def (lo := 0) (hi := 4) (fun h1 h2 => ?_)) ?_
      · omega
      · refine e_nx hcd rfl rfl ?_
        exact r_iret hcd rfl rfl rfl H
    · replace H := H.2 hc
      refine e_nx hcd rfl rfl ?_
      exact r_iret hcd rfl rfl rfl H
/-! X12_isLog -/
theorem v_265 {X : PX} {σ : Sg} {Q : Option PV → Sg → Prop} {a1 : Int}  (H : CI X 186 [vR (some 170), vI 2, vI a1] σ (fun r1 τ1 => InR r1 ∧ (r1 ≠ 0 → CI X 184 [vI 2, vI a1] τ1 (fun r3 τ2 => Q (some (vI 1)) (up2 τ2.1 170 41 r3, τ2.2))) ∧ (¬ r1 ≠ 0 → Q (some (vI 0)) τ1))) : Cl X 265 [vR (some 170), vI a1] σ Q := by
  have hcd : cds 265 = cd_265 := rfl
  refine c_in (Nat.le_of_ble_eq_true rfl) rfl rfl ?_
  show Ev X 265 0 [some (vR (some 170)), some (vI a1)] [] σ Q
  iterate 3 (refine e_nx hcd rfl rfl ?_)
  refine r_cv hcd rfl (by omega) rfl rfl rfl (Nat.le_of_ble_eq_true rfl) ?_
  refine Cl.mono H (fun v τ1 hq => ?_)
  obtain ⟨r1, rfl, H⟩ := hq
  show Ev X 265 4 _ [vI r1] τ1 Q
  obtain ⟨h2, H⟩ := H
  refine r_if hcd rfl h2 (fun hc => ?_) (fun hc => ?_)
  · replace H := H.1 hc
    iterate 3 (refine e_nx hcd rfl rfl ?_)
    refine r_cs hcd rfl (by omega) (Nat.le_of_ble_eq_true rfl) rfl rfl (Nat.le_of_ble_eq_true rfl) ?_
    refine Cl.mono H (fun v τ2 hq => ?_)
    obtain ⟨r3, rfl, H⟩ := hq
    show Ev X 265 11 _ [vI r3, vR (some 170)] τ2 Q
    refine r_putI hcd rfl rfl rfl rfl ?_
    refine e_nx hcd rfl rfl ?_
    exact r_zret hcd rfl rfl rfl (by omega) H
  · replace H := H.2 hc
    refine e_nx hcd rfl rfl ?_
    exact r_zret hcd rfl rfl rfl (by omega) H
/-! X12_fact -/
set_option maxRecDepth 20000 in
set_option maxHeartbeats 8000000 in
theorem v_266 {X : PX} {σ : Sg} {Q : Option PV → Sg → Prop} {a1 : Int} {a2 : Int} {a3 : Int}  (H : CI X 265 [vR (some 170), vI a1] σ (fun r1 τ1 => InR r1 ∧ (r1 ≠ 0 → InR a2 ∧ (a2 ≠ (-1) → (0 ≤ τ1.1 170 41 ∧ τ1.1 170 41 < 3616) ∧ CI X 161 [vI a2, vI 0, vI ((τ1.2 171 (τ1.1 170 41).toNat) - 1)] τ1 (fun r5 τ2 => InR r5 ∧ (r5 = 0 → Q (some (vI (-2))) τ2) ∧ (¬ r5 = 0 → CI X 161 [vI a3, vI 0, vI 1] τ2 (fun r7 τ3 => InR r7 ∧ (r7 = 0 → Q (some (vI (-2))) τ3) ∧ (¬ r7 = 0 → (0 ≤ (((τ3.1 170 41) + 1) + (2 * a2)) + a3 ∧ (((τ3.1 170 41) + 1) + (2 * a2)) + a3 < 3616) ∧ Q (some (vI (τ3.2 171 ((((τ3.1 170 41) + 1) + (2 * a2)) + a3).toNat))) τ3))))) ∧ (¬ a2 ≠ (-1) → InR a3 ∧ (a3 ≠ 0 → Q (some (vI (-2))) τ1) ∧ (¬ a3 ≠ 0 → (0 ≤ τ1.1 170 41 ∧ τ1.1 170 41 < 3616) ∧ Q (some (vI (τ1.2 171 (τ1.1 170 41).toNat))) τ1))) ∧ (¬ r1 ≠ 0 → Q (some (vI (-2))) τ1))) : Cl X 266 [vR (some 170), vI a1, vI a2, vI a3] σ Q := by
  have hcd : cds 266 = cd_266 := rfl
  refine c_in (Nat.le_of_ble_eq_true rfl) rfl rfl ?_
  show Ev X 266 0 [some (vR (some 170)), some (vI a1), some (vI a2), some (vI a3)] [] σ Q
  iterate 2 (refine e_nx hcd rfl rfl ?_)
  refine r_cv hcd rfl (by omega) rfl rfl rfl (Nat.le_of_ble_eq_true rfl) ?_
  refine Cl.mono H (fun v τ1 hq => ?_)
  obtain ⟨r1, rfl, H⟩ := hq
  show Ev X 266 3 _ [vI r1] τ1 Q
  obtain ⟨h2, H⟩ := H
  refine r_if hcd rfl h2 (fun hc => ?_) (fun hc => ?_)
  · replace H := H.1 hc
    iterate 2 (refine e_nx hcd rfl rfl ?_)
    obtain ⟨h3, H⟩ := H
    refine r_icmp hcd rfl h3 (by omega) (fun hc => ?_) (fun hc => ?_)
    · replace H := H.1 hc
      iterate 3 (refine e_nx hcd rfl rfl ?_)
      refine r_getR hcd rfl rfl rfl ?_
      refine e_nx hcd rfl rfl ?_
      refine r_getI hcd rfl rfl rfl ?_
      obtain ⟨h4, H⟩ := H
      refine r_ild hcd rfl rfl (by omega) h4 ?_
      iterate 2 (refine e_nx hcd rfl rfl ?_)
      refine r_cs hcd rfl (by omega) (Nat.le_of_ble_eq_true rfl) rfl rfl (Nat.le_of_ble_eq_true rfl) ?_
      refine Cl.mono H (fun v τ2 hq => ?_)
      obtain ⟨r5, rfl, H⟩ := hq
      show Ev X 266 29 _ [vI r5] τ2 Q
      obtain ⟨h6, H⟩ := H
      refine r_if hcd rfl h6 (fun hc => ?_) (fun hc => ?_)
      · replace H := H.1 hc
        refine e_nx hcd rfl rfl ?_
        exact r_iret hcd rfl rfl rfl H
      · replace H := H.2 hc
        iterate 3 (refine e_nx hcd rfl rfl ?_)
        refine r_cs hcd rfl (by omega) (Nat.le_of_ble_eq_true rfl) rfl rfl (Nat.le_of_ble_eq_true rfl) ?_
        refine Cl.mono H (fun v τ3 hq => ?_)
        obtain ⟨r7, rfl, H⟩ := hq
        show Ev X 266 34 _ [vI r7] τ3 Q
        obtain ⟨h8, H⟩ := H
        refine r_if hcd rfl h8 (fun hc => ?_) (fun hc => ?_)
        · replace H := H.1 hc
          refine e_nx hcd rfl rfl ?_
          exact r_iret hcd rfl rfl rfl H
        · replace H := H.2 hc
          refine e_nx hcd rfl rfl ?_
          refine r_getR hcd rfl rfl rfl ?_
          refine e_nx hcd rfl rfl ?_
          refine r_getI hcd rfl rfl rfl ?_
          iterate 8 (refine e_nx hcd rfl rfl ?_)
          obtain ⟨h9, H⟩ := H
          refine r_ild hcd rfl rfl (by omega) h9 ?_
          refine e_nx hcd rfl rfl ?_
          exact r_iret hcd rfl rfl rfl H
    · replace H := H.2 hc
      refine e_nx hcd rfl rfl ?_
      obtain ⟨h10, H⟩ := H
      refine r_if hcd rfl h10 (fun hc => ?_) (fun hc => ?_)
      · replace H := H.1 hc
        refine e_nx hcd rfl rfl ?_
        exact r_iret hcd rfl rfl rfl H
      · replace H := H.2 hc
        refine e_nx hcd rfl rfl ?_
        refine r_getR hcd rfl rfl rfl ?_
        refine e_nx hcd rfl rfl ?_
        refine r_getI hcd rfl rfl rfl ?_
        obtain ⟨h11, H⟩ := H
        refine r_ild hcd rfl rfl (by omega) h11 ?_
        refine e_nx hcd rfl rfl ?_
        exact r_iret hcd rfl rfl rfl H
  · replace H := H.2 hc
    refine e_nx hcd rfl rfl ?_
    exact r_iret hcd rfl rfl rfl H
/-! X12_isSo -/
theorem v_267 {X : PX} {σ : Sg} {Q : Option PV → Sg → Prop} {a1 : Int}  (H : CV X 199 [vR (some 170)] (up2 σ.1 170 16 a1, σ.2) (fun τ1 => Ev X 267 9 [some (vR (some 170)), none, some (vI 1), some (vI 0)] [] τ1 Q)) : Cl X 267 [vR (some 170), vI a1] σ Q := by
  have hcd : cds 267 = cd_267 := rfl
  refine c_in (Nat.le_of_ble_eq_true rfl) rfl rfl ?_
  show Ev X 267 0 [some (vR (some 170)), some (vI a1), none, none] [] σ Q
  iterate 2 (refine e_nx hcd rfl rfl ?_)
  refine r_putI hcd rfl rfl rfl rfl ?_
  refine e_nx hcd rfl rfl ?_
  refine r_cv hcd rfl (by omega) rfl rfl rfl (Nat.le_of_ble_eq_true rfl) ?_
  refine Cl.mono H (fun v τ1 hq => ?_)
  obtain ⟨rfl, H⟩ := hq
  show Ev X 267 5 _ [] τ1 Q
  iterate 2 (refine e_nx hcd rfl rfl ?_)
  show Ev X 267 7 [some (vR (some 170)), some (vI a1), some (vI 1), none] [] _ Q
  iterate 2 (refine e_nx hcd rfl rfl ?_)
  show Ev X 267 9 [some (vR (some 170)), some (vI a1), some (vI 1), some (vI 0)] [] _ Q
  refine e_fg [1] ?_
  exact H
set_option maxRecDepth 20000 in
set_option maxHeartbeats 8000000 in
theorem v_267_9 {X : PX} {σ : Sg} {Q : Option PV → Sg → Prop} {x2 : Int} {x3 : Int}  (H : (0 ≤ σ.1 170 41 ∧ σ.1 170 41 < 3616) ∧ InR x3 ∧ InR (σ.2 171 (σ.1 170 41).toNat) ∧ (σ.2 171 (σ.1 170 41).toNat ≤ x3 → (x2 = 0 ∨ x2 = 1) ∧ Q (some (vI x2)) σ) ∧ (¬ σ.2 171 (σ.1 170 41).toNat ≤ x3 → InR x2 ∧ (x2 = 0 → Ev X 267 9 [some (vR (some 170)), none, some (vI 0), some (vI (x3 + 1))] [] σ Q) ∧ (¬ x2 = 0 → (0 ≤ ((σ.1 170 41) + 1) + (2 * x3) ∧ ((σ.1 170 41) + 1) + (2 * x3) < 3616) ∧ CI X 190 [vR (some 170), vI (σ.2 171 (((σ.1 170 41) + 1) + (2 * x3)).toNat)] σ (fun r7 τ1 => InR r7 ∧ (r7 = 0 → Ev X 267 9 [some (vR (some 170)), none, some (vI 0), some (vI (x3 + 1))] [] τ1 Q) ∧ (¬ r7 = 0 → (0 ≤ ((τ1.1 170 41) + 1) + (2 * x3) ∧ ((τ1.1 170 41) + 1) + (2 * x3) < 3616) ∧ (0 ≤ τ1.2 171 (((τ1.1 170 41) + 1) + (2 * x3)).toNat ∧ τ1.2 171 (((τ1.1 170 41) + 1) + (2 * x3)).toNat < 7) ∧ (0 ≤ ((τ1.1 170 41) + 2) + (2 * x3) ∧ ((τ1.1 170 41) + 2) + (2 * x3) < 3616) ∧ InR (τ1.2 175 (τ1.2 171 (((τ1.1 170 41) + 1) + (2 * x3)).toNat).toNat) ∧ InR (τ1.2 171 (((τ1.1 170 41) + 2) + (2 * x3)).toNat) ∧ (τ1.2 175 (τ1.2 171 (((τ1.1 170 41) + 1) + (2 * x3)).toNat).toNat ≠ τ1.2 171 (((τ1.1 170 41) + 2) + (2 * x3)).toNat → Ev X 267 9 [some (vR (some 170)), none, some (vI 0), some (vI (x3 + 1))] [] τ1 Q) ∧ (¬ τ1.2 175 (τ1.2 171 (((τ1.1 170 41) + 1) + (2 * x3)).toNat).toNat ≠ τ1.2 171 (((τ1.1 170 41) + 2) + (2 * x3)).toNat → Ev X 267 9 [some (vR (some 170)), none, some (vI 1), some (vI (x3 + 1))] [] τ1 Q)))))) : Ev X 267 9 [some (vR (some 170)), none, some (vI x2), some (vI x3)] [] σ Q := by
  have hcd : cds 267 = cd_267 := rfl
  iterate 2 (refine e_nx hcd rfl rfl ?_)
  refine r_getR hcd rfl rfl rfl ?_
  refine e_nx hcd rfl rfl ?_
  refine r_getI hcd rfl rfl rfl ?_
  obtain ⟨h1, H⟩ := H
  refine r_ild hcd rfl rfl (by omega) h1 ?_
  obtain ⟨h2, H⟩ := H
  obtain ⟨h3, H⟩ := H
  refine r_icmp hcd rfl h2 h3 (fun hc => ?_) (fun hc => ?_)
  · replace H := H.1 hc
    refine e_nx hcd rfl rfl ?_
    obtain ⟨h4, H⟩ := H
    exact r_zret hcd rfl rfl rfl h4 H
  · replace H := H.2 hc
    refine e_nx hcd rfl rfl ?_
    obtain ⟨h5, H⟩ := H
    refine r_if hcd rfl h5 (fun hc => ?_) (fun hc => ?_)
    · replace H := H.1 hc
      iterate 2 (refine e_nx hcd rfl rfl ?_)
      show Ev X 267 62 [some (vR (some 170)), none, some (vI 0), some (vI x3)] [] _ Q
      refine e_nx hcd rfl rfl ?_
      show Ev X 267 63 [some (vR (some 170)), none, some (vI 0), some (vI (x3 + 1))] [] _ Q
      refine e_nx hcd rfl rfl ?_
      exact H
    · replace H := H.2 hc
      iterate 2 (refine e_nx hcd rfl rfl ?_)
      refine r_getR hcd rfl rfl rfl ?_
      refine e_nx hcd rfl rfl ?_
      refine r_getI hcd rfl rfl rfl ?_
      iterate 6 (refine e_nx hcd rfl rfl ?_)
      obtain ⟨h6, H⟩ := H
      refine r_ild hcd rfl rfl (by omega) h6 ?_
      refine r_cv hcd rfl (by omega) rfl rfl rfl (Nat.le_of_ble_eq_true rfl) ?_
      refine Cl.mono H (fun v τ1 hq => ?_)
      obtain ⟨r7, rfl, H⟩ := hq
      show Ev X 267 31 _ [vI r7] τ1 Q
      obtain ⟨h8, H⟩ := H
      refine r_if hcd rfl h8 (fun hc => ?_) (fun hc => ?_)
      · replace H := H.1 hc
        iterate 2 (refine e_nx hcd rfl rfl ?_)
        show Ev X 267 62 [some (vR (some 170)), none, some (vI 0), some (vI x3)] [] _ Q
        refine e_nx hcd rfl rfl ?_
        show Ev X 267 63 [some (vR (some 170)), none, some (vI 0), some (vI (x3 + 1))] [] _ Q
        refine e_nx hcd rfl rfl ?_
        exact H
      · replace H := H.2 hc
        refine e_nx hcd rfl rfl ?_
        refine r_getR hcd rfl rfl rfl ?_
        refine e_nx hcd rfl rfl ?_
        refine r_getR hcd rfl rfl rfl ?_
        refine e_nx hcd rfl rfl ?_
        refine r_getI hcd rfl rfl rfl ?_
        iterate 6 (refine e_nx hcd rfl rfl ?_)
        obtain ⟨h9, H⟩ := H
        refine r_ild hcd rfl rfl (by omega) h9 ?_
        obtain ⟨h10, H⟩ := H
        refine r_ild hcd rfl rfl (by omega) h10 ?_
        refine e_nx hcd rfl rfl ?_
        refine r_getR hcd rfl rfl rfl ?_
        refine e_nx hcd rfl rfl ?_
        refine r_getI hcd rfl rfl rfl ?_
        iterate 6 (refine e_nx hcd rfl rfl ?_)
        obtain ⟨h11, H⟩ := H
        refine r_ild hcd rfl rfl (by omega) h11 ?_
        obtain ⟨h12, H⟩ := H
        obtain ⟨h13, H⟩ := H
        refine r_icmp hcd rfl h12 h13 (fun hc => ?_) (fun hc => ?_)
        · replace H := H.1 hc
          iterate 2 (refine e_nx hcd rfl rfl ?_)
          show Ev X 267 62 [some (vR (some 170)), none, some (vI 0), some (vI x3)] [] _ Q
          refine e_nx hcd rfl rfl ?_
          show Ev X 267 63 [some (vR (some 170)), none, some (vI 0), some (vI (x3 + 1))] [] _ Q
          refine e_nx hcd rfl rfl ?_
          exact H
        · replace H := H.2 hc
          iterate 3 (refine e_nx hcd rfl rfl ?_)
          show Ev X 267 62 [some (vR (some 170)), none, some (vI 1), some (vI x3)] [] _ Q
          refine e_nx hcd rfl rfl ?_
          show Ev X 267 63 [some (vR (some 170)), none, some (vI 1), some (vI (x3 + 1))] [] _ Q
          refine e_nx hcd rfl rfl ?_
          exact H
/-! X12_laysFits -/
theorem v_268 {X : PX} {σ : Sg} {Q : Option PV → Sg → Prop}   (H : Ev X 268 5 [some (vR (some 170)), some (vI 0), none] [] (up2 σ.1 170 42 0, σ.2) Q) : Cl X 268 [vR (some 170)] σ Q := by
  have hcd : cds 268 = cd_268 := rfl
  refine c_in (Nat.le_of_ble_eq_true rfl) rfl rfl ?_
  show Ev X 268 0 [some (vR (some 170)), none, none] [] σ Q
  iterate 2 (refine e_nx hcd rfl rfl ?_)
  refine r_putI hcd rfl rfl rfl rfl ?_
  iterate 2 (refine e_nx hcd rfl rfl ?_)
  show Ev X 268 5 [some (vR (some 170)), some (vI 0), none] [] _ Q
  exact H
theorem v_268_5 {X : PX} {σ : Sg} {Q : Option PV → Sg → Prop} {x1 : Int}  (H : InR x1 ∧ (7 ≤ x1 → Ev X 268 17 [some (vR (some 170)), some (vI 0), none] [] σ Q) ∧ (¬ 7 ≤ x1 → (0 ≤ x1 ∧ x1 < 7) ∧ Ev X 268 5 [some (vR (some 170)), some (vI (x1 + 1)), none] [] (σ.1, up2 σ.2 184 x1.toNat 0) Q)) : Ev X 268 5 [some (vR (some 170)), some (vI x1), none] [] σ Q := by
  have hcd : cds 268 = cd_268 := rfl
  iterate 2 (refine e_nx hcd rfl rfl ?_)
  obtain ⟨h1, H⟩ := H
  refine r_icmp hcd rfl h1 (by omega) (fun hc => ?_) (fun hc => ?_)
  · replace H := H.1 hc
    iterate 2 (refine e_nx hcd rfl rfl ?_)
    show Ev X 268 17 [some (vR (some 170)), some (vI 0), none] [] _ Q
    exact H
  · replace H := H.2 hc
    refine e_nx hcd rfl rfl ?_
    refine r_getR hcd rfl rfl rfl ?_
    iterate 2 (refine e_nx hcd rfl rfl ?_)
    obtain ⟨h2, H⟩ := H
    refine r_ist hcd rfl rfl (by omega) h2 ?_
    refine e_nx hcd rfl rfl ?_
    show Ev X 268 14 [some (vR (some 170)), some (vI (x1 + 1)), none] [] _ Q
    refine e_nx hcd rfl rfl ?_
    exact H
theorem v_268_17 {X : PX} {σ : Sg} {Q : Option PV → Sg → Prop} {x1 : Int}  (H : CI X 191 [vR (some 170)] σ (fun r1 τ1 => InR x1 ∧ InR r1 ∧ (r1 < x1 → Q none τ1) ∧ (¬ r1 < x1 → CI X 267 [vR (some 170), vI x1] τ1 (fun r4 τ2 => InR r4 ∧ (r4 ≠ 0 → (0 ≤ τ2.1 170 42 ∧ τ2.1 170 42 < 128) ∧ Ev X 268 34 [some (vR (some 170)), some (vI x1), some (vI 0)] [] (τ2.1, up2 τ2.2 182 (τ2.1 170 42).toNat x1) Q) ∧ (¬ r4 ≠ 0 → Ev X 268 17 [some (vR (some 170)), some (vI (x1 + 1)), none] [] τ2 Q))))) : Ev X 268 17 [some (vR (some 170)), some (vI x1), none] [] σ Q := by
  have hcd : cds 268 = cd_268 := rfl
  iterate 2 (refine e_nx hcd rfl rfl ?_)
  refine r_cv hcd rfl (by omega) rfl rfl rfl (Nat.le_of_ble_eq_true rfl) ?_
  refine Cl.mono H (fun v τ1 hq => ?_)
  obtain ⟨r1, rfl, H⟩ := hq
  show Ev X 268 20 _ [vI r1, vI x1] τ1 Q
  obtain ⟨h2, H⟩ := H
  obtain ⟨h3, H⟩ := H
  refine r_icmp hcd rfl h2 h3 (fun hc => ?_) (fun hc => ?_)
  · replace H := H.1 hc
    exact r_vret hcd rfl rfl rfl H
  · replace H := H.2 hc
    iterate 2 (refine e_nx hcd rfl rfl ?_)
    refine r_cv hcd rfl (by omega) rfl rfl rfl (Nat.le_of_ble_eq_true rfl) ?_
    refine Cl.mono H (fun v τ2 hq => ?_)
    obtain ⟨r4, rfl, H⟩ := hq
    show Ev X 268 24 _ [vI r4] τ2 Q
    obtain ⟨h5, H⟩ := H
    refine r_if hcd rfl h5 (fun hc => ?_) (fun hc => ?_)
    · replace H := H.1 hc
      refine e_nx hcd rfl rfl ?_
      refine r_getR hcd rfl rfl rfl ?_
      refine e_nx hcd rfl rfl ?_
      refine r_getI hcd rfl rfl rfl ?_
      refine e_nx hcd rfl rfl ?_
      obtain ⟨h6, H⟩ := H
      refine r_ist hcd rfl rfl (by omega) h6 ?_
      iterate 2 (refine e_nx hcd rfl rfl ?_)
      show Ev X 268 34 [some (vR (some 170)), some (vI x1), some (vI 0)] [] _ Q
      exact H
    · replace H := H.2 hc
      iterate 2 (refine e_nx hcd rfl rfl ?_)
      show Ev X 268 77 [some (vR (some 170)), some (vI (x1 + 1)), none] [] _ Q
      refine e_nx hcd rfl rfl ?_
      exact H
set_option maxRecDepth 20000 in
set_option maxHeartbeats 8000000 in
theorem v_268_34 {X : PX} {σ : Sg} {Q : Option PV → Sg → Prop} {x1 : Int} {x2 : Int}  (H : InR x2 ∧ (7 ≤ x2 → Ev X 268 17 [some (vR (some 170)), some (vI (x1 + 1)), none] [] (up2 σ.1 170 42 ((σ.1 170 42) + 1), σ.2) Q) ∧ (¬ 7 ≤ x2 → InR (σ.1 170 12) ∧ (σ.1 170 12 ≤ x2 → (0 ≤ (7 * (σ.1 170 42)) + x2 ∧ (7 * (σ.1 170 42)) + x2 < 896) ∧ (0 ≤ x2 ∧ x2 < 7) ∧ Ev X 268 34 [some (vR (some 170)), some (vI x1), some (vI (x2 + 1))] [] (σ.1, up2 (up2 σ.2 183 ((7 * (σ.1 170 42)) + x2).toNat 0) 184 x2.toNat ((σ.2 184 x2.toNat) + (iAnd (iShr x1 x2) 1))) Q) ∧ (¬ σ.1 170 12 ≤ x2 → (0 ≤ x2 ∧ x2 < 7) ∧ (0 ≤ (7 * (σ.1 170 42)) + x2 ∧ (7 * (σ.1 170 42)) + x2 < 896) ∧ Ev X 268 34 [some (vR (some 170)), some (vI x1), some (vI (x2 + 1))] [] (σ.1, up2 (up2 σ.2 183 ((7 * (σ.1 170 42)) + x2).toNat (σ.2 175 x2.toNat)) 184 x2.toNat ((σ.2 184 x2.toNat) + (iAnd (iShr x1 x2) 1))) Q))) : Ev X 268 34 [some (vR (some 170)), some (vI x1), some (vI x2)] [] σ Q := by
  have hcd : cds 268 = cd_268 := rfl
  iterate 2 (refine e_nx hcd rfl rfl ?_)
  obtain ⟨h1, H⟩ := H
  refine r_icmp hcd rfl h1 (by omega) (fun hc => ?_) (fun hc => ?_)
  · replace H := H.1 hc
    iterate 2 (refine e_nx hcd rfl rfl ?_)
    refine r_getI hcd rfl rfl rfl ?_
    iterate 2 (refine e_nx hcd rfl rfl ?_)
    refine r_putI hcd rfl rfl rfl rfl ?_
    refine e_nx hcd rfl rfl ?_
    show Ev X 268 77 [some (vR (some 170)), some (vI (x1 + 1)), some (vI x2)] [] _ Q
    refine e_nx hcd rfl rfl ?_
    refine e_fg [2] ?_
    exact H
  · replace H := H.2 hc
    refine e_nx hcd rfl rfl ?_
    refine r_getR hcd rfl rfl rfl ?_
    iterate 2 (refine e_nx hcd rfl rfl ?_)
    refine r_getI hcd rfl rfl rfl ?_
    iterate 5 (refine e_nx hcd rfl rfl ?_)
    refine r_getI hcd rfl rfl rfl ?_
    obtain ⟨h2, H⟩ := H
    refine r_icmp hcd rfl h1 h2 (fun hc => ?_) (fun hc => ?_)
    · replace H := H.1 hc
      refine e_nx hcd rfl rfl ?_
      obtain ⟨h3, H⟩ := H
      refine r_ist hcd rfl rfl (by omega) h3 ?_
      refine e_nx hcd rfl rfl ?_
      refine r_getR hcd rfl rfl rfl ?_
      iterate 2 (refine e_nx hcd rfl rfl ?_)
      obtain ⟨h4, H⟩ := H
      refine r_ild hcd rfl rfl (by omega) h4 ?_
      iterate 6 (refine e_nx hcd rfl rfl ?_)
      refine r_ist hcd rfl rfl (by omega) h4 ?_
      refine e_nx hcd rfl rfl ?_
      show Ev X 268 69 [some (vR (some 170)), some (vI x1), some (vI (x2 + 1))] [] _ Q
      refine e_nx hcd rfl rfl ?_
      exact H
    · replace H := H.2 hc
      refine e_nx hcd rfl rfl ?_
      refine r_getR hcd rfl rfl rfl ?_
      refine e_nx hcd rfl rfl ?_
      obtain ⟨h5, H⟩ := H
      refine r_ild hcd rfl rfl (by omega) h5 ?_
      refine e_nx hcd rfl rfl ?_
      obtain ⟨h6, H⟩ := H
      refine r_ist hcd rfl rfl (by omega) h6 ?_
      refine e_nx hcd rfl rfl ?_
      refine r_getR hcd rfl rfl rfl ?_
      iterate 2 (refine e_nx hcd rfl rfl ?_)
      refine r_ild hcd rfl rfl (by omega) h5 ?_
      iterate 6 (refine e_nx hcd rfl rfl ?_)
      refine r_ist hcd rfl rfl (by omega) h5 ?_
      refine e_nx hcd rfl rfl ?_
      show Ev X 268 69 [some (vR (some 170)), some (vI x1), some (vI (x2 + 1))] [] _ Q
      refine e_nx hcd rfl rfl ?_
      exact H
/-! X12_likeTaxes -/
theorem v_269 {X : PX} {σ : Sg} {Q : Option PV → Sg → Prop} {a1 : Int}  (H : Ev X 269 4 [some (vR (some 170)), some (vI a1), some (vI 0), some (vI 0), none, none] [] σ Q) : Cl X 269 [vR (some 170), vI a1] σ Q := by
  have hcd : cds 269 = cd_269 := rfl
  refine c_in (Nat.le_of_ble_eq_true rfl) rfl rfl ?_
  show Ev X 269 0 [some (vR (some 170)), some (vI a1), none, none, none, none] [] σ Q
  iterate 2 (refine e_nx hcd rfl rfl ?_)
  show Ev X 269 2 [some (vR (some 170)), some (vI a1), some (vI 0), none, none, none] [] _ Q
  iterate 2 (refine e_nx hcd rfl rfl ?_)
  show Ev X 269 4 [some (vR (some 170)), some (vI a1), some (vI 0), some (vI 0), none, none] [] _ Q
  exact H
theorem v_269_4 {X : PX} {σ : Sg} {Q : Option PV → Sg → Prop} {x1 : Int} {x2 : Int} {x3 : Int}  (H : InR x3 ∧ InR (σ.1 170 42) ∧ (σ.1 170 42 ≤ x3 → Q (some (vI x2)) σ) ∧ (¬ σ.1 170 42 ≤ x3 → Ev X 269 12 [some (vR (some 170)), some (vI x1), some (vI x2), some (vI x3), some (vI 0), some (vI 0)] [] σ Q)) : Ev X 269 4 [some (vR (some 170)), some (vI x1), some (vI x2), some (vI x3), none, none] [] σ Q := by
  have hcd : cds 269 = cd_269 := rfl
  iterate 2 (refine e_nx hcd rfl rfl ?_)
  refine r_getI hcd rfl rfl rfl ?_
  obtain ⟨h1, H⟩ := H
  obtain ⟨h2, H⟩ := H
  refine r_icmp hcd rfl h1 h2 (fun hc => ?_) (fun hc => ?_)
  · replace H := H.1 hc
    refine e_nx hcd rfl rfl ?_
    exact r_iret hcd rfl rfl rfl H
  · replace H := H.2 hc
    iterate 2 (refine e_nx hcd rfl rfl ?_)
    show Ev X 269 10 [some (vR (some 170)), some (vI x1), some (vI x2), some (vI x3), some (vI 0), none] [] _ Q
    iterate 2 (refine e_nx hcd rfl rfl ?_)
    show Ev X 269 12 [some (vR (some 170)), some (vI x1), some (vI x2), some (vI x3), some (vI 0), some (vI 0)] [] _ Q
    exact H
set_option maxRecDepth 20000 in
set_option maxHeartbeats 8000000 in
theorem v_269_12 {X : PX} {σ : Sg} {Q : Option PV → Sg → Prop} {x1 : Int} {x2 : Int} {x3 : Int} {x4 : Int} {x5 : Int}  (H : InR x5 ∧ InR (σ.1 170 42) ∧ (σ.1 170 42 ≤ x5 → InR x4 ∧ InR x2 ∧ (x4 ≤ x2 → Ev X 269 4 [some (vR (some 170)), some (vI x1), some (vI x2), some (vI (x3 + 1)), none, none] [] σ Q) ∧ (¬ x4 ≤ x2 → Ev X 269 4 [some (vR (some 170)), some (vI x1), some (vI x4), some (vI (x3 + 1)), none, none] [] σ Q)) ∧ (¬ σ.1 170 42 ≤ x5 → (0 ≤ (7 * x3) + x1 ∧ (7 * x3) + x1 < 896) ∧ (0 ≤ (7 * x5) + x1 ∧ (7 * x5) + x1 < 896) ∧ InR (σ.2 183 ((7 * x3) + x1).toNat) ∧ InR (σ.2 183 ((7 * x5) + x1).toNat) ∧ (σ.2 183 ((7 * x3) + x1).toNat ≠ σ.2 183 ((7 * x5) + x1).toNat → Ev X 269 12 [some (vR (some 170)), some (vI x1), some (vI x2), some (vI x3), some (vI (x4 + 0)), some (vI (x5 + 1))] [] σ Q) ∧ (¬ σ.2 183 ((7 * x3) + x1).toNat ≠ σ.2 183 ((7 * x5) + x1).toNat → Ev X 269 12 [some (vR (some 170)), some (vI x1), some (vI x2), some (vI x3), some (vI (x4 + 1)), some (vI (x5 + 1))] [] σ Q))) : Ev X 269 12 [some (vR (some 170)), some (vI x1), some (vI x2), some (vI x3), some (vI x4), some (vI x5)] [] σ Q := by
  have hcd : cds 269 = cd_269 := rfl
  iterate 2 (refine e_nx hcd rfl rfl ?_)
  refine r_getI hcd rfl rfl rfl ?_
  obtain ⟨h1, H⟩ := H
  obtain ⟨h2, H⟩ := H
  refine r_icmp hcd rfl h1 h2 (fun hc => ?_) (fun hc => ?_)
  · replace H := H.1 hc
    iterate 2 (refine e_nx hcd rfl rfl ?_)
    obtain ⟨h3, H⟩ := H
    obtain ⟨h4, H⟩ := H
    refine r_icmp hcd rfl h3 h4 (fun hc => ?_) (fun hc => ?_)
    · replace H := H.1 hc
      iterate 2 (refine e_nx hcd rfl rfl ?_)
      show Ev X 269 48 [some (vR (some 170)), some (vI x1), some (vI x2), some (vI x3), some (vI x4), some (vI x5)] [] _ Q
      refine e_nx hcd rfl rfl ?_
      show Ev X 269 49 [some (vR (some 170)), some (vI x1), some (vI x2), some (vI (x3 + 1)), some (vI x4), some (vI x5)] [] _ Q
      refine e_nx hcd rfl rfl ?_
      refine e_fg [4, 5] ?_
      exact H
    · replace H := H.2 hc
      iterate 3 (refine e_nx hcd rfl rfl ?_)
      show Ev X 269 48 [some (vR (some 170)), some (vI x1), some (vI x4), some (vI x3), some (vI x4), some (vI x5)] [] _ Q
      refine e_nx hcd rfl rfl ?_
      show Ev X 269 49 [some (vR (some 170)), some (vI x1), some (vI x4), some (vI (x3 + 1)), some (vI x4), some (vI x5)] [] _ Q
      refine e_nx hcd rfl rfl ?_
      refine e_fg [4, 5] ?_
      exact H
  · replace H := H.2 hc
    iterate 2 (refine e_nx hcd rfl rfl ?_)
    refine r_getR hcd rfl rfl rfl ?_
    iterate 5 (refine e_nx hcd rfl rfl ?_)
    obtain ⟨h5, H⟩ := H
    refine r_ild hcd rfl rfl (by omega) h5 ?_
    refine e_nx hcd rfl rfl ?_
    refine r_getR hcd rfl rfl rfl ?_
    iterate 5 (refine e_nx hcd rfl rfl ?_)
    obtain ⟨h6, H⟩ := H
    refine r_ild hcd rfl rfl (by omega) h6 ?_
    obtain ⟨h7, H⟩ := H
    obtain ⟨h8, H⟩ := H
    refine r_icmp hcd rfl h7 h8 (fun hc => ?_) (fun hc => ?_)
    · replace H := H.1 hc
      iterate 3 (refine e_nx hcd rfl rfl ?_)
      show Ev X 269 39 [some (vR (some 170)), some (vI x1), some (vI x2), some (vI x3), some (vI (x4 + 0)), some (vI x5)] [] _ Q
      refine e_nx hcd rfl rfl ?_
      show Ev X 269 40 [some (vR (some 170)), some (vI x1), some (vI x2), some (vI x3), some (vI (x4 + 0)), some (vI (x5 + 1))] [] _ Q
      refine e_nx hcd rfl rfl ?_
      exact H
    · replace H := H.2 hc
      iterate 4 (refine e_nx hcd rfl rfl ?_)
      show Ev X 269 39 [some (vR (some 170)), some (vI x1), some (vI x2), some (vI x3), some (vI (x4 + 1)), some (vI x5)] [] _ Q
      refine e_nx hcd rfl rfl ?_
      show Ev X 269 40 [some (vR (some 170)), some (vI x1), some (vI x2), some (vI x3), some (vI (x4 + 1)), some (vI (x5 + 1))] [] _ Q
      refine e_nx hcd rfl rfl ?_
      exact H
/-! X12_askOf -/
theorem v_270 {X : PX} {σ : Sg} {Q : Option PV → Sg → Prop}   (H : Ev X 270 4 [some (vR (some 170)), some (vI (-1)), some (vI 0)] [] σ Q) : Cl X 270 [vR (some 170)] σ Q := by
  have hcd : cds 270 = cd_270 := rfl
  refine c_in (Nat.le_of_ble_eq_true rfl) rfl rfl ?_
  show Ev X 270 0 [some (vR (some 170)), none, none] [] σ Q
  iterate 2 (refine e_nx hcd rfl rfl ?_)
  show Ev X 270 2 [some (vR (some 170)), some (vI (-1)), none] [] _ Q
  iterate 2 (refine e_nx hcd rfl rfl ?_)
  show Ev X 270 4 [some (vR (some 170)), some (vI (-1)), some (vI 0)] [] _ Q
  exact H
set_option maxRecDepth 20000 in
set_option maxHeartbeats 8000000 in
theorem v_270_4 {X : PX} {σ : Sg} {Q : Option PV → Sg → Prop} {x1 : Int} {x2 : Int}  (H : InR x2 ∧ InR (σ.1 170 12) ∧ (σ.1 170 12 ≤ x2 → Q (some (vI x1)) σ) ∧ (¬ σ.1 170 12 ≤ x2 → InR (σ.1 170 42) ∧ (σ.1 170 42 ≤ 0 → Q (some (vI x1)) σ) ∧ (¬ σ.1 170 42 ≤ 0 → InR x1 ∧ (x1 = (-1) → Ev X 270 4 [some (vR (some 170)), some (vI x2), some (vI (x2 + 1))] [] σ Q) ∧ (¬ x1 = (-1) → CI X 269 [vR (some 170), vI x2] σ (fun r5 τ1 => CI X 269 [vR (some 170), vI x1] τ1 (fun r6 τ2 => InR r5 ∧ InR r6 ∧ (r6 ≤ r5 → Ev X 270 4 [some (vR (some 170)), some (vI x1), some (vI (x2 + 1))] [] τ2 Q) ∧ (¬ r6 ≤ r5 → Ev X 270 4 [some (vR (some 170)), some (vI x2), some (vI (x2 + 1))] [] τ2 Q))))))) : Ev X 270 4 [some (vR (some 170)), some (vI x1), some (vI x2)] [] σ Q := by
  have hcd : cds 270 = cd_270 := rfl
  iterate 2 (refine e_nx hcd rfl rfl ?_)
  refine r_getI hcd rfl rfl rfl ?_
  obtain ⟨h1, H⟩ := H
  obtain ⟨h2, H⟩ := H
  refine r_icmp hcd rfl h1 h2 (fun hc => ?_) (fun hc => ?_)
  · replace H := H.1 hc
    refine e_nx hcd rfl rfl ?_
    exact r_iret hcd rfl rfl rfl H
  · replace H := H.2 hc
    refine e_nx hcd rfl rfl ?_
    refine r_getI hcd rfl rfl rfl ?_
    obtain ⟨h3, H⟩ := H
    refine r_if hcd rfl h3 (fun hc => ?_) (fun hc => ?_)
    · replace H := H.1 hc
      refine e_nx hcd rfl rfl ?_
      exact r_iret hcd rfl rfl rfl H
    · replace H := H.2 hc
      iterate 2 (refine e_nx hcd rfl rfl ?_)
      obtain ⟨h4, H⟩ := H
      refine r_icmp hcd rfl h4 (by omega) (fun hc => ?_) (fun hc => ?_)
      · replace H := H.1 hc
        iterate 3 (refine e_nx hcd rfl rfl ?_)
        show Ev X 270 25 [some (vR (some 170)), some (vI x2), some (vI x2)] [] _ Q
        refine e_nx hcd rfl rfl ?_
        show Ev X 270 26 [some (vR (some 170)), some (vI x2), some (vI (x2 + 1))] [] _ Q
        refine e_nx hcd rfl rfl ?_
        exact H
      · replace H := H.2 hc
        iterate 2 (refine e_nx hcd rfl rfl ?_)
        refine r_cv hcd rfl (by omega) rfl rfl rfl (Nat.le_of_ble_eq_true rfl) ?_
        refine Cl.mono H (fun v τ1 hq => ?_)
        obtain ⟨r5, rfl, H⟩ := hq
        show Ev X 270 17 _ [vI r5] τ1 Q
        iterate 2 (refine e_nx hcd rfl rfl ?_)
        refine r_cv hcd rfl (by omega) rfl rfl rfl (Nat.le_of_ble_eq_true rfl) ?_
        refine Cl.mono H (fun v τ2 hq => ?_)
        obtain ⟨r6, rfl, H⟩ := hq
        show Ev X 270 20 _ [vI r6, vI r5] τ2 Q
        obtain ⟨h7, H⟩ := H
        obtain ⟨h8, H⟩ := H
        refine r_icmp hcd rfl h7 h8 (fun hc => ?_) (fun hc => ?_)
        · replace H := H.1 hc
          iterate 2 (refine e_nx hcd rfl rfl ?_)
          show Ev X 270 25 [some (vR (some 170)), some (vI x1), some (vI x2)] [] _ Q
          refine e_nx hcd rfl rfl ?_
          show Ev X 270 26 [some (vR (some 170)), some (vI x1), some (vI (x2 + 1))] [] _ Q
          refine e_nx hcd rfl rfl ?_
          exact H
        · replace H := H.2 hc
          iterate 3 (refine e_nx hcd rfl rfl ?_)
          show Ev X 270 25 [some (vR (some 170)), some (vI x2), some (vI x2)] [] _ Q
          refine e_nx hcd rfl rfl ?_
          show Ev X 270 26 [some (vR (some 170)), some (vI x2), some (vI (x2 + 1))] [] _ Q
          refine e_nx hcd rfl rfl ?_
          exact H
/-! X12_sureOf -/
set_option maxRecDepth 20000 in
set_option maxHeartbeats 8000000 in
theorem v_271 {X : PX} {σ : Sg} {Q : Option PV → Sg → Prop} {a1 : Int}  (H : CI X 190 [vR (some 170), vI a1] σ (fun r1 τ1 => InR r1 ∧ (r1 = 0 → Q (some (vI (-1))) τ1) ∧ (¬ r1 = 0 → InR (τ1.1 170 42) ∧ (τ1.1 170 42 = 0 → Q (some (vI (-1))) τ1) ∧ (¬ τ1.1 170 42 = 0 → (0 ≤ a1 ∧ a1 < 7) ∧ InR (τ1.2 184 a1.toNat) ∧ (τ1.2 184 a1.toNat = 0 → (τ1.2 184 a1.toNat ≠ 0 → Q (some (vI 1)) τ1) ∧ (¬ τ1.2 184 a1.toNat ≠ 0 → Q (some (vI 0)) τ1)) ∧ (¬ τ1.2 184 a1.toNat = 0 → (τ1.2 184 a1.toNat = τ1.1 170 42 → (τ1.2 184 a1.toNat ≠ 0 → Q (some (vI 1)) τ1) ∧ (¬ τ1.2 184 a1.toNat ≠ 0 → Q (some (vI 0)) τ1)) ∧ (¬ τ1.2 184 a1.toNat = τ1.1 170 42 → Q (some (vI (-1))) τ1)))))) : Cl X 271 [vR (some 170), vI a1] σ Q := by
  have hcd : cds 271 = cd_271 := rfl
  refine c_in (Nat.le_of_ble_eq_true rfl) rfl rfl ?_
  show Ev X 271 0 [some (vR (some 170)), some (vI a1)] [] σ Q
  iterate 2 (refine e_nx hcd rfl rfl ?_)
  refine r_cv hcd rfl (by omega) rfl rfl rfl (Nat.le_of_ble_eq_true rfl) ?_
  refine Cl.mono H (fun v τ1 hq => ?_)
  obtain ⟨r1, rfl, H⟩ := hq
  show Ev X 271 3 _ [vI r1] τ1 Q
  obtain ⟨h2, H⟩ := H
  refine r_if hcd rfl h2 (fun hc => ?_) (fun hc => ?_)
  · replace H := H.1 hc
    refine e_nx hcd rfl rfl ?_
    exact r_iret hcd rfl rfl rfl H
  · replace H := H.2 hc
    refine e_nx hcd rfl rfl ?_
    refine r_getI hcd rfl rfl rfl ?_
    obtain ⟨h3, H⟩ := H
    refine r_if hcd rfl h3 (fun hc => ?_) (fun hc => ?_)
    · replace H := H.1 hc
      refine e_nx hcd rfl rfl ?_
      exact r_iret hcd rfl rfl rfl H
    · replace H := H.2 hc
      refine e_nx hcd rfl rfl ?_
      refine r_getR hcd rfl rfl rfl ?_
      refine e_nx hcd rfl rfl ?_
      obtain ⟨h4, H⟩ := H
      refine r_ild hcd rfl rfl (by omega) h4 ?_
      obtain ⟨h5, H⟩ := H
      refine r_if hcd rfl h5 (fun hc => ?_) (fun hc => ?_)
      · replace H := H.1 hc
        refine e_nx hcd rfl rfl ?_
        refine r_getR hcd rfl rfl rfl ?_
        refine e_nx hcd rfl rfl ?_
        refine r_ild hcd rfl rfl (by omega) h4 ?_
        refine r_if hcd rfl h5 (fun hc => ?_) (fun hc => ?_)
        · replace H := H.1 hc
          refine e_nx hcd rfl rfl ?_
          exact r_iret hcd rfl rfl rfl H
        · replace H := H.2 hc
          iterate 2 (refine e_nx hcd rfl rfl ?_)
          exact r_iret hcd rfl rfl rfl H
      · replace H := H.2 hc
        refine e_nx hcd rfl rfl ?_
        refine r_getR hcd rfl rfl rfl ?_
        refine e_nx hcd rfl rfl ?_
        refine r_ild hcd rfl rfl (by omega) h4 ?_
        refine e_nx hcd rfl rfl ?_
        refine r_getI hcd rfl rfl rfl ?_
        refine r_icmp hcd rfl h5 h3 (fun hc => ?_) (fun hc => ?_)
        · replace H := H.1 hc
          refine e_nx hcd rfl rfl ?_
          refine r_getR hcd rfl rfl rfl ?_
          refine e_nx hcd rfl rfl ?_
          refine r_ild hcd rfl rfl (by omega) h4 ?_
          refine r_if hcd rfl h5 (fun hc => ?_) (fun hc => ?_)
          · replace H := H.1 hc
            refine e_nx hcd rfl rfl ?_
            exact r_iret hcd rfl rfl rfl H
          · replace H := H.2 hc
            iterate 2 (refine e_nx hcd rfl rfl ?_)
            exact r_iret hcd rfl rfl rfl H
        · replace H := H.2 hc
          refine e_nx hcd rfl rfl ?_
          exact r_iret hcd rfl rfl rfl H
/-! X12_fits -/
set_option maxRecDepth 20000 in
set_option maxHeartbeats 8000000 in
theorem v_272 {X : PX} {σ : Sg} {Q : Option PV → Sg → Prop} {a1 : Int} {a2 : Int} {a3 : Int}  (H : CI X 189 [vR (some 170), vI a1] σ (fun r1 τ1 => InR r1 ∧ (r1 = 0 → Q (some (vI (-2))) τ1) ∧ (¬ r1 = 0 → CI X 265 [vR (some 170), vI a2] τ1 (fun r3 τ2 => InR r3 ∧ (r3 = 0 → Q (some (vI (-2))) τ2) ∧ (¬ r3 = 0 → InR a3 ∧ (a3 < 0 → Q (some (vI (-2))) τ2) ∧ (¬ a3 < 0 → (a3 ≠ 9 → CV X 268 [vR (some 170)] τ2 (fun τ3 => (2 ≤ a3 → (9 ≤ a3 → InR (a3 - 10) ∧ InR (τ3.1 170 42) ∧ (τ3.1 170 42 ≤ a3 - 10 → Q (some (vI (-2))) τ3) ∧ (¬ τ3.1 170 42 ≤ a3 - 10 → (0 ≤ a3 - 10 ∧ a3 - 10 < 128) ∧ Q (some (vI (τ3.2 182 (a3 - 10).toNat))) τ3)) ∧ (¬ 9 ≤ a3 → CI X 271 [vR (some 170), vI (a3 - 2)] τ3 (fun r9 τ4 => Q (some (vI r9)) τ4))) ∧ (¬ 2 ≤ a3 → (a3 ≠ 0 → CI X 270 [vR (some 170)] τ3 (fun r10 τ5 => Q (some (vI r10)) τ5)) ∧ (¬ a3 ≠ 0 → Q (some (vI (τ3.1 170 42))) τ3)))) ∧ (¬ a3 ≠ 9 → Q (some (vI (-2))) τ2))))))) : Cl X 272 [vR (some 170), vI a1, vI a2, vI a3] σ Q := by
  have hcd : cds 272 = cd_272 := rfl
  refine c_in (Nat.le_of_ble_eq_true rfl) rfl rfl ?_
  show Ev X 272 0 [some (vR (some 170)), some (vI a1), some (vI a2), some (vI a3)] [] σ Q
  iterate 2 (refine e_nx hcd rfl rfl ?_)
  refine r_cv hcd rfl (by omega) rfl rfl rfl (Nat.le_of_ble_eq_true rfl) ?_
  refine Cl.mono H (fun v τ1 hq => ?_)
  obtain ⟨r1, rfl, H⟩ := hq
  show Ev X 272 3 _ [vI r1] τ1 Q
  obtain ⟨h2, H⟩ := H
  refine r_if hcd rfl h2 (fun hc => ?_) (fun hc => ?_)
  · replace H := H.1 hc
    refine e_nx hcd rfl rfl ?_
    exact r_iret hcd rfl rfl rfl H
  · replace H := H.2 hc
    iterate 2 (refine e_nx hcd rfl rfl ?_)
    refine r_cv hcd rfl (by omega) rfl rfl rfl (Nat.le_of_ble_eq_true rfl) ?_
    refine Cl.mono H (fun v τ2 hq => ?_)
    obtain ⟨r3, rfl, H⟩ := hq
    show Ev X 272 7 _ [vI r3] τ2 Q
    obtain ⟨h4, H⟩ := H
    refine r_if hcd rfl h4 (fun hc => ?_) (fun hc => ?_)
    · replace H := H.1 hc
      refine e_nx hcd rfl rfl ?_
      exact r_iret hcd rfl rfl rfl H
    · replace H := H.2 hc
      refine e_nx hcd rfl rfl ?_
      obtain ⟨h5, H⟩ := H
      refine r_if hcd rfl h5 (fun hc => ?_) (fun hc => ?_)
      · replace H := H.1 hc
        refine e_nx hcd rfl rfl ?_
        exact r_iret hcd rfl rfl rfl H
      · replace H := H.2 hc
        iterate 2 (refine e_nx hcd rfl rfl ?_)
        refine r_icmp hcd rfl h5 (by omega) (fun hc => ?_) (fun hc => ?_)
        · replace H := H.1 hc
          refine e_nx hcd rfl rfl ?_
          refine r_cv hcd rfl (by omega) rfl rfl rfl (Nat.le_of_ble_eq_true rfl) ?_
          refine Cl.mono H (fun v τ3 hq => ?_)
          obtain ⟨rfl, H⟩ := hq
          show Ev X 272 17 _ [] τ3 Q
          iterate 2 (refine e_nx hcd rfl rfl ?_)
          refine r_icmp hcd rfl h5 (by omega) (fun hc => ?_) (fun hc => ?_)
          · replace H := H.1 hc
            iterate 2 (refine e_nx hcd rfl rfl ?_)
            refine r_icmp hcd rfl h5 (by omega) (fun hc => ?_) (fun hc => ?_)
            · replace H := H.1 hc
              iterate 4 (refine e_nx hcd rfl rfl ?_)
              refine r_getI hcd rfl rfl rfl ?_
              obtain ⟨h6, H⟩ := H
              obtain ⟨h7, H⟩ := H
              refine r_icmp hcd rfl h6 h7 (fun hc => ?_) (fun hc => ?_)
              · replace H := H.1 hc
                refine e_nx hcd rfl rfl ?_
                exact r_iret hcd rfl rfl rfl H
              · replace H := H.2 hc
                refine e_nx hcd rfl rfl ?_
                refine r_getR hcd rfl rfl rfl ?_
                iterate 3 (refine e_nx hcd rfl rfl ?_)
                obtain ⟨h8, H⟩ := H
                refine r_ild hcd rfl rfl (by omega) h8 ?_
                refine e_nx hcd rfl rfl ?_
                exact r_iret hcd rfl rfl rfl H
            · replace H := H.2 hc
              iterate 4 (refine e_nx hcd rfl rfl ?_)
              refine r_cv hcd rfl (by omega) rfl rfl rfl (Nat.le_of_ble_eq_true rfl) ?_
              refine Cl.mono H (fun v τ4 hq => ?_)
              obtain ⟨r9, rfl, H⟩ := hq
              show Ev X 272 36 _ [vI r9] τ4 Q
              exact r_iret hcd rfl rfl rfl H
          · replace H := H.2 hc
            refine e_nx hcd rfl rfl ?_
            refine r_if hcd rfl h5 (fun hc => ?_) (fun hc => ?_)
            · replace H := H.1 hc
              refine e_nx hcd rfl rfl ?_
              refine r_cv hcd rfl (by omega) rfl rfl rfl (Nat.le_of_ble_eq_true rfl) ?_
              refine Cl.mono H (fun v τ5 hq => ?_)
              obtain ⟨r10, rfl, H⟩ := hq
              show Ev X 272 27 _ [vI r10] τ5 Q
              exact r_iret hcd rfl rfl rfl H
            · replace H := H.2 hc
              refine e_nx hcd rfl rfl ?_
              refine r_getI hcd rfl rfl rfl ?_
              refine e_nx hcd rfl rfl ?_
              exact r_iret hcd rfl rfl rfl H
        · replace H := H.2 hc
          refine e_nx hcd rfl rfl ?_
          exact r_iret hcd rfl rfl rfl H
/-! X12_odds -/
set_option maxRecDepth 20000 in
set_option maxHeartbeats 8000000 in
theorem v_273 {X : PX} {σ : Sg} {Q : Option PV → Sg → Prop} {a1 : Int} {a2 : Int} {a3 : Int} {a4 : Int}  (H : CI X 189 [vR (some 170), vI a1] σ (fun r1 τ1 => InR r1 ∧ (r1 = 0 → Q (some (vI (-1))) τ1) ∧ (¬ r1 = 0 → CI X 265 [vR (some 170), vI a2] τ1 (fun r3 τ2 => InR r3 ∧ (r3 = 0 → Q (some (vI (-1))) τ2) ∧ (¬ r3 = 0 → CI X 190 [vR (some 170), vI a3] τ2 (fun r5 τ3 => InR r5 ∧ (r5 ≠ 0 → CV X 268 [vR (some 170)] τ3 (fun τ4 => InR (τ4.1 170 42) ∧ (τ4.1 170 42 ≠ 0 → (0 ≤ a3 ∧ a3 < 7) ∧ CI X 214 [vI (τ4.2 184 a3.toNat), vI (τ4.1 170 42), vI a4] τ4 (fun r9 τ5 => Q (some (vI r9)) τ5)) ∧ (¬ τ4.1 170 42 ≠ 0 → Q (some (vI (-1))) τ4))) ∧ (¬ r5 ≠ 0 → Q (some (vI (-1))) τ3))))))) : Cl X 273 [vR (some 170), vI a1, vI a2, vI a3, vI a4] σ Q := by
  have hcd : cds 273 = cd_273 := rfl
  refine c_in (Nat.le_of_ble_eq_true rfl) rfl rfl ?_
  show Ev X 273 0 [some (vR (some 170)), some (vI a1), some (vI a2), some (vI a3), some (vI a4)] [] σ Q
  iterate 2 (refine e_nx hcd rfl rfl ?_)
  refine r_cv hcd rfl (by omega) rfl rfl rfl (Nat.le_of_ble_eq_true rfl) ?_
  refine Cl.mono H (fun v τ1 hq => ?_)
  obtain ⟨r1, rfl, H⟩ := hq
  show Ev X 273 3 _ [vI r1] τ1 Q
  obtain ⟨h2, H⟩ := H
  refine r_if hcd rfl h2 (fun hc => ?_) (fun hc => ?_)
  · replace H := H.1 hc
    refine e_nx hcd rfl rfl ?_
    exact r_iret hcd rfl rfl rfl H
  · replace H := H.2 hc
    iterate 2 (refine e_nx hcd rfl rfl ?_)
    refine r_cv hcd rfl (by omega) rfl rfl rfl (Nat.le_of_ble_eq_true rfl) ?_
    refine Cl.mono H (fun v τ2 hq => ?_)
    obtain ⟨r3, rfl, H⟩ := hq
    show Ev X 273 7 _ [vI r3] τ2 Q
    obtain ⟨h4, H⟩ := H
    refine r_if hcd rfl h4 (fun hc => ?_) (fun hc => ?_)
    · replace H := H.1 hc
      refine e_nx hcd rfl rfl ?_
      exact r_iret hcd rfl rfl rfl H
    · replace H := H.2 hc
      iterate 2 (refine e_nx hcd rfl rfl ?_)
      refine r_cv hcd rfl (by omega) rfl rfl rfl (Nat.le_of_ble_eq_true rfl) ?_
      refine Cl.mono H (fun v τ3 hq => ?_)
      obtain ⟨r5, rfl, H⟩ := hq
      show Ev X 273 11 _ [vI r5] τ3 Q
      obtain ⟨h6, H⟩ := H
      refine r_if hcd rfl h6 (fun hc => ?_) (fun hc => ?_)
      · replace H := H.1 hc
        refine e_nx hcd rfl rfl ?_
        refine r_cv hcd rfl (by omega) rfl rfl rfl (Nat.le_of_ble_eq_true rfl) ?_
        refine Cl.mono H (fun v τ4 hq => ?_)
        obtain ⟨rfl, H⟩ := hq
        show Ev X 273 16 _ [] τ4 Q
        refine e_nx hcd rfl rfl ?_
        refine r_getI hcd rfl rfl rfl ?_
        obtain ⟨h7, H⟩ := H
        refine r_if hcd rfl h7 (fun hc => ?_) (fun hc => ?_)
        · replace H := H.1 hc
          refine e_nx hcd rfl rfl ?_
          refine r_getR hcd rfl rfl rfl ?_
          refine e_nx hcd rfl rfl ?_
          obtain ⟨h8, H⟩ := H
          refine r_ild hcd rfl rfl (by omega) h8 ?_
          refine e_nx hcd rfl rfl ?_
          refine r_getI hcd rfl rfl rfl ?_
          refine e_nx hcd rfl rfl ?_
          refine r_cs hcd rfl (by omega) (Nat.le_of_ble_eq_true rfl) rfl rfl (Nat.le_of_ble_eq_true rfl) ?_
          refine Cl.mono H (fun v τ5 hq => ?_)
          obtain ⟨r9, rfl, H⟩ := hq
          show Ev X 273 29 _ [vI r9] τ5 Q
          exact r_iret hcd rfl rfl rfl H
        · replace H := H.2 hc
          iterate 2 (refine e_nx hcd rfl rfl ?_)
          exact r_iret hcd rfl rfl rfl H
      · replace H := H.2 hc
        refine e_nx hcd rfl rfl ?_
        exact r_iret hcd rfl rfl rfl H
/-! X12_alikeOf -/
theorem v_274 {X : PX} {σ : Sg} {Q : Option PV → Sg → Prop}   (H : Ev X 274 4 [some (vR (some 170)), some (vI 0), some (vI 0), none, none, none] [] σ Q) : Cl X 274 [vR (some 170)] σ Q := by
  have hcd : cds 274 = cd_274 := rfl
  refine c_in (Nat.le_of_ble_eq_true rfl) rfl rfl ?_
  show Ev X 274 0 [some (vR (some 170)), none, none, none, none, none] [] σ Q
  iterate 2 (refine e_nx hcd rfl rfl ?_)
  show Ev X 274 2 [some (vR (some 170)), some (vI 0), none, none, none, none] [] _ Q
  iterate 2 (refine e_nx hcd rfl rfl ?_)
  show Ev X 274 4 [some (vR (some 170)), some (vI 0), some (vI 0), none, none, none] [] _ Q
  exact H
theorem v_274_4 {X : PX} {σ : Sg} {Q : Option PV → Sg → Prop} {x1 : Int} {x2 : Int}  (H : InR x2 ∧ InR (σ.1 170 42) ∧ (σ.1 170 42 ≤ x2 → Q (some (vI x1)) σ) ∧ (¬ σ.1 170 42 ≤ x2 → Ev X 274 10 [some (vR (some 170)), some (vI x1), some (vI x2), some (vI 0), none, none] [] σ Q)) : Ev X 274 4 [some (vR (some 170)), some (vI x1), some (vI x2), none, none, none] [] σ Q := by
  have hcd : cds 274 = cd_274 := rfl
  iterate 2 (refine e_nx hcd rfl rfl ?_)
  refine r_getI hcd rfl rfl rfl ?_
  obtain ⟨h1, H⟩ := H
  obtain ⟨h2, H⟩ := H
  refine r_icmp hcd rfl h1 h2 (fun hc => ?_) (fun hc => ?_)
  · replace H := H.1 hc
    refine e_nx hcd rfl rfl ?_
    exact r_iret hcd rfl rfl rfl H
  · replace H := H.2 hc
    iterate 2 (refine e_nx hcd rfl rfl ?_)
    show Ev X 274 10 [some (vR (some 170)), some (vI x1), some (vI x2), some (vI 0), none, none] [] _ Q
    exact H
theorem v_274_10 {X : PX} {σ : Sg} {Q : Option PV → Sg → Prop} {x1 : Int} {x2 : Int} {x3 : Int}  (H : InR x3 ∧ InR x2 ∧ (x2 ≤ x3 → Ev X 274 4 [some (vR (some 170)), some (vI x1), some (vI (x2 + 1)), none, none, none] [] σ Q) ∧ (¬ x2 ≤ x3 → Ev X 274 17 [some (vR (some 170)), some (vI x1), some (vI x2), some (vI x3), some (vI 1), some (vI 0)] [] σ Q)) : Ev X 274 10 [some (vR (some 170)), some (vI x1), some (vI x2), some (vI x3), none, none] [] σ Q := by
  have hcd : cds 274 = cd_274 := rfl
  iterate 2 (refine e_nx hcd rfl rfl ?_)
  obtain ⟨h1, H⟩ := H
  obtain ⟨h2, H⟩ := H
  refine r_icmp hcd rfl h1 h2 (fun hc => ?_) (fun hc => ?_)
  · replace H := H.1 hc
    refine e_nx hcd rfl rfl ?_
    show Ev X 274 56 [some (vR (some 170)), some (vI x1), some (vI (x2 + 1)), some (vI x3), none, none] [] _ Q
    refine e_nx hcd rfl rfl ?_
    refine e_fg [3] ?_
    exact H
  · replace H := H.2 hc
    iterate 2 (refine e_nx hcd rfl rfl ?_)
    show Ev X 274 15 [some (vR (some 170)), some (vI x1), some (vI x2), some (vI x3), some (vI 1), none] [] _ Q
    iterate 2 (refine e_nx hcd rfl rfl ?_)
    show Ev X 274 17 [some (vR (some 170)), some (vI x1), some (vI x2), some (vI x3), some (vI 1), some (vI 0)] [] _ Q
    exact H
set_option maxRecDepth 20000 in
set_option maxHeartbeats 8000000 in
theorem v_274_17 {X : PX} {σ : Sg} {Q : Option PV → Sg → Prop} {x1 : Int} {x2 : Int} {x3 : Int} {x4 : Int} {x5 : Int}  (H : InR x5 ∧ (7 ≤ x5 → InR x4 ∧ (x4 = 0 → Ev X 274 10 [some (vR (some 170)), some (vI (x1 + 0)), some (vI x2), some (vI (x3 + 1)), none, none] [] σ Q) ∧ (¬ x4 = 0 → Ev X 274 10 [some (vR (some 170)), some (vI (x1 + 1)), some (vI x2), some (vI (x3 + 1)), none, none] [] σ Q)) ∧ (¬ 7 ≤ x5 → InR x4 ∧ (x4 = 0 → Ev X 274 17 [some (vR (some 170)), some (vI x1), some (vI x2), some (vI x3), some (vI 0), some (vI (x5 + 1))] [] σ Q) ∧ (¬ x4 = 0 → (0 ≤ (7 * x2) + x5 ∧ (7 * x2) + x5 < 896) ∧ (0 ≤ (7 * x3) + x5 ∧ (7 * x3) + x5 < 896) ∧ InR (σ.2 183 ((7 * x2) + x5).toNat) ∧ InR (σ.2 183 ((7 * x3) + x5).toNat) ∧ (σ.2 183 ((7 * x2) + x5).toNat ≠ σ.2 183 ((7 * x3) + x5).toNat → Ev X 274 17 [some (vR (some 170)), some (vI x1), some (vI x2), some (vI x3), some (vI 0), some (vI (x5 + 1))] [] σ Q) ∧ (¬ σ.2 183 ((7 * x2) + x5).toNat ≠ σ.2 183 ((7 * x3) + x5).toNat → Ev X 274 17 [some (vR (some 170)), some (vI x1), some (vI x2), some (vI x3), some (vI 1), some (vI (x5 + 1))] [] σ Q)))) : Ev X 274 17 [some (vR (some 170)), some (vI x1), some (vI x2), some (vI x3), some (vI x4), some (vI x5)] [] σ Q := by
  have hcd : cds 274 = cd_274 := rfl
  iterate 2 (refine e_nx hcd rfl rfl ?_)
  obtain ⟨h1, H⟩ := H
  refine r_icmp hcd rfl h1 (by omega) (fun hc => ?_) (fun hc => ?_)
  · replace H := H.1 hc
    iterate 2 (refine e_nx hcd rfl rfl ?_)
    obtain ⟨h2, H⟩ := H
    refine r_if hcd rfl h2 (fun hc => ?_) (fun hc => ?_)
    · replace H := H.1 hc
      iterate 3 (refine e_nx hcd rfl rfl ?_)
      show Ev X 274 53 [some (vR (some 170)), some (vI (x1 + 0)), some (vI x2), some (vI x3), some (vI x4), some (vI x5)] [] _ Q
      refine e_nx hcd rfl rfl ?_
      show Ev X 274 54 [some (vR (some 170)), some (vI (x1 + 0)), some (vI x2), some (vI (x3 + 1)), some (vI x4), some (vI x5)] [] _ Q
      refine e_nx hcd rfl rfl ?_
      refine e_fg [4, 5] ?_
      exact H
    · replace H := H.2 hc
      iterate 4 (refine e_nx hcd rfl rfl ?_)
      show Ev X 274 53 [some (vR (some 170)), some (vI (x1 + 1)), some (vI x2), some (vI x3), some (vI x4), some (vI x5)] [] _ Q
      refine e_nx hcd rfl rfl ?_
      show Ev X 274 54 [some (vR (some 170)), some (vI (x1 + 1)), some (vI x2), some (vI (x3 + 1)), some (vI x4), some (vI x5)] [] _ Q
      refine e_nx hcd rfl rfl ?_
      refine e_fg [4, 5] ?_
      exact H
  · replace H := H.2 hc
    refine e_nx hcd rfl rfl ?_
    obtain ⟨h3, H⟩ := H
    refine r_if hcd rfl h3 (fun hc => ?_) (fun hc => ?_)
    · replace H := H.1 hc
      iterate 2 (refine e_nx hcd rfl rfl ?_)
      show Ev X 274 43 [some (vR (some 170)), some (vI x1), some (vI x2), some (vI x3), some (vI 0), some (vI x5)] [] _ Q
      refine e_nx hcd rfl rfl ?_
      show Ev X 274 44 [some (vR (some 170)), some (vI x1), some (vI x2), some (vI x3), some (vI 0), some (vI (x5 + 1))] [] _ Q
      refine e_nx hcd rfl rfl ?_
      exact H
    · replace H := H.2 hc
      refine e_nx hcd rfl rfl ?_
      refine r_getR hcd rfl rfl rfl ?_
      iterate 5 (refine e_nx hcd rfl rfl ?_)
      obtain ⟨h4, H⟩ := H
      refine r_ild hcd rfl rfl (by omega) h4 ?_
      refine e_nx hcd rfl rfl ?_
      refine r_getR hcd rfl rfl rfl ?_
      iterate 5 (refine e_nx hcd rfl rfl ?_)
      obtain ⟨h5, H⟩ := H
      refine r_ild hcd rfl rfl (by omega) h5 ?_
      obtain ⟨h6, H⟩ := H
      obtain ⟨h7, H⟩ := H
      refine r_icmp hcd rfl h6 h7 (fun hc => ?_) (fun hc => ?_)
      · replace H := H.1 hc
        iterate 2 (refine e_nx hcd rfl rfl ?_)
        show Ev X 274 43 [some (vR (some 170)), some (vI x1), some (vI x2), some (vI x3), some (vI 0), some (vI x5)] [] _ Q
        refine e_nx hcd rfl rfl ?_
        show Ev X 274 44 [some (vR (some 170)), some (vI x1), some (vI x2), some (vI x3), some (vI 0), some (vI (x5 + 1))] [] _ Q
        refine e_nx hcd rfl rfl ?_
        exact H
      · replace H := H.2 hc
        iterate 3 (refine e_nx hcd rfl rfl ?_)
        show Ev X 274 43 [some (vR (some 170)), some (vI x1), some (vI x2), some (vI x3), some (vI 1), some (vI x5)] [] _ Q
        refine e_nx hcd rfl rfl ?_
        show Ev X 274 44 [some (vR (some 170)), some (vI x1), some (vI x2), some (vI x3), some (vI 1), some (vI (x5 + 1))] [] _ Q
        refine e_nx hcd rfl rfl ?_
        exact H
/-! X12_fewOf -/
theorem v_275 {X : PX} {σ : Sg} {Q : Option PV → Sg → Prop} {a1 : Int}  (H : Ev X 275 4 [some (vR (some 170)), some (vI a1), some (vI (-1)), some (vI 0), none] [] σ Q) : Cl X 275 [vR (some 170), vI a1] σ Q := by
  have hcd : cds 275 = cd_275 := rfl
  refine c_in (Nat.le_of_ble_eq_true rfl) rfl rfl ?_
  show Ev X 275 0 [some (vR (some 170)), some (vI a1), none, none, none] [] σ Q
  iterate 2 (refine e_nx hcd rfl rfl ?_)
  show Ev X 275 2 [some (vR (some 170)), some (vI a1), some (vI (-1)), none, none] [] _ Q
  iterate 2 (refine e_nx hcd rfl rfl ?_)
  show Ev X 275 4 [some (vR (some 170)), some (vI a1), some (vI (-1)), some (vI 0), none] [] _ Q
  exact H
set_option maxRecDepth 20000 in
set_option maxHeartbeats 8000000 in
theorem v_275_4 {X : PX} {σ : Sg} {Q : Option PV → Sg → Prop} {x1 : Int} {x2 : Int} {x3 : Int}  (H : InR x3 ∧ InR (σ.1 170 42) ∧ (σ.1 170 42 ≤ x3 → Q (some (vI x2)) σ) ∧ (¬ σ.1 170 42 ≤ x3 → (0 ≤ x3 ∧ x3 < 128) ∧ CI X 195 [vI (σ.2 182 x3.toNat)] σ (fun r4 τ1 => InR x2 ∧ (x2 = (-1) → Ev X 275 4 [some (vR (some 170)), some (vI x1), some (vI r4), some (vI (x3 + 1)), none] [] τ1 Q) ∧ (¬ x2 = (-1) → InR x1 ∧ (x1 = 0 → InR r4 ∧ (x2 ≤ r4 → Ev X 275 4 [some (vR (some 170)), some (vI x1), some (vI x2), some (vI (x3 + 1)), none] [] τ1 Q) ∧ (¬ x2 ≤ r4 → Ev X 275 4 [some (vR (some 170)), some (vI x1), some (vI r4), some (vI (x3 + 1)), none] [] τ1 Q)) ∧ (¬ x1 = 0 → InR r4 ∧ (r4 ≤ x2 → Ev X 275 4 [some (vR (some 170)), some (vI x1), some (vI x2), some (vI (x3 + 1)), none] [] τ1 Q) ∧ (¬ r4 ≤ x2 → Ev X 275 4 [some (vR (some 170)), some (vI x1), some (vI r4), some (vI (x3 + 1)), none] [] τ1 Q)))))) : Ev X 275 4 [some (vR (some 170)), some (vI x1), some (vI x2), some (vI x3), none] [] σ Q := by
  have hcd : cds 275 = cd_275 := rfl
  iterate 2 (refine e_nx hcd rfl rfl ?_)
  refine r_getI hcd rfl rfl rfl ?_
  obtain ⟨h1, H⟩ := H
  obtain ⟨h2, H⟩ := H
  refine r_icmp hcd rfl h1 h2 (fun hc => ?_) (fun hc => ?_)
  · replace H := H.1 hc
    refine e_nx hcd rfl rfl ?_
    exact r_iret hcd rfl rfl rfl H
  · replace H := H.2 hc
    refine e_nx hcd rfl rfl ?_
    refine r_getR hcd rfl rfl rfl ?_
    refine e_nx hcd rfl rfl ?_
    obtain ⟨h3, H⟩ := H
    refine r_ild hcd rfl rfl (by omega) h3 ?_
    refine r_cs hcd rfl (by omega) (Nat.le_of_ble_eq_true rfl) rfl rfl (Nat.le_of_ble_eq_true rfl) ?_
    refine Cl.mono H (fun v τ1 hq => ?_)
    obtain ⟨r4, rfl, H⟩ := hq
    show Ev X 275 13 _ [vI r4] τ1 Q
    refine e_nx hcd rfl rfl ?_
    show Ev X 275 14 [some (vR (some 170)), some (vI x1), some (vI x2), some (vI x3), some (vI r4)] [] _ Q
    iterate 2 (refine e_nx hcd rfl rfl ?_)
    obtain ⟨h5, H⟩ := H
    refine r_icmp hcd rfl h5 (by omega) (fun hc => ?_) (fun hc => ?_)
    · replace H := H.1 hc
      iterate 3 (refine e_nx hcd rfl rfl ?_)
      show Ev X 275 30 [some (vR (some 170)), some (vI x1), some (vI r4), some (vI x3), some (vI r4)] [] _ Q
      refine e_nx hcd rfl rfl ?_
      show Ev X 275 31 [some (vR (some 170)), some (vI x1), some (vI r4), some (vI (x3 + 1)), some (vI r4)] [] _ Q
      refine e_nx hcd rfl rfl ?_
      refine e_fg [4] ?_
      exact H
    · replace H := H.2 hc
      refine e_nx hcd rfl rfl ?_
      obtain ⟨h6, H⟩ := H
      refine r_if hcd rfl h6 (fun hc => ?_) (fun hc => ?_)
      · replace H := H.1 hc
        iterate 2 (refine e_nx hcd rfl rfl ?_)
        obtain ⟨h7, H⟩ := H
        refine r_icmp hcd rfl h7 h5 (fun hc => ?_) (fun hc => ?_)
        · replace H := H.1 hc
          iterate 2 (refine e_nx hcd rfl rfl ?_)
          show Ev X 275 30 [some (vR (some 170)), some (vI x1), some (vI x2), some (vI x3), some (vI r4)] [] _ Q
          refine e_nx hcd rfl rfl ?_
          show Ev X 275 31 [some (vR (some 170)), some (vI x1), some (vI x2), some (vI (x3 + 1)), some (vI r4)] [] _ Q
          refine e_nx hcd rfl rfl ?_
          refine e_fg [4] ?_
          exact H
        · replace H := H.2 hc
          iterate 3 (refine e_nx hcd rfl rfl ?_)
          show Ev X 275 30 [some (vR (some 170)), some (vI x1), some (vI r4), some (vI x3), some (vI r4)] [] _ Q
          refine e_nx hcd rfl rfl ?_
          show Ev X 275 31 [some (vR (some 170)), some (vI x1), some (vI r4), some (vI (x3 + 1)), some (vI r4)] [] _ Q
          refine e_nx hcd rfl rfl ?_
          refine e_fg [4] ?_
          exact H
      · replace H := H.2 hc
        iterate 2 (refine e_nx hcd rfl rfl ?_)
        obtain ⟨h8, H⟩ := H
        refine r_icmp hcd rfl h8 h5 (fun hc => ?_) (fun hc => ?_)
        · replace H := H.1 hc
          iterate 2 (refine e_nx hcd rfl rfl ?_)
          show Ev X 275 30 [some (vR (some 170)), some (vI x1), some (vI x2), some (vI x3), some (vI r4)] [] _ Q
          refine e_nx hcd rfl rfl ?_
          show Ev X 275 31 [some (vR (some 170)), some (vI x1), some (vI x2), some (vI (x3 + 1)), some (vI r4)] [] _ Q
          refine e_nx hcd rfl rfl ?_
          refine e_fg [4] ?_
          exact H
        · replace H := H.2 hc
          iterate 4 (refine e_nx hcd rfl rfl ?_)
          show Ev X 275 30 [some (vR (some 170)), some (vI x1), some (vI r4), some (vI x3), some (vI r4)] [] _ Q
          refine e_nx hcd rfl rfl ?_
          show Ev X 275 31 [some (vR (some 170)), some (vI x1), some (vI r4), some (vI (x3 + 1)), some (vI r4)] [] _ Q
          refine e_nx hcd rfl rfl ?_
          refine e_fg [4] ?_
          exact H
