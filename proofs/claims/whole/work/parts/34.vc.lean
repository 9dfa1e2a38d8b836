/-! X8_richest -/
theorem v_89 {X : PX} {σ : Sg} {Q : Option PV → Sg → Prop} {p1 : Nat} (hp1 : p1 ∈ parL) (H : Ev X 89 4 [some (vR (some p1)), some (vI (-1)), some (vI 0)] [] σ Q) : Cl X 89 [vR (some p1)] σ Q := by
  have hcd : cds 89 = cd_89 := rfl
  refine c_in (Nat.le_of_ble_eq_true rfl) rfl rfl ?_
  show Ev X 89 0 [some (vR (some p1)), none, none] [] σ Q
  iterate 2 (refine e_nx hcd rfl rfl ?_)
  show Ev X 89 2 [some (vR (some p1)), some (vI (-1)), none] [] _ Q
  iterate 2 (refine e_nx hcd rfl rfl ?_)
  show Ev X 89 4 [some (vR (some p1)), some (vI (-1)), some (vI 0)] [] _ Q
  exact H
set_option maxRecDepth 20000 in
set_option maxHeartbeats 8000000 in
theorem v_89_4 {X : PX} {σ : Sg} {Q : Option PV → Sg → Prop} {p1 : Nat} {x1 : Int} {x2 : Int} (hp1 : p1 ∈ parL) (H : InR x2 ∧ InR (σ.1 p1 2) ∧ (σ.1 p1 2 ≤ x2 → Q (some (vI x1)) σ) ∧ (¬ σ.1 p1 2 ≤ x2 → (7 ≤ x2 → Q (some (vI x1)) σ) ∧ (¬ 7 ≤ x2 → InR x1 ∧ (x1 = (-1) → Ev X 89 4 [some (vR (some p1)), some (vI x2), some (vI (x2 + 1))] [] σ Q) ∧ (¬ x1 = (-1) → (0 ≤ x2 ∧ x2 < 7) ∧ (0 ≤ x1 ∧ x1 < 7) ∧ InR (σ.2 (p1 + 1) x2.toNat) ∧ InR (σ.2 (p1 + 1) x1.toNat) ∧ (σ.2 (p1 + 1) x2.toNat ≤ σ.2 (p1 + 1) x1.toNat → Ev X 89 4 [some (vR (some p1)), some (vI x1), some (vI (x2 + 1))] [] σ Q) ∧ (¬ σ.2 (p1 + 1) x2.toNat ≤ σ.2 (p1 + 1) x1.toNat → Ev X 89 4 [some (vR (some p1)), some (vI x2), some (vI (x2 + 1))] [] σ Q))))) : Ev X 89 4 [some (vR (some p1)), some (vI x1), some (vI x2)] [] σ Q := by
  have hcd : cds 89 = cd_89 := rfl
  iterate 2 (refine e_nx hcd rfl rfl ?_)
  refine r_getI hcd rfl ((parS hp1).1) rfl ?_
  obtain ⟨h1, H⟩ := H
  obtain ⟨h2, H⟩ := H
  refine r_icmp hcd rfl h1 h2 (fun hc => ?_) (fun hc => ?_)
  · replace H := H.1 hc
    refine e_nx hcd rfl rfl ?_
    exact r_iret hcd rfl rfl rfl H
  · replace H := H.2 hc
    iterate 2 (refine e_nx hcd rfl rfl ?_)
    refine r_icmp hcd rfl h1 (by omega) (fun hc => ?_) (fun hc => ?_)
    · replace H := H.1 hc
      refine e_nx hcd rfl rfl ?_
      exact r_iret hcd rfl rfl rfl H
    · replace H := H.2 hc
      iterate 2 (refine e_nx hcd rfl rfl ?_)
      obtain ⟨h3, H⟩ := H
      refine r_icmp hcd rfl h3 (by omega) (fun hc => ?_) (fun hc => ?_)
      · replace H := H.1 hc
        iterate 2 (refine e_nx hcd rfl rfl ?_)
        show Ev X 89 25 [some (vR (some p1)), some (vI x2), some (vI x2)] [] _ Q
        refine e_nx hcd rfl rfl ?_
        show Ev X 89 26 [some (vR (some p1)), some (vI x2), some (vI (x2 + 1))] [] _ Q
        refine e_nx hcd rfl rfl ?_
        exact H
      · replace H := H.2 hc
        refine e_nx hcd rfl rfl ?_
        refine r_getR hcd rfl ((parS hp1).1) rfl ?_
        refine e_nx hcd rfl rfl ?_
        obtain ⟨h4, H⟩ := H
        refine r_ild hcd rfl ((parS hp1).2.1) (by omega) h4 ?_
        refine e_nx hcd rfl rfl ?_
        refine r_getR hcd rfl ((parS hp1).1) rfl ?_
        refine e_nx hcd rfl rfl ?_
        obtain ⟨h5, H⟩ := H
        refine r_ild hcd rfl ((parS hp1).2.1) (by omega) h5 ?_
        obtain ⟨h6, H⟩ := H
        obtain ⟨h7, H⟩ := H
        refine r_icmp hcd rfl h6 h7 (fun hc => ?_) (fun hc => ?_)
        · replace H := H.1 hc
          refine e_nx hcd rfl rfl ?_
          show Ev X 89 26 [some (vR (some p1)), some (vI x1), some (vI (x2 + 1))] [] _ Q
          refine e_nx hcd rfl rfl ?_
          exact H
        · replace H := H.2 hc
          iterate 2 (refine e_nx hcd rfl rfl ?_)
          show Ev X 89 25 [some (vR (some p1)), some (vI x2), some (vI x2)] [] _ Q
          refine e_nx hcd rfl rfl ?_
          show Ev X 89 26 [some (vR (some p1)), some (vI x2), some (vI (x2 + 1))] [] _ Q
          refine e_nx hcd rfl rfl ?_
          exact H
/-! X8_poorest -/
theorem v_90 {X : PX} {σ : Sg} {Q : Option PV → Sg → Prop} {p1 : Nat} (hp1 : p1 ∈ parL) (H : Ev X 90 4 [some (vR (some p1)), some (vI (-1)), some (vI 0)] [] σ Q) : Cl X 90 [vR (some p1)] σ Q := by
  have hcd : cds 90 = cd_90 := rfl
  refine c_in (Nat.le_of_ble_eq_true rfl) rfl rfl ?_
  show Ev X 90 0 [some (vR (some p1)), none, none] [] σ Q
  iterate 2 (refine e_nx hcd rfl rfl ?_)
  show Ev X 90 2 [some (vR (some p1)), some (vI (-1)), none] [] _ Q
  iterate 2 (refine e_nx hcd rfl rfl ?_)
  show Ev X 90 4 [some (vR (some p1)), some (vI (-1)), some (vI 0)] [] _ Q
  exact H
set_option maxRecDepth 20000 in
set_option maxHeartbeats 8000000 in
theorem v_90_4 {X : PX} {σ : Sg} {Q : Option PV → Sg → Prop} {p1 : Nat} {x1 : Int} {x2 : Int} (hp1 : p1 ∈ parL) (H : InR x2 ∧ InR (σ.1 p1 2) ∧ (σ.1 p1 2 ≤ x2 → Q (some (vI x1)) σ) ∧ (¬ σ.1 p1 2 ≤ x2 → (7 ≤ x2 → Q (some (vI x1)) σ) ∧ (¬ 7 ≤ x2 → InR x1 ∧ (x1 = (-1) → Ev X 90 4 [some (vR (some p1)), some (vI x2), some (vI (x2 + 1))] [] σ Q) ∧ (¬ x1 = (-1) → (0 ≤ x2 ∧ x2 < 7) ∧ (0 ≤ x1 ∧ x1 < 7) ∧ InR (σ.2 (p1 + 1) x2.toNat) ∧ InR (σ.2 (p1 + 1) x1.toNat) ∧ (σ.2 (p1 + 1) x1.toNat ≤ σ.2 (p1 + 1) x2.toNat → Ev X 90 4 [some (vR (some p1)), some (vI x1), some (vI (x2 + 1))] [] σ Q) ∧ (¬ σ.2 (p1 + 1) x1.toNat ≤ σ.2 (p1 + 1) x2.toNat → Ev X 90 4 [some (vR (some p1)), some (vI x2), some (vI (x2 + 1))] [] σ Q))))) : Ev X 90 4 [some (vR (some p1)), some (vI x1), some (vI x2)] [] σ Q := by
  have hcd : cds 90 = cd_90 := rfl
  iterate 2 (refine e_nx hcd rfl rfl ?_)
  refine r_getI hcd rfl ((parS hp1).1) rfl ?_
  obtain ⟨h1, H⟩ := H
  obtain ⟨h2, H⟩ := H
  refine r_icmp hcd rfl h1 h2 (fun hc => ?_) (fun hc => ?_)
  · replace H := H.1 hc
    refine e_nx hcd rfl rfl ?_
    exact r_iret hcd rfl rfl rfl H
  · replace H := H.2 hc
    iterate 2 (refine e_nx hcd rfl rfl ?_)
    refine r_icmp hcd rfl h1 (by omega) (fun hc => ?_) (fun hc => ?_)
    · replace H := H.1 hc
      refine e_nx hcd rfl rfl ?_
      exact r_iret hcd rfl rfl rfl H
    · replace H := H.2 hc
      iterate 2 (refine e_nx hcd rfl rfl ?_)
      obtain ⟨h3, H⟩ := H
      refine r_icmp hcd rfl h3 (by omega) (fun hc => ?_) (fun hc => ?_)
      · replace H := H.1 hc
        iterate 2 (refine e_nx hcd rfl rfl ?_)
        show Ev X 90 25 [some (vR (some p1)), some (vI x2), some (vI x2)] [] _ Q
        refine e_nx hcd rfl rfl ?_
        show Ev X 90 26 [some (vR (some p1)), some (vI x2), some (vI (x2 + 1))] [] _ Q
        refine e_nx hcd rfl rfl ?_
        exact H
      · replace H := H.2 hc
        refine e_nx hcd rfl rfl ?_
        refine r_getR hcd rfl ((parS hp1).1) rfl ?_
        refine e_nx hcd rfl rfl ?_
        obtain ⟨h4, H⟩ := H
        refine r_ild hcd rfl ((parS hp1).2.1) (by omega) h4 ?_
        refine e_nx hcd rfl rfl ?_
        refine r_getR hcd rfl ((parS hp1).1) rfl ?_
        refine e_nx hcd rfl rfl ?_
        obtain ⟨h5, H⟩ := H
        refine r_ild hcd rfl ((parS hp1).2.1) (by omega) h5 ?_
        obtain ⟨h6, H⟩ := H
        obtain ⟨h7, H⟩ := H
        refine r_icmp hcd rfl h6 h7 (fun hc => ?_) (fun hc => ?_)
        · replace H := H.1 hc
          refine e_nx hcd rfl rfl ?_
          show Ev X 90 26 [some (vR (some p1)), some (vI x1), some (vI (x2 + 1))] [] _ Q
          refine e_nx hcd rfl rfl ?_
          exact H
        · replace H := H.2 hc
          iterate 2 (refine e_nx hcd rfl rfl ?_)
          show Ev X 90 25 [some (vR (some p1)), some (vI x2), some (vI x2)] [] _ Q
          refine e_nx hcd rfl rfl ?_
          show Ev X 90 26 [some (vR (some p1)), some (vI x2), some (vI (x2 + 1))] [] _ Q
          refine e_nx hcd rfl rfl ?_
          exact H
/-! X9_read -/
theorem v_92 {X : PX} {σ : Sg} {Q : Option PV → Sg → Prop} {a1 : Int}  (H : CV X 78 [vR (some 132)] σ (fun τ1 => CV X 106 [vR (some 131)] (up2 (up2 (up2 (up2 (up2 (up2 τ1.1 139 0 0) 142 0 0) 131 3 0) 131 4 (-1)) 131 11 0) 131 9 0, τ1.2) (fun τ2 => Ev X 92 27 [some (vR (some 131)), some (vI a1), some (vI 0)] [] τ2 Q))) : Cl X 92 [vR (some 131), vI a1] σ Q := by
  have hcd : cds 92 = cd_92 := rfl
  refine c_in (Nat.le_of_ble_eq_true rfl) rfl rfl ?_
  show Ev X 92 0 [some (vR (some 131)), some (vI a1), none] [] σ Q
  refine e_nx hcd rfl rfl ?_
  refine r_getR hcd rfl rfl rfl ?_
  refine r_cv hcd rfl (by omega) rfl rfl rfl (Nat.le_of_ble_eq_true rfl) ?_
  refine Cl.mono H (fun v τ1 hq => ?_)
  obtain ⟨rfl, H⟩ := hq
  show Ev X 92 3 _ [] τ1 Q
  refine e_nx hcd rfl rfl ?_
  refine r_getR hcd rfl rfl rfl ?_
  refine e_nx hcd rfl rfl ?_
  refine r_putI hcd rfl rfl rfl rfl ?_
  refine e_nx hcd rfl rfl ?_
  refine r_getR hcd rfl rfl rfl ?_
  refine e_nx hcd rfl rfl ?_
  refine r_putI hcd rfl rfl rfl rfl ?_
  iterate 2 (refine e_nx hcd rfl rfl ?_)
  refine r_putI hcd rfl rfl rfl rfl ?_
  iterate 2 (refine e_nx hcd rfl rfl ?_)
  refine r_putI hcd rfl rfl rfl rfl ?_
  iterate 2 (refine e_nx hcd rfl rfl ?_)
  refine r_putI hcd rfl rfl rfl rfl ?_
  iterate 2 (refine e_nx hcd rfl rfl ?_)
  refine r_putI hcd rfl rfl rfl rfl ?_
  refine e_nx hcd rfl rfl ?_
  refine r_cv hcd rfl (by omega) rfl rfl rfl (Nat.le_of_ble_eq_true rfl) ?_
  refine Cl.mono H (fun v τ2 hq => ?_)
  obtain ⟨rfl, H⟩ := hq
  show Ev X 92 25 _ [] τ2 Q
  iterate 2 (refine e_nx hcd rfl rfl ?_)
  show Ev X 92 27 [some (vR (some 131)), some (vI a1), some (vI 0)] [] _ Q
  exact H
set_option maxRecDepth 20000 in
set_option maxHeartbeats 8000000 in
theorem v_92_27 {X : PX} {σ : Sg} {Q : Option PV → Sg → Prop} {x1 : Int} {x2 : Int}  (H : InR x2 ∧ (600 < x2 → InR x1 ∧ (x1 ≠ 0 → Q none σ) ∧ (¬ x1 ≠ 0 → InR (iShr (σ.1 131 11) (σ.1 132 2)) ∧ (iShr (σ.1 131 11) (σ.1 132 2) = 0 → Q none σ) ∧ (¬ iShr (σ.1 131 11) (σ.1 132 2) = 0 → CV X 105 [vR (some 131), vI 4, vI (σ.1 1 1)] σ (fun τ1 => Q none τ1)))) ∧ (¬ 600 < x2 → InR (σ.1 131 7) ∧ (σ.1 131 7 = 0 → InR x1 ∧ (x1 ≠ 0 → Q none σ) ∧ (¬ x1 ≠ 0 → InR (iShr (σ.1 131 11) (σ.1 132 2)) ∧ (iShr (σ.1 131 11) (σ.1 132 2) = 0 → Q none σ) ∧ (¬ iShr (σ.1 131 11) (σ.1 132 2) = 0 → CV X 105 [vR (some 131), vI 4, vI (σ.1 1 1)] σ (fun τ2 => Q none τ2)))) ∧ (¬ σ.1 131 7 = 0 → InR (σ.1 131 3) ∧ (σ.1 131 3 = 1 → InR x1 ∧ (x1 ≠ 0 → Q none σ) ∧ (¬ x1 ≠ 0 → InR (iShr (σ.1 131 11) (σ.1 132 2)) ∧ (iShr (σ.1 131 11) (σ.1 132 2) = 0 → Q none σ) ∧ (¬ iShr (σ.1 131 11) (σ.1 132 2) = 0 → CV X 105 [vR (some 131), vI 4, vI (σ.1 1 1)] σ (fun τ3 => Q none τ3)))) ∧ (¬ σ.1 131 3 = 1 → CV X 93 [vR (some 131), vI x1] σ (fun τ4 => Ev X 92 27 [some (vR (some 131)), some (vI x1), some (vI (x2 + 1))] [] τ4 Q))))) : Ev X 92 27 [some (vR (some 131)), some (vI x1), some (vI x2)] [] σ Q := by
  have hcd : cds 92 = cd_92 := rfl
  iterate 2 (refine e_nx hcd rfl rfl ?_)
  obtain ⟨h1, H⟩ := H
  refine r_icmp hcd rfl h1 (by omega) (fun hc => ?_) (fun hc => ?_)
  · replace H := H.1 hc
    refine e_nx hcd rfl rfl ?_
    obtain ⟨h2, H⟩ := H
    refine r_if hcd rfl h2 (fun hc => ?_) (fun hc => ?_)
    · replace H := H.1 hc
      exact r_vret hcd rfl rfl rfl H
    · replace H := H.2 hc
      refine e_nx hcd rfl rfl ?_
      refine r_getI hcd rfl rfl rfl ?_
      refine e_nx hcd rfl rfl ?_
      refine r_getR hcd rfl rfl rfl ?_
      refine r_getI hcd rfl rfl rfl ?_
      refine e_nx hcd rfl rfl ?_
      obtain ⟨h3, H⟩ := H
      refine r_if hcd rfl h3 (fun hc => ?_) (fun hc => ?_)
      · replace H := H.1 hc
        exact r_vret hcd rfl rfl rfl H
      · replace H := H.2 hc
        iterate 3 (refine e_nx hcd rfl rfl ?_)
        refine r_getR hcd rfl rfl rfl ?_
        refine r_getI hcd rfl rfl rfl ?_
        refine r_cv hcd rfl (by omega) rfl rfl rfl (Nat.le_of_ble_eq_true rfl) ?_
        refine Cl.mono H (fun v τ1 hq => ?_)
        obtain ⟨rfl, H⟩ := hq
        show Ev X 92 57 _ [] τ1 Q
        exact r_vret hcd rfl rfl rfl H
  · replace H := H.2 hc
    refine e_nx hcd rfl rfl ?_
    refine r_getI hcd rfl rfl rfl ?_
    obtain ⟨h4, H⟩ := H
    refine r_if hcd rfl h4 (fun hc => ?_) (fun hc => ?_)
    · replace H := H.1 hc
      refine e_nx hcd rfl rfl ?_
      obtain ⟨h5, H⟩ := H
      refine r_if hcd rfl h5 (fun hc => ?_) (fun hc => ?_)
      · replace H := H.1 hc
        exact r_vret hcd rfl rfl rfl H
      · replace H := H.2 hc
        refine e_nx hcd rfl rfl ?_
        refine r_getI hcd rfl rfl rfl ?_
        refine e_nx hcd rfl rfl ?_
        refine r_getR hcd rfl rfl rfl ?_
        refine r_getI hcd rfl rfl rfl ?_
        refine e_nx hcd rfl rfl ?_
        obtain ⟨h6, H⟩ := H
        refine r_if hcd rfl h6 (fun hc => ?_) (fun hc => ?_)
        · replace H := H.1 hc
          exact r_vret hcd rfl rfl rfl H
        · replace H := H.2 hc
          iterate 3 (refine e_nx hcd rfl rfl ?_)
          refine r_getR hcd rfl rfl rfl ?_
          refine r_getI hcd rfl rfl rfl ?_
          refine r_cv hcd rfl (by omega) rfl rfl rfl (Nat.le_of_ble_eq_true rfl) ?_
          refine Cl.mono H (fun v τ2 hq => ?_)
          obtain ⟨rfl, H⟩ := hq
          show Ev X 92 57 _ [] τ2 Q
          exact r_vret hcd rfl rfl rfl H
    · replace H := H.2 hc
      refine e_nx hcd rfl rfl ?_
      refine r_getI hcd rfl rfl rfl ?_
      refine e_nx hcd rfl rfl ?_
      obtain ⟨h7, H⟩ := H
      refine r_icmp hcd rfl h7 (by omega) (fun hc => ?_) (fun hc => ?_)
      · replace H := H.1 hc
        refine e_nx hcd rfl rfl ?_
        obtain ⟨h8, H⟩ := H
        refine r_if hcd rfl h8 (fun hc => ?_) (fun hc => ?_)
        · replace H := H.1 hc
          exact r_vret hcd rfl rfl rfl H
        · replace H := H.2 hc
          refine e_nx hcd rfl rfl ?_
          refine r_getI hcd rfl rfl rfl ?_
          refine e_nx hcd rfl rfl ?_
          refine r_getR hcd rfl rfl rfl ?_
          refine r_getI hcd rfl rfl rfl ?_
          refine e_nx hcd rfl rfl ?_
          obtain ⟨h9, H⟩ := H
          refine r_if hcd rfl h9 (fun hc => ?_) (fun hc => ?_)
          · replace H := H.1 hc
            exact r_vret hcd rfl rfl rfl H
          · replace H := H.2 hc
            iterate 3 (refine e_nx hcd rfl rfl ?_)
            refine r_getR hcd rfl rfl rfl ?_
            refine r_getI hcd rfl rfl rfl ?_
            refine r_cv hcd rfl (by omega) rfl rfl rfl (Nat.le_of_ble_eq_true rfl) ?_
            refine Cl.mono H (fun v τ3 hq => ?_)
            obtain ⟨rfl, H⟩ := hq
            show Ev X 92 57 _ [] τ3 Q
            exact r_vret hcd rfl rfl rfl H
      · replace H := H.2 hc
        iterate 2 (refine e_nx hcd rfl rfl ?_)
        refine r_cv hcd rfl (by omega) rfl rfl rfl (Nat.le_of_ble_eq_true rfl) ?_
        refine Cl.mono H (fun v τ4 hq => ?_)
        obtain ⟨rfl, H⟩ := hq
        show Ev X 92 40 _ [] τ4 Q
        refine e_nx hcd rfl rfl ?_
        show Ev X 92 41 [some (vR (some 131)), some (vI x1), some (vI (x2 + 1))] [] _ Q
        refine e_nx hcd rfl rfl ?_
        exact H
/-! X9_readLine -/
set_option maxRecDepth 20000 in
set_option maxHeartbeats 8000000 in
theorem v_93 {X : PX} {σ : Sg} {Q : Option PV → Sg → Prop} {a1 : Int}  (H : CI X 100 [vR (some 131), vI a1] σ (fun r1 τ1 => InR r1 ∧ (r1 ≠ (-1) → CI X 96 [vR (some 131), vI a1, vI r1] τ1 (fun r3 τ2 => InR r3 ∧ (r3 = 0 → Ev X 93 22 [some (vR (some 131)), some (vI a1), some (vI r1), some (vI 0)] [] τ2 Q) ∧ (¬ r3 = 0 → CV X 105 [vR (some 131), vI 3, vI (τ2.1 131 8)] τ2 (fun τ3 => Ev X 93 22 [some (vR (some 131)), some (vI a1), some (vI r1), some (vI 0)] [] τ3 Q)))) ∧ (¬ r1 ≠ (-1) → CV X 104 [vR (some 131)] τ1 (fun τ4 => Q none τ4)))) : Cl X 93 [vR (some 131), vI a1] σ Q := by
  have hcd : cds 93 = cd_93 := rfl
  refine c_in (Nat.le_of_ble_eq_true rfl) rfl rfl ?_
  show Ev X 93 0 [some (vR (some 131)), some (vI a1), none, none] [] σ Q
  iterate 2 (refine e_nx hcd rfl rfl ?_)
  refine r_cv hcd rfl (by omega) rfl rfl rfl (Nat.le_of_ble_eq_true rfl) ?_
  refine Cl.mono H (fun v τ1 hq => ?_)
  obtain ⟨r1, rfl, H⟩ := hq
  show Ev X 93 3 _ [vI r1] τ1 Q
  refine e_nx hcd rfl rfl ?_
  show Ev X 93 4 [some (vR (some 131)), some (vI a1), some (vI r1), none] [] _ Q
  iterate 2 (refine e_nx hcd rfl rfl ?_)
  obtain ⟨h2, H⟩ := H
  refine r_icmp hcd rfl h2 (by omega) (fun hc => ?_) (fun hc => ?_)
  · replace H := H.1 hc
    iterate 3 (refine e_nx hcd rfl rfl ?_)
    refine r_cv hcd rfl (by omega) rfl rfl rfl (Nat.le_of_ble_eq_true rfl) ?_
    refine Cl.mono H (fun v τ2 hq => ?_)
    obtain ⟨r3, rfl, H⟩ := hq
    show Ev X 93 14 _ [vI r3] τ2 Q
    obtain ⟨h4, H⟩ := H
    refine r_if hcd rfl h4 (fun hc => ?_) (fun hc => ?_)
    · replace H := H.1 hc
      iterate 2 (refine e_nx hcd rfl rfl ?_)
      show Ev X 93 22 [some (vR (some 131)), some (vI a1), some (vI r1), some (vI 0)] [] _ Q
      exact H
    · replace H := H.2 hc
      iterate 3 (refine e_nx hcd rfl rfl ?_)
      refine r_getI hcd rfl rfl rfl ?_
      refine r_cv hcd rfl (by omega) rfl rfl rfl (Nat.le_of_ble_eq_true rfl) ?_
      refine Cl.mono H (fun v τ3 hq => ?_)
      obtain ⟨rfl, H⟩ := hq
      show Ev X 93 20 _ [] τ3 Q
      iterate 2 (refine e_nx hcd rfl rfl ?_)
      show Ev X 93 22 [some (vR (some 131)), some (vI a1), some (vI r1), some (vI 0)] [] _ Q
      exact H
  · replace H := H.2 hc
    refine e_nx hcd rfl rfl ?_
    refine r_cv hcd rfl (by omega) rfl rfl rfl (Nat.le_of_ble_eq_true rfl) ?_
    refine Cl.mono H (fun v τ4 hq => ?_)
    obtain ⟨rfl, H⟩ := hq
    show Ev X 93 9 _ [] τ4 Q
    exact r_vret hcd rfl rfl rfl H
set_option maxRecDepth 20000 in
set_option maxHeartbeats 8000000 in
theorem v_93_22 {X : PX} {σ : Sg} {Q : Option PV → Sg → Prop} {x1 : Int} {x2 : Int} {x3 : Int}  (H : InR x3 ∧ (3 ≤ x3 → CV X 106 [vR (some 131)] σ (fun τ1 => InR (τ1.1 131 7) ∧ (τ1.1 131 7 = 3 → InR (τ1.1 131 3) ∧ (τ1.1 131 3 ≠ 0 → CV X 106 [vR (some 131)] τ1 (fun τ2 => Q none τ2)) ∧ (¬ τ1.1 131 3 ≠ 0 → CV X 94 [vR (some 131), vI x1, vI x2] τ1 (fun τ3 => CV X 106 [vR (some 131)] τ3 (fun τ4 => Q none τ4)))) ∧ (¬ τ1.1 131 7 = 3 → CV X 104 [vR (some 131)] τ1 (fun τ5 => Q none τ5)))) ∧ (¬ 3 ≤ x3 → CI X 99 [vR (some 131), vI x1, vI x2, vI x3] σ (fun r4 τ6 => InR r4 ∧ (r4 = (-1) → CV X 106 [vR (some 131)] τ6 (fun τ7 => InR (τ7.1 131 7) ∧ (τ7.1 131 7 = 3 → InR (τ7.1 131 3) ∧ (τ7.1 131 3 ≠ 0 → CV X 106 [vR (some 131)] τ7 (fun τ8 => Q none τ8)) ∧ (¬ τ7.1 131 3 ≠ 0 → CV X 94 [vR (some 131), vI x1, vI x2] τ7 (fun τ9 => CV X 106 [vR (some 131)] τ9 (fun τ10 => Q none τ10)))) ∧ (¬ τ7.1 131 7 = 3 → CV X 104 [vR (some 131)] τ7 (fun τ11 => Q none τ11)))) ∧ (¬ r4 = (-1) → CV X 106 [vR (some 131)] τ6 (fun τ12 => InR (τ12.1 131 7) ∧ (τ12.1 131 7 = 2 → (0 ≤ x3 ∧ x3 < 3) ∧ CI X 99 [vR (some 131), vI x1, vI x2, vI x3] (τ12.1, up2 τ12.2 145 x3.toNat (τ12.1 131 10)) (fun r10 τ13 => InR (τ12.1 131 10) ∧ InR r10 ∧ (r10 < τ12.1 131 10 → CV X 105 [vR (some 131), vI 2, vI (τ13.1 131 8)] τ13 (fun τ14 => Ev X 93 22 [some (vR (some 131)), some (vI x1), some (vI x2), some (vI (x3 + 1))] [] τ14 Q)) ∧ (¬ r10 < τ12.1 131 10 → CI X 97 [vR (some 131), vI x1, vI x2] τ13 (fun r13 τ15 => InR r13 ∧ (r13 = 0 → Ev X 93 22 [some (vR (some 131)), some (vI x1), some (vI x2), some (vI (x3 + 1))] [] τ15 Q) ∧ (¬ r13 = 0 → CI X 98 [vR (some 131), vI x3] τ15 (fun r15 τ16 => InR r15 ∧ (r15 = 0 → Ev X 93 22 [some (vR (some 131)), some (vI x1), some (vI x2), some (vI (x3 + 1))] [] τ16 Q) ∧ (¬ r15 = 0 → CV X 105 [vR (some 131), vI 2, vI (τ16.1 131 8)] τ16 (fun τ17 => Ev X 93 22 [some (vR (some 131)), some (vI x1), some (vI x2), some (vI (x3 + 1))] [] τ17 Q)))))))) ∧ (¬ τ12.1 131 7 = 2 → CV X 104 [vR (some 131)] τ12 (fun τ18 => Q none τ18))))))) : Ev X 93 22 [some (vR (some 131)), some (vI x1), some (vI x2), some (vI x3)] [] σ Q := by
  have hcd : cds 93 = cd_93 := rfl
  iterate 2 (refine e_nx hcd rfl rfl ?_)
  obtain ⟨h1, H⟩ := H
  refine r_icmp hcd rfl h1 (by omega) (fun hc => ?_) (fun hc => ?_)
  · replace H := H.1 hc
    refine e_nx hcd rfl rfl ?_
    refine r_cv hcd rfl (by omega) rfl rfl rfl (Nat.le_of_ble_eq_true rfl) ?_
    refine Cl.mono H (fun v τ1 hq => ?_)
    obtain ⟨rfl, H⟩ := hq
    show Ev X 93 73 _ [] τ1 Q
    refine e_nx hcd rfl rfl ?_
    refine r_getI hcd rfl rfl rfl ?_
    refine e_nx hcd rfl rfl ?_
    obtain ⟨h2, H⟩ := H
    refine r_icmp hcd rfl h2 (by omega) (fun hc => ?_) (fun hc => ?_)
    · replace H := H.1 hc
      refine e_nx hcd rfl rfl ?_
      refine r_getI hcd rfl rfl rfl ?_
      obtain ⟨h3, H⟩ := H
      refine r_if hcd rfl h3 (fun hc => ?_) (fun hc => ?_)
      · replace H := H.1 hc
        refine e_nx hcd rfl rfl ?_
        refine r_cv hcd rfl (by omega) rfl rfl rfl (Nat.le_of_ble_eq_true rfl) ?_
        refine Cl.mono H (fun v τ2 hq => ?_)
        obtain ⟨rfl, H⟩ := hq
        show Ev X 93 89 _ [] τ2 Q
        exact r_vret hcd rfl rfl rfl H
      · replace H := H.2 hc
        iterate 3 (refine e_nx hcd rfl rfl ?_)
        refine r_cv hcd rfl (by omega) rfl rfl rfl (Nat.le_of_ble_eq_true rfl) ?_
        refine Cl.mono H (fun v τ3 hq => ?_)
        obtain ⟨rfl, H⟩ := hq
        show Ev X 93 87 _ [] τ3 Q
        refine e_nx hcd rfl rfl ?_
        refine r_cv hcd rfl (by omega) rfl rfl rfl (Nat.le_of_ble_eq_true rfl) ?_
        refine Cl.mono H (fun v τ4 hq => ?_)
        obtain ⟨rfl, H⟩ := hq
        show Ev X 93 89 _ [] τ4 Q
        exact r_vret hcd rfl rfl rfl H
    · replace H := H.2 hc
      refine e_nx hcd rfl rfl ?_
      refine r_cv hcd rfl (by omega) rfl rfl rfl (Nat.le_of_ble_eq_true rfl) ?_
      refine Cl.mono H (fun v τ5 hq => ?_)
      obtain ⟨rfl, H⟩ := hq
      show Ev X 93 79 _ [] τ5 Q
      exact r_vret hcd rfl rfl rfl H
  · replace H := H.2 hc
    iterate 4 (refine e_nx hcd rfl rfl ?_)
    refine r_cv hcd rfl (by omega) rfl rfl rfl (Nat.le_of_ble_eq_true rfl) ?_
    refine Cl.mono H (fun v τ6 hq => ?_)
    obtain ⟨r4, rfl, H⟩ := hq
    show Ev X 93 30 _ [vI r4] τ6 Q
    refine e_nx hcd rfl rfl ?_
    obtain ⟨h5, H⟩ := H
    refine r_icmp hcd rfl h5 (by omega) (fun hc => ?_) (fun hc => ?_)
    · replace H := H.1 hc
      refine e_nx hcd rfl rfl ?_
      refine r_cv hcd rfl (by omega) rfl rfl rfl (Nat.le_of_ble_eq_true rfl) ?_
      refine Cl.mono H (fun v τ7 hq => ?_)
      obtain ⟨rfl, H⟩ := hq
      show Ev X 93 73 _ [] τ7 Q
      refine e_nx hcd rfl rfl ?_
      refine r_getI hcd rfl rfl rfl ?_
      refine e_nx hcd rfl rfl ?_
      obtain ⟨h6, H⟩ := H
      refine r_icmp hcd rfl h6 (by omega) (fun hc => ?_) (fun hc => ?_)
      · replace H := H.1 hc
        refine e_nx hcd rfl rfl ?_
        refine r_getI hcd rfl rfl rfl ?_
        obtain ⟨h7, H⟩ := H
        refine r_if hcd rfl h7 (fun hc => ?_) (fun hc => ?_)
        · replace H := H.1 hc
          refine e_nx hcd rfl rfl ?_
          refine r_cv hcd rfl (by omega) rfl rfl rfl (Nat.le_of_ble_eq_true rfl) ?_
          refine Cl.mono H (fun v τ8 hq => ?_)
          obtain ⟨rfl, H⟩ := hq
          show Ev X 93 89 _ [] τ8 Q
          exact r_vret hcd rfl rfl rfl H
        · replace H := H.2 hc
          iterate 3 (refine e_nx hcd rfl rfl ?_)
          refine r_cv hcd rfl (by omega) rfl rfl rfl (Nat.le_of_ble_eq_true rfl) ?_
          refine Cl.mono H (fun v τ9 hq => ?_)
          obtain ⟨rfl, H⟩ := hq
          show Ev X 93 87 _ [] τ9 Q
          refine e_nx hcd rfl rfl ?_
          refine r_cv hcd rfl (by omega) rfl rfl rfl (Nat.le_of_ble_eq_true rfl) ?_
          refine Cl.mono H (fun v τ10 hq => ?_)
          obtain ⟨rfl, H⟩ := hq
          show Ev X 93 89 _ [] τ10 Q
          exact r_vret hcd rfl rfl rfl H
      · replace H := H.2 hc
        refine e_nx hcd rfl rfl ?_
        refine r_cv hcd rfl (by omega) rfl rfl rfl (Nat.le_of_ble_eq_true rfl) ?_
        refine Cl.mono H (fun v τ11 hq => ?_)
        obtain ⟨rfl, H⟩ := hq
        show Ev X 93 79 _ [] τ11 Q
        exact r_vret hcd rfl rfl rfl H
    · replace H := H.2 hc
      refine e_nx hcd rfl rfl ?_
      refine r_cv hcd rfl (by omega) rfl rfl rfl (Nat.le_of_ble_eq_true rfl) ?_
      refine Cl.mono H (fun v τ12 hq => ?_)
      obtain ⟨rfl, H⟩ := hq
      show Ev X 93 34 _ [] τ12 Q
      refine e_nx hcd rfl rfl ?_
      refine r_getI hcd rfl rfl rfl ?_
      refine e_nx hcd rfl rfl ?_
      obtain ⟨h8, H⟩ := H
      refine r_icmp hcd rfl h8 (by omega) (fun hc => ?_) (fun hc => ?_)
      · replace H := H.1 hc
        refine e_nx hcd rfl rfl ?_
        refine r_getR hcd rfl rfl rfl ?_
        iterate 2 (refine e_nx hcd rfl rfl ?_)
        refine r_getI hcd rfl rfl rfl ?_
        obtain ⟨h9, H⟩ := H
        refine r_ist hcd rfl rfl (by omega) h9 ?_
        refine e_nx hcd rfl rfl ?_
        refine r_getI hcd rfl rfl rfl ?_
        iterate 4 (refine e_nx hcd rfl rfl ?_)
        refine r_cv hcd rfl (by omega) rfl rfl rfl (Nat.le_of_ble_eq_true rfl) ?_
        refine Cl.mono H (fun v τ13 hq => ?_)
        obtain ⟨r10, rfl, H⟩ := hq
        show Ev X 93 54 _ [vI r10, vI (τ12.1 131 10)] τ13 Q
        obtain ⟨h11, H⟩ := H
        obtain ⟨h12, H⟩ := H
        refine r_icmp hcd rfl h11 h12 (fun hc => ?_) (fun hc => ?_)
        · replace H := H.1 hc
          iterate 3 (refine e_nx hcd rfl rfl ?_)
          refine r_getI hcd rfl rfl rfl ?_
          refine r_cv hcd rfl (by omega) rfl rfl rfl (Nat.le_of_ble_eq_true rfl) ?_
          refine Cl.mono H (fun v τ14 hq => ?_)
          obtain ⟨rfl, H⟩ := hq
          show Ev X 93 69 _ [] τ14 Q
          refine e_nx hcd rfl rfl ?_
          show Ev X 93 70 [some (vR (some 131)), some (vI x1), some (vI x2), some (vI (x3 + 1))] [] _ Q
          refine e_nx hcd rfl rfl ?_
          exact H
        · replace H := H.2 hc
          iterate 3 (refine e_nx hcd rfl rfl ?_)
          refine r_cv hcd rfl (by omega) rfl rfl rfl (Nat.le_of_ble_eq_true rfl) ?_
          refine Cl.mono H (fun v τ15 hq => ?_)
          obtain ⟨r13, rfl, H⟩ := hq
          show Ev X 93 59 _ [vI r13] τ15 Q
          obtain ⟨h14, H⟩ := H
          refine r_if hcd rfl h14 (fun hc => ?_) (fun hc => ?_)
          · replace H := H.1 hc
            refine e_nx hcd rfl rfl ?_
            show Ev X 93 70 [some (vR (some 131)), some (vI x1), some (vI x2), some (vI (x3 + 1))] [] _ Q
            refine e_nx hcd rfl rfl ?_
            exact H
          · replace H := H.2 hc
            iterate 2 (refine e_nx hcd rfl rfl ?_)
            refine r_cv hcd rfl (by omega) rfl rfl rfl (Nat.le_of_ble_eq_true rfl) ?_
            refine Cl.mono H (fun v τ16 hq => ?_)
            obtain ⟨r15, rfl, H⟩ := hq
            show Ev X 93 63 _ [vI r15] τ16 Q
            obtain ⟨h16, H⟩ := H
            refine r_if hcd rfl h16 (fun hc => ?_) (fun hc => ?_)
            · replace H := H.1 hc
              refine e_nx hcd rfl rfl ?_
              show Ev X 93 70 [some (vR (some 131)), some (vI x1), some (vI x2), some (vI (x3 + 1))] [] _ Q
              refine e_nx hcd rfl rfl ?_
              exact H
            · replace H := H.2 hc
              iterate 3 (refine e_nx hcd rfl rfl ?_)
              refine r_getI hcd rfl rfl rfl ?_
              refine r_cv hcd rfl (by omega) rfl rfl rfl (Nat.le_of_ble_eq_true rfl) ?_
              refine Cl.mono H (fun v τ17 hq => ?_)
              obtain ⟨rfl, H⟩ := hq
              show Ev X 93 69 _ [] τ17 Q
              refine e_nx hcd rfl rfl ?_
              show Ev X 93 70 [some (vR (some 131)), some (vI x1), some (vI x2), some (vI (x3 + 1))] [] _ Q
              refine e_nx hcd rfl rfl ?_
              exact H
      · replace H := H.2 hc
        refine e_nx hcd rfl rfl ?_
        refine r_cv hcd rfl (by omega) rfl rfl rfl (Nat.le_of_ble_eq_true rfl) ?_
        refine Cl.mono H (fun v τ18 hq => ?_)
        obtain ⟨rfl, H⟩ := hq
        show Ev X 93 40 _ [] τ18 Q
        exact r_vret hcd rfl rfl rfl H
/-! X9_keepLine -/
set_option maxRecDepth 20000 in
set_option maxHeartbeats 8000000 in
theorem v_94 {X : PX} {σ : Sg} {Q : Option PV → Sg → Prop} {a1 : Int} {a2 : Int}  (H : InR a1 ∧ (a1 ≠ 1 → (a1 ≠ 2 → CV X 95 [vR (some 131), vI a2] σ (fun τ1 => Q none τ1)) ∧ (¬ a1 ≠ 2 → CV X 74 [vR (some 142), vI (σ.2 145 0), vI (σ.2 145 1)] σ (fun τ2 => Q none τ2))) ∧ (¬ a1 ≠ 1 → InR a2 ∧ (a2 ≠ 0 → CV X 74 [vR (some 139), vI a2, vI (σ.2 145 0)] σ (fun τ3 => Q none τ3)) ∧ (¬ a2 ≠ 0 → CV X 74 [vR (some 139), vI a2, vI (-1)] σ (fun τ4 => Q none τ4)))) : Cl X 94 [vR (some 131), vI a1, vI a2] σ Q := by
  have hcd : cds 94 = cd_94 := rfl
  refine c_in (Nat.le_of_ble_eq_true rfl) rfl rfl ?_
  show Ev X 94 0 [some (vR (some 131)), some (vI a1), some (vI a2)] [] σ Q
  iterate 2 (refine e_nx hcd rfl rfl ?_)
  obtain ⟨h1, H⟩ := H
  refine r_icmp hcd rfl h1 (by omega) (fun hc => ?_) (fun hc => ?_)
  · replace H := H.1 hc
    iterate 2 (refine e_nx hcd rfl rfl ?_)
    refine r_icmp hcd rfl h1 (by omega) (fun hc => ?_) (fun hc => ?_)
    · replace H := H.1 hc
      iterate 2 (refine e_nx hcd rfl rfl ?_)
      refine r_cv hcd rfl (by omega) rfl rfl rfl (Nat.le_of_ble_eq_true rfl) ?_
      refine Cl.mono H (fun v τ1 hq => ?_)
      obtain ⟨rfl, H⟩ := hq
      show Ev X 94 34 _ [] τ1 Q
      exact r_vret hcd rfl rfl rfl H
    · replace H := H.2 hc
      refine e_nx hcd rfl rfl ?_
      refine r_getR hcd rfl rfl rfl ?_
      refine e_nx hcd rfl rfl ?_
      refine r_getR hcd rfl rfl rfl ?_
      refine e_nx hcd rfl rfl ?_
      refine r_ild hcd rfl rfl (by omega) (by omega) ?_
      refine e_nx hcd rfl rfl ?_
      refine r_getR hcd rfl rfl rfl ?_
      refine e_nx hcd rfl rfl ?_
      refine r_ild hcd rfl rfl (by omega) (by omega) ?_
      refine r_cv hcd rfl (by omega) rfl rfl rfl (Nat.le_of_ble_eq_true rfl) ?_
      refine Cl.mono H (fun v τ2 hq => ?_)
      obtain ⟨rfl, H⟩ := hq
      show Ev X 94 30 _ [] τ2 Q
      refine e_nx hcd rfl rfl ?_
      exact r_vret hcd rfl rfl rfl H
  · replace H := H.2 hc
    refine e_nx hcd rfl rfl ?_
    refine r_getR hcd rfl rfl rfl ?_
    iterate 2 (refine e_nx hcd rfl rfl ?_)
    obtain ⟨h2, H⟩ := H
    refine r_if hcd rfl h2 (fun hc => ?_) (fun hc => ?_)
    · replace H := H.1 hc
      refine e_nx hcd rfl rfl ?_
      refine r_getR hcd rfl rfl rfl ?_
      refine e_nx hcd rfl rfl ?_
      refine r_ild hcd rfl rfl (by omega) (by omega) ?_
      refine r_cv hcd rfl (by omega) rfl rfl rfl (Nat.le_of_ble_eq_true rfl) ?_
      refine Cl.mono H (fun v τ3 hq => ?_)
      obtain ⟨rfl, H⟩ := hq
      show Ev X 94 15 _ [] τ3 Q
      refine e_nx hcd rfl rfl ?_
      exact r_vret hcd rfl rfl rfl H
    · replace H := H.2 hc
      iterate 2 (refine e_nx hcd rfl rfl ?_)
      refine r_cv hcd rfl (by omega) rfl rfl rfl (Nat.le_of_ble_eq_true rfl) ?_
      refine Cl.mono H (fun v τ4 hq => ?_)
      obtain ⟨rfl, H⟩ := hq
      show Ev X 94 15 _ [] τ4 Q
      refine e_nx hcd rfl rfl ?_
      exact r_vret hcd rfl rfl rfl H
/-! X9_keepParishLine -/
set_option maxRecDepth 20000 in
set_option maxHeartbeats 8000000 in
theorem v_95 {X : PX} {σ : Sg} {Q : Option PV → Sg → Prop} {a1 : Int}  (H : InR a1 ∧ (a1 = 0 → Q none (up2 σ.1 132 0 (σ.2 145 0), σ.2)) ∧ (a1 = 1 → Q none (up2 σ.1 132 1 (σ.2 145 0), σ.2)) ∧ (a1 = 2 → Q none (up2 (up2 σ.1 132 3 (iOr (σ.1 132 3) (iShl 1 (σ.2 145 0)))) 131 11 (iOr (σ.1 131 11) (iShl 1 (σ.2 145 0))), σ.2)) ∧ (a1 = 3 → CV X 80 [vR (some 132), vI (σ.2 145 0), vI (σ.2 145 1)] σ (fun τ1 => Q none τ1)) ∧ (a1 = 4 → CV X 81 [vR (some 132), vI (σ.2 145 0), vI (σ.2 145 1), vI (-1)] σ (fun τ2 => Q none (up2 τ2.1 131 11 (iOr (τ2.1 131 11) (iOr (iShl 1 (τ2.2 145 0)) (iShl 1 (τ2.2 145 1)))), τ2.2))) ∧ (a1 ≠ 0 ∧ a1 ≠ 1 ∧ a1 ≠ 2 ∧ a1 ≠ 3 ∧ a1 ≠ 4 → CV X 81 [vR (some 132), vI (σ.2 145 0), vI (σ.2 145 1), vI (σ.2 145 2)] σ (fun τ3 => Q none (up2 τ3.1 131 11 (iOr (τ3.1 131 11) (iOr (iOr (iShl 1 (τ3.2 145 0)) (iShl 1 (τ3.2 145 1))) (iShl 1 (τ3.2 145 2)))), τ3.2)))) : Cl X 95 [vR (some 131), vI a1] σ Q := by
  have hcd : cds 95 = cd_95 := rfl
  refine c_in (Nat.le_of_ble_eq_true rfl) rfl rfl ?_
  show Ev X 95 0 [some (vR (some 131)), some (vI a1)] [] σ Q
  refine e_nx hcd rfl rfl ?_
  obtain ⟨h1, H⟩ := H
  refine r_tab hcd rfl h1 ?_
  by_cases hs2 : a1 = 0
  · replace H := H.1 hs2
    refine e_pc (i2 := 2) (by rw [hs2]; rfl) ?_
    refine e_nx hcd rfl rfl ?_
    refine r_getR hcd rfl rfl rfl ?_
    refine e_nx hcd rfl rfl ?_
    refine r_getR hcd rfl rfl rfl ?_
    refine e_nx hcd rfl rfl ?_
    refine r_ild hcd rfl rfl (by omega) (by omega) ?_
    refine r_putI hcd rfl rfl rfl rfl ?_
    refine e_nx hcd rfl rfl ?_
    exact r_vret hcd rfl rfl rfl H
  by_cases hs3 : a1 = 1
  · replace H := H.2.1 hs3
    refine e_pc (i2 := 10) (by rw [hs3]; rfl) ?_
    refine e_nx hcd rfl rfl ?_
    refine r_getR hcd rfl rfl rfl ?_
    refine e_nx hcd rfl rfl ?_
    refine r_getR hcd rfl rfl rfl ?_
    refine e_nx hcd rfl rfl ?_
    refine r_ild hcd rfl rfl (by omega) (by omega) ?_
    refine r_putI hcd rfl rfl rfl rfl ?_
    refine e_nx hcd rfl rfl ?_
    exact r_vret hcd rfl rfl rfl H
  by_cases hs4 : a1 = 2
  · replace H := H.2.2.1 hs4
    refine e_pc (i2 := 18) (by rw [hs4]; rfl) ?_
    refine e_nx hcd rfl rfl ?_
    refine r_getR hcd rfl rfl rfl ?_
    refine e_nx hcd rfl rfl ?_
    refine r_getI hcd rfl rfl rfl ?_
    iterate 2 (refine e_nx hcd rfl rfl ?_)
    refine r_getR hcd rfl rfl rfl ?_
    refine e_nx hcd rfl rfl ?_
    refine r_ild hcd rfl rfl (by omega) (by omega) ?_
    iterate 2 (refine e_nx hcd rfl rfl ?_)
    refine r_putI hcd rfl rfl rfl rfl ?_
    iterate 2 (refine e_nx hcd rfl rfl ?_)
    refine r_getI hcd rfl rfl rfl ?_
    show Ev X 95 33 _ [vI (σ.1 131 11), vR (some 131)] _ Q
    iterate 2 (refine e_nx hcd rfl rfl ?_)
    refine r_getR hcd rfl rfl rfl ?_
    refine e_nx hcd rfl rfl ?_
    refine r_ild hcd rfl rfl (by omega) (by omega) ?_
    iterate 2 (refine e_nx hcd rfl rfl ?_)
    refine r_putI hcd rfl rfl rfl rfl ?_
    refine e_nx hcd rfl rfl ?_
    exact r_vret hcd rfl rfl rfl H
  by_cases hs5 : a1 = 3
  · replace H := H.2.2.2.1 hs5
    refine e_pc (i2 := 42) (by rw [hs5]; rfl) ?_
    refine e_nx hcd rfl rfl ?_
    refine r_getR hcd rfl rfl rfl ?_
    refine e_nx hcd rfl rfl ?_
    refine r_getR hcd rfl rfl rfl ?_
    refine e_nx hcd rfl rfl ?_
    refine r_ild hcd rfl rfl (by omega) (by omega) ?_
    refine e_nx hcd rfl rfl ?_
    refine r_getR hcd rfl rfl rfl ?_
    refine e_nx hcd rfl rfl ?_
    refine r_ild hcd rfl rfl (by omega) (by omega) ?_
    refine r_cv hcd rfl (by omega) rfl rfl rfl (Nat.le_of_ble_eq_true rfl) ?_
    refine Cl.mono H (fun v τ1 hq => ?_)
    obtain ⟨rfl, H⟩ := hq
    show Ev X 95 53 _ [] τ1 Q
    refine e_nx hcd rfl rfl ?_
    exact r_vret hcd rfl rfl rfl H
  by_cases hs6 : a1 = 4
  · replace H := H.2.2.2.2.1 hs6
    refine e_pc (i2 := 54) (by rw [hs6]; rfl) ?_
    refine e_nx hcd rfl rfl ?_
    refine r_getR hcd rfl rfl rfl ?_
    refine e_nx hcd rfl rfl ?_
    refine r_getR hcd rfl rfl rfl ?_
    refine e_nx hcd rfl rfl ?_
    refine r_ild hcd rfl rfl (by omega) (by omega) ?_
    refine e_nx hcd rfl rfl ?_
    refine r_getR hcd rfl rfl rfl ?_
    refine e_nx hcd rfl rfl ?_
    refine r_ild hcd rfl rfl (by omega) (by omega) ?_
    refine e_nx hcd rfl rfl ?_
    refine r_cv hcd rfl (by omega) rfl rfl rfl (Nat.le_of_ble_eq_true rfl) ?_
    refine Cl.mono H (fun v τ2 hq => ?_)
    obtain ⟨rfl, H⟩ := hq
    show Ev X 95 66 _ [] τ2 Q
    iterate 2 (refine e_nx hcd rfl rfl ?_)
    refine r_getI hcd rfl rfl rfl ?_
    iterate 2 (refine e_nx hcd rfl rfl ?_)
    refine r_getR hcd rfl rfl rfl ?_
    refine e_nx hcd rfl rfl ?_
    refine r_ild hcd rfl rfl (by omega) (by omega) ?_
    iterate 3 (refine e_nx hcd rfl rfl ?_)
    refine r_getR hcd rfl rfl rfl ?_
    refine e_nx hcd rfl rfl ?_
    refine r_ild hcd rfl rfl (by omega) (by omega) ?_
    iterate 3 (refine e_nx hcd rfl rfl ?_)
    refine r_putI hcd rfl rfl rfl rfl ?_
    refine e_nx hcd rfl rfl ?_
    exact r_vret hcd rfl rfl rfl H
  replace H := H.2.2.2.2.2 ⟨hs2, hs3, hs4, hs5, hs6⟩
  refine e_pc (i2 := 85) (tab_def (lo := 0) (hi := 4) (fun h1 h2 => ?_)) ?_
  · omega
  · refine e_nx hcd rfl rfl ?_
    refine r_getR hcd rfl rfl rfl ?_
    refine e_nx hcd rfl rfl ?_
    refine r_getR hcd rfl rfl rfl ?_
    refine e_nx hcd rfl rfl ?_
    refine r_ild hcd rfl rfl (by omega) (by omega) ?_
    refine e_nx hcd rfl rfl ?_
    refine r_getR hcd rfl rfl rfl ?_
    refine e_nx hcd rfl rfl ?_
    refine r_ild hcd rfl rfl (by omega) (by omega) ?_
    refine e_nx hcd rfl rfl ?_
    refine r_getR hcd rfl rfl rfl ?_
    refine e_nx hcd rfl rfl ?_
    refine r_ild hcd rfl rfl (by omega) (by omega) ?_
    refine r_cv hcd rfl (by omega) rfl rfl rfl (Nat.le_of_ble_eq_true rfl) ?_
    refine Cl.mono H (fun v τ3 hq => ?_)
    obtain ⟨rfl, H⟩ := hq
    show Ev X 95 100 _ [] τ3 Q
    iterate 2 (refine e_nx hcd rfl rfl ?_)
    refine r_getI hcd rfl rfl rfl ?_
    iterate 2 (refine e_nx hcd rfl rfl ?_)
    refine r_getR hcd rfl rfl rfl ?_
    refine e_nx hcd rfl rfl ?_
    refine r_ild hcd rfl rfl (by omega) (by omega) ?_
    iterate 3 (refine e_nx hcd rfl rfl ?_)
    refine r_getR hcd rfl rfl rfl ?_
    refine e_nx hcd rfl rfl ?_
    refine r_ild hcd rfl rfl (by omega) (by omega) ?_
    iterate 4 (refine e_nx hcd rfl rfl ?_)
    refine r_getR hcd rfl rfl rfl ?_
    refine e_nx hcd rfl rfl ?_
    refine r_ild hcd rfl rfl (by omega) (by omega) ?_
    iterate 3 (refine e_nx hcd rfl rfl ?_)
    refine r_putI hcd rfl rfl rfl rfl ?_
    exact r_vret hcd rfl rfl rfl H
/-! X9_isFull -/
set_option maxRecDepth 20000 in
set_option maxHeartbeats 8000000 in
theorem v_96 {X : PX} {σ : Sg} {Q : Option PV → Sg → Prop} {a1 : Int} {a2 : Int}  (H : InR a1 ∧ (a1 ≠ 1 → (a1 ≠ 2 → InR a2 ∧ (a2 ≠ 3 → CI X 97 [vR (some 131), vI a1, vI a2] σ (fun r3 τ1 => InR r3 ∧ (r3 = 0 → Q (some (vI 0)) τ1) ∧ (¬ r3 = 0 → InR (τ1.1 132 4) ∧ (τ1.1 132 4 < 10 → Q (some (vI 0)) τ1) ∧ (¬ τ1.1 132 4 < 10 → Q (some (vI 1)) τ1)))) ∧ (¬ a2 ≠ 3 → InR (σ.1 132 2) ∧ (7 ≤ σ.1 132 2 → Q (some (vI 1)) σ) ∧ (¬ 7 ≤ σ.1 132 2 → CI X 97 [vR (some 131), vI a1, vI a2] σ (fun r7 τ2 => InR r7 ∧ (r7 = 0 → Q (some (vI 0)) τ2) ∧ (¬ r7 = 0 → InR (τ2.1 132 4) ∧ (τ2.1 132 4 < 10 → Q (some (vI 0)) τ2) ∧ (¬ τ2.1 132 4 < 10 → Q (some (vI 1)) τ2)))))) ∧ (¬ a1 ≠ 2 → InR (σ.1 142 0) ∧ (σ.1 142 0 < 8 → Q (some (vI 0)) σ) ∧ (¬ σ.1 142 0 < 8 → Q (some (vI 1)) σ))) ∧ (¬ a1 ≠ 1 → InR (σ.1 139 0) ∧ (σ.1 139 0 < 40 → Q (some (vI 0)) σ) ∧ (¬ σ.1 139 0 < 40 → Q (some (vI 1)) σ))) : Cl X 96 [vR (some 131), vI a1, vI a2] σ Q := by
  have hcd : cds 96 = cd_96 := rfl
  refine c_in (Nat.le_of_ble_eq_true rfl) rfl rfl ?_
  show Ev X 96 0 [some (vR (some 131)), some (vI a1), some (vI a2)] [] σ Q
  iterate 2 (refine e_nx hcd rfl rfl ?_)
  obtain ⟨h1, H⟩ := H
  refine r_icmp hcd rfl h1 (by omega) (fun hc => ?_) (fun hc => ?_)
  · replace H := H.1 hc
    iterate 2 (refine e_nx hcd rfl rfl ?_)
    refine r_icmp hcd rfl h1 (by omega) (fun hc => ?_) (fun hc => ?_)
    · replace H := H.1 hc
      iterate 2 (refine e_nx hcd rfl rfl ?_)
      obtain ⟨h2, H⟩ := H
      refine r_icmp hcd rfl h2 (by omega) (fun hc => ?_) (fun hc => ?_)
      · replace H := H.1 hc
        iterate 3 (refine e_nx hcd rfl rfl ?_)
        refine r_cv hcd rfl (by omega) rfl rfl rfl (Nat.le_of_ble_eq_true rfl) ?_
        refine Cl.mono H (fun v τ1 hq => ?_)
        obtain ⟨r3, rfl, H⟩ := hq
        show Ev X 96 36 _ [vI r3] τ1 Q
        obtain ⟨h4, H⟩ := H
        refine r_if hcd rfl h4 (fun hc => ?_) (fun hc => ?_)
        · replace H := H.1 hc
          refine e_nx hcd rfl rfl ?_
          exact r_zret hcd rfl rfl rfl (by omega) H
        · replace H := H.2 hc
          refine e_nx hcd rfl rfl ?_
          refine r_getR hcd rfl rfl rfl ?_
          refine r_getI hcd rfl rfl rfl ?_
          refine e_nx hcd rfl rfl ?_
          obtain ⟨h5, H⟩ := H
          refine r_icmp hcd rfl h5 (by omega) (fun hc => ?_) (fun hc => ?_)
          · replace H := H.1 hc
            refine e_nx hcd rfl rfl ?_
            exact r_zret hcd rfl rfl rfl (by omega) H
          · replace H := H.2 hc
            iterate 2 (refine e_nx hcd rfl rfl ?_)
            exact r_zret hcd rfl rfl rfl (by omega) H
      · replace H := H.2 hc
        refine e_nx hcd rfl rfl ?_
        refine r_getR hcd rfl rfl rfl ?_
        refine r_getI hcd rfl rfl rfl ?_
        refine e_nx hcd rfl rfl ?_
        obtain ⟨h6, H⟩ := H
        refine r_icmp hcd rfl h6 (by omega) (fun hc => ?_) (fun hc => ?_)
        · replace H := H.1 hc
          iterate 2 (refine e_nx hcd rfl rfl ?_)
          exact r_zret hcd rfl rfl rfl (by omega) H
        · replace H := H.2 hc
          iterate 3 (refine e_nx hcd rfl rfl ?_)
          refine r_cv hcd rfl (by omega) rfl rfl rfl (Nat.le_of_ble_eq_true rfl) ?_
          refine Cl.mono H (fun v τ2 hq => ?_)
          obtain ⟨r7, rfl, H⟩ := hq
          show Ev X 96 36 _ [vI r7] τ2 Q
          obtain ⟨h8, H⟩ := H
          refine r_if hcd rfl h8 (fun hc => ?_) (fun hc => ?_)
          · replace H := H.1 hc
            refine e_nx hcd rfl rfl ?_
            exact r_zret hcd rfl rfl rfl (by omega) H
          · replace H := H.2 hc
            refine e_nx hcd rfl rfl ?_
            refine r_getR hcd rfl rfl rfl ?_
            refine r_getI hcd rfl rfl rfl ?_
            refine e_nx hcd rfl rfl ?_
            obtain ⟨h9, H⟩ := H
            refine r_icmp hcd rfl h9 (by omega) (fun hc => ?_) (fun hc => ?_)
            · replace H := H.1 hc
              refine e_nx hcd rfl rfl ?_
              exact r_zret hcd rfl rfl rfl (by omega) H
            · replace H := H.2 hc
              iterate 2 (refine e_nx hcd rfl rfl ?_)
              exact r_zret hcd rfl rfl rfl (by omega) H
    · replace H := H.2 hc
      refine e_nx hcd rfl rfl ?_
      refine r_getR hcd rfl rfl rfl ?_
      refine r_getI hcd rfl rfl rfl ?_
      refine e_nx hcd rfl rfl ?_
      obtain ⟨h10, H⟩ := H
      refine r_icmp hcd rfl h10 (by omega) (fun hc => ?_) (fun hc => ?_)
      · replace H := H.1 hc
        refine e_nx hcd rfl rfl ?_
        exact r_zret hcd rfl rfl rfl (by omega) H
      · replace H := H.2 hc
        iterate 2 (refine e_nx hcd rfl rfl ?_)
        exact r_zret hcd rfl rfl rfl (by omega) H
  · replace H := H.2 hc
    refine e_nx hcd rfl rfl ?_
    refine r_getR hcd rfl rfl rfl ?_
    refine r_getI hcd rfl rfl rfl ?_
    refine e_nx hcd rfl rfl ?_
    obtain ⟨h11, H⟩ := H
    refine r_icmp hcd rfl h11 (by omega) (fun hc => ?_) (fun hc => ?_)
    · replace H := H.1 hc
      refine e_nx hcd rfl rfl ?_
      exact r_zret hcd rfl rfl rfl (by omega) H
    · replace H := H.2 hc
      iterate 2 (refine e_nx hcd rfl rfl ?_)
      exact r_zret hcd rfl rfl rfl (by omega) H
/-! X9_isRule -/
theorem v_97 {X : PX} {σ : Sg} {Q : Option PV → Sg → Prop} {a1 : Int} {a2 : Int}  (H : InR a1 ∧ (a1 ≠ 0 → Q (some (vI 0)) σ) ∧ (¬ a1 ≠ 0 → InR a2 ∧ (a2 = 4 → Q (some (vI 1)) σ) ∧ (¬ a2 = 4 → (a2 ≠ 5 → Q (some (vI 0)) σ) ∧ (¬ a2 ≠ 5 → Q (some (vI 1)) σ)))) : Cl X 97 [vR (some 131), vI a1, vI a2] σ Q := by
  have hcd : cds 97 = cd_97 := rfl
  refine c_in (Nat.le_of_ble_eq_true rfl) rfl rfl ?_
  show Ev X 97 0 [some (vR (some 131)), some (vI a1), some (vI a2)] [] σ Q
  refine e_nx hcd rfl rfl ?_
  obtain ⟨h1, H⟩ := H
  refine r_if hcd rfl h1 (fun hc => ?_) (fun hc => ?_)
  · replace H := H.1 hc
    refine e_nx hcd rfl rfl ?_
    exact r_zret hcd rfl rfl rfl (by omega) H
  · replace H := H.2 hc
    iterate 2 (refine e_nx hcd rfl rfl ?_)
    obtain ⟨h2, H⟩ := H
    refine r_icmp hcd rfl h2 (by omega) (fun hc => ?_) (fun hc => ?_)
    · replace H := H.1 hc
      iterate 2 (refine e_nx hcd rfl rfl ?_)
      exact r_zret hcd rfl rfl rfl (by omega) H
    · replace H := H.2 hc
      iterate 2 (refine e_nx hcd rfl rfl ?_)
      refine r_icmp hcd rfl h2 (by omega) (fun hc => ?_) (fun hc => ?_)
      · replace H := H.1 hc
        refine e_nx hcd rfl rfl ?_
        exact r_zret hcd rfl rfl rfl (by omega) H
      · replace H := H.2 hc
        iterate 2 (refine e_nx hcd rfl rfl ?_)
        exact r_zret hcd rfl rfl rfl (by omega) H
/-! X9_isRepeated -/
theorem v_98 {X : PX} {σ : Sg} {Q : Option PV → Sg → Prop} {a1 : Int}  (H : Ev X 98 2 [some (vR (some 131)), some (vI a1), some (vI 0)] [] σ Q) : Cl X 98 [vR (some 131), vI a1] σ Q := by
  have hcd : cds 98 = cd_98 := rfl
  refine c_in (Nat.le_of_ble_eq_true rfl) rfl rfl ?_
  show Ev X 98 0 [some (vR (some 131)), some (vI a1), none] [] σ Q
  iterate 2 (refine e_nx hcd rfl rfl ?_)
  show Ev X 98 2 [some (vR (some 131)), some (vI a1), some (vI 0)] [] _ Q
  exact H
theorem v_98_2 {X : PX} {σ : Sg} {Q : Option PV → Sg → Prop} {x1 : Int} {x2 : Int}  (H : InR x2 ∧ InR x1 ∧ (x1 ≤ x2 → Q (some (vI 0)) σ) ∧ (¬ x1 ≤ x2 → (3 ≤ x2 → Q (some (vI 0)) σ) ∧ (¬ 3 ≤ x2 → (0 ≤ x2 ∧ x2 < 3) ∧ InR (σ.2 145 x2.toNat) ∧ InR (σ.1 131 10) ∧ (σ.2 145 x2.toNat ≠ σ.1 131 10 → Ev X 98 2 [some (vR (some 131)), some (vI x1), some (vI (x2 + 1))] [] σ Q) ∧ (¬ σ.2 145 x2.toNat ≠ σ.1 131 10 → Q (some (vI 1)) σ)))) : Ev X 98 2 [some (vR (some 131)), some (vI x1), some (vI x2)] [] σ Q := by
  have hcd : cds 98 = cd_98 := rfl
  iterate 2 (refine e_nx hcd rfl rfl ?_)
  obtain ⟨h1, H⟩ := H
  obtain ⟨h2, H⟩ := H
  refine r_icmp hcd rfl h1 h2 (fun hc => ?_) (fun hc => ?_)
  · replace H := H.1 hc
    refine e_nx hcd rfl rfl ?_
    exact r_zret hcd rfl rfl rfl (by omega) H
  · replace H := H.2 hc
    iterate 2 (refine e_nx hcd rfl rfl ?_)
    refine r_icmp hcd rfl h1 (by omega) (fun hc => ?_) (fun hc => ?_)
    · replace H := H.1 hc
      refine e_nx hcd rfl rfl ?_
      exact r_zret hcd rfl rfl rfl (by omega) H
    · replace H := H.2 hc
      refine e_nx hcd rfl rfl ?_
      refine r_getR hcd rfl rfl rfl ?_
      refine e_nx hcd rfl rfl ?_
      obtain ⟨h3, H⟩ := H
      refine r_ild hcd rfl rfl (by omega) h3 ?_
      refine e_nx hcd rfl rfl ?_
      refine r_getI hcd rfl rfl rfl ?_
      obtain ⟨h4, H⟩ := H
      obtain ⟨h5, H⟩ := H
      refine r_icmp hcd rfl h4 h5 (fun hc => ?_) (fun hc => ?_)
      · replace H := H.1 hc
        refine e_nx hcd rfl rfl ?_
        show Ev X 98 18 [some (vR (some 131)), some (vI x1), some (vI (x2 + 1))] [] _ Q
        refine e_nx hcd rfl rfl ?_
        exact H
      · replace H := H.2 hc
        refine e_nx hcd rfl rfl ?_
        exact r_zret hcd rfl rfl rfl (by omega) H
/-! X9_limitOf -/
set_option maxRecDepth 20000 in
set_option maxHeartbeats 8000000 in
theorem v_99 {X : PX} {σ : Sg} {Q : Option PV → Sg → Prop} {a1 : Int} {a2 : Int} {a3 : Int}  (H : InR a1 ∧ (a1 ≠ 0 → (a1 ≠ 1 → InR ((a2 * 3) + a3) ∧ ((a2 * 3) + a3 < 0 → Q (some (vI (-1))) σ) ∧ (¬ (a2 * 3) + a3 < 0 → InR ((X 13).1 : Int) ∧ (((X 13).1 : Int) ≤ (a2 * 3) + a3 → Q (some (vI (-1))) σ) ∧ (¬ ((X 13).1 : Int) ≤ (a2 * 3) + a3 → (0 ≤ (a2 * 3) + a3 ∧ (a2 * 3) + a3 < (X 13).1) ∧ Q (some (vI ((X 13).2 ((a2 * 3) + a3).toNat))) σ))) ∧ (¬ a1 ≠ 1 → InR ((a2 * 3) + a3) ∧ ((a2 * 3) + a3 < 0 → Q (some (vI (-1))) σ) ∧ (¬ (a2 * 3) + a3 < 0 → InR ((X 12).1 : Int) ∧ (((X 12).1 : Int) ≤ (a2 * 3) + a3 → Q (some (vI (-1))) σ) ∧ (¬ ((X 12).1 : Int) ≤ (a2 * 3) + a3 → (0 ≤ (a2 * 3) + a3 ∧ (a2 * 3) + a3 < (X 12).1) ∧ Q (some (vI ((X 12).2 ((a2 * 3) + a3).toNat))) σ)))) ∧ (¬ a1 ≠ 0 → InR ((a2 * 3) + a3) ∧ ((a2 * 3) + a3 < 0 → Q (some (vI (-1))) σ) ∧ (¬ (a2 * 3) + a3 < 0 → InR ((X 11).1 : Int) ∧ (((X 11).1 : Int) ≤ (a2 * 3) + a3 → Q (some (vI (-1))) σ) ∧ (¬ ((X 11).1 : Int) ≤ (a2 * 3) + a3 → (0 ≤ (a2 * 3) + a3 ∧ (a2 * 3) + a3 < (X 11).1) ∧ Q (some (vI ((X 11).2 ((a2 * 3) + a3).toNat))) σ)))) : Cl X 99 [vR (some 131), vI a1, vI a2, vI a3] σ Q := by
  have hcd : cds 99 = cd_99 := rfl
  refine c_in (Nat.le_of_ble_eq_true rfl) rfl rfl ?_
  show Ev X 99 0 [some (vR (some 131)), some (vI a1), some (vI a2), some (vI a3), none, none] [] σ Q
  iterate 6 (refine e_nx hcd rfl rfl ?_)
  show Ev X 99 6 [some (vR (some 131)), some (vI a1), some (vI a2), some (vI a3), some (vI ((a2 * 3) + a3)), none] [] _ Q
  refine e_nx hcd rfl rfl ?_
  obtain ⟨h1, H⟩ := H
  refine r_if hcd rfl h1 (fun hc => ?_) (fun hc => ?_)
  · replace H := H.1 hc
    iterate 2 (refine e_nx hcd rfl rfl ?_)
    refine r_icmp hcd rfl h1 (by omega) (fun hc => ?_) (fun hc => ?_)
    · replace H := H.1 hc
      iterate 2 (refine e_nx hcd rfl rfl ?_)
      show Ev X 99 17 [some (vR (some 131)), some (vI a1), some (vI a2), some (vI a3), some (vI ((a2 * 3) + a3)), some (vR (some (PK + 13)))] [] _ Q
      refine e_nx hcd rfl rfl ?_
      obtain ⟨h2, H⟩ := H
      refine r_if hcd rfl h2 (fun hc => ?_) (fun hc => ?_)
      · replace H := H.1 hc
        refine e_nx hcd rfl rfl ?_
        exact r_iret hcd rfl rfl rfl H
      · replace H := H.2 hc
        iterate 2 (refine e_nx hcd rfl rfl ?_)
        refine r_xln hcd rfl (Nat.le_of_ble_eq_true rfl) (Nat.le_of_ble_eq_true rfl) ?_
        obtain ⟨h3, H⟩ := H
        refine r_icmp hcd rfl h2 h3 (fun hc => ?_) (fun hc => ?_)
        · replace H := H.1 hc
          refine e_nx hcd rfl rfl ?_
          exact r_iret hcd rfl rfl rfl H
        · replace H := H.2 hc
          iterate 2 (refine e_nx hcd rfl rfl ?_)
          obtain ⟨h4, H⟩ := H
          refine r_xld hcd rfl (Nat.le_of_ble_eq_true rfl) (Nat.le_of_ble_eq_true rfl) h4 ?_
          refine e_nx hcd rfl rfl ?_
          exact r_iret hcd rfl rfl rfl H
    · replace H := H.2 hc
      iterate 3 (refine e_nx hcd rfl rfl ?_)
      show Ev X 99 17 [some (vR (some 131)), some (vI a1), some (vI a2), some (vI a3), some (vI ((a2 * 3) + a3)), some (vR (some (PK + 12)))] [] _ Q
      refine e_nx hcd rfl rfl ?_
      obtain ⟨h5, H⟩ := H
      refine r_if hcd rfl h5 (fun hc => ?_) (fun hc => ?_)
      · replace H := H.1 hc
        refine e_nx hcd rfl rfl ?_
        exact r_iret hcd rfl rfl rfl H
      · replace H := H.2 hc
        iterate 2 (refine e_nx hcd rfl rfl ?_)
        refine r_xln hcd rfl (Nat.le_of_ble_eq_true rfl) (Nat.le_of_ble_eq_true rfl) ?_
        obtain ⟨h6, H⟩ := H
        refine r_icmp hcd rfl h5 h6 (fun hc => ?_) (fun hc => ?_)
        · replace H := H.1 hc
          refine e_nx hcd rfl rfl ?_
          exact r_iret hcd rfl rfl rfl H
        · replace H := H.2 hc
          iterate 2 (refine e_nx hcd rfl rfl ?_)
          obtain ⟨h7, H⟩ := H
          refine r_xld hcd rfl (Nat.le_of_ble_eq_true rfl) (Nat.le_of_ble_eq_true rfl) h7 ?_
          refine e_nx hcd rfl rfl ?_
          exact r_iret hcd rfl rfl rfl H
  · replace H := H.2 hc
    iterate 3 (refine e_nx hcd rfl rfl ?_)
    show Ev X 99 17 [some (vR (some 131)), some (vI a1), some (vI a2), some (vI a3), some (vI ((a2 * 3) + a3)), some (vR (some (PK + 11)))] [] _ Q
    refine e_nx hcd rfl rfl ?_
    obtain ⟨h8, H⟩ := H
    refine r_if hcd rfl h8 (fun hc => ?_) (fun hc => ?_)
    · replace H := H.1 hc
      refine e_nx hcd rfl rfl ?_
      exact r_iret hcd rfl rfl rfl H
    · replace H := H.2 hc
      iterate 2 (refine e_nx hcd rfl rfl ?_)
      refine r_xln hcd rfl (Nat.le_of_ble_eq_true rfl) (Nat.le_of_ble_eq_true rfl) ?_
      obtain ⟨h9, H⟩ := H
      refine r_icmp hcd rfl h8 h9 (fun hc => ?_) (fun hc => ?_)
      · replace H := H.1 hc
        refine e_nx hcd rfl rfl ?_
        exact r_iret hcd rfl rfl rfl H
      · replace H := H.2 hc
        iterate 2 (refine e_nx hcd rfl rfl ?_)
        obtain ⟨h10, H⟩ := H
        refine r_xld hcd rfl (Nat.le_of_ble_eq_true rfl) (Nat.le_of_ble_eq_true rfl) h10 ?_
        refine e_nx hcd rfl rfl ?_
        exact r_iret hcd rfl rfl rfl H
/-! X9_lineOf -/
set_option maxRecDepth 20000 in
set_option maxHeartbeats 8000000 in
theorem v_100 {X : PX} {σ : Sg} {Q : Option PV → Sg → Prop} {a1 : Int}  (H : InR (σ.1 131 7) ∧ (σ.1 131 7 = 1 → InR a1 ∧ (a1 ≠ 0 → (a1 ≠ 1 → CI X 103 [vR (some 131), vR (some (PK + 10))] σ (fun r3 τ1 => InR r3 ∧ (r3 = 0 → Q (some (vI (-1))) τ1) ∧ (¬ r3 = 0 → Q (some (vI 0)) τ1))) ∧ (¬ a1 ≠ 1 → CI X 102 [vR (some 131)] σ (fun r5 τ2 => Q (some (vI r5)) τ2))) ∧ (¬ a1 ≠ 0 → CI X 101 [vR (some 131)] σ (fun r6 τ3 => Q (some (vI r6)) τ3))) ∧ (¬ σ.1 131 7 = 1 → Q (some (vI (-1))) σ)) : Cl X 100 [vR (some 131), vI a1] σ Q := by
  have hcd : cds 100 = cd_100 := rfl
  refine c_in (Nat.le_of_ble_eq_true rfl) rfl rfl ?_
  show Ev X 100 0 [some (vR (some 131)), some (vI a1)] [] σ Q
  refine e_nx hcd rfl rfl ?_
  refine r_getI hcd rfl rfl rfl ?_
  refine e_nx hcd rfl rfl ?_
  obtain ⟨h1, H⟩ := H
  refine r_icmp hcd rfl h1 (by omega) (fun hc => ?_) (fun hc => ?_)
  · replace H := H.1 hc
    refine e_nx hcd rfl rfl ?_
    obtain ⟨h2, H⟩ := H
    refine r_if hcd rfl h2 (fun hc => ?_) (fun hc => ?_)
    · replace H := H.1 hc
      iterate 2 (refine e_nx hcd rfl rfl ?_)
      refine r_icmp hcd rfl h2 (by omega) (fun hc => ?_) (fun hc => ?_)
      · replace H := H.1 hc
        iterate 2 (refine e_nx hcd rfl rfl ?_)
        refine r_cv hcd rfl (by omega) rfl rfl rfl (Nat.le_of_ble_eq_true rfl) ?_
        refine Cl.mono H (fun v τ1 hq => ?_)
        obtain ⟨r3, rfl, H⟩ := hq
        show Ev X 100 20 _ [vI r3] τ1 Q
        obtain ⟨h4, H⟩ := H
        refine r_if hcd rfl h4 (fun hc => ?_) (fun hc => ?_)
        · replace H := H.1 hc
          refine e_nx hcd rfl rfl ?_
          exact r_iret hcd rfl rfl rfl H
        · replace H := H.2 hc
          iterate 2 (refine e_nx hcd rfl rfl ?_)
          exact r_iret hcd rfl rfl rfl H
      · replace H := H.2 hc
        refine e_nx hcd rfl rfl ?_
        refine r_cv hcd rfl (by omega) rfl rfl rfl (Nat.le_of_ble_eq_true rfl) ?_
        refine Cl.mono H (fun v τ2 hq => ?_)
        obtain ⟨r5, rfl, H⟩ := hq
        show Ev X 100 16 _ [vI r5] τ2 Q
        exact r_iret hcd rfl rfl rfl H
    · replace H := H.2 hc
      refine e_nx hcd rfl rfl ?_
      refine r_cv hcd rfl (by omega) rfl rfl rfl (Nat.le_of_ble_eq_true rfl) ?_
      refine Cl.mono H (fun v τ3 hq => ?_)
      obtain ⟨r6, rfl, H⟩ := hq
      show Ev X 100 10 _ [vI r6] τ3 Q
      exact r_iret hcd rfl rfl rfl H
  · replace H := H.2 hc
    refine e_nx hcd rfl rfl ?_
    exact r_iret hcd rfl rfl rfl H
/-! X9_parishLine -/
set_option maxRecDepth 20000 in
set_option maxHeartbeats 8000000 in
theorem v_101 {X : PX} {σ : Sg} {Q : Option PV → Sg → Prop}   (H : CI X 103 [vR (some 131), vR (some (PK + 0))] σ (fun r1 τ1 => InR r1 ∧ (r1 = 0 → CI X 103 [vR (some 131), vR (some (PK + 1))] τ1 (fun r3 τ2 => InR r3 ∧ (r3 = 0 → CI X 103 [vR (some 131), vR (some (PK + 2))] τ2 (fun r5 τ3 => InR r5 ∧ (r5 = 0 → CI X 103 [vR (some 131), vR (some (PK + 3))] τ3 (fun r7 τ4 => InR r7 ∧ (r7 = 0 → CI X 103 [vR (some 131), vR (some (PK + 4))] τ4 (fun r9 τ5 => InR r9 ∧ (r9 = 0 → CI X 103 [vR (some 131), vR (some (PK + 5))] τ5 (fun r11 τ6 => InR r11 ∧ (r11 = 0 → Q (some (vI (-1))) τ6) ∧ (¬ r11 = 0 → Q (some (vI 5)) τ6))) ∧ (¬ r9 = 0 → Q (some (vI 4)) τ5))) ∧ (¬ r7 = 0 → Q (some (vI 3)) τ4))) ∧ (¬ r5 = 0 → Q (some (vI 2)) τ3))) ∧ (¬ r3 = 0 → Q (some (vI 1)) τ2))) ∧ (¬ r1 = 0 → Q (some (vI 0)) τ1))) : Cl X 101 [vR (some 131)] σ Q := by
  have hcd : cds 101 = cd_101 := rfl
  refine c_in (Nat.le_of_ble_eq_true rfl) rfl rfl ?_
  show Ev X 101 0 [some (vR (some 131))] [] σ Q
  iterate 2 (refine e_nx hcd rfl rfl ?_)
  refine r_cv hcd rfl (by omega) rfl rfl rfl (Nat.le_of_ble_eq_true rfl) ?_
  refine Cl.mono H (fun v τ1 hq => ?_)
  obtain ⟨r1, rfl, H⟩ := hq
  show Ev X 101 3 _ [vI r1] τ1 Q
  obtain ⟨h2, H⟩ := H
  refine r_if hcd rfl h2 (fun hc => ?_) (fun hc => ?_)
  · replace H := H.1 hc
    iterate 2 (refine e_nx hcd rfl rfl ?_)
    refine r_cv hcd rfl (by omega) rfl rfl rfl (Nat.le_of_ble_eq_true rfl) ?_
    refine Cl.mono H (fun v τ2 hq => ?_)
    obtain ⟨r3, rfl, H⟩ := hq
    show Ev X 101 9 _ [vI r3] τ2 Q
    obtain ⟨h4, H⟩ := H
    refine r_if hcd rfl h4 (fun hc => ?_) (fun hc => ?_)
    · replace H := H.1 hc
      iterate 2 (refine e_nx hcd rfl rfl ?_)
      refine r_cv hcd rfl (by omega) rfl rfl rfl (Nat.le_of_ble_eq_true rfl) ?_
      refine Cl.mono H (fun v τ3 hq => ?_)
      obtain ⟨r5, rfl, H⟩ := hq
      show Ev X 101 15 _ [vI r5] τ3 Q
      obtain ⟨h6, H⟩ := H
      refine r_if hcd rfl h6 (fun hc => ?_) (fun hc => ?_)
      · replace H := H.1 hc
        iterate 2 (refine e_nx hcd rfl rfl ?_)
        refine r_cv hcd rfl (by omega) rfl rfl rfl (Nat.le_of_ble_eq_true rfl) ?_
        refine Cl.mono H (fun v τ4 hq => ?_)
        obtain ⟨r7, rfl, H⟩ := hq
        show Ev X 101 21 _ [vI r7] τ4 Q
        obtain ⟨h8, H⟩ := H
        refine r_if hcd rfl h8 (fun hc => ?_) (fun hc => ?_)
        · replace H := H.1 hc
          iterate 2 (refine e_nx hcd rfl rfl ?_)
          refine r_cv hcd rfl (by omega) rfl rfl rfl (Nat.le_of_ble_eq_true rfl) ?_
          refine Cl.mono H (fun v τ5 hq => ?_)
          obtain ⟨r9, rfl, H⟩ := hq
          show Ev X 101 27 _ [vI r9] τ5 Q
          obtain ⟨h10, H⟩ := H
          refine r_if hcd rfl h10 (fun hc => ?_) (fun hc => ?_)
          · replace H := H.1 hc
            iterate 2 (refine e_nx hcd rfl rfl ?_)
            refine r_cv hcd rfl (by omega) rfl rfl rfl (Nat.le_of_ble_eq_true rfl) ?_
            refine Cl.mono H (fun v τ6 hq => ?_)
            obtain ⟨r11, rfl, H⟩ := hq
            show Ev X 101 33 _ [vI r11] τ6 Q
            obtain ⟨h12, H⟩ := H
            refine r_if hcd rfl h12 (fun hc => ?_) (fun hc => ?_)
            · replace H := H.1 hc
              refine e_nx hcd rfl rfl ?_
              exact r_iret hcd rfl rfl rfl H
            · replace H := H.2 hc
              iterate 2 (refine e_nx hcd rfl rfl ?_)
              exact r_iret hcd rfl rfl rfl H
          · replace H := H.2 hc
            iterate 2 (refine e_nx hcd rfl rfl ?_)
            exact r_iret hcd rfl rfl rfl H
        · replace H := H.2 hc
          iterate 2 (refine e_nx hcd rfl rfl ?_)
          exact r_iret hcd rfl rfl rfl H
      · replace H := H.2 hc
        iterate 2 (refine e_nx hcd rfl rfl ?_)
        exact r_iret hcd rfl rfl rfl H
    · replace H := H.2 hc
      iterate 2 (refine e_nx hcd rfl rfl ?_)
      exact r_iret hcd rfl rfl rfl H
  · replace H := H.2 hc
    iterate 2 (refine e_nx hcd rfl rfl ?_)
    exact r_iret hcd rfl rfl rfl H
/-! X9_yearsLine -/
set_option maxRecDepth 20000 in
set_option maxHeartbeats 8000000 in
theorem v_102 {X : PX} {σ : Sg} {Q : Option PV → Sg → Prop}   (H : CI X 103 [vR (some 131), vR (some (PK + 6))] σ (fun r1 τ1 => InR r1 ∧ (r1 = 0 → CI X 103 [vR (some 131), vR (some (PK + 7))] τ1 (fun r3 τ2 => InR r3 ∧ (r3 = 0 → CI X 103 [vR (some 131), vR (some (PK + 8))] τ2 (fun r5 τ3 => InR r5 ∧ (r5 = 0 → CI X 103 [vR (some 131), vR (some (PK + 0))] τ3 (fun r7 τ4 => InR r7 ∧ (r7 = 0 → CI X 103 [vR (some 131), vR (some (PK + 1))] τ4 (fun r9 τ5 => InR r9 ∧ (r9 = 0 → CI X 103 [vR (some 131), vR (some (PK + 9))] τ5 (fun r11 τ6 => InR r11 ∧ (r11 = 0 → Q (some (vI (-1))) τ6) ∧ (¬ r11 = 0 → Q (some (vI 5)) τ6))) ∧ (¬ r9 = 0 → Q (some (vI 4)) τ5))) ∧ (¬ r7 = 0 → Q (some (vI 3)) τ4))) ∧ (¬ r5 = 0 → Q (some (vI 2)) τ3))) ∧ (¬ r3 = 0 → Q (some (vI 1)) τ2))) ∧ (¬ r1 = 0 → Q (some (vI 0)) τ1))) : Cl X 102 [vR (some 131)] σ Q := by
  have hcd : cds 102 = cd_102 := rfl
  refine c_in (Nat.le_of_ble_eq_true rfl) rfl rfl ?_
  show Ev X 102 0 [some (vR (some 131))] [] σ Q
  iterate 2 (refine e_nx hcd rfl rfl ?_)
  refine r_cv hcd rfl (by omega) rfl rfl rfl (Nat.le_of_ble_eq_true rfl) ?_
  refine Cl.mono H (fun v τ1 hq => ?_)
  obtain ⟨r1, rfl, H⟩ := hq
  show Ev X 102 3 _ [vI r1] τ1 Q
  obtain ⟨h2, H⟩ := H
  refine r_if hcd rfl h2 (fun hc => ?_) (fun hc => ?_)
  · replace H := H.1 hc
    iterate 2 (refine e_nx hcd rfl rfl ?_)
    refine r_cv hcd rfl (by omega) rfl rfl rfl (Nat.le_of_ble_eq_true rfl) ?_
    refine Cl.mono H (fun v τ2 hq => ?_)
    obtain ⟨r3, rfl, H⟩ := hq
    show Ev X 102 9 _ [vI r3] τ2 Q
    obtain ⟨h4, H⟩ := H
    refine r_if hcd rfl h4 (fun hc => ?_) (fun hc => ?_)
    · replace H := H.1 hc
      iterate 2 (refine e_nx hcd rfl rfl ?_)
      refine r_cv hcd rfl (by omega) rfl rfl rfl (Nat.le_of_ble_eq_true rfl) ?_
      refine Cl.mono H (fun v τ3 hq => ?_)
      obtain ⟨r5, rfl, H⟩ := hq
      show Ev X 102 15 _ [vI r5] τ3 Q
      obtain ⟨h6, H⟩ := H
      refine r_if hcd rfl h6 (fun hc => ?_) (fun hc => ?_)
      · replace H := H.1 hc
        iterate 2 (refine e_nx hcd rfl rfl ?_)
        refine r_cv hcd rfl (by omega) rfl rfl rfl (Nat.le_of_ble_eq_true rfl) ?_
        refine Cl.mono H (fun v τ4 hq => ?_)
        obtain ⟨r7, rfl, H⟩ := hq
        show Ev X 102 21 _ [vI r7] τ4 Q
        obtain ⟨h8, H⟩ := H
        refine r_if hcd rfl h8 (fun hc => ?_) (fun hc => ?_)
        · replace H := H.1 hc
          iterate 2 (refine e_nx hcd rfl rfl ?_)
          refine r_cv hcd rfl (by omega) rfl rfl rfl (Nat.le_of_ble_eq_true rfl) ?_
          refine Cl.mono H (fun v τ5 hq => ?_)
          obtain ⟨r9, rfl, H⟩ := hq
          show Ev X 102 27 _ [vI r9] τ5 Q
          obtain ⟨h10, H⟩ := H
          refine r_if hcd rfl h10 (fun hc => ?_) (fun hc => ?_)
          · replace H := H.1 hc
            iterate 2 (refine e_nx hcd rfl rfl ?_)
            refine r_cv hcd rfl (by omega) rfl rfl rfl (Nat.le_of_ble_eq_true rfl) ?_
            refine Cl.mono H (fun v τ6 hq => ?_)
            obtain ⟨r11, rfl, H⟩ := hq
            show Ev X 102 33 _ [vI r11] τ6 Q
            obtain ⟨h12, H⟩ := H
            refine r_if hcd rfl h12 (fun hc => ?_) (fun hc => ?_)
            · replace H := H.1 hc
              refine e_nx hcd rfl rfl ?_
              exact r_iret hcd rfl rfl rfl H
            · replace H := H.2 hc
              iterate 2 (refine e_nx hcd rfl rfl ?_)
              exact r_iret hcd rfl rfl rfl H
          · replace H := H.2 hc
            iterate 2 (refine e_nx hcd rfl rfl ?_)
            exact r_iret hcd rfl rfl rfl H
        · replace H := H.2 hc
          iterate 2 (refine e_nx hcd rfl rfl ?_)
          exact r_iret hcd rfl rfl rfl H
      · replace H := H.2 hc
        iterate 2 (refine e_nx hcd rfl rfl ?_)
        exact r_iret hcd rfl rfl rfl H
    · replace H := H.2 hc
      iterate 2 (refine e_nx hcd rfl rfl ?_)
      exact r_iret hcd rfl rfl rfl H
  · replace H := H.2 hc
    iterate 2 (refine e_nx hcd rfl rfl ?_)
    exact r_iret hcd rfl rfl rfl H
/-! X9_spells -/
theorem v_103 {X : PX} {σ : Sg} {Q : Option PV → Sg → Prop} {c1 : Nat} (hc1 : PK ≤ c1) (hc2 : c1 < PK + 11) (H : InR ((σ.1 131 9) - (σ.1 131 8)) ∧ InR ((X (c1 - PK)).1 : Int) ∧ ((σ.1 131 9) - (σ.1 131 8) = ((X (c1 - PK)).1 : Int) → Ev X 103 12 [some (vR (some 131)), some (vR (some c1)), some (vI 0)] [] σ Q) ∧ (¬ (σ.1 131 9) - (σ.1 131 8) = ((X (c1 - PK)).1 : Int) → Q (some (vI 0)) σ)) : Cl X 103 [vR (some 131), vR (some c1)] σ Q := by
  have hcd : cds 103 = cd_103 := rfl
  refine c_in (Nat.le_of_ble_eq_true rfl) rfl rfl ?_
  show Ev X 103 0 [some (vR (some 131)), some (vR (some c1)), none] [] σ Q
  refine e_nx hcd rfl rfl ?_
  refine r_getI hcd rfl rfl rfl ?_
  refine e_nx hcd rfl rfl ?_
  refine r_getI hcd rfl rfl rfl ?_
  iterate 2 (refine e_nx hcd rfl rfl ?_)
  refine r_stl hcd rfl hc1 hc2 (Nat.le_of_ble_eq_true rfl) ?_
  obtain ⟨h1, H⟩ := H
  obtain ⟨h2, H⟩ := H
  refine r_icmp hcd rfl h1 h2 (fun hc => ?_) (fun hc => ?_)
  · replace H := H.1 hc
    iterate 2 (refine e_nx hcd rfl rfl ?_)
    show Ev X 103 12 [some (vR (some 131)), some (vR (some c1)), some (vI 0)] [] _ Q
    exact H
  · replace H := H.2 hc
    refine e_nx hcd rfl rfl ?_
    exact r_zret hcd rfl rfl rfl (by omega) H
theorem v_103_12 {X : PX} {σ : Sg} {Q : Option PV → Sg → Prop} {c1 : Nat} {x2 : Int} (hc1 : PK ≤ c1) (hc2 : c1 < PK + 11) (H : InR x2 ∧ InR ((X (c1 - PK)).1 : Int) ∧ (((X (c1 - PK)).1 : Int) ≤ x2 → Q (some (vI 1)) σ) ∧ (¬ ((X (c1 - PK)).1 : Int) ≤ x2 → CI X 113 [vR (some 1), vI ((σ.1 131 8) + x2)] σ (fun r3 τ1 => (0 ≤ x2 ∧ x2 < (X (c1 - PK)).1) ∧ InR r3 ∧ InR ((X (c1 - PK)).2 x2.toNat) ∧ (r3 = (X (c1 - PK)).2 x2.toNat → Ev X 103 12 [some (vR (some 131)), some (vR (some c1)), some (vI (x2 + 1))] [] τ1 Q) ∧ (¬ r3 = (X (c1 - PK)).2 x2.toNat → Q (some (vI 0)) τ1)))) : Ev X 103 12 [some (vR (some 131)), some (vR (some c1)), some (vI x2)] [] σ Q := by
  have hcd : cds 103 = cd_103 := rfl
  iterate 2 (refine e_nx hcd rfl rfl ?_)
  refine r_stl hcd rfl hc1 hc2 (Nat.le_of_ble_eq_true rfl) ?_
  obtain ⟨h1, H⟩ := H
  obtain ⟨h2, H⟩ := H
  refine r_icmp hcd rfl h1 h2 (fun hc => ?_) (fun hc => ?_)
  · replace H := H.1 hc
    refine e_nx hcd rfl rfl ?_
    exact r_zret hcd rfl rfl rfl (by omega) H
  · replace H := H.2 hc
    refine e_nx hcd rfl rfl ?_
    refine r_getR hcd rfl rfl rfl ?_
    refine e_nx hcd rfl rfl ?_
    refine r_getI hcd rfl rfl rfl ?_
    iterate 2 (refine e_nx hcd rfl rfl ?_)
    refine r_cv hcd rfl (by omega) rfl rfl rfl (Nat.le_of_ble_eq_true rfl) ?_
    refine Cl.mono H (fun v τ1 hq => ?_)
    obtain ⟨r3, rfl, H⟩ := hq
    show Ev X 103 23 _ [vI r3] τ1 Q
    iterate 2 (refine e_nx hcd rfl rfl ?_)
    obtain ⟨h4, H⟩ := H
    refine r_stc hcd rfl hc1 hc2 (Nat.le_of_ble_eq_true rfl) h4 ?_
    obtain ⟨h5, H⟩ := H
    obtain ⟨h6, H⟩ := H
    refine r_icmp hcd rfl h5 h6 (fun hc => ?_) (fun hc => ?_)
    · replace H := H.1 hc
      refine e_nx hcd rfl rfl ?_
      show Ev X 103 30 [some (vR (some 131)), some (vR (some c1)), some (vI (x2 + 1))] [] _ Q
      refine e_nx hcd rfl rfl ?_
      exact H
    · replace H := H.2 hc
      refine e_nx hcd rfl rfl ?_
      exact r_zret hcd rfl rfl rfl (by omega) H
/-! X9_breakOff -/
theorem v_104 {X : PX} {σ : Sg} {Q : Option PV → Sg → Prop}   (H : Q none (up2 (up2 σ.1 131 3 1) 131 4 (σ.1 131 8), σ.2)) : Cl X 104 [vR (some 131)] σ Q := by
  have hcd : cds 104 = cd_104 := rfl
  refine c_in (Nat.le_of_ble_eq_true rfl) rfl rfl ?_
  show Ev X 104 0 [some (vR (some 131))] [] σ Q
  iterate 2 (refine e_nx hcd rfl rfl ?_)
  refine r_putI hcd rfl rfl rfl rfl ?_
  iterate 2 (refine e_nx hcd rfl rfl ?_)
  refine r_getI hcd rfl rfl rfl ?_
  show Ev X 104 6 _ [vI (σ.1 131 8), vR (some 131)] _ Q
  refine r_putI hcd rfl rfl rfl rfl ?_
  exact r_vret hcd rfl rfl rfl H
/-! X9_noteFault -/
theorem v_105 {X : PX} {σ : Sg} {Q : Option PV → Sg → Prop} {a1 : Int} {a2 : Int}  (H : InR (σ.1 131 3) ∧ (σ.1 131 3 ≠ 0 → Q none σ) ∧ (¬ σ.1 131 3 ≠ 0 → Q none (up2 (up2 σ.1 131 3 a1) 131 4 a2, σ.2))) : Cl X 105 [vR (some 131), vI a1, vI a2] σ Q := by
  have hcd : cds 105 = cd_105 := rfl
  refine c_in (Nat.le_of_ble_eq_true rfl) rfl rfl ?_
  show Ev X 105 0 [some (vR (some 131)), some (vI a1), some (vI a2)] [] σ Q
  refine e_nx hcd rfl rfl ?_
  refine r_getI hcd rfl rfl rfl ?_
  obtain ⟨h1, H⟩ := H
  refine r_if hcd rfl h1 (fun hc => ?_) (fun hc => ?_)
  · replace H := H.1 hc
    exact r_vret hcd rfl rfl rfl H
  · replace H := H.2 hc
    iterate 2 (refine e_nx hcd rfl rfl ?_)
    refine r_putI hcd rfl rfl rfl rfl ?_
    iterate 2 (refine e_nx hcd rfl rfl ?_)
    refine r_putI hcd rfl rfl rfl rfl ?_
    exact r_vret hcd rfl rfl rfl H
/-! X9_nextToken -/
theorem v_106 {X : PX} {σ : Sg} {Q : Option PV → Sg → Prop}   (H : Ev X 106 3 [some (vR (some 131)), some (vI (σ.1 131 9)), none] [] σ Q) : Cl X 106 [vR (some 131)] σ Q := by
  have hcd : cds 106 = cd_106 := rfl
  refine c_in (Nat.le_of_ble_eq_true rfl) rfl rfl ?_
  show Ev X 106 0 [some (vR (some 131)), none, none] [] σ Q
  refine e_nx hcd rfl rfl ?_
  refine r_getI hcd rfl rfl rfl ?_
  refine e_nx hcd rfl rfl ?_
  show Ev X 106 3 [some (vR (some 131)), some (vI (σ.1 131 9)), none] [] _ Q
  exact H
set_option maxRecDepth 20000 in
set_option maxHeartbeats 8000000 in
theorem v_106_3 {X : PX} {σ : Sg} {Q : Option PV → Sg → Prop} {x1 : Int}  (H : InR x1 ∧ InR (σ.1 1 1) ∧ (σ.1 1 1 ≤ x1 → CI X 113 [vR (some 1), vI x1] (up2 σ.1 131 8 x1, σ.2) (fun r3 τ1 => CI X 109 [vI r3] τ1 (fun r4 τ2 => InR r4 ∧ (r4 = 0 → CI X 110 [vI r3] τ2 (fun r6 τ3 => InR r6 ∧ (r6 = 0 → InR r3 ∧ (r3 ≠ (-1) → (r3 ≠ 59 → Q none (up2 (up2 τ3.1 131 7 4) 131 9 (x1 + 1), τ3.2)) ∧ (¬ r3 ≠ 59 → Q none (up2 (up2 τ3.1 131 7 3) 131 9 (x1 + 1), τ3.2))) ∧ (¬ r3 ≠ (-1) → Q none (up2 (up2 τ3.1 131 7 0) 131 9 (x1 + 1), τ3.2))) ∧ (¬ r6 = 0 → CI X 107 [vR (some 131), vI x1] τ3 (fun r9 τ4 => Q none (up2 τ4.1 131 9 r9, τ4.2))))) ∧ (¬ r4 = 0 → Ev X 106 30 [some (vR (some 131)), some (vI x1), none] [] (up2 τ2.1 131 7 1, τ2.2) Q)))) ∧ (¬ σ.1 1 1 ≤ x1 → CI X 113 [vR (some 1), vI x1] σ (fun r10 τ5 => CI X 108 [vI r10] τ5 (fun r11 τ6 => InR r11 ∧ (r11 = 0 → CI X 113 [vR (some 1), vI x1] (up2 τ6.1 131 8 x1, τ6.2) (fun r13 τ7 => CI X 109 [vI r13] τ7 (fun r14 τ8 => InR r14 ∧ (r14 = 0 → CI X 110 [vI r13] τ8 (fun r16 τ9 => InR r16 ∧ (r16 = 0 → InR r13 ∧ (r13 ≠ (-1) → (r13 ≠ 59 → Q none (up2 (up2 τ9.1 131 7 4) 131 9 (x1 + 1), τ9.2)) ∧ (¬ r13 ≠ 59 → Q none (up2 (up2 τ9.1 131 7 3) 131 9 (x1 + 1), τ9.2))) ∧ (¬ r13 ≠ (-1) → Q none (up2 (up2 τ9.1 131 7 0) 131 9 (x1 + 1), τ9.2))) ∧ (¬ r16 = 0 → CI X 107 [vR (some 131), vI x1] τ9 (fun r19 τ10 => Q none (up2 τ10.1 131 9 r19, τ10.2))))) ∧ (¬ r14 = 0 → Ev X 106 30 [some (vR (some 131)), some (vI x1), none] [] (up2 τ8.1 131 7 1, τ8.2) Q)))) ∧ (¬ r11 = 0 → Ev X 106 3 [some (vR (some 131)), some (vI (x1 + 1)), none] [] τ6 Q))))) : Ev X 106 3 [some (vR (some 131)), some (vI x1), none] [] σ Q := by
  have hcd : cds 106 = cd_106 := rfl
  iterate 2 (refine e_nx hcd rfl rfl ?_)
  refine r_getR hcd rfl rfl rfl ?_
  refine r_getI hcd rfl rfl rfl ?_
  obtain ⟨h1, H⟩ := H
  obtain ⟨h2, H⟩ := H
  refine r_icmp hcd rfl h1 h2 (fun hc => ?_) (fun hc => ?_)
  · replace H := H.1 hc
    iterate 2 (refine e_nx hcd rfl rfl ?_)
    refine r_putI hcd rfl rfl rfl rfl ?_
    refine e_nx hcd rfl rfl ?_
    refine r_getR hcd rfl rfl rfl ?_
    refine e_nx hcd rfl rfl ?_
    refine r_cv hcd rfl (by omega) rfl rfl rfl (Nat.le_of_ble_eq_true rfl) ?_
    refine Cl.mono H (fun v τ1 hq => ?_)
    obtain ⟨r3, rfl, H⟩ := hq
    show Ev X 106 23 _ [vI r3] τ1 Q
    refine e_nx hcd rfl rfl ?_
    show Ev X 106 24 [some (vR (some 131)), some (vI x1), some (vI r3)] [] _ Q
    refine e_nx hcd rfl rfl ?_
    refine r_cs hcd rfl (by omega) (Nat.le_of_ble_eq_true rfl) rfl rfl (Nat.le_of_ble_eq_true rfl) ?_
    refine Cl.mono H (fun v τ2 hq => ?_)
    obtain ⟨r4, rfl, H⟩ := hq
    show Ev X 106 26 _ [vI r4] τ2 Q
    obtain ⟨h5, H⟩ := H
    refine r_if hcd rfl h5 (fun hc => ?_) (fun hc => ?_)
    · replace H := H.1 hc
      refine e_nx hcd rfl rfl ?_
      refine r_cs hcd rfl (by omega) (Nat.le_of_ble_eq_true rfl) rfl rfl (Nat.le_of_ble_eq_true rfl) ?_
      refine Cl.mono H (fun v τ3 hq => ?_)
      obtain ⟨r6, rfl, H⟩ := hq
      show Ev X 106 45 _ [vI r6] τ3 Q
      obtain ⟨h7, H⟩ := H
      refine r_if hcd rfl h7 (fun hc => ?_) (fun hc => ?_)
      · replace H := H.1 hc
        iterate 3 (refine e_nx hcd rfl rfl ?_)
        obtain ⟨h8, H⟩ := H
        refine r_icmp hcd rfl h8 (by omega) (fun hc => ?_) (fun hc => ?_)
        · replace H := H.1 hc
          iterate 2 (refine e_nx hcd rfl rfl ?_)
          refine r_icmp hcd rfl h8 (by omega) (fun hc => ?_) (fun hc => ?_)
          · replace H := H.1 hc
            refine e_nx hcd rfl rfl ?_
            refine r_putI hcd rfl rfl rfl rfl ?_
            refine e_nx hcd rfl rfl ?_
            show Ev X 106 65 [some (vR (some 131)), some (vI (x1 + 1)), some (vI r3)] [] _ Q
            iterate 2 (refine e_nx hcd rfl rfl ?_)
            refine r_putI hcd rfl rfl rfl rfl ?_
            exact r_vret hcd rfl rfl rfl H
          · replace H := H.2 hc
            iterate 2 (refine e_nx hcd rfl rfl ?_)
            refine r_putI hcd rfl rfl rfl rfl ?_
            refine e_nx hcd rfl rfl ?_
            show Ev X 106 65 [some (vR (some 131)), some (vI (x1 + 1)), some (vI r3)] [] _ Q
            iterate 2 (refine e_nx hcd rfl rfl ?_)
            refine r_putI hcd rfl rfl rfl rfl ?_
            exact r_vret hcd rfl rfl rfl H
        · replace H := H.2 hc
          iterate 2 (refine e_nx hcd rfl rfl ?_)
          refine r_putI hcd rfl rfl rfl rfl ?_
          refine e_nx hcd rfl rfl ?_
          show Ev X 106 65 [some (vR (some 131)), some (vI (x1 + 1)), some (vI r3)] [] _ Q
          iterate 2 (refine e_nx hcd rfl rfl ?_)
          refine r_putI hcd rfl rfl rfl rfl ?_
          exact r_vret hcd rfl rfl rfl H
      · replace H := H.2 hc
        iterate 2 (refine e_nx hcd rfl rfl ?_)
        refine r_cv hcd rfl (by omega) rfl rfl rfl (Nat.le_of_ble_eq_true rfl) ?_
        refine Cl.mono H (fun v τ4 hq => ?_)
        obtain ⟨r9, rfl, H⟩ := hq
        show Ev X 106 49 _ [vI r9] τ4 Q
        refine e_nx hcd rfl rfl ?_
        show Ev X 106 50 [some (vR (some 131)), some (vI r9), some (vI r3)] [] _ Q
        iterate 3 (refine e_nx hcd rfl rfl ?_)
        refine r_putI hcd rfl rfl rfl rfl ?_
        exact r_vret hcd rfl rfl rfl H
    · replace H := H.2 hc
      iterate 2 (refine e_nx hcd rfl rfl ?_)
      refine r_putI hcd rfl rfl rfl rfl ?_
      refine e_fg [2] ?_
      exact H
  · replace H := H.2 hc
    refine e_nx hcd rfl rfl ?_
    refine r_getR hcd rfl rfl rfl ?_
    refine e_nx hcd rfl rfl ?_
    refine r_cv hcd rfl (by omega) rfl rfl rfl (Nat.le_of_ble_eq_true rfl) ?_
    refine Cl.mono H (fun v τ5 hq => ?_)
    obtain ⟨r10, rfl, H⟩ := hq
    show Ev X 106 12 _ [vI r10] τ5 Q
    refine r_cs hcd rfl (by omega) (Nat.le_of_ble_eq_true rfl) rfl rfl (Nat.le_of_ble_eq_true rfl) ?_
    refine Cl.mono H (fun v τ6 hq => ?_)
    obtain ⟨r11, rfl, H⟩ := hq
    show Ev X 106 13 _ [vI r11] τ6 Q
    obtain ⟨h12, H⟩ := H
    refine r_if hcd rfl h12 (fun hc => ?_) (fun hc => ?_)
    · replace H := H.1 hc
      iterate 2 (refine e_nx hcd rfl rfl ?_)
      refine r_putI hcd rfl rfl rfl rfl ?_
      refine e_nx hcd rfl rfl ?_
      refine r_getR hcd rfl rfl rfl ?_
      refine e_nx hcd rfl rfl ?_
      refine r_cv hcd rfl (by omega) rfl rfl rfl (Nat.le_of_ble_eq_true rfl) ?_
      refine Cl.mono H (fun v τ7 hq => ?_)
      obtain ⟨r13, rfl, H⟩ := hq
      show Ev X 106 23 _ [vI r13] τ7 Q
      refine e_nx hcd rfl rfl ?_
      show Ev X 106 24 [some (vR (some 131)), some (vI x1), some (vI r13)] [] _ Q
      refine e_nx hcd rfl rfl ?_
      refine r_cs hcd rfl (by omega) (Nat.le_of_ble_eq_true rfl) rfl rfl (Nat.le_of_ble_eq_true rfl) ?_
      refine Cl.mono H (fun v τ8 hq => ?_)
      obtain ⟨r14, rfl, H⟩ := hq
      show Ev X 106 26 _ [vI r14] τ8 Q
      obtain ⟨h15, H⟩ := H
      refine r_if hcd rfl h15 (fun hc => ?_) (fun hc => ?_)
      · replace H := H.1 hc
        refine e_nx hcd rfl rfl ?_
        refine r_cs hcd rfl (by omega) (Nat.le_of_ble_eq_true rfl) rfl rfl (Nat.le_of_ble_eq_true rfl) ?_
        refine Cl.mono H (fun v τ9 hq => ?_)
        obtain ⟨r16, rfl, H⟩ := hq
        show Ev X 106 45 _ [vI r16] τ9 Q
        obtain ⟨h17, H⟩ := H
        refine r_if hcd rfl h17 (fun hc => ?_) (fun hc => ?_)
        · replace H := H.1 hc
          iterate 3 (refine e_nx hcd rfl rfl ?_)
          obtain ⟨h18, H⟩ := H
          refine r_icmp hcd rfl h18 (by omega) (fun hc => ?_) (fun hc => ?_)
          · replace H := H.1 hc
            iterate 2 (refine e_nx hcd rfl rfl ?_)
            refine r_icmp hcd rfl h18 (by omega) (fun hc => ?_) (fun hc => ?_)
            · replace H := H.1 hc
              refine e_nx hcd rfl rfl ?_
              refine r_putI hcd rfl rfl rfl rfl ?_
              refine e_nx hcd rfl rfl ?_
              show Ev X 106 65 [some (vR (some 131)), some (vI (x1 + 1)), some (vI r13)] [] _ Q
              iterate 2 (refine e_nx hcd rfl rfl ?_)
              refine r_putI hcd rfl rfl rfl rfl ?_
              exact r_vret hcd rfl rfl rfl H
            · replace H := H.2 hc
              iterate 2 (refine e_nx hcd rfl rfl ?_)
              refine r_putI hcd rfl rfl rfl rfl ?_
              refine e_nx hcd rfl rfl ?_
              show Ev X 106 65 [some (vR (some 131)), some (vI (x1 + 1)), some (vI r13)] [] _ Q
              iterate 2 (refine e_nx hcd rfl rfl ?_)
              refine r_putI hcd rfl rfl rfl rfl ?_
              exact r_vret hcd rfl rfl rfl H
          · replace H := H.2 hc
            iterate 2 (refine e_nx hcd rfl rfl ?_)
            refine r_putI hcd rfl rfl rfl rfl ?_
            refine e_nx hcd rfl rfl ?_
            show Ev X 106 65 [some (vR (some 131)), some (vI (x1 + 1)), some (vI r13)] [] _ Q
            iterate 2 (refine e_nx hcd rfl rfl ?_)
            refine r_putI hcd rfl rfl rfl rfl ?_
            exact r_vret hcd rfl rfl rfl H
        · replace H := H.2 hc
          iterate 2 (refine e_nx hcd rfl rfl ?_)
          refine r_cv hcd rfl (by omega) rfl rfl rfl (Nat.le_of_ble_eq_true rfl) ?_
          refine Cl.mono H (fun v τ10 hq => ?_)
          obtain ⟨r19, rfl, H⟩ := hq
          show Ev X 106 49 _ [vI r19] τ10 Q
          refine e_nx hcd rfl rfl ?_
          show Ev X 106 50 [some (vR (some 131)), some (vI r19), some (vI r13)] [] _ Q
          iterate 3 (refine e_nx hcd rfl rfl ?_)
          refine r_putI hcd rfl rfl rfl rfl ?_
          exact r_vret hcd rfl rfl rfl H
      · replace H := H.2 hc
        iterate 2 (refine e_nx hcd rfl rfl ?_)
        refine r_putI hcd rfl rfl rfl rfl ?_
        refine e_fg [2] ?_
        exact H
    · replace H := H.2 hc
      refine e_nx hcd rfl rfl ?_
      show Ev X 106 15 [some (vR (some 131)), some (vI (x1 + 1)), none] [] _ Q
      refine e_nx hcd rfl rfl ?_
      exact H
theorem v_106_30 {X : PX} {σ : Sg} {Q : Option PV → Sg → Prop} {x1 : Int}  (H : InR x1 ∧ InR (σ.1 1 1) ∧ (σ.1 1 1 ≤ x1 → Q none (up2 σ.1 131 9 x1, σ.2)) ∧ (¬ σ.1 1 1 ≤ x1 → CI X 113 [vR (some 1), vI x1] σ (fun r3 τ1 => CI X 109 [vI r3] τ1 (fun r4 τ2 => InR r4 ∧ (r4 = 0 → Q none (up2 τ2.1 131 9 x1, τ2.2)) ∧ (¬ r4 = 0 → Ev X 106 30 [some (vR (some 131)), some (vI (x1 + 1)), none] [] τ2 Q))))) : Ev X 106 30 [some (vR (some 131)), some (vI x1), none] [] σ Q := by
  have hcd : cds 106 = cd_106 := rfl
  iterate 2 (refine e_nx hcd rfl rfl ?_)
  refine r_getR hcd rfl rfl rfl ?_
  refine r_getI hcd rfl rfl rfl ?_
  obtain ⟨h1, H⟩ := H
  obtain ⟨h2, H⟩ := H
  refine r_icmp hcd rfl h1 h2 (fun hc => ?_) (fun hc => ?_)
  · replace H := H.1 hc
    iterate 2 (refine e_nx hcd rfl rfl ?_)
    refine r_putI hcd rfl rfl rfl rfl ?_
    exact r_vret hcd rfl rfl rfl H
  · replace H := H.2 hc
    refine e_nx hcd rfl rfl ?_
    refine r_getR hcd rfl rfl rfl ?_
    refine e_nx hcd rfl rfl ?_
    refine r_cv hcd rfl (by omega) rfl rfl rfl (Nat.le_of_ble_eq_true rfl) ?_
    refine Cl.mono H (fun v τ1 hq => ?_)
    obtain ⟨r3, rfl, H⟩ := hq
    show Ev X 106 39 _ [vI r3] τ1 Q
    refine r_cs hcd rfl (by omega) (Nat.le_of_ble_eq_true rfl) rfl rfl (Nat.le_of_ble_eq_true rfl) ?_
    refine Cl.mono H (fun v τ2 hq => ?_)
    obtain ⟨r4, rfl, H⟩ := hq
    show Ev X 106 40 _ [vI r4] τ2 Q
    obtain ⟨h5, H⟩ := H
    refine r_if hcd rfl h5 (fun hc => ?_) (fun hc => ?_)
    · replace H := H.1 hc
      iterate 2 (refine e_nx hcd rfl rfl ?_)
      refine r_putI hcd rfl rfl rfl rfl ?_
      exact r_vret hcd rfl rfl rfl H
    · replace H := H.2 hc
      refine e_nx hcd rfl rfl ?_
      show Ev X 106 42 [some (vR (some 131)), some (vI (x1 + 1)), none] [] _ Q
      refine e_nx hcd rfl rfl ?_
      exact H
/-! X9_readDigits -/
theorem v_107 {X : PX} {σ : Sg} {Q : Option PV → Sg → Prop} {a1 : Int}  (H : Ev X 107 5 [some (vR (some 131)), some (vI a1), some (vI a1)] [] (up2 σ.1 131 10 0, σ.2) Q) : Cl X 107 [vR (some 131), vI a1] σ Q := by
  have hcd : cds 107 = cd_107 := rfl
  refine c_in (Nat.le_of_ble_eq_true rfl) rfl rfl ?_
  show Ev X 107 0 [some (vR (some 131)), some (vI a1), none] [] σ Q
  iterate 2 (refine e_nx hcd rfl rfl ?_)
  show Ev X 107 2 [some (vR (some 131)), some (vI a1), some (vI a1)] [] _ Q
  iterate 2 (refine e_nx hcd rfl rfl ?_)
  refine r_putI hcd rfl rfl rfl rfl ?_
  exact H
set_option maxRecDepth 20000 in
set_option maxHeartbeats 8000000 in
theorem v_107_5 {X : PX} {σ : Sg} {Q : Option PV → Sg → Prop} {x1 : Int} {x2 : Int}  (H : InR x2 ∧ InR (σ.1 1 1) ∧ (σ.1 1 1 ≤ x2 → InR (x2 - x1) ∧ (2 < x2 - x1 → Q (some (vI x2)) (up2 σ.1 131 7 4, σ.2)) ∧ (¬ 2 < x2 - x1 → Q (some (vI x2)) (up2 σ.1 131 7 2, σ.2))) ∧ (¬ σ.1 1 1 ≤ x2 → CI X 113 [vR (some 1), vI x2] σ (fun r4 τ1 => CI X 110 [vI r4] τ1 (fun r5 τ2 => InR r5 ∧ (r5 = 0 → InR (x2 - x1) ∧ (2 < x2 - x1 → Q (some (vI x2)) (up2 τ2.1 131 7 4, τ2.2)) ∧ (¬ 2 < x2 - x1 → Q (some (vI x2)) (up2 τ2.1 131 7 2, τ2.2))) ∧ (¬ r5 = 0 → CI X 113 [vR (some 1), vI x2] τ2 (fun r8 τ3 => Ev X 107 5 [some (vR (some 131)), some (vI x1), some (vI (x2 + 1))] [] (up2 τ3.1 131 10 ((((τ2.1 131 10) * 10) + r8) - 48), τ3.2) Q)))))) : Ev X 107 5 [some (vR (some 131)), some (vI x1), some (vI x2)] [] σ Q := by
  have hcd : cds 107 = cd_107 := rfl
  iterate 2 (refine e_nx hcd rfl rfl ?_)
  refine r_getR hcd rfl rfl rfl ?_
  refine r_getI hcd rfl rfl rfl ?_
  obtain ⟨h1, H⟩ := H
  obtain ⟨h2, H⟩ := H
  refine r_icmp hcd rfl h1 h2 (fun hc => ?_) (fun hc => ?_)
  · replace H := H.1 hc
    iterate 5 (refine e_nx hcd rfl rfl ?_)
    obtain ⟨h3, H⟩ := H
    refine r_icmp hcd rfl h3 (by omega) (fun hc => ?_) (fun hc => ?_)
    · replace H := H.1 hc
      refine e_nx hcd rfl rfl ?_
      refine r_putI hcd rfl rfl rfl rfl ?_
      refine e_nx hcd rfl rfl ?_
      exact r_iret hcd rfl rfl rfl H
    · replace H := H.2 hc
      iterate 2 (refine e_nx hcd rfl rfl ?_)
      refine r_putI hcd rfl rfl rfl rfl ?_
      refine e_nx hcd rfl rfl ?_
      exact r_iret hcd rfl rfl rfl H
  · replace H := H.2 hc
    refine e_nx hcd rfl rfl ?_
    refine r_getR hcd rfl rfl rfl ?_
    refine e_nx hcd rfl rfl ?_
    refine r_cv hcd rfl (by omega) rfl rfl rfl (Nat.le_of_ble_eq_true rfl) ?_
    refine Cl.mono H (fun v τ1 hq => ?_)
    obtain ⟨r4, rfl, H⟩ := hq
    show Ev X 107 14 _ [vI r4] τ1 Q
    refine r_cs hcd rfl (by omega) (Nat.le_of_ble_eq_true rfl) rfl rfl (Nat.le_of_ble_eq_true rfl) ?_
    refine Cl.mono H (fun v τ2 hq => ?_)
    obtain ⟨r5, rfl, H⟩ := hq
    show Ev X 107 15 _ [vI r5] τ2 Q
    obtain ⟨h6, H⟩ := H
    refine r_if hcd rfl h6 (fun hc => ?_) (fun hc => ?_)
    · replace H := H.1 hc
      iterate 5 (refine e_nx hcd rfl rfl ?_)
      obtain ⟨h7, H⟩ := H
      refine r_icmp hcd rfl h7 (by omega) (fun hc => ?_) (fun hc => ?_)
      · replace H := H.1 hc
        refine e_nx hcd rfl rfl ?_
        refine r_putI hcd rfl rfl rfl rfl ?_
        refine e_nx hcd rfl rfl ?_
        exact r_iret hcd rfl rfl rfl H
      · replace H := H.2 hc
        iterate 2 (refine e_nx hcd rfl rfl ?_)
        refine r_putI hcd rfl rfl rfl rfl ?_
        refine e_nx hcd rfl rfl ?_
        exact r_iret hcd rfl rfl rfl H
    · replace H := H.2 hc
      iterate 2 (refine e_nx hcd rfl rfl ?_)
      refine r_getI hcd rfl rfl rfl ?_
      iterate 3 (refine e_nx hcd rfl rfl ?_)
      refine r_getR hcd rfl rfl rfl ?_
      refine e_nx hcd rfl rfl ?_
      refine r_cv hcd rfl (by omega) rfl rfl rfl (Nat.le_of_ble_eq_true rfl) ?_
      refine Cl.mono H (fun v τ3 hq => ?_)
      obtain ⟨r8, rfl, H⟩ := hq
      show Ev X 107 25 _ [vI r8, vI ((τ2.1 131 10) * 10), vR (some 131)] τ3 Q
      iterate 3 (refine e_nx hcd rfl rfl ?_)
      refine r_putI hcd rfl rfl rfl rfl ?_
      refine e_nx hcd rfl rfl ?_
      show Ev X 107 30 [some (vR (some 131)), some (vI x1), some (vI (x2 + 1))] [] _ Q
      refine e_nx hcd rfl rfl ?_
      exact H
/-! X9_isBlank -/
theorem v_108 {X : PX} {σ : Sg} {Q : Option PV → Sg → Prop} {a1 : Int}  (H : InR a1 ∧ (a1 = 10 → Q (some (vI 1)) σ) ∧ (¬ a1 = 10 → (a1 ≠ 32 → Q (some (vI 0)) σ) ∧ (¬ a1 ≠ 32 → Q (some (vI 1)) σ))) : Cl X 108 [vI a1] σ Q := by
  have hcd : cds 108 = cd_108 := rfl
  refine c_in (Nat.le_of_ble_eq_true rfl) rfl rfl ?_
  show Ev X 108 0 [some (vI a1)] [] σ Q
  iterate 2 (refine e_nx hcd rfl rfl ?_)
  obtain ⟨h1, H⟩ := H
  refine r_icmp hcd rfl h1 (by omega) (fun hc => ?_) (fun hc => ?_)
  · replace H := H.1 hc
    iterate 2 (refine e_nx hcd rfl rfl ?_)
    exact r_zret hcd rfl rfl rfl (by omega) H
  · replace H := H.2 hc
    iterate 2 (refine e_nx hcd rfl rfl ?_)
    refine r_icmp hcd rfl h1 (by omega) (fun hc => ?_) (fun hc => ?_)
    · replace H := H.1 hc
      refine e_nx hcd rfl rfl ?_
      exact r_zret hcd rfl rfl rfl (by omega) H
    · replace H := H.2 hc
      iterate 2 (refine e_nx hcd rfl rfl ?_)
      exact r_zret hcd rfl rfl rfl (by omega) H
/-! X9_isLetter -/
theorem v_109 {X : PX} {σ : Sg} {Q : Option PV → Sg → Prop} {a1 : Int}  (H : InR a1 ∧ (a1 < 97 → Q (some (vI 0)) σ) ∧ (¬ a1 < 97 → (122 < a1 → Q (some (vI 0)) σ) ∧ (¬ 122 < a1 → Q (some (vI 1)) σ))) : Cl X 109 [vI a1] σ Q := by
  have hcd : cds 109 = cd_109 := rfl
  refine c_in (Nat.le_of_ble_eq_true rfl) rfl rfl ?_
  show Ev X 109 0 [some (vI a1)] [] σ Q
  iterate 2 (refine e_nx hcd rfl rfl ?_)
  obtain ⟨h1, H⟩ := H
  refine r_icmp hcd rfl h1 (by omega) (fun hc => ?_) (fun hc => ?_)
  · replace H := H.1 hc
    refine e_nx hcd rfl rfl ?_
    exact r_zret hcd rfl rfl rfl (by omega) H
  · replace H := H.2 hc
    iterate 2 (refine e_nx hcd rfl rfl ?_)
    refine r_icmp hcd rfl h1 (by omega) (fun hc => ?_) (fun hc => ?_)
    · replace H := H.1 hc
      refine e_nx hcd rfl rfl ?_
      exact r_zret hcd rfl rfl rfl (by omega) H
    · replace H := H.2 hc
      iterate 2 (refine e_nx hcd rfl rfl ?_)
      exact r_zret hcd rfl rfl rfl (by omega) H
/-! X9_isDigit -/
theorem v_110 {X : PX} {σ : Sg} {Q : Option PV → Sg → Prop} {a1 : Int}  (H : InR a1 ∧ (a1 < 48 → Q (some (vI 0)) σ) ∧ (¬ a1 < 48 → (57 < a1 → Q (some (vI 0)) σ) ∧ (¬ 57 < a1 → Q (some (vI 1)) σ))) : Cl X 110 [vI a1] σ Q := by
  have hcd : cds 110 = cd_110 := rfl
  refine c_in (Nat.le_of_ble_eq_true rfl) rfl rfl ?_
  show Ev X 110 0 [some (vI a1)] [] σ Q
  iterate 2 (refine e_nx hcd rfl rfl ?_)
  obtain ⟨h1, H⟩ := H
  refine r_icmp hcd rfl h1 (by omega) (fun hc => ?_) (fun hc => ?_)
  · replace H := H.1 hc
    refine e_nx hcd rfl rfl ?_
    exact r_zret hcd rfl rfl rfl (by omega) H
  · replace H := H.2 hc
    iterate 2 (refine e_nx hcd rfl rfl ?_)
    refine r_icmp hcd rfl h1 (by omega) (fun hc => ?_) (fun hc => ?_)
    · replace H := H.1 hc
      refine e_nx hcd rfl rfl ?_
      exact r_zret hcd rfl rfl rfl (by omega) H
    · replace H := H.2 hc
      iterate 2 (refine e_nx hcd rfl rfl ?_)
      exact r_zret hcd rfl rfl rfl (by omega) H
/-! X10_append -/
theorem v_112 {X : PX} {σ : Sg} {Q : Option PV → Sg → Prop} {t1 : Nat} {a1 : Int} (ht1 : t1 ∈ tolL) (H : Ev X 112 2 [some (vR (some t1)), some (vI a1), some (vI 24)] [] σ Q) : Cl X 112 [vR (some t1), vI a1] σ Q := by
  have hcd : cds 112 = cd_112 := rfl
  refine c_in (Nat.le_of_ble_eq_true rfl) rfl rfl ?_
  show Ev X 112 0 [some (vR (some t1)), some (vI a1), none] [] σ Q
  iterate 2 (refine e_nx hcd rfl rfl ?_)
  show Ev X 112 2 [some (vR (some t1)), some (vI a1), some (vI 24)] [] _ Q
  exact H
set_option maxRecDepth 20000 in
set_option maxHeartbeats 8000000 in
theorem v_112_2 {X : PX} {σ : Sg} {Q : Option PV → Sg → Prop} {t1 : Nat} {x1 : Int} {x2 : Int} (ht1 : t1 ∈ tolL) (H : InR x2 ∧ (x2 < 0 → Q none σ) ∧ (¬ x2 < 0 → InR (σ.1 t1 1) ∧ (σ.1 t1 1 < 0 → Ev X 112 2 [some (vR (some t1)), some (vI x1), some (vI (x2 + (-8)))] [] σ Q) ∧ (¬ σ.1 t1 1 < 0 → (600 ≤ σ.1 t1 1 → Ev X 112 2 [some (vR (some t1)), some (vI x1), some (vI (x2 + (-8)))] [] σ Q) ∧ (¬ 600 ≤ σ.1 t1 1 → (0 ≤ σ.1 t1 1 ∧ σ.1 t1 1 < 600) ∧ Ev X 112 2 [some (vR (some t1)), some (vI x1), some (vI (x2 + (-8)))] [] (up2 σ.1 t1 1 ((σ.1 t1 1) + 1), up2 σ.2 (t1 + 1) (σ.1 t1 1).toNat (iAnd (iUshr x1 x2) 255)) Q)))) : Ev X 112 2 [some (vR (some t1)), some (vI x1), some (vI x2)] [] σ Q := by
  have hcd : cds 112 = cd_112 := rfl
  refine e_nx hcd rfl rfl ?_
  obtain ⟨h1, H⟩ := H
  refine r_if hcd rfl h1 (fun hc => ?_) (fun hc => ?_)
  · replace H := H.1 hc
    exact r_vret hcd rfl rfl rfl H
  · replace H := H.2 hc
    refine e_nx hcd rfl rfl ?_
    refine r_getI hcd rfl ((tolS ht1).1) rfl ?_
    obtain ⟨h2, H⟩ := H
    refine r_if hcd rfl h2 (fun hc => ?_) (fun hc => ?_)
    · replace H := H.1 hc
      refine e_nx hcd rfl rfl ?_
      show Ev X 112 28 [some (vR (some t1)), some (vI x1), some (vI (x2 + (-8)))] [] _ Q
      refine e_nx hcd rfl rfl ?_
      exact H
    · replace H := H.2 hc
      refine e_nx hcd rfl rfl ?_
      refine r_getI hcd rfl ((tolS ht1).1) rfl ?_
      refine e_nx hcd rfl rfl ?_
      refine r_icmp hcd rfl h2 (by omega) (fun hc => ?_) (fun hc => ?_)
      · replace H := H.1 hc
        refine e_nx hcd rfl rfl ?_
        show Ev X 112 28 [some (vR (some t1)), some (vI x1), some (vI (x2 + (-8)))] [] _ Q
        refine e_nx hcd rfl rfl ?_
        exact H
      · replace H := H.2 hc
        refine e_nx hcd rfl rfl ?_
        refine r_getR hcd rfl ((tolS ht1).1) rfl ?_
        refine e_nx hcd rfl rfl ?_
        refine r_getI hcd rfl ((tolS ht1).1) rfl ?_
        iterate 5 (refine e_nx hcd rfl rfl ?_)
        obtain ⟨h3, H⟩ := H
        refine r_ist hcd rfl ((tolS ht1).2.1) (by omega) h3 ?_
        iterate 2 (refine e_nx hcd rfl rfl ?_)
        refine r_getI hcd rfl ((tolS ht1).1) rfl ?_
        iterate 2 (refine e_nx hcd rfl rfl ?_)
        refine r_putI hcd rfl ((tolS ht1).1) rfl rfl ?_
        refine e_nx hcd rfl rfl ?_
        show Ev X 112 28 [some (vR (some t1)), some (vI x1), some (vI (x2 + (-8)))] [] _ Q
        refine e_nx hcd rfl rfl ?_
        exact H
/-! X10_byteAt -/
theorem v_113 {X : PX} {σ : Sg} {Q : Option PV → Sg → Prop} {t1 : Nat} {a1 : Int} (ht1 : t1 ∈ tolL) (H : InR a1 ∧ (a1 < 0 → Q (some (vI (-1))) σ) ∧ (¬ a1 < 0 → InR (σ.1 t1 1) ∧ (σ.1 t1 1 ≤ a1 → Q (some (vI (-1))) σ) ∧ (¬ σ.1 t1 1 ≤ a1 → (600 ≤ a1 → Q (some (vI (-1))) σ) ∧ (¬ 600 ≤ a1 → (0 ≤ a1 ∧ a1 < 600) ∧ Q (some (vI (σ.2 (t1 + 1) a1.toNat))) σ)))) : Cl X 113 [vR (some t1), vI a1] σ Q := by
  have hcd : cds 113 = cd_113 := rfl
  refine c_in (Nat.le_of_ble_eq_true rfl) rfl rfl ?_
  show Ev X 113 0 [some (vR (some t1)), some (vI a1)] [] σ Q
  refine e_nx hcd rfl rfl ?_
  obtain ⟨h1, H⟩ := H
  refine r_if hcd rfl h1 (fun hc => ?_) (fun hc => ?_)
  · replace H := H.1 hc
    refine e_nx hcd rfl rfl ?_
    exact r_iret hcd rfl rfl rfl H
  · replace H := H.2 hc
    iterate 2 (refine e_nx hcd rfl rfl ?_)
    refine r_getI hcd rfl ((tolS ht1).1) rfl ?_
    obtain ⟨h2, H⟩ := H
    refine r_icmp hcd rfl h1 h2 (fun hc => ?_) (fun hc => ?_)
    · replace H := H.1 hc
      refine e_nx hcd rfl rfl ?_
      exact r_iret hcd rfl rfl rfl H
    · replace H := H.2 hc
      iterate 2 (refine e_nx hcd rfl rfl ?_)
      refine r_icmp hcd rfl h1 (by omega) (fun hc => ?_) (fun hc => ?_)
      · replace H := H.1 hc
        refine e_nx hcd rfl rfl ?_
        exact r_iret hcd rfl rfl rfl H
      · replace H := H.2 hc
        refine e_nx hcd rfl rfl ?_
        refine r_getR hcd rfl ((tolS ht1).1) rfl ?_
        refine e_nx hcd rfl rfl ?_
        obtain ⟨h3, H⟩ := H
        refine r_ild hcd rfl ((tolS ht1).2.1) (by omega) h3 ?_
        refine e_nx hcd rfl rfl ?_
        exact r_iret hcd rfl rfl rfl H
/-! X10_has -/
set_option maxRecDepth 20000 in
set_option maxHeartbeats 8000000 in
theorem v_114 {X : PX} {σ : Sg} {Q : Option PV → Sg → Prop} {t1 : Nat} {a1 : Int} {a2 : Int} (ht1 : t1 ∈ tolL) (H : InR a1 ∧ (a1 < 0 → Q (some (vI 0)) σ) ∧ (¬ a1 < 0 → (3 ≤ a1 → Q (some (vI 0)) σ) ∧ (¬ 3 ≤ a1 → InR a2 ∧ (a2 < 0 → Q (some (vI 0)) σ) ∧ (¬ a2 < 0 → (0 ≤ a1 ∧ a1 < 3) ∧ InR (σ.2 (t1 + 5) a1.toNat) ∧ (σ.2 (t1 + 5) a1.toNat ≤ a2 → Q (some (vI 0)) σ) ∧ (¬ σ.2 (t1 + 5) a1.toNat ≤ a2 → (2 ≤ a2 → Q (some (vI 0)) σ) ∧ (¬ 2 ≤ a2 → Q (some (vI 1)) σ)))))) : Cl X 114 [vR (some t1), vI a1, vI a2] σ Q := by
  have hcd : cds 114 = cd_114 := rfl
  refine c_in (Nat.le_of_ble_eq_true rfl) rfl rfl ?_
  show Ev X 114 0 [some (vR (some t1)), some (vI a1), some (vI a2)] [] σ Q
  refine e_nx hcd rfl rfl ?_
  obtain ⟨h1, H⟩ := H
  refine r_if hcd rfl h1 (fun hc => ?_) (fun hc => ?_)
  · replace H := H.1 hc
    refine e_nx hcd rfl rfl ?_
    exact r_zret hcd rfl rfl rfl (by omega) H
  · replace H := H.2 hc
    iterate 2 (refine e_nx hcd rfl rfl ?_)
    refine r_icmp hcd rfl h1 (by omega) (fun hc => ?_) (fun hc => ?_)
    · replace H := H.1 hc
      refine e_nx hcd rfl rfl ?_
      exact r_zret hcd rfl rfl rfl (by omega) H
    · replace H := H.2 hc
      refine e_nx hcd rfl rfl ?_
      obtain ⟨h2, H⟩ := H
      refine r_if hcd rfl h2 (fun hc => ?_) (fun hc => ?_)
      · replace H := H.1 hc
        refine e_nx hcd rfl rfl ?_
        exact r_zret hcd rfl rfl rfl (by omega) H
      · replace H := H.2 hc
        iterate 2 (refine e_nx hcd rfl rfl ?_)
        refine r_getR hcd rfl ((tolS ht1).1) rfl ?_
        refine e_nx hcd rfl rfl ?_
        obtain ⟨h3, H⟩ := H
        refine r_ild hcd rfl ((tolS ht1).2.2.2.2.2.1) (by omega) h3 ?_
        obtain ⟨h4, H⟩ := H
        refine r_icmp hcd rfl h2 h4 (fun hc => ?_) (fun hc => ?_)
        · replace H := H.1 hc
          refine e_nx hcd rfl rfl ?_
          exact r_zret hcd rfl rfl rfl (by omega) H
        · replace H := H.2 hc
          iterate 2 (refine e_nx hcd rfl rfl ?_)
          refine r_icmp hcd rfl h2 (by omega) (fun hc => ?_) (fun hc => ?_)
          · replace H := H.1 hc
            refine e_nx hcd rfl rfl ?_
            exact r_zret hcd rfl rfl rfl (by omega) H
          · replace H := H.2 hc
            iterate 2 (refine e_nx hcd rfl rfl ?_)
            exact r_zret hcd rfl rfl rfl (by omega) H
/-! X10_hasHouse -/
theorem v_115 {X : PX} {σ : Sg} {Q : Option PV → Sg → Prop} {t1 : Nat} {a1 : Int} {a2 : Int} (ht1 : t1 ∈ tolL) (H : CI X 114 [vR (some t1), vI 0, vI a1] σ (fun r1 τ1 => InR r1 ∧ (r1 = 0 → Q (some (vI 0)) τ1) ∧ (¬ r1 = 0 → (0 ≤ a1 ∧ a1 < 2) ∧ CI X 82 [vR (some (t1 + 6 + 13 * a1.toNat)), vI a2] τ1 (fun r5 τ2 => InR r5 ∧ (r5 = 0 → Q (some (vI 0)) τ2) ∧ (¬ r5 = 0 → Q (some (vI 1)) τ2))))) : Cl X 115 [vR (some t1), vI a1, vI a2] σ Q := by
  have hcd : cds 115 = cd_115 := rfl
  refine c_in (Nat.le_of_ble_eq_true rfl) rfl rfl ?_
  show Ev X 115 0 [some (vR (some t1)), some (vI a1), some (vI a2)] [] σ Q
  iterate 3 (refine e_nx hcd rfl rfl ?_)
  refine r_cv hcd rfl (by omega) ((tolS ht1).1) rfl rfl (Nat.le_of_ble_eq_true rfl) ?_
  refine Cl.mono H (fun v τ1 hq => ?_)
  obtain ⟨r1, rfl, H⟩ := hq
  show Ev X 115 4 _ [vI r1] τ1 Q
  obtain ⟨h2, H⟩ := H
  refine r_if hcd rfl h2 (fun hc => ?_) (fun hc => ?_)
  · replace H := H.1 hc
    refine e_nx hcd rfl rfl ?_
    exact r_zret hcd rfl rfl rfl (by omega) H
  · replace H := H.2 hc
    refine e_nx hcd rfl rfl ?_
    refine r_getR hcd rfl ((tolS ht1).1) rfl ?_
    refine e_nx hcd rfl rfl ?_
    obtain ⟨h3, H⟩ := H
    have hm4 : t1 + 6 + 13 * a1.toNat ∈ parL := by
      rcases (show a1 = 0 ∨ a1 = 1 by omega) with h0 | h0 <;> rw [h0]
      · exact (tolS ht1).2.2.2.2.2.2.1
      · exact (tolS ht1).2.2.2.2.2.2.2.1
    refine r_ald (q := t1 + 6 + 13 * a1.toNat) hcd rfl ((tolS ht1).2.2.1) (Nat.le_of_ble_eq_true rfl) h3 (by rcases (show a1 = 0 ∨ a1 = 1 by omega) with h0 | h0 <;> rw [h0] <;> rfl) ?_
    refine e_nx hcd rfl rfl ?_
    refine r_cv hcd rfl (by omega) ((parS hm4).1) rfl rfl (Nat.le_of_ble_eq_true rfl) ?_
    refine Cl.mono H (fun v τ2 hq => ?_)
    obtain ⟨r5, rfl, H⟩ := hq
    show Ev X 115 11 _ [vI r5] τ2 Q
    obtain ⟨h6, H⟩ := H
    refine r_if hcd rfl h6 (fun hc => ?_) (fun hc => ?_)
    · replace H := H.1 hc
      refine e_nx hcd rfl rfl ?_
      exact r_zret hcd rfl rfl rfl (by omega) H
    · replace H := H.2 hc
      iterate 2 (refine e_nx hcd rfl rfl ?_)
      exact r_zret hcd rfl rfl rfl (by omega) H
/-! X10_slotFor -/
set_option maxRecDepth 20000 in
set_option maxHeartbeats 8000000 in
theorem v_116 {X : PX} {σ : Sg} {Q : Option PV → Sg → Prop} {t1 : Nat} {a1 : Int} {a2 : Int} (ht1 : t1 ∈ tolL) (H : InR a1 ∧ (a1 < 0 → Q (some (vI (-2))) σ) ∧ (¬ a1 < 0 → (a1 < 3 → InR a2 ∧ (a2 ≠ (-1) → CI X 114 [vR (some t1), vI a1, vI a2] σ (fun r3 τ1 => InR r3 ∧ (r3 = 0 → Q (some (vI (-2))) τ1) ∧ (¬ r3 = 0 → Q (some (vI a2)) τ1))) ∧ (¬ a2 ≠ (-1) → (0 ≤ a1 ∧ a1 < 3) ∧ InR (σ.2 (t1 + 5) a1.toNat) ∧ (2 ≤ σ.2 (t1 + 5) a1.toNat → Q (some (vI (-2))) σ) ∧ (¬ 2 ≤ σ.2 (t1 + 5) a1.toNat → Q (some (vI (σ.2 (t1 + 5) a1.toNat))) σ))) ∧ (¬ a1 < 3 → Q (some (vI (-2))) σ))) : Cl X 116 [vR (some t1), vI a1, vI a2] σ Q := by
  have hcd : cds 116 = cd_116 := rfl
  refine c_in (Nat.le_of_ble_eq_true rfl) rfl rfl ?_
  show Ev X 116 0 [some (vR (some t1)), some (vI a1), some (vI a2)] [] σ Q
  refine e_nx hcd rfl rfl ?_
  obtain ⟨h1, H⟩ := H
  refine r_if hcd rfl h1 (fun hc => ?_) (fun hc => ?_)
  · replace H := H.1 hc
    refine e_nx hcd rfl rfl ?_
    exact r_iret hcd rfl rfl rfl H
  · replace H := H.2 hc
    iterate 2 (refine e_nx hcd rfl rfl ?_)
    refine r_icmp hcd rfl h1 (by omega) (fun hc => ?_) (fun hc => ?_)
    · replace H := H.1 hc
      iterate 2 (refine e_nx hcd rfl rfl ?_)
      obtain ⟨h2, H⟩ := H
      refine r_icmp hcd rfl h2 (by omega) (fun hc => ?_) (fun hc => ?_)
      · replace H := H.1 hc
        iterate 3 (refine e_nx hcd rfl rfl ?_)
        refine r_cv hcd rfl (by omega) ((tolS ht1).1) rfl rfl (Nat.le_of_ble_eq_true rfl) ?_
        refine Cl.mono H (fun v τ1 hq => ?_)
        obtain ⟨r3, rfl, H⟩ := hq
        show Ev X 116 27 _ [vI r3] τ1 Q
        obtain ⟨h4, H⟩ := H
        refine r_if hcd rfl h4 (fun hc => ?_) (fun hc => ?_)
        · replace H := H.1 hc
          refine e_nx hcd rfl rfl ?_
          exact r_iret hcd rfl rfl rfl H
        · replace H := H.2 hc
          iterate 2 (refine e_nx hcd rfl rfl ?_)
          exact r_iret hcd rfl rfl rfl H
      · replace H := H.2 hc
        refine e_nx hcd rfl rfl ?_
        refine r_getR hcd rfl ((tolS ht1).1) rfl ?_
        refine e_nx hcd rfl rfl ?_
        obtain ⟨h5, H⟩ := H
        refine r_ild hcd rfl ((tolS ht1).2.2.2.2.2.1) (by omega) h5 ?_
        refine e_nx hcd rfl rfl ?_
        obtain ⟨h6, H⟩ := H
        refine r_icmp hcd rfl h6 (by omega) (fun hc => ?_) (fun hc => ?_)
        · replace H := H.1 hc
          refine e_nx hcd rfl rfl ?_
          exact r_iret hcd rfl rfl rfl H
        · replace H := H.2 hc
          refine e_nx hcd rfl rfl ?_
          refine r_getR hcd rfl ((tolS ht1).1) rfl ?_
          refine e_nx hcd rfl rfl ?_
          refine r_ild hcd rfl ((tolS ht1).2.2.2.2.2.1) (by omega) h5 ?_
          refine e_nx hcd rfl rfl ?_
          exact r_iret hcd rfl rfl rfl H
    · replace H := H.2 hc
      refine e_nx hcd rfl rfl ?_
      exact r_iret hcd rfl rfl rfl H
/-! X10_growTo -/
theorem v_117 {X : PX} {σ : Sg} {Q : Option PV → Sg → Prop} {t1 : Nat} {a1 : Int} {a2 : Int} (ht1 : t1 ∈ tolL) (H : InR a1 ∧ (a1 < 0 → Q none σ) ∧ (¬ a1 < 0 → (3 ≤ a1 → Q none σ) ∧ (¬ 3 ≤ a1 → (0 ≤ a1 ∧ a1 < 3) ∧ InR (σ.2 (t1 + 5) a1.toNat) ∧ InR a2 ∧ (a2 ≤ σ.2 (t1 + 5) a1.toNat → Q none σ) ∧ (¬ a2 ≤ σ.2 (t1 + 5) a1.toNat → Q none (σ.1, up2 σ.2 (t1 + 5) a1.toNat a2))))) : Cl X 117 [vR (some t1), vI a1, vI a2] σ Q := by
  have hcd : cds 117 = cd_117 := rfl
  refine c_in (Nat.le_of_ble_eq_true rfl) rfl rfl ?_
  show Ev X 117 0 [some (vR (some t1)), some (vI a1), some (vI a2)] [] σ Q
  refine e_nx hcd rfl rfl ?_
  obtain ⟨h1, H⟩ := H
  refine r_if hcd rfl h1 (fun hc => ?_) (fun hc => ?_)
  · replace H := H.1 hc
    exact r_vret hcd rfl rfl rfl H
  · replace H := H.2 hc
    iterate 2 (refine e_nx hcd rfl rfl ?_)
    refine r_icmp hcd rfl h1 (by omega) (fun hc => ?_) (fun hc => ?_)
    · replace H := H.1 hc
      exact r_vret hcd rfl rfl rfl H
    · replace H := H.2 hc
      refine e_nx hcd rfl rfl ?_
      refine r_getR hcd rfl ((tolS ht1).1) rfl ?_
      refine e_nx hcd rfl rfl ?_
      obtain ⟨h2, H⟩ := H
      refine r_ild hcd rfl ((tolS ht1).2.2.2.2.2.1) (by omega) h2 ?_
      refine e_nx hcd rfl rfl ?_
      obtain ⟨h3, H⟩ := H
      obtain ⟨h4, H⟩ := H
      refine r_icmp hcd rfl h3 h4 (fun hc => ?_) (fun hc => ?_)
      · replace H := H.1 hc
        exact r_vret hcd rfl rfl rfl H
      · replace H := H.2 hc
        refine e_nx hcd rfl rfl ?_
        refine r_getR hcd rfl ((tolS ht1).1) rfl ?_
        iterate 2 (refine e_nx hcd rfl rfl ?_)
        refine r_ist hcd rfl ((tolS ht1).2.2.2.2.2.1) (by omega) h2 ?_
        exact r_vret hcd rfl rfl rfl H
/-! X10_copyFrom -/
theorem v_118 {X : PX} {σ : Sg} {Q : Option PV → Sg → Prop} {t1 : Nat} {t2 : Nat} (ht1 : t1 ∈ tolL) (ht2 : t2 ∈ tolL) (H : (0 ≤ 0 ∧ 0 ≤ 0 ∧ 0 ≤ (up2 σ.1 t1 1 (σ.1 t2 1)) t1 1 ∧ 0 + ((up2 σ.1 t1 1 (σ.1 t2 1)) t1 1) ≤ 600 ∧ 0 + ((up2 σ.1 t1 1 (σ.1 t2 1)) t1 1) ≤ 600) ∧ Ev X 118 15 [some (vR (some t1)), some (vR (some t2)), some (vI 0)] [] (up2 σ.1 t1 1 (σ.1 t2 1), upc σ.2 (t2 + 1) (t1 + 1) 0 0 ((up2 σ.1 t1 1 (σ.1 t2 1)) t1 1).toNat) Q) : Cl X 118 [vR (some t1), vR (some t2)] σ Q := by
  have hcd : cds 118 = cd_118 := rfl
  refine c_in (Nat.le_of_ble_eq_true rfl) rfl rfl ?_
  show Ev X 118 0 [some (vR (some t1)), some (vR (some t2)), none] [] σ Q
  iterate 2 (refine e_nx hcd rfl rfl ?_)
  refine r_getI hcd rfl ((tolS ht2).1) rfl ?_
  refine r_putI hcd rfl ((tolS ht1).1) rfl rfl ?_
  refine e_nx hcd rfl rfl ?_
  refine r_getR hcd rfl ((tolS ht2).1) rfl ?_
  iterate 2 (refine e_nx hcd rfl rfl ?_)
  refine r_getR hcd rfl ((tolS ht1).1) rfl ?_
  iterate 2 (refine e_nx hcd rfl rfl ?_)
  refine r_getI hcd rfl ((tolS ht1).1) rfl ?_
  show Ev X 118 12 _ [vI ((up2 σ.1 t1 1 (σ.1 t2 1)) t1 1), vI 0, vR (some (t1 + 1)), vI 0, vR (some (t2 + 1))] _ Q
  obtain ⟨h1, H⟩ := H
  refine r_cpy hcd rfl ((tolS ht2).2.1) (by omega) ((tolS ht1).2.1) (by omega) (by simpa using h1) (Nat.le_of_ble_eq_true rfl) ?_
  iterate 2 (refine e_nx hcd rfl rfl ?_)
  show Ev X 118 15 [some (vR (some t1)), some (vR (some t2)), some (vI 0)] [] _ Q
  exact H
set_option maxRecDepth 20000 in
set_option maxHeartbeats 8000000 in
theorem v_118_15 {X : PX} {σ : Sg} {Q : Option PV → Sg → Prop} {t1 : Nat} {t2 : Nat} {x2 : Int} (ht1 : t1 ∈ tolL) (ht2 : t2 ∈ tolL) (H : InR x2 ∧ (2 ≤ x2 → Ev X 118 49 [some (vR (some t1)), some (vR (some t2)), some (vI 0)] [] σ Q) ∧ (¬ 2 ≤ x2 → (0 ≤ x2 ∧ x2 < 2) ∧ CV X 79 [vR (some (t1 + 6 + 13 * x2.toNat)), vR (some (t2 + 6 + 13 * x2.toNat))] σ (fun τ1 => CV X 76 [vR (some (t1 + 13 + 13 * x2.toNat)), vR (some (t2 + 13 + 13 * x2.toNat))] τ1 (fun τ2 => CV X 76 [vR (some (t1 + 16 + 13 * x2.toNat)), vR (some (t2 + 16 + 13 * x2.toNat))] τ2 (fun τ3 => Ev X 118 15 [some (vR (some t1)), some (vR (some t2)), some (vI (x2 + 1))] [] τ3 Q))))) : Ev X 118 15 [some (vR (some t1)), some (vR (some t2)), some (vI x2)] [] σ Q := by
  have hcd : cds 118 = cd_118 := rfl
  iterate 2 (refine e_nx hcd rfl rfl ?_)
  obtain ⟨h1, H⟩ := H
  refine r_icmp hcd rfl h1 (by omega) (fun hc => ?_) (fun hc => ?_)
  · replace H := H.1 hc
    iterate 2 (refine e_nx hcd rfl rfl ?_)
    show Ev X 118 49 [some (vR (some t1)), some (vR (some t2)), some (vI 0)] [] _ Q
    exact H
  · replace H := H.2 hc
    refine e_nx hcd rfl rfl ?_
    refine r_getR hcd rfl ((tolS ht1).1) rfl ?_
    refine e_nx hcd rfl rfl ?_
    obtain ⟨h2, H⟩ := H
    have hm3 : t1 + 6 + 13 * x2.toNat ∈ parL := by
      rcases (show x2 = 0 ∨ x2 = 1 by omega) with h0 | h0 <;> rw [h0]
      · exact (tolS ht1).2.2.2.2.2.2.1
      · exact (tolS ht1).2.2.2.2.2.2.2.1
    refine r_ald (q := t1 + 6 + 13 * x2.toNat) hcd rfl ((tolS ht1).2.2.1) (Nat.le_of_ble_eq_true rfl) h2 (by rcases (show x2 = 0 ∨ x2 = 1 by omega) with h0 | h0 <;> rw [h0] <;> rfl) ?_
    refine e_nx hcd rfl rfl ?_
    refine r_getR hcd rfl ((tolS ht2).1) rfl ?_
    refine e_nx hcd rfl rfl ?_
    have hm4 : t2 + 6 + 13 * x2.toNat ∈ parL := by
      rcases (show x2 = 0 ∨ x2 = 1 by omega) with h0 | h0 <;> rw [h0]
      · exact (tolS ht2).2.2.2.2.2.2.1
      · exact (tolS ht2).2.2.2.2.2.2.2.1
    refine r_ald (q := t2 + 6 + 13 * x2.toNat) hcd rfl ((tolS ht2).2.2.1) (Nat.le_of_ble_eq_true rfl) h2 (by rcases (show x2 = 0 ∨ x2 = 1 by omega) with h0 | h0 <;> rw [h0] <;> rfl) ?_
    refine r_cv hcd rfl (by omega) ((parS hm3).1) rfl rfl (Nat.le_of_ble_eq_true rfl) ?_
    refine Cl.mono H (fun v τ1 hq => ?_)
    obtain ⟨rfl, H⟩ := hq
    show Ev X 118 27 _ [] τ1 Q
    refine e_nx hcd rfl rfl ?_
    refine r_getR hcd rfl ((tolS ht1).1) rfl ?_
    refine e_nx hcd rfl rfl ?_
    have hm5 : t1 + 13 + 13 * x2.toNat ∈ paiL := by
      rcases (show x2 = 0 ∨ x2 = 1 by omega) with h0 | h0 <;> rw [h0]
      · exact (tolS ht1).2.2.2.2.2.2.2.2.1
      · exact (tolS ht1).2.2.2.2.2.2.2.2.2.1
    refine r_ald (q := t1 + 13 + 13 * x2.toNat) hcd rfl ((tolS ht1).2.2.2.1) (Nat.le_of_ble_eq_true rfl) h2 (by rcases (show x2 = 0 ∨ x2 = 1 by omega) with h0 | h0 <;> rw [h0] <;> rfl) ?_
    refine e_nx hcd rfl rfl ?_
    refine r_getR hcd rfl ((tolS ht2).1) rfl ?_
    refine e_nx hcd rfl rfl ?_
    have hm6 : t2 + 13 + 13 * x2.toNat ∈ paiL := by
      rcases (show x2 = 0 ∨ x2 = 1 by omega) with h0 | h0 <;> rw [h0]
      · exact (tolS ht2).2.2.2.2.2.2.2.2.1
      · exact (tolS ht2).2.2.2.2.2.2.2.2.2.1
    refine r_ald (q := t2 + 13 + 13 * x2.toNat) hcd rfl ((tolS ht2).2.2.2.1) (Nat.le_of_ble_eq_true rfl) h2 (by rcases (show x2 = 0 ∨ x2 = 1 by omega) with h0 | h0 <;> rw [h0] <;> rfl) ?_
    refine r_cv hcd rfl (by omega) ((paiS hm5).1) rfl rfl (Nat.le_of_ble_eq_true rfl) ?_
    refine Cl.mono H (fun v τ2 hq => ?_)
    obtain ⟨rfl, H⟩ := hq
    show Ev X 118 36 _ [] τ2 Q
    refine e_nx hcd rfl rfl ?_
    refine r_getR hcd rfl ((tolS ht1).1) rfl ?_
    refine e_nx hcd rfl rfl ?_
    have hm7 : t1 + 16 + 13 * x2.toNat ∈ paiL := by
      rcases (show x2 = 0 ∨ x2 = 1 by omega) with h0 | h0 <;> rw [h0]
      · exact (tolS ht1).2.2.2.2.2.2.2.2.2.2.1
      · exact (tolS ht1).2.2.2.2.2.2.2.2.2.2.2
    refine r_ald (q := t1 + 16 + 13 * x2.toNat) hcd rfl ((tolS ht1).2.2.2.2.1) (Nat.le_of_ble_eq_true rfl) h2 (by rcases (show x2 = 0 ∨ x2 = 1 by omega) with h0 | h0 <;> rw [h0] <;> rfl) ?_
    refine e_nx hcd rfl rfl ?_
    refine r_getR hcd rfl ((tolS ht2).1) rfl ?_
    refine e_nx hcd rfl rfl ?_
    have hm8 : t2 + 16 + 13 * x2.toNat ∈ paiL := by
      rcases (show x2 = 0 ∨ x2 = 1 by omega) with h0 | h0 <;> rw [h0]
      · exact (tolS ht2).2.2.2.2.2.2.2.2.2.2.1
      · exact (tolS ht2).2.2.2.2.2.2.2.2.2.2.2
    refine r_ald (q := t2 + 16 + 13 * x2.toNat) hcd rfl ((tolS ht2).2.2.2.2.1) (Nat.le_of_ble_eq_true rfl) h2 (by rcases (show x2 = 0 ∨ x2 = 1 by omega) with h0 | h0 <;> rw [h0] <;> rfl) ?_
    refine r_cv hcd rfl (by omega) ((paiS hm7).1) rfl rfl (Nat.le_of_ble_eq_true rfl) ?_
    refine Cl.mono H (fun v τ3 hq => ?_)
    obtain ⟨rfl, H⟩ := hq
    show Ev X 118 45 _ [] τ3 Q
    refine e_nx hcd rfl rfl ?_
    show Ev X 118 46 [some (vR (some t1)), some (vR (some t2)), some (vI (x2 + 1))] [] _ Q
    refine e_nx hcd rfl rfl ?_
    exact H
theorem v_118_49 {X : PX} {σ : Sg} {Q : Option PV → Sg → Prop} {t1 : Nat} {t2 : Nat} {x2 : Int} (ht1 : t1 ∈ tolL) (ht2 : t2 ∈ tolL) (H : InR x2 ∧ (3 ≤ x2 → Q none (up2 (up2 σ.1 t1 6 (σ.1 t2 6)) t1 7 ((up2 σ.1 t1 6 (σ.1 t2 6)) t2 7), σ.2)) ∧ (¬ 3 ≤ x2 → (0 ≤ x2 ∧ x2 < 3) ∧ Ev X 118 49 [some (vR (some t1)), some (vR (some t2)), some (vI (x2 + 1))] [] (σ.1, up2 σ.2 (t1 + 5) x2.toNat (σ.2 (t2 + 5) x2.toNat)) Q)) : Ev X 118 49 [some (vR (some t1)), some (vR (some t2)), some (vI x2)] [] σ Q := by
  have hcd : cds 118 = cd_118 := rfl
  iterate 2 (refine e_nx hcd rfl rfl ?_)
  obtain ⟨h1, H⟩ := H
  refine r_icmp hcd rfl h1 (by omega) (fun hc => ?_) (fun hc => ?_)
  · replace H := H.1 hc
    iterate 2 (refine e_nx hcd rfl rfl ?_)
    refine r_getI hcd rfl ((tolS ht2).1) rfl ?_
    refine r_putI hcd rfl ((tolS ht1).1) rfl rfl ?_
    iterate 2 (refine e_nx hcd rfl rfl ?_)
    refine r_getI hcd rfl ((tolS ht2).1) rfl ?_
    show Ev X 118 69 _ [vI ((up2 σ.1 t1 6 (σ.1 t2 6)) t2 7), vR (some t1)] _ Q
    refine r_putI hcd rfl ((tolS ht1).1) rfl rfl ?_
    exact r_vret hcd rfl rfl rfl H
  · replace H := H.2 hc
    refine e_nx hcd rfl rfl ?_
    refine r_getR hcd rfl ((tolS ht1).1) rfl ?_
    iterate 2 (refine e_nx hcd rfl rfl ?_)
    refine r_getR hcd rfl ((tolS ht2).1) rfl ?_
    refine e_nx hcd rfl rfl ?_
    obtain ⟨h2, H⟩ := H
    refine r_ild hcd rfl ((tolS ht2).2.2.2.2.2.1) (by omega) h2 ?_
    refine r_ist hcd rfl ((tolS ht1).2.2.2.2.2.1) (by omega) h2 ?_
    refine e_nx hcd rfl rfl ?_
    show Ev X 118 61 [some (vR (some t1)), some (vR (some t2)), some (vI (x2 + 1))] [] _ Q
    refine e_nx hcd rfl rfl ?_
    exact H
/-! X11_feed -/
set_option maxRecDepth 20000 in
set_option maxHeartbeats 8000000 in
theorem v_120 {X : PX} {σ : Sg} {Q : Option PV → Sg → Prop} {a1 : Int} {a2 : Int} {a3 : Int} {a4 : Int} {a5 : Int}  (H : InR ((σ.1 1 1) + 20) ∧ ((σ.1 1 1) + 20 ≤ 600 → CV X 112 [vR (some 1), vI a1] σ (fun τ1 => CV X 112 [vR (some 1), vI a2] τ1 (fun τ2 => CV X 112 [vR (some 1), vI a3] τ2 (fun τ3 => CV X 112 [vR (some 1), vI a4] τ3 (fun τ4 => CV X 112 [vR (some 1), vI a5] τ4 (fun τ5 => Q (some (vI (τ5.1 1 1))) τ5)))))) ∧ (¬ (σ.1 1 1) + 20 ≤ 600 → Q (some (vI (-1))) σ)) : Cl X 120 [vR (some 0), vI a1, vI a2, vI a3, vI a4, vI a5] σ Q := by
  have hcd : cds 120 = cd_120 := rfl
  refine c_in (Nat.le_of_ble_eq_true rfl) rfl rfl ?_
  show Ev X 120 0 [some (vR (some 0)), some (vI a1), some (vI a2), some (vI a3), some (vI a4), some (vI a5)] [] σ Q
  refine e_nx hcd rfl rfl ?_
  refine r_getR hcd rfl rfl rfl ?_
  refine r_getI hcd rfl rfl rfl ?_
  iterate 3 (refine e_nx hcd rfl rfl ?_)
  obtain ⟨h1, H⟩ := H
  refine r_icmp hcd rfl h1 (by omega) (fun hc => ?_) (fun hc => ?_)
  · replace H := H.1 hc
    refine e_nx hcd rfl rfl ?_
    refine r_getR hcd rfl rfl rfl ?_
    refine e_nx hcd rfl rfl ?_
    refine r_cv hcd rfl (by omega) rfl rfl rfl (Nat.le_of_ble_eq_true rfl) ?_
    refine Cl.mono H (fun v τ1 hq => ?_)
    obtain ⟨rfl, H⟩ := hq
    show Ev X 120 13 _ [] τ1 Q
    refine e_nx hcd rfl rfl ?_
    refine r_getR hcd rfl rfl rfl ?_
    refine e_nx hcd rfl rfl ?_
    refine r_cv hcd rfl (by omega) rfl rfl rfl (Nat.le_of_ble_eq_true rfl) ?_
    refine Cl.mono H (fun v τ2 hq => ?_)
    obtain ⟨rfl, H⟩ := hq
    show Ev X 120 17 _ [] τ2 Q
    refine e_nx hcd rfl rfl ?_
    refine r_getR hcd rfl rfl rfl ?_
    refine e_nx hcd rfl rfl ?_
    refine r_cv hcd rfl (by omega) rfl rfl rfl (Nat.le_of_ble_eq_true rfl) ?_
    refine Cl.mono H (fun v τ3 hq => ?_)
    obtain ⟨rfl, H⟩ := hq
    show Ev X 120 21 _ [] τ3 Q
    refine e_nx hcd rfl rfl ?_
    refine r_getR hcd rfl rfl rfl ?_
    refine e_nx hcd rfl rfl ?_
    refine r_cv hcd rfl (by omega) rfl rfl rfl (Nat.le_of_ble_eq_true rfl) ?_
    refine Cl.mono H (fun v τ4 hq => ?_)
    obtain ⟨rfl, H⟩ := hq
    show Ev X 120 25 _ [] τ4 Q
    refine e_nx hcd rfl rfl ?_
    refine r_getR hcd rfl rfl rfl ?_
    refine e_nx hcd rfl rfl ?_
    refine r_cv hcd rfl (by omega) rfl rfl rfl (Nat.le_of_ble_eq_true rfl) ?_
    refine Cl.mono H (fun v τ5 hq => ?_)
    obtain ⟨rfl, H⟩ := hq
    show Ev X 120 29 _ [] τ5 Q
    refine e_nx hcd rfl rfl ?_
    refine r_getR hcd rfl rfl rfl ?_
    refine r_getI hcd rfl rfl rfl ?_
    exact r_iret hcd rfl rfl rfl H
  · replace H := H.2 hc
    refine e_nx hcd rfl rfl ?_
    exact r_iret hcd rfl rfl rfl H
/-! X11_end -/
theorem v_121 {X : PX} {σ : Sg} {Q : Option PV → Sg → Prop} {a1 : Int}  (H : InR a1 ∧ (a1 < 0 → Q (some (vI (-1))) σ) ∧ (¬ a1 < 0 → InR (σ.1 1 1) ∧ (a1 ≤ σ.1 1 1 → Q (some (vI a1)) (up2 σ.1 1 1 a1, σ.2)) ∧ (¬ a1 ≤ σ.1 1 1 → Q (some (vI (-1))) σ))) : Cl X 121 [vR (some 0), vI a1] σ Q := by
  have hcd : cds 121 = cd_121 := rfl
  refine c_in (Nat.le_of_ble_eq_true rfl) rfl rfl ?_
  show Ev X 121 0 [some (vR (some 0)), some (vI a1)] [] σ Q
  refine e_nx hcd rfl rfl ?_
  obtain ⟨h1, H⟩ := H
  refine r_if hcd rfl h1 (fun hc => ?_) (fun hc => ?_)
  · replace H := H.1 hc
    refine e_nx hcd rfl rfl ?_
    exact r_iret hcd rfl rfl rfl H
  · replace H := H.2 hc
    iterate 2 (refine e_nx hcd rfl rfl ?_)
    refine r_getR hcd rfl rfl rfl ?_
    refine r_getI hcd rfl rfl rfl ?_
    obtain ⟨h2, H⟩ := H
    refine r_icmp hcd rfl h1 h2 (fun hc => ?_) (fun hc => ?_)
    · replace H := H.1 hc
      refine e_nx hcd rfl rfl ?_
      refine r_getR hcd rfl rfl rfl ?_
      refine e_nx hcd rfl rfl ?_
      refine r_putI hcd rfl rfl rfl rfl ?_
      refine e_nx hcd rfl rfl ?_
      exact r_iret hcd rfl rfl rfl H
    · replace H := H.2 hc
      refine e_nx hcd rfl rfl ?_
      exact r_iret hcd rfl rfl rfl H
/-! X11_text -/
set_option maxRecDepth 20000 in
set_option maxHeartbeats 8000000 in
theorem v_122 {X : PX} {σ : Sg} {Q : Option PV → Sg → Prop} {a1 : Int} {a2 : Int}  (H : CI X 116 [vR (some 1), vI a1, vI a2] (up2 (up2 σ.1 1 6 0) 1 7 (-1), σ.2) (fun r1 τ1 => InR r1 ∧ (r1 ≠ (-2) → CV X 92 [vR (some 131), vI a1] τ1 (fun τ2 => InR (τ2.1 131 3) ∧ (τ2.1 131 3 = 0 → CV X 123 [vR (some 0), vI a1, vI r1] (up2 (up2 (up2 τ2.1 1 1 0) 1 6 (τ2.1 131 3)) 1 7 (τ2.1 131 4), τ2.2) (fun τ3 => Q (some (vI r1)) τ3)) ∧ (¬ τ2.1 131 3 = 0 → Q (some (vI (-1))) (up2 (up2 (up2 τ2.1 1 1 0) 1 6 (τ2.1 131 3)) 1 7 (τ2.1 131 4), τ2.2)))) ∧ (¬ r1 ≠ (-2) → Q (some (vI (-2))) (up2 τ1.1 1 1 0, τ1.2)))) : Cl X 122 [vR (some 0), vI a1, vI a2] σ Q := by
  have hcd : cds 122 = cd_122 := rfl
  refine c_in (Nat.le_of_ble_eq_true rfl) rfl rfl ?_
  show Ev X 122 0 [some (vR (some 0)), some (vI a1), some (vI a2), none] [] σ Q
  refine e_nx hcd rfl rfl ?_
  refine r_getR hcd rfl rfl rfl ?_
  refine e_nx hcd rfl rfl ?_
  refine r_putI hcd rfl rfl rfl rfl ?_
  refine e_nx hcd rfl rfl ?_
  refine r_getR hcd rfl rfl rfl ?_
  refine e_nx hcd rfl rfl ?_
  refine r_putI hcd rfl rfl rfl rfl ?_
  refine e_nx hcd rfl rfl ?_
  refine r_getR hcd rfl rfl rfl ?_
  iterate 2 (refine e_nx hcd rfl rfl ?_)
  refine r_cv hcd rfl (by omega) rfl rfl rfl (Nat.le_of_ble_eq_true rfl) ?_
  refine Cl.mono H (fun v τ1 hq => ?_)
  obtain ⟨r1, rfl, H⟩ := hq
  show Ev X 122 13 _ [vI r1] τ1 Q
  refine e_nx hcd rfl rfl ?_
  show Ev X 122 14 [some (vR (some 0)), some (vI a1), some (vI a2), some (vI r1)] [] _ Q
  iterate 2 (refine e_nx hcd rfl rfl ?_)
  obtain ⟨h2, H⟩ := H
  refine r_icmp hcd rfl h2 (by omega) (fun hc => ?_) (fun hc => ?_)
  · replace H := H.1 hc
    refine e_nx hcd rfl rfl ?_
    refine r_getR hcd rfl rfl rfl ?_
    refine e_nx hcd rfl rfl ?_
    refine r_cv hcd rfl (by omega) rfl rfl rfl (Nat.le_of_ble_eq_true rfl) ?_
    refine Cl.mono H (fun v τ2 hq => ?_)
    obtain ⟨rfl, H⟩ := hq
    show Ev X 122 27 _ [] τ2 Q
    refine e_nx hcd rfl rfl ?_
    refine r_getR hcd rfl rfl rfl ?_
    refine e_nx hcd rfl rfl ?_
    refine r_putI hcd rfl rfl rfl rfl ?_
    refine e_nx hcd rfl rfl ?_
    refine r_getR hcd rfl rfl rfl ?_
    refine e_nx hcd rfl rfl ?_
    refine r_getR hcd rfl rfl rfl ?_
    refine r_getI hcd rfl rfl rfl ?_
    show Ev X 122 36 _ [vI (τ2.1 131 3), vR (some 1)] _ Q
    refine r_putI hcd rfl rfl rfl rfl ?_
    refine e_nx hcd rfl rfl ?_
    refine r_getR hcd rfl rfl rfl ?_
    refine e_nx hcd rfl rfl ?_
    refine r_getR hcd rfl rfl rfl ?_
    refine r_getI hcd rfl rfl rfl ?_
    show Ev X 122 42 _ [vI (τ2.1 131 4), vR (some 1)] _ Q
    refine r_putI hcd rfl rfl rfl rfl ?_
    refine e_nx hcd rfl rfl ?_
    refine r_getR hcd rfl rfl rfl ?_
    refine r_getI hcd rfl rfl rfl ?_
    show Ev X 122 46 _ [vI (τ2.1 131 3)] _ Q
    obtain ⟨h3, H⟩ := H
    refine r_if hcd rfl h3 (fun hc => ?_) (fun hc => ?_)
    · replace H := H.1 hc
      iterate 3 (refine e_nx hcd rfl rfl ?_)
      refine r_cv hcd rfl (by omega) rfl rfl rfl (Nat.le_of_ble_eq_true rfl) ?_
      refine Cl.mono H (fun v τ3 hq => ?_)
      obtain ⟨rfl, H⟩ := hq
      show Ev X 122 53 _ [] τ3 Q
      refine e_nx hcd rfl rfl ?_
      exact r_iret hcd rfl rfl rfl H
    · replace H := H.2 hc
      refine e_nx hcd rfl rfl ?_
      exact r_iret hcd rfl rfl rfl H
  · replace H := H.2 hc
    refine e_nx hcd rfl rfl ?_
    refine r_getR hcd rfl rfl rfl ?_
    refine e_nx hcd rfl rfl ?_
    refine r_putI hcd rfl rfl rfl rfl ?_
    refine e_nx hcd rfl rfl ?_
    exact r_iret hcd rfl rfl rfl H
/-! X11_keepText -/
set_option maxRecDepth 20000 in
set_option maxHeartbeats 8000000 in
theorem v_123 {X : PX} {σ : Sg} {Q : Option PV → Sg → Prop} {a1 : Int} {a2 : Int}  (H : InR a2 ∧ (a2 < 0 → Q none σ) ∧ (¬ a2 < 0 → (a2 < 2 → InR a1 ∧ (a1 ≠ 0 → (a1 ≠ 1 → (0 ≤ a2 ∧ a2 < 2) ∧ CV X 76 [vR (some (17 + 13 * a2.toNat)), vR (some 142)] σ (fun τ1 => CV X 117 [vR (some 1), vI a1, vI (a2 + 1)] τ1 (fun τ2 => Q none τ2))) ∧ (¬ a1 ≠ 1 → (0 ≤ a2 ∧ a2 < 2) ∧ CV X 76 [vR (some (14 + 13 * a2.toNat)), vR (some 139)] σ (fun τ3 => CV X 117 [vR (some 1), vI a1, vI (a2 + 1)] τ3 (fun τ4 => Q none τ4)))) ∧ (¬ a1 ≠ 0 → (0 ≤ a2 ∧ a2 < 2) ∧ CV X 79 [vR (some (7 + 13 * a2.toNat)), vR (some 132)] σ (fun τ5 => CV X 117 [vR (some 1), vI a1, vI (a2 + 1)] τ5 (fun τ6 => Q none τ6)))) ∧ (¬ a2 < 2 → Q none σ))) : Cl X 123 [vR (some 0), vI a1, vI a2] σ Q := by
  have hcd : cds 123 = cd_123 := rfl
  refine c_in (Nat.le_of_ble_eq_true rfl) rfl rfl ?_
  show Ev X 123 0 [some (vR (some 0)), some (vI a1), some (vI a2)] [] σ Q
  refine e_nx hcd rfl rfl ?_
  obtain ⟨h1, H⟩ := H
  refine r_if hcd rfl h1 (fun hc => ?_) (fun hc => ?_)
  · replace H := H.1 hc
    exact r_vret hcd rfl rfl rfl H
  · replace H := H.2 hc
    iterate 2 (refine e_nx hcd rfl rfl ?_)
    refine r_icmp hcd rfl h1 (by omega) (fun hc => ?_) (fun hc => ?_)
    · replace H := H.1 hc
      refine e_nx hcd rfl rfl ?_
      obtain ⟨h2, H⟩ := H
      refine r_if hcd rfl h2 (fun hc => ?_) (fun hc => ?_)
      · replace H := H.1 hc
        iterate 2 (refine e_nx hcd rfl rfl ?_)
        refine r_icmp hcd rfl h2 (by omega) (fun hc => ?_) (fun hc => ?_)
        · replace H := H.1 hc
          refine e_nx hcd rfl rfl ?_
          refine r_getR hcd rfl rfl rfl ?_
          refine r_getR hcd rfl rfl rfl ?_
          refine e_nx hcd rfl rfl ?_
          obtain ⟨h3, H⟩ := H
          have hm4 : 17 + 13 * a2.toNat ∈ paiL := by rcases (show a2 = 0 ∨ a2 = 1 by omega) with h0 | h0 <;> rw [h0] <;> decide
          refine r_ald (q := 17 + 13 * a2.toNat) hcd rfl rfl (Nat.le_of_ble_eq_true rfl) h3 (by rcases (show a2 = 0 ∨ a2 = 1 by omega) with h0 | h0 <;> rw [h0] <;> rfl) ?_
          refine e_nx hcd rfl rfl ?_
          refine r_getR hcd rfl rfl rfl ?_
          refine r_getR hcd rfl rfl rfl ?_
          refine r_cv hcd rfl (by omega) ((paiS hm4).1) rfl rfl (Nat.le_of_ble_eq_true rfl) ?_
          refine Cl.mono H (fun v τ1 hq => ?_)
          obtain ⟨rfl, H⟩ := hq
          show Ev X 123 40 _ [] τ1 Q
          refine e_nx hcd rfl rfl ?_
          refine r_getR hcd rfl rfl rfl ?_
          iterate 4 (refine e_nx hcd rfl rfl ?_)
          refine r_cv hcd rfl (by omega) rfl rfl rfl (Nat.le_of_ble_eq_true rfl) ?_
          refine Cl.mono H (fun v τ2 hq => ?_)
          obtain ⟨rfl, H⟩ := hq
          show Ev X 123 47 _ [] τ2 Q
          exact r_vret hcd rfl rfl rfl H
        · replace H := H.2 hc
          refine e_nx hcd rfl rfl ?_
          refine r_getR hcd rfl rfl rfl ?_
          refine r_getR hcd rfl rfl rfl ?_
          refine e_nx hcd rfl rfl ?_
          obtain ⟨h5, H⟩ := H
          have hm6 : 14 + 13 * a2.toNat ∈ paiL := by rcases (show a2 = 0 ∨ a2 = 1 by omega) with h0 | h0 <;> rw [h0] <;> decide
          refine r_ald (q := 14 + 13 * a2.toNat) hcd rfl rfl (Nat.le_of_ble_eq_true rfl) h5 (by rcases (show a2 = 0 ∨ a2 = 1 by omega) with h0 | h0 <;> rw [h0] <;> rfl) ?_
          refine e_nx hcd rfl rfl ?_
          refine r_getR hcd rfl rfl rfl ?_
          refine r_getR hcd rfl rfl rfl ?_
          refine r_cv hcd rfl (by omega) ((paiS hm6).1) rfl rfl (Nat.le_of_ble_eq_true rfl) ?_
          refine Cl.mono H (fun v τ3 hq => ?_)
          obtain ⟨rfl, H⟩ := hq
          show Ev X 123 30 _ [] τ3 Q
          iterate 2 (refine e_nx hcd rfl rfl ?_)
          refine r_getR hcd rfl rfl rfl ?_
          iterate 4 (refine e_nx hcd rfl rfl ?_)
          refine r_cv hcd rfl (by omega) rfl rfl rfl (Nat.le_of_ble_eq_true rfl) ?_
          refine Cl.mono H (fun v τ4 hq => ?_)
          obtain ⟨rfl, H⟩ := hq
          show Ev X 123 47 _ [] τ4 Q
          exact r_vret hcd rfl rfl rfl H
      · replace H := H.2 hc
        refine e_nx hcd rfl rfl ?_
        refine r_getR hcd rfl rfl rfl ?_
        refine r_getR hcd rfl rfl rfl ?_
        refine e_nx hcd rfl rfl ?_
        obtain ⟨h7, H⟩ := H
        have hm8 : 7 + 13 * a2.toNat ∈ parL := by rcases (show a2 = 0 ∨ a2 = 1 by omega) with h0 | h0 <;> rw [h0] <;> decide
        refine r_ald (q := 7 + 13 * a2.toNat) hcd rfl rfl (Nat.le_of_ble_eq_true rfl) h7 (by rcases (show a2 = 0 ∨ a2 = 1 by omega) with h0 | h0 <;> rw [h0] <;> rfl) ?_
        refine e_nx hcd rfl rfl ?_
        refine r_getR hcd rfl rfl rfl ?_
        refine r_getR hcd rfl rfl rfl ?_
        refine r_cv hcd rfl (by omega) ((parS hm8).1) rfl rfl (Nat.le_of_ble_eq_true rfl) ?_
        refine Cl.mono H (fun v τ5 hq => ?_)
        obtain ⟨rfl, H⟩ := hq
        show Ev X 123 17 _ [] τ5 Q
        iterate 2 (refine e_nx hcd rfl rfl ?_)
        refine r_getR hcd rfl rfl rfl ?_
        iterate 4 (refine e_nx hcd rfl rfl ?_)
        refine r_cv hcd rfl (by omega) rfl rfl rfl (Nat.le_of_ble_eq_true rfl) ?_
        refine Cl.mono H (fun v τ6 hq => ?_)
        obtain ⟨rfl, H⟩ := hq
        show Ev X 123 47 _ [] τ6 Q
        exact r_vret hcd rfl rfl rfl H
    · replace H := H.2 hc
      exact r_vret hcd rfl rfl rfl H
/-! X11_fault -/
theorem v_124 {X : PX} {σ : Sg} {Q : Option PV → Sg → Prop} {a1 : Int}  (H : InR a1 ∧ (a1 ≠ 0 → (a1 ≠ 1 → Q (some (vI (-1))) σ) ∧ (¬ a1 ≠ 1 → Q (some (vI (σ.1 1 7))) σ)) ∧ (¬ a1 ≠ 0 → Q (some (vI (σ.1 1 6))) σ)) : Cl X 124 [vR (some 0), vI a1] σ Q := by
  have hcd : cds 124 = cd_124 := rfl
  refine c_in (Nat.le_of_ble_eq_true rfl) rfl rfl ?_
  show Ev X 124 0 [some (vR (some 0)), some (vI a1)] [] σ Q
  refine e_nx hcd rfl rfl ?_
  obtain ⟨h1, H⟩ := H
  refine r_if hcd rfl h1 (fun hc => ?_) (fun hc => ?_)
  · replace H := H.1 hc
    iterate 2 (refine e_nx hcd rfl rfl ?_)
    refine r_icmp hcd rfl h1 (by omega) (fun hc => ?_) (fun hc => ?_)
    · replace H := H.1 hc
      refine e_nx hcd rfl rfl ?_
      exact r_iret hcd rfl rfl rfl H
    · replace H := H.2 hc
      refine e_nx hcd rfl rfl ?_
      refine r_getR hcd rfl rfl rfl ?_
      refine r_getI hcd rfl rfl rfl ?_
      refine e_nx hcd rfl rfl ?_
      exact r_iret hcd rfl rfl rfl H
  · replace H := H.2 hc
    refine e_nx hcd rfl rfl ?_
    refine r_getR hcd rfl rfl rfl ?_
    refine r_getI hcd rfl rfl rfl ?_
    exact r_iret hcd rfl rfl rfl H
/-! X11_count -/
theorem v_125 {X : PX} {σ : Sg} {Q : Option PV → Sg → Prop} {a1 : Int}  (H : InR a1 ∧ (a1 < 0 → Q (some (vI (-2))) σ) ∧ (¬ a1 < 0 → (3 ≤ a1 → Q (some (vI (-2))) σ) ∧ (¬ 3 ≤ a1 → (0 ≤ a1 ∧ a1 < 3) ∧ Q (some (vI (σ.2 6 a1.toNat))) σ))) : Cl X 125 [vR (some 0), vI a1] σ Q := by
  have hcd : cds 125 = cd_125 := rfl
  refine c_in (Nat.le_of_ble_eq_true rfl) rfl rfl ?_
  show Ev X 125 0 [some (vR (some 0)), some (vI a1)] [] σ Q
  refine e_nx hcd rfl rfl ?_
  obtain ⟨h1, H⟩ := H
  refine r_if hcd rfl h1 (fun hc => ?_) (fun hc => ?_)
  · replace H := H.1 hc
    refine e_nx hcd rfl rfl ?_
    exact r_iret hcd rfl rfl rfl H
  · replace H := H.2 hc
    iterate 2 (refine e_nx hcd rfl rfl ?_)
    refine r_icmp hcd rfl h1 (by omega) (fun hc => ?_) (fun hc => ?_)
    · replace H := H.1 hc
      refine e_nx hcd rfl rfl ?_
      exact r_iret hcd rfl rfl rfl H
    · replace H := H.2 hc
      refine e_nx hcd rfl rfl ?_
      refine r_getR hcd rfl rfl rfl ?_
      refine r_getR hcd rfl rfl rfl ?_
      refine e_nx hcd rfl rfl ?_
      obtain ⟨h2, H⟩ := H
      refine r_ild hcd rfl rfl (by omega) h2 ?_
      refine e_nx hcd rfl rfl ?_
      exact r_iret hcd rfl rfl rfl H
/-! X11_image -/
theorem v_126 {X : PX} {σ : Sg} {Q : Option PV → Sg → Prop} {a1 : Int}  (H : InR a1 ∧ (a1 < 0 → Q (some (vI 0)) σ) ∧ (¬ a1 < 0 → (a1 < 3 → (0 ≤ a1 ∧ a1 < 3) ∧ CV X 118 [vR (some (34 + 32 * a1.toNat)), vR (some 1)] σ (fun τ1 => Q (some (vI 1)) (τ1.1, up2 τ1.2 130 a1.toNat 1))) ∧ (¬ a1 < 3 → Q (some (vI 0)) σ))) : Cl X 126 [vR (some 0), vI a1] σ Q := by
  have hcd : cds 126 = cd_126 := rfl
  refine c_in (Nat.le_of_ble_eq_true rfl) rfl rfl ?_
  show Ev X 126 0 [some (vR (some 0)), some (vI a1)] [] σ Q
  refine e_nx hcd rfl rfl ?_
  obtain ⟨h1, H⟩ := H
  refine r_if hcd rfl h1 (fun hc => ?_) (fun hc => ?_)
  · replace H := H.1 hc
    refine e_nx hcd rfl rfl ?_
    exact r_zret hcd rfl rfl rfl (by omega) H
  · replace H := H.2 hc
    iterate 2 (refine e_nx hcd rfl rfl ?_)
    refine r_icmp hcd rfl h1 (by omega) (fun hc => ?_) (fun hc => ?_)
    · replace H := H.1 hc
      refine e_nx hcd rfl rfl ?_
      refine r_getR hcd rfl rfl rfl ?_
      refine e_nx hcd rfl rfl ?_
      obtain ⟨h2, H⟩ := H
      have hm3 : 34 + 32 * a1.toNat ∈ tolL := by rcases (show a1 = 0 ∨ a1 = 1 ∨ a1 = 2 by omega) with h0 | h0 | h0 <;> rw [h0] <;> decide
      refine r_ald (q := 34 + 32 * a1.toNat) hcd rfl rfl (Nat.le_of_ble_eq_true rfl) h2 (by rcases (show a1 = 0 ∨ a1 = 1 ∨ a1 = 2 by omega) with h0 | h0 | h0 <;> rw [h0] <;> rfl) ?_
      refine e_nx hcd rfl rfl ?_
      refine r_getR hcd rfl rfl rfl ?_
      refine r_cv hcd rfl (by omega) ((tolS hm3).1) rfl rfl (Nat.le_of_ble_eq_true rfl) ?_
      refine Cl.mono H (fun v τ1 hq => ?_)
      obtain ⟨rfl, H⟩ := hq
      show Ev X 126 14 _ [] τ1 Q
      refine e_nx hcd rfl rfl ?_
      refine r_getR hcd rfl rfl rfl ?_
      iterate 2 (refine e_nx hcd rfl rfl ?_)
      refine r_bst hcd rfl rfl (by omega) h2 (by omega) ?_
      refine e_nx hcd rfl rfl ?_
      exact r_zret hcd rfl rfl rfl (by omega) H
    · replace H := H.2 hc
      refine e_nx hcd rfl rfl ?_
      exact r_zret hcd rfl rfl rfl (by omega) H
/-! X11_again -/
theorem v_127 {X : PX} {σ : Sg} {Q : Option PV → Sg → Prop} {a1 : Int}  (H : InR a1 ∧ (a1 < 0 → Q (some (vI 0)) σ) ∧ (¬ a1 < 0 → (3 ≤ a1 → Q (some (vI 0)) σ) ∧ (¬ 3 ≤ a1 → (0 ≤ a1 ∧ a1 < 3) ∧ InR (σ.2 130 a1.toNat) ∧ (σ.2 130 a1.toNat ≠ 0 → CV X 118 [vR (some 1), vR (some (34 + 32 * a1.toNat))] σ (fun τ1 => Q (some (vI 1)) τ1)) ∧ (¬ σ.2 130 a1.toNat ≠ 0 → Q (some (vI 0)) σ)))) : Cl X 127 [vR (some 0), vI a1] σ Q := by
  have hcd : cds 127 = cd_127 := rfl
  refine c_in (Nat.le_of_ble_eq_true rfl) rfl rfl ?_
  show Ev X 127 0 [some (vR (some 0)), some (vI a1)] [] σ Q
  refine e_nx hcd rfl rfl ?_
  obtain ⟨h1, H⟩ := H
  refine r_if hcd rfl h1 (fun hc => ?_) (fun hc => ?_)
  · replace H := H.1 hc
    refine e_nx hcd rfl rfl ?_
    exact r_zret hcd rfl rfl rfl (by omega) H
  · replace H := H.2 hc
    iterate 2 (refine e_nx hcd rfl rfl ?_)
    refine r_icmp hcd rfl h1 (by omega) (fun hc => ?_) (fun hc => ?_)
    · replace H := H.1 hc
      refine e_nx hcd rfl rfl ?_
      exact r_zret hcd rfl rfl rfl (by omega) H
    · replace H := H.2 hc
      refine e_nx hcd rfl rfl ?_
      refine r_getR hcd rfl rfl rfl ?_
      refine e_nx hcd rfl rfl ?_
      obtain ⟨h2, H⟩ := H
      refine r_bld hcd rfl rfl (by omega) h2 ?_
      obtain ⟨h3, H⟩ := H
      refine r_if hcd rfl h3 (fun hc => ?_) (fun hc => ?_)
      · replace H := H.1 hc
        refine e_nx hcd rfl rfl ?_
        refine r_getR hcd rfl rfl rfl ?_
        refine e_nx hcd rfl rfl ?_
        refine r_getR hcd rfl rfl rfl ?_
        refine e_nx hcd rfl rfl ?_
        have hm4 : 34 + 32 * a1.toNat ∈ tolL := by rcases (show a1 = 0 ∨ a1 = 1 ∨ a1 = 2 by omega) with h0 | h0 | h0 <;> rw [h0] <;> decide
        refine r_ald (q := 34 + 32 * a1.toNat) hcd rfl rfl (Nat.le_of_ble_eq_true rfl) h2 (by rcases (show a1 = 0 ∨ a1 = 1 ∨ a1 = 2 by omega) with h0 | h0 | h0 <;> rw [h0] <;> rfl) ?_
        refine r_cv hcd rfl (by omega) rfl rfl rfl (Nat.le_of_ble_eq_true rfl) ?_
        refine Cl.mono H (fun v τ1 hq => ?_)
        obtain ⟨rfl, H⟩ := hq
        show Ev X 127 19 _ [] τ1 Q
        refine e_nx hcd rfl rfl ?_
        exact r_zret hcd rfl rfl rfl (by omega) H
      · replace H := H.2 hc
        refine e_nx hcd rfl rfl ?_
        exact r_zret hcd rfl rfl rfl (by omega) H
