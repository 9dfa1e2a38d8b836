/-! X2_rushOf -/
theorem v_18 {X : PX} {σ : Sg} {Q : Option PV → Sg → Prop} {p1 : Nat} {a1 : Int} {a2 : Int} (hp1 : p1 ∈ parL) (H : CV X 29 [vR (some 146), vR (some p1)] σ (fun τ1 => Ev X 18 19 [some (vR (some 157)), some (vR (some p1)), none, some (vI a2), some (vI 1), some (vI 0), none] [] (up2 (up2 (up2 τ1.1 147 1 a1) 157 2 0) 157 3 0, τ1.2) Q)) : Cl X 18 [vR (some 157), vR (some p1), vI a1, vI a2] σ Q := by
  have hcd : cds 18 = cd_18 := rfl
  refine c_in (Nat.le_of_ble_eq_true rfl) rfl rfl ?_
  show Ev X 18 0 [some (vR (some 157)), some (vR (some p1)), some (vI a1), some (vI a2), none, none, none] [] σ Q
  refine e_nx hcd rfl rfl ?_
  refine r_getR hcd rfl rfl rfl ?_
  refine e_nx hcd rfl rfl ?_
  refine r_cv hcd rfl (by omega) rfl rfl rfl (Nat.le_of_ble_eq_true rfl) ?_
  refine Cl.mono H (fun v τ1 hq => ?_)
  obtain ⟨rfl, H⟩ := hq
  show Ev X 18 4 _ [] τ1 Q
  refine e_nx hcd rfl rfl ?_
  refine r_getR hcd rfl rfl rfl ?_
  refine r_getR hcd rfl rfl rfl ?_
  refine e_nx hcd rfl rfl ?_
  refine r_putI hcd rfl rfl rfl rfl ?_
  iterate 2 (refine e_nx hcd rfl rfl ?_)
  refine r_putI hcd rfl rfl rfl rfl ?_
  iterate 2 (refine e_nx hcd rfl rfl ?_)
  refine r_putI hcd rfl rfl rfl rfl ?_
  iterate 2 (refine e_nx hcd rfl rfl ?_)
  show Ev X 18 17 [some (vR (some 157)), some (vR (some p1)), some (vI a1), some (vI a2), some (vI 1), none, none] [] _ Q
  iterate 2 (refine e_nx hcd rfl rfl ?_)
  show Ev X 18 19 [some (vR (some 157)), some (vR (some p1)), some (vI a1), some (vI a2), some (vI 1), some (vI 0), none] [] _ Q
  refine e_fg [2] ?_
  exact H
theorem v_18_19 {X : PX} {σ : Sg} {Q : Option PV → Sg → Prop} {p1 : Nat} {x3 : Int} {x4 : Int} {x5 : Int} (hp1 : p1 ∈ parL) (H : InR x5 ∧ (7 < x5 → Q none σ) ∧ (¬ 7 < x5 → InR x4 ∧ (x4 = 0 → Q none σ) ∧ (¬ x4 = 0 → Ev X 18 28 [some (vR (some 157)), some (vR (some p1)), none, some (vI x3), some (vI 0), some (vI x5), some (vI 0)] [] σ Q))) : Ev X 18 19 [some (vR (some 157)), some (vR (some p1)), none, some (vI x3), some (vI x4), some (vI x5), none] [] σ Q := by
  have hcd : cds 18 = cd_18 := rfl
  iterate 2 (refine e_nx hcd rfl rfl ?_)
  obtain ⟨h1, H⟩ := H
  refine r_icmp hcd rfl h1 (by omega) (fun hc => ?_) (fun hc => ?_)
  · replace H := H.1 hc
    exact r_vret hcd rfl rfl rfl H
  · replace H := H.2 hc
    refine e_nx hcd rfl rfl ?_
    obtain ⟨h2, H⟩ := H
    refine r_if hcd rfl h2 (fun hc => ?_) (fun hc => ?_)
    · replace H := H.1 hc
      exact r_vret hcd rfl rfl rfl H
    · replace H := H.2 hc
      iterate 2 (refine e_nx hcd rfl rfl ?_)
      show Ev X 18 26 [some (vR (some 157)), some (vR (some p1)), none, some (vI x3), some (vI 0), some (vI x5), none] [] _ Q
      iterate 2 (refine e_nx hcd rfl rfl ?_)
      show Ev X 18 28 [some (vR (some 157)), some (vR (some p1)), none, some (vI x3), some (vI 0), some (vI x5), some (vI 0)] [] _ Q
      exact H
set_option maxRecDepth 20000 in
set_option maxHeartbeats 8000000 in
theorem v_18_28 {X : PX} {σ : Sg} {Q : Option PV → Sg → Prop} {p1 : Nat} {x3 : Int} {x4 : Int} {x5 : Int} {x6 : Int} (hp1 : p1 ∈ parL) (H : InR x6 ∧ InR (σ.1 p1 2) ∧ (σ.1 p1 2 ≤ x6 → InR x4 ∧ (x4 = 0 → Ev X 18 19 [some (vR (some 157)), some (vR (some p1)), none, some (vI x3), some (vI x4), some (vI (x5 + 1)), none] [] σ Q) ∧ (¬ x4 = 0 → Ev X 18 19 [some (vR (some 157)), some (vR (some p1)), none, some (vI x3), some (vI x4), some (vI (x5 + 1)), none] [] (up2 σ.1 157 3 ((σ.1 157 3) + 1), σ.2) Q)) ∧ (¬ σ.1 p1 2 ≤ x6 → (7 ≤ x6 → InR x4 ∧ (x4 = 0 → Ev X 18 19 [some (vR (some 157)), some (vR (some p1)), none, some (vI x3), some (vI x4), some (vI (x5 + 1)), none] [] σ Q) ∧ (¬ x4 = 0 → Ev X 18 19 [some (vR (some 157)), some (vR (some p1)), none, some (vI x3), some (vI x4), some (vI (x5 + 1)), none] [] (up2 σ.1 157 3 ((σ.1 157 3) + 1), σ.2) Q)) ∧ (¬ 7 ≤ x6 → CI X 19 [vR (some 157), vI x6, vI x3] σ (fun r5 τ1 => InR r5 ∧ (r5 = 0 → Ev X 18 28 [some (vR (some 157)), some (vR (some p1)), none, some (vI x3), some (vI x4), some (vI x5), some (vI (x6 + 1))] [] τ1 Q) ∧ (¬ r5 = 0 → CI X 35 [vR (some 146), vI x6] τ1 (fun r7 τ2 => InR r7 ∧ (r7 = 0 → Ev X 18 28 [some (vR (some 157)), some (vR (some p1)), none, some (vI x3), some (vI x4), some (vI x5), some (vI (x6 + 1))] [] τ2 Q) ∧ (¬ r7 = 0 → CV X 20 [vR (some 157), vI x6] τ2 (fun τ3 => Ev X 18 28 [some (vR (some 157)), some (vR (some p1)), none, some (vI x3), some (vI 1), some (vI x5), some (vI (x6 + 1))] [] τ3 Q)))))))) : Ev X 18 28 [some (vR (some 157)), some (vR (some p1)), none, some (vI x3), some (vI x4), some (vI x5), some (vI x6)] [] σ Q := by
  have hcd : cds 18 = cd_18 := rfl
  iterate 2 (refine e_nx hcd rfl rfl ?_)
  refine r_getI hcd rfl ((parS hp1).1) rfl ?_
  obtain ⟨h1, H⟩ := H
  obtain ⟨h2, H⟩ := H
  refine r_icmp hcd rfl h1 h2 (fun hc => ?_) (fun hc => ?_)
  · replace H := H.1 hc
    refine e_nx hcd rfl rfl ?_
    obtain ⟨h3, H⟩ := H
    refine r_if hcd rfl h3 (fun hc => ?_) (fun hc => ?_)
    · replace H := H.1 hc
      refine e_nx hcd rfl rfl ?_
      show Ev X 18 61 [some (vR (some 157)), some (vR (some p1)), none, some (vI x3), some (vI x4), some (vI (x5 + 1)), some (vI x6)] [] _ Q
      refine e_nx hcd rfl rfl ?_
      refine e_fg [6] ?_
      exact H
    · replace H := H.2 hc
      iterate 2 (refine e_nx hcd rfl rfl ?_)
      refine r_getI hcd rfl rfl rfl ?_
      iterate 2 (refine e_nx hcd rfl rfl ?_)
      refine r_putI hcd rfl rfl rfl rfl ?_
      refine e_nx hcd rfl rfl ?_
      show Ev X 18 61 [some (vR (some 157)), some (vR (some p1)), none, some (vI x3), some (vI x4), some (vI (x5 + 1)), some (vI x6)] [] _ Q
      refine e_nx hcd rfl rfl ?_
      refine e_fg [6] ?_
      exact H
  · replace H := H.2 hc
    iterate 2 (refine e_nx hcd rfl rfl ?_)
    refine r_icmp hcd rfl h1 (by omega) (fun hc => ?_) (fun hc => ?_)
    · replace H := H.1 hc
      refine e_nx hcd rfl rfl ?_
      obtain ⟨h4, H⟩ := H
      refine r_if hcd rfl h4 (fun hc => ?_) (fun hc => ?_)
      · replace H := H.1 hc
        refine e_nx hcd rfl rfl ?_
        show Ev X 18 61 [some (vR (some 157)), some (vR (some p1)), none, some (vI x3), some (vI x4), some (vI (x5 + 1)), some (vI x6)] [] _ Q
        refine e_nx hcd rfl rfl ?_
        refine e_fg [6] ?_
        exact H
      · replace H := H.2 hc
        iterate 2 (refine e_nx hcd rfl rfl ?_)
        refine r_getI hcd rfl rfl rfl ?_
        iterate 2 (refine e_nx hcd rfl rfl ?_)
        refine r_putI hcd rfl rfl rfl rfl ?_
        refine e_nx hcd rfl rfl ?_
        show Ev X 18 61 [some (vR (some 157)), some (vR (some p1)), none, some (vI x3), some (vI x4), some (vI (x5 + 1)), some (vI x6)] [] _ Q
        refine e_nx hcd rfl rfl ?_
        refine e_fg [6] ?_
        exact H
    · replace H := H.2 hc
      iterate 3 (refine e_nx hcd rfl rfl ?_)
      refine r_cv hcd rfl (by omega) rfl rfl rfl (Nat.le_of_ble_eq_true rfl) ?_
      refine Cl.mono H (fun v τ1 hq => ?_)
      obtain ⟨r5, rfl, H⟩ := hq
      show Ev X 18 39 _ [vI r5] τ1 Q
      obtain ⟨h6, H⟩ := H
      refine r_if hcd rfl h6 (fun hc => ?_) (fun hc => ?_)
      · replace H := H.1 hc
        refine e_nx hcd rfl rfl ?_
        show Ev X 18 51 [some (vR (some 157)), some (vR (some p1)), none, some (vI x3), some (vI x4), some (vI x5), some (vI (x6 + 1))] [] _ Q
        refine e_nx hcd rfl rfl ?_
        exact H
      · replace H := H.2 hc
        refine e_nx hcd rfl rfl ?_
        refine r_getR hcd rfl rfl rfl ?_
        refine e_nx hcd rfl rfl ?_
        refine r_cv hcd rfl (by omega) rfl rfl rfl (Nat.le_of_ble_eq_true rfl) ?_
        refine Cl.mono H (fun v τ2 hq => ?_)
        obtain ⟨r7, rfl, H⟩ := hq
        show Ev X 18 44 _ [vI r7] τ2 Q
        obtain ⟨h8, H⟩ := H
        refine r_if hcd rfl h8 (fun hc => ?_) (fun hc => ?_)
        · replace H := H.1 hc
          refine e_nx hcd rfl rfl ?_
          show Ev X 18 51 [some (vR (some 157)), some (vR (some p1)), none, some (vI x3), some (vI x4), some (vI x5), some (vI (x6 + 1))] [] _ Q
          refine e_nx hcd rfl rfl ?_
          exact H
        · replace H := H.2 hc
          iterate 2 (refine e_nx hcd rfl rfl ?_)
          refine r_cv hcd rfl (by omega) rfl rfl rfl (Nat.le_of_ble_eq_true rfl) ?_
          refine Cl.mono H (fun v τ3 hq => ?_)
          obtain ⟨rfl, H⟩ := hq
          show Ev X 18 48 _ [] τ3 Q
          iterate 2 (refine e_nx hcd rfl rfl ?_)
          show Ev X 18 50 [some (vR (some 157)), some (vR (some p1)), none, some (vI x3), some (vI 1), some (vI x5), some (vI x6)] [] _ Q
          refine e_nx hcd rfl rfl ?_
          show Ev X 18 51 [some (vR (some 157)), some (vR (some p1)), none, some (vI x3), some (vI 1), some (vI x5), some (vI (x6 + 1))] [] _ Q
          refine e_nx hcd rfl rfl ?_
          exact H
/-! X2_isDriven -/
theorem v_19 {X : PX} {σ : Sg} {Q : Option PV → Sg → Prop} {a1 : Int} {a2 : Int}  (H : CI X 31 [vR (some 146), vI a1] σ (fun r1 τ1 => InR r1 ∧ (r1 ≠ 0 → Q (some (vI 0)) τ1) ∧ (¬ r1 ≠ 0 → CI X 54 [vR (some 154), vI a1] τ1 (fun r3 τ2 => InR (a2 * r3) ∧ InR (τ2.1 147 1) ∧ (a2 * r3 ≤ τ2.1 147 1 → Q (some (vI 0)) τ2) ∧ (¬ a2 * r3 ≤ τ2.1 147 1 → Q (some (vI 1)) τ2))))) : Cl X 19 [vR (some 157), vI a1, vI a2] σ Q := by
  have hcd : cds 19 = cd_19 := rfl
  refine c_in (Nat.le_of_ble_eq_true rfl) rfl rfl ?_
  show Ev X 19 0 [some (vR (some 157)), some (vI a1), some (vI a2)] [] σ Q
  refine e_nx hcd rfl rfl ?_
  refine r_getR hcd rfl rfl rfl ?_
  refine e_nx hcd rfl rfl ?_
  refine r_cv hcd rfl (by omega) rfl rfl rfl (Nat.le_of_ble_eq_true rfl) ?_
  refine Cl.mono H (fun v τ1 hq => ?_)
  obtain ⟨r1, rfl, H⟩ := hq
  show Ev X 19 4 _ [vI r1] τ1 Q
  obtain ⟨h2, H⟩ := H
  refine r_if hcd rfl h2 (fun hc => ?_) (fun hc => ?_)
  · replace H := H.1 hc
    refine e_nx hcd rfl rfl ?_
    exact r_zret hcd rfl rfl rfl (by omega) H
  · replace H := H.2 hc
    iterate 2 (refine e_nx hcd rfl rfl ?_)
    refine r_getR hcd rfl rfl rfl ?_
    refine r_getR hcd rfl rfl rfl ?_
    refine e_nx hcd rfl rfl ?_
    refine r_cv hcd rfl (by omega) rfl rfl rfl (Nat.le_of_ble_eq_true rfl) ?_
    refine Cl.mono H (fun v τ2 hq => ?_)
    obtain ⟨r3, rfl, H⟩ := hq
    show Ev X 19 11 _ [vI r3, vI a2] τ2 Q
    iterate 2 (refine e_nx hcd rfl rfl ?_)
    refine r_getR hcd rfl rfl rfl ?_
    refine r_getR hcd rfl rfl rfl ?_
    refine r_getI hcd rfl rfl rfl ?_
    obtain ⟨h4, H⟩ := H
    obtain ⟨h5, H⟩ := H
    refine r_icmp hcd rfl h4 h5 (fun hc => ?_) (fun hc => ?_)
    · replace H := H.1 hc
      refine e_nx hcd rfl rfl ?_
      exact r_zret hcd rfl rfl rfl (by omega) H
    · replace H := H.2 hc
      iterate 2 (refine e_nx hcd rfl rfl ?_)
      exact r_zret hcd rfl rfl rfl (by omega) H
/-! X2_noteBuyer -/
theorem v_20 {X : PX} {σ : Sg} {Q : Option PV → Sg → Prop} {a1 : Int}  (H : InR (σ.1 157 2) ∧ (σ.1 157 2 < 0 → Q none σ) ∧ (¬ σ.1 157 2 < 0 → (7 ≤ σ.1 157 2 → Q none σ) ∧ (¬ 7 ≤ σ.1 157 2 → (0 ≤ σ.1 157 2 ∧ σ.1 157 2 < 7) ∧ Q none (up2 σ.1 157 2 ((σ.1 157 2) + 1), up2 σ.2 158 (σ.1 157 2).toNat a1)))) : Cl X 20 [vR (some 157), vI a1] σ Q := by
  have hcd : cds 20 = cd_20 := rfl
  refine c_in (Nat.le_of_ble_eq_true rfl) rfl rfl ?_
  show Ev X 20 0 [some (vR (some 157)), some (vI a1)] [] σ Q
  refine e_nx hcd rfl rfl ?_
  refine r_getI hcd rfl rfl rfl ?_
  obtain ⟨h1, H⟩ := H
  refine r_if hcd rfl h1 (fun hc => ?_) (fun hc => ?_)
  · replace H := H.1 hc
    exact r_vret hcd rfl rfl rfl H
  · replace H := H.2 hc
    refine e_nx hcd rfl rfl ?_
    refine r_getI hcd rfl rfl rfl ?_
    refine e_nx hcd rfl rfl ?_
    refine r_icmp hcd rfl h1 (by omega) (fun hc => ?_) (fun hc => ?_)
    · replace H := H.1 hc
      exact r_vret hcd rfl rfl rfl H
    · replace H := H.2 hc
      refine e_nx hcd rfl rfl ?_
      refine r_getR hcd rfl rfl rfl ?_
      refine e_nx hcd rfl rfl ?_
      refine r_getI hcd rfl rfl rfl ?_
      refine e_nx hcd rfl rfl ?_
      obtain ⟨h2, H⟩ := H
      refine r_ist hcd rfl rfl (by omega) h2 ?_
      iterate 2 (refine e_nx hcd rfl rfl ?_)
      refine r_getI hcd rfl rfl rfl ?_
      iterate 2 (refine e_nx hcd rfl rfl ?_)
      refine r_putI hcd rfl rfl rfl rfl ?_
      exact r_vret hcd rfl rfl rfl H
/-! X2_buyer -/
theorem v_21 {X : PX} {σ : Sg} {Q : Option PV → Sg → Prop} {a1 : Int}  (H : InR a1 ∧ (a1 < 0 → Q (some (vI (-1))) σ) ∧ (¬ a1 < 0 → InR (σ.1 157 2) ∧ (σ.1 157 2 ≤ a1 → Q (some (vI (-1))) σ) ∧ (¬ σ.1 157 2 ≤ a1 → (7 ≤ a1 → Q (some (vI (-1))) σ) ∧ (¬ 7 ≤ a1 → (0 ≤ a1 ∧ a1 < 7) ∧ Q (some (vI (σ.2 158 a1.toNat))) σ)))) : Cl X 21 [vR (some 157), vI a1] σ Q := by
  have hcd : cds 21 = cd_21 := rfl
  refine c_in (Nat.le_of_ble_eq_true rfl) rfl rfl ?_
  show Ev X 21 0 [some (vR (some 157)), some (vI a1)] [] σ Q
  refine e_nx hcd rfl rfl ?_
  obtain ⟨h1, H⟩ := H
  refine r_if hcd rfl h1 (fun hc => ?_) (fun hc => ?_)
  · replace H := H.1 hc
    refine e_nx hcd rfl rfl ?_
    exact r_iret hcd rfl rfl rfl H
  · replace H := H.2 hc
    iterate 2 (refine e_nx hcd rfl rfl ?_)
    refine r_getI hcd rfl rfl rfl ?_
    obtain ⟨h2, H⟩ := H
    refine r_icmp hcd rfl h1 h2 (fun hc => ?_) (fun hc => ?_)
    · replace H := H.1 hc
      refine e_nx hcd rfl rfl ?_
      exact r_iret hcd rfl rfl rfl H
    · replace H := H.2 hc
      iterate 2 (refine e_nx hcd rfl rfl ?_)
      refine r_icmp hcd rfl h1 (by omega) (fun hc => ?_) (fun hc => ?_)
      · replace H := H.1 hc
        refine e_nx hcd rfl rfl ?_
        exact r_iret hcd rfl rfl rfl H
      · replace H := H.2 hc
        refine e_nx hcd rfl rfl ?_
        refine r_getR hcd rfl rfl rfl ?_
        refine e_nx hcd rfl rfl ?_
        obtain ⟨h3, H⟩ := H
        refine r_ild hcd rfl rfl (by omega) h3 ?_
        refine e_nx hcd rfl rfl ?_
        exact r_iret hcd rfl rfl rfl H
/-! X2_findSale -/
theorem v_22 {X : PX} {σ : Sg} {Q : Option PV → Sg → Prop} {p1 : Nat} {a1 : Int} (hp1 : p1 ∈ parL) (H : Ev X 22 5 [some (vR (some 157)), some (vR (some p1)), some (vI a1), some (vI 0)] [] (up2 σ.1 157 5 (-1), σ.2) Q) : Cl X 22 [vR (some 157), vR (some p1), vI a1] σ Q := by
  have hcd : cds 22 = cd_22 := rfl
  refine c_in (Nat.le_of_ble_eq_true rfl) rfl rfl ?_
  show Ev X 22 0 [some (vR (some 157)), some (vR (some p1)), some (vI a1), none] [] σ Q
  iterate 2 (refine e_nx hcd rfl rfl ?_)
  refine r_putI hcd rfl rfl rfl rfl ?_
  iterate 2 (refine e_nx hcd rfl rfl ?_)
  show Ev X 22 5 [some (vR (some 157)), some (vR (some p1)), some (vI a1), some (vI 0)] [] _ Q
  exact H
theorem v_22_5 {X : PX} {σ : Sg} {Q : Option PV → Sg → Prop} {p1 : Nat} {x2 : Int} {x3 : Int} (hp1 : p1 ∈ parL) (H : InR x3 ∧ (99 < x3 → Q none σ) ∧ (¬ 99 < x3 → CV X 18 [vR (some 157), vR (some p1), vI x3, vI x2] σ (fun τ1 => InR (x3 * (τ1.1 157 2)) ∧ InR (τ1.1 157 5) ∧ (x3 * (τ1.1 157 2) ≤ τ1.1 157 5 → Ev X 22 5 [some (vR (some 157)), some (vR (some p1)), some (vI x2), some (vI (x3 + 1))] [] τ1 Q) ∧ (¬ x3 * (τ1.1 157 2) ≤ τ1.1 157 5 → Ev X 22 5 [some (vR (some 157)), some (vR (some p1)), some (vI x2), some (vI (x3 + 1))] [] (up2 (up2 (up2 τ1.1 157 4 x3) 157 5 (x3 * (τ1.1 157 2))) 157 6 (τ1.1 157 2), τ1.2) Q)))) : Ev X 22 5 [some (vR (some 157)), some (vR (some p1)), some (vI x2), some (vI x3)] [] σ Q := by
  have hcd : cds 22 = cd_22 := rfl
  iterate 2 (refine e_nx hcd rfl rfl ?_)
  obtain ⟨h1, H⟩ := H
  refine r_icmp hcd rfl h1 (by omega) (fun hc => ?_) (fun hc => ?_)
  · replace H := H.1 hc
    exact r_vret hcd rfl rfl rfl H
  · replace H := H.2 hc
    iterate 4 (refine e_nx hcd rfl rfl ?_)
    refine r_cv hcd rfl (by omega) rfl rfl rfl (Nat.le_of_ble_eq_true rfl) ?_
    refine Cl.mono H (fun v τ1 hq => ?_)
    obtain ⟨rfl, H⟩ := hq
    show Ev X 22 13 _ [] τ1 Q
    iterate 2 (refine e_nx hcd rfl rfl ?_)
    refine r_getI hcd rfl rfl rfl ?_
    iterate 2 (refine e_nx hcd rfl rfl ?_)
    refine r_getI hcd rfl rfl rfl ?_
    obtain ⟨h2, H⟩ := H
    obtain ⟨h3, H⟩ := H
    refine r_icmp hcd rfl h2 h3 (fun hc => ?_) (fun hc => ?_)
    · replace H := H.1 hc
      refine e_nx hcd rfl rfl ?_
      show Ev X 22 34 [some (vR (some 157)), some (vR (some p1)), some (vI x2), some (vI (x3 + 1))] [] _ Q
      refine e_nx hcd rfl rfl ?_
      exact H
    · replace H := H.2 hc
      iterate 2 (refine e_nx hcd rfl rfl ?_)
      refine r_putI hcd rfl rfl rfl rfl ?_
      iterate 3 (refine e_nx hcd rfl rfl ?_)
      refine r_getI hcd rfl rfl rfl ?_
      show Ev X 22 27 _ [vI (τ1.1 157 2), vI x3, vR (some 157)] _ Q
      refine e_nx hcd rfl rfl ?_
      refine r_putI hcd rfl rfl rfl rfl ?_
      iterate 2 (refine e_nx hcd rfl rfl ?_)
      refine r_getI hcd rfl rfl rfl ?_
      show Ev X 22 32 _ [vI (τ1.1 157 2), vR (some 157)] _ Q
      refine r_putI hcd rfl rfl rfl rfl ?_
      refine e_nx hcd rfl rfl ?_
      show Ev X 22 34 [some (vR (some 157)), some (vR (some p1)), some (vI x2), some (vI (x3 + 1))] [] _ Q
      refine e_nx hcd rfl rfl ?_
      exact H
/-! X2_margin -/
theorem v_23 {X : PX} {σ : Sg} {Q : Option PV → Sg → Prop} {p1 : Nat} {a1 : Int} {a2 : Int} {a3 : Int} (hp1 : p1 ∈ parL) (H : CV X 25 [vR (some 157), vR (some p1), vI a1, vI a2] σ (fun τ1 => Ev X 23 9 [some (vR (some 157)), some (vR (some p1)), some (vI a1), some (vI a2), none, some (vI (a3 - 1))] [] τ1 Q)) : Cl X 23 [vR (some 157), vR (some p1), vI a1, vI a2, vI a3] σ Q := by
  have hcd : cds 23 = cd_23 := rfl
  refine c_in (Nat.le_of_ble_eq_true rfl) rfl rfl ?_
  show Ev X 23 0 [some (vR (some 157)), some (vR (some p1)), some (vI a1), some (vI a2), some (vI a3), none] [] σ Q
  iterate 4 (refine e_nx hcd rfl rfl ?_)
  refine r_cv hcd rfl (by omega) rfl rfl rfl (Nat.le_of_ble_eq_true rfl) ?_
  refine Cl.mono H (fun v τ1 hq => ?_)
  obtain ⟨rfl, H⟩ := hq
  show Ev X 23 5 _ [] τ1 Q
  iterate 4 (refine e_nx hcd rfl rfl ?_)
  show Ev X 23 9 [some (vR (some 157)), some (vR (some p1)), some (vI a1), some (vI a2), some (vI a3), some (vI (a3 - 1))] [] _ Q
  refine e_fg [4] ?_
  exact H
theorem v_23_9 {X : PX} {σ : Sg} {Q : Option PV → Sg → Prop} {p1 : Nat} {x2 : Int} {x3 : Int} {x5 : Int} (hp1 : p1 ∈ parL) (H : InR x5 ∧ (x5 < 0 → Q (some (vI (σ.2 159 0))) σ) ∧ (¬ x5 < 0 → CV X 27 [vR (some 157), vR (some p1), vI x2, vI x3, vI x5] σ (fun τ1 => Ev X 23 9 [some (vR (some 157)), some (vR (some p1)), some (vI x2), some (vI x3), none, some (vI (x5 + (-1)))] [] τ1 Q))) : Ev X 23 9 [some (vR (some 157)), some (vR (some p1)), some (vI x2), some (vI x3), none, some (vI x5)] [] σ Q := by
  have hcd : cds 23 = cd_23 := rfl
  refine e_nx hcd rfl rfl ?_
  obtain ⟨h1, H⟩ := H
  refine r_if hcd rfl h1 (fun hc => ?_) (fun hc => ?_)
  · replace H := H.1 hc
    refine e_nx hcd rfl rfl ?_
    refine r_getR hcd rfl rfl rfl ?_
    refine e_nx hcd rfl rfl ?_
    refine r_ild hcd rfl rfl (by omega) (by omega) ?_
    exact r_iret hcd rfl rfl rfl H
  · replace H := H.2 hc
    iterate 5 (refine e_nx hcd rfl rfl ?_)
    refine r_cv hcd rfl (by omega) rfl rfl rfl (Nat.le_of_ble_eq_true rfl) ?_
    refine Cl.mono H (fun v τ1 hq => ?_)
    obtain ⟨rfl, H⟩ := hq
    show Ev X 23 17 _ [] τ1 Q
    refine e_nx hcd rfl rfl ?_
    show Ev X 23 18 [some (vR (some 157)), some (vR (some p1)), some (vI x2), some (vI x3), none, some (vI (x5 + (-1)))] [] _ Q
    refine e_nx hcd rfl rfl ?_
    exact H
/-! X2_opening -/
theorem v_24 {X : PX} {σ : Sg} {Q : Option PV → Sg → Prop} {p1 : Nat} {a1 : Int} {a2 : Int} {a3 : Int} (hp1 : p1 ∈ parL) (H : CV X 25 [vR (some 157), vR (some p1), vI a1, vI a2] σ (fun τ1 => Ev X 24 9 [some (vR (some 157)), some (vR (some p1)), some (vI a1), some (vI a2), none, some (vI (a3 - 1))] [] τ1 Q)) : Cl X 24 [vR (some 157), vR (some p1), vI a1, vI a2, vI a3] σ Q := by
  have hcd : cds 24 = cd_24 := rfl
  refine c_in (Nat.le_of_ble_eq_true rfl) rfl rfl ?_
  show Ev X 24 0 [some (vR (some 157)), some (vR (some p1)), some (vI a1), some (vI a2), some (vI a3), none] [] σ Q
  iterate 4 (refine e_nx hcd rfl rfl ?_)
  refine r_cv hcd rfl (by omega) rfl rfl rfl (Nat.le_of_ble_eq_true rfl) ?_
  refine Cl.mono H (fun v τ1 hq => ?_)
  obtain ⟨rfl, H⟩ := hq
  show Ev X 24 5 _ [] τ1 Q
  iterate 4 (refine e_nx hcd rfl rfl ?_)
  show Ev X 24 9 [some (vR (some 157)), some (vR (some p1)), some (vI a1), some (vI a2), some (vI a3), some (vI (a3 - 1))] [] _ Q
  refine e_fg [4] ?_
  exact H
set_option maxRecDepth 20000 in
set_option maxHeartbeats 8000000 in
theorem v_24_9 {X : PX} {σ : Sg} {Q : Option PV → Sg → Prop} {p1 : Nat} {x2 : Int} {x3 : Int} {x5 : Int} (hp1 : p1 ∈ parL) (H : InR x5 ∧ (x5 < 1 → CV X 29 [vR (some 146), vR (some p1)] σ (fun τ1 => CI X 34 [vR (some 146), vI x2] τ1 (fun r2 τ2 => InR r2 ∧ (r2 = 0 → Q (some (vI 0)) τ2) ∧ (¬ r2 = 0 → InR (τ2.2 159 1) ∧ InR (τ2.2 159 0) ∧ (τ2.2 159 1 ≤ τ2.2 159 0 → Q (some (vI 0)) τ2) ∧ (¬ τ2.2 159 1 ≤ τ2.2 159 0 → Q (some (vI 1)) τ2))))) ∧ (¬ x5 < 1 → CV X 27 [vR (some 157), vR (some p1), vI x2, vI x3, vI x5] σ (fun τ3 => Ev X 24 9 [some (vR (some 157)), some (vR (some p1)), some (vI x2), some (vI x3), none, some (vI (x5 + (-1)))] [] τ3 Q))) : Ev X 24 9 [some (vR (some 157)), some (vR (some p1)), some (vI x2), some (vI x3), none, some (vI x5)] [] σ Q := by
  have hcd : cds 24 = cd_24 := rfl
  iterate 2 (refine e_nx hcd rfl rfl ?_)
  obtain ⟨h1, H⟩ := H
  refine r_icmp hcd rfl h1 (by omega) (fun hc => ?_) (fun hc => ?_)
  · replace H := H.1 hc
    refine e_nx hcd rfl rfl ?_
    refine r_getR hcd rfl rfl rfl ?_
    refine e_nx hcd rfl rfl ?_
    refine r_cv hcd rfl (by omega) rfl rfl rfl (Nat.le_of_ble_eq_true rfl) ?_
    refine Cl.mono H (fun v τ1 hq => ?_)
    obtain ⟨rfl, H⟩ := hq
    show Ev X 24 24 _ [] τ1 Q
    refine e_nx hcd rfl rfl ?_
    refine r_getR hcd rfl rfl rfl ?_
    refine e_nx hcd rfl rfl ?_
    refine r_cv hcd rfl (by omega) rfl rfl rfl (Nat.le_of_ble_eq_true rfl) ?_
    refine Cl.mono H (fun v τ2 hq => ?_)
    obtain ⟨r2, rfl, H⟩ := hq
    show Ev X 24 28 _ [vI r2] τ2 Q
    obtain ⟨h3, H⟩ := H
    refine r_if hcd rfl h3 (fun hc => ?_) (fun hc => ?_)
    · replace H := H.1 hc
      refine e_nx hcd rfl rfl ?_
      exact r_iret hcd rfl rfl rfl H
    · replace H := H.2 hc
      refine e_nx hcd rfl rfl ?_
      refine r_getR hcd rfl rfl rfl ?_
      refine e_nx hcd rfl rfl ?_
      refine r_ild hcd rfl rfl (by omega) (by omega) ?_
      refine e_nx hcd rfl rfl ?_
      refine r_getR hcd rfl rfl rfl ?_
      refine e_nx hcd rfl rfl ?_
      refine r_ild hcd rfl rfl (by omega) (by omega) ?_
      obtain ⟨h4, H⟩ := H
      obtain ⟨h5, H⟩ := H
      refine r_icmp hcd rfl h4 h5 (fun hc => ?_) (fun hc => ?_)
      · replace H := H.1 hc
        refine e_nx hcd rfl rfl ?_
        exact r_iret hcd rfl rfl rfl H
      · replace H := H.2 hc
        iterate 2 (refine e_nx hcd rfl rfl ?_)
        exact r_iret hcd rfl rfl rfl H
  · replace H := H.2 hc
    iterate 5 (refine e_nx hcd rfl rfl ?_)
    refine r_cv hcd rfl (by omega) rfl rfl rfl (Nat.le_of_ble_eq_true rfl) ?_
    refine Cl.mono H (fun v τ3 hq => ?_)
    obtain ⟨rfl, H⟩ := hq
    show Ev X 24 18 _ [] τ3 Q
    refine e_nx hcd rfl rfl ?_
    show Ev X 24 19 [some (vR (some 157)), some (vR (some p1)), some (vI x2), some (vI x3), none, some (vI (x5 + (-1)))] [] _ Q
    refine e_nx hcd rfl rfl ?_
    exact H
/-! X2_fillMargins -/
theorem v_25 {X : PX} {σ : Sg} {Q : Option PV → Sg → Prop} {p1 : Nat} {a1 : Int} {a2 : Int} (hp1 : p1 ∈ parL) (H : Ev X 25 2 [some (vR (some 157)), some (vR (some p1)), some (vI a1), some (vI a2), some (vI 0)] [] σ Q) : Cl X 25 [vR (some 157), vR (some p1), vI a1, vI a2] σ Q := by
  have hcd : cds 25 = cd_25 := rfl
  refine c_in (Nat.le_of_ble_eq_true rfl) rfl rfl ?_
  show Ev X 25 0 [some (vR (some 157)), some (vR (some p1)), some (vI a1), some (vI a2), none] [] σ Q
  iterate 2 (refine e_nx hcd rfl rfl ?_)
  show Ev X 25 2 [some (vR (some 157)), some (vR (some p1)), some (vI a1), some (vI a2), some (vI 0)] [] _ Q
  exact H
set_option maxRecDepth 20000 in
set_option maxHeartbeats 8000000 in
theorem v_25_2 {X : PX} {σ : Sg} {Q : Option PV → Sg → Prop} {p1 : Nat} {x2 : Int} {x3 : Int} {x4 : Int} (hp1 : p1 ∈ parL) (H : InR x4 ∧ (4 ≤ x4 → Q none σ) ∧ (¬ 4 ≤ x4 → CV X 29 [vR (some 146), vR (some p1)] σ (fun τ1 => InR (iAnd x4 1) ∧ (iAnd x4 1 = 0 → InR (iAnd x4 2) ∧ (iAnd x4 2 = 0 → CI X 33 [vR (some 146)] τ1 (fun r4 τ2 => CI X 26 [vR (some 157), vI x2] τ2 (fun r5 τ3 => CI X 26 [vR (some 157), vI x3] τ3 (fun r6 τ4 => (0 ≤ x4 ∧ x4 < 4) ∧ Ev X 25 2 [some (vR (some 157)), some (vR (some p1)), some (vI x2), some (vI x3), some (vI (x4 + 1))] [] (τ4.1, up2 τ4.2 159 x4.toNat (r5 - r6)) Q)))) ∧ (¬ iAnd x4 2 = 0 → CI X 35 [vR (some 146), vI x3] τ1 (fun r8 τ5 => CI X 33 [vR (some 146)] τ5 (fun r9 τ6 => CI X 26 [vR (some 157), vI x2] τ6 (fun r10 τ7 => CI X 26 [vR (some 157), vI x3] τ7 (fun r11 τ8 => (0 ≤ x4 ∧ x4 < 4) ∧ Ev X 25 2 [some (vR (some 157)), some (vR (some p1)), some (vI x2), some (vI x3), some (vI (x4 + 1))] [] (τ8.1, up2 τ8.2 159 x4.toNat (r10 - r11)) Q)))))) ∧ (¬ iAnd x4 1 = 0 → CI X 35 [vR (some 146), vI x2] τ1 (fun r13 τ9 => InR (iAnd x4 2) ∧ (iAnd x4 2 = 0 → CI X 33 [vR (some 146)] τ9 (fun r15 τ10 => CI X 26 [vR (some 157), vI x2] τ10 (fun r16 τ11 => CI X 26 [vR (some 157), vI x3] τ11 (fun r17 τ12 => (0 ≤ x4 ∧ x4 < 4) ∧ Ev X 25 2 [some (vR (some 157)), some (vR (some p1)), some (vI x2), some (vI x3), some (vI (x4 + 1))] [] (τ12.1, up2 τ12.2 159 x4.toNat (r16 - r17)) Q)))) ∧ (¬ iAnd x4 2 = 0 → CI X 35 [vR (some 146), vI x3] τ9 (fun r19 τ13 => CI X 33 [vR (some 146)] τ13 (fun r20 τ14 => CI X 26 [vR (some 157), vI x2] τ14 (fun r21 τ15 => CI X 26 [vR (some 157), vI x3] τ15 (fun r22 τ16 => (0 ≤ x4 ∧ x4 < 4) ∧ Ev X 25 2 [some (vR (some 157)), some (vR (some p1)), some (vI x2), some (vI x3), some (vI (x4 + 1))] [] (τ16.1, up2 τ16.2 159 x4.toNat (r21 - r22)) Q)))))))))) : Ev X 25 2 [some (vR (some 157)), some (vR (some p1)), some (vI x2), some (vI x3), some (vI x4)] [] σ Q := by
  have hcd : cds 25 = cd_25 := rfl
  iterate 2 (refine e_nx hcd rfl rfl ?_)
  obtain ⟨h1, H⟩ := H
  refine r_icmp hcd rfl h1 (by omega) (fun hc => ?_) (fun hc => ?_)
  · replace H := H.1 hc
    exact r_vret hcd rfl rfl rfl H
  · replace H := H.2 hc
    refine e_nx hcd rfl rfl ?_
    refine r_getR hcd rfl rfl rfl ?_
    refine e_nx hcd rfl rfl ?_
    refine r_cv hcd rfl (by omega) rfl rfl rfl (Nat.le_of_ble_eq_true rfl) ?_
    refine Cl.mono H (fun v τ1 hq => ?_)
    obtain ⟨rfl, H⟩ := hq
    show Ev X 25 9 _ [] τ1 Q
    iterate 3 (refine e_nx hcd rfl rfl ?_)
    obtain ⟨h2, H⟩ := H
    refine r_if hcd rfl h2 (fun hc => ?_) (fun hc => ?_)
    · replace H := H.1 hc
      iterate 3 (refine e_nx hcd rfl rfl ?_)
      obtain ⟨h3, H⟩ := H
      refine r_if hcd rfl h3 (fun hc => ?_) (fun hc => ?_)
      · replace H := H.1 hc
        refine e_nx hcd rfl rfl ?_
        refine r_getR hcd rfl rfl rfl ?_
        refine r_cv hcd rfl (by omega) rfl rfl rfl (Nat.le_of_ble_eq_true rfl) ?_
        refine Cl.mono H (fun v τ2 hq => ?_)
        obtain ⟨r4, rfl, H⟩ := hq
        show Ev X 25 30 _ [vI r4] τ2 Q
        iterate 2 (refine e_nx hcd rfl rfl ?_)
        refine r_getR hcd rfl rfl rfl ?_
        iterate 3 (refine e_nx hcd rfl rfl ?_)
        refine r_cv hcd rfl (by omega) rfl rfl rfl (Nat.le_of_ble_eq_true rfl) ?_
        refine Cl.mono H (fun v τ3 hq => ?_)
        obtain ⟨r5, rfl, H⟩ := hq
        show Ev X 25 37 _ [vI r5, vI x4, vR (some 159)] τ3 Q
        iterate 2 (refine e_nx hcd rfl rfl ?_)
        refine r_cv hcd rfl (by omega) rfl rfl rfl (Nat.le_of_ble_eq_true rfl) ?_
        refine Cl.mono H (fun v τ4 hq => ?_)
        obtain ⟨r6, rfl, H⟩ := hq
        show Ev X 25 40 _ [vI r6, vI r5, vI x4, vR (some 159)] τ4 Q
        refine e_nx hcd rfl rfl ?_
        obtain ⟨h7, H⟩ := H
        refine r_ist hcd rfl rfl (by omega) h7 ?_
        refine e_nx hcd rfl rfl ?_
        show Ev X 25 43 [some (vR (some 157)), some (vR (some p1)), some (vI x2), some (vI x3), some (vI (x4 + 1))] [] _ Q
        refine e_nx hcd rfl rfl ?_
        exact H
      · replace H := H.2 hc
        refine e_nx hcd rfl rfl ?_
        refine r_getR hcd rfl rfl rfl ?_
        refine e_nx hcd rfl rfl ?_
        refine r_cv hcd rfl (by omega) rfl rfl rfl (Nat.le_of_ble_eq_true rfl) ?_
        refine Cl.mono H (fun v τ5 hq => ?_)
        obtain ⟨r8, rfl, H⟩ := hq
        show Ev X 25 26 _ [vI r8] τ5 Q
        iterate 2 (refine e_nx hcd rfl rfl ?_)
        refine r_getR hcd rfl rfl rfl ?_
        refine r_cv hcd rfl (by omega) rfl rfl rfl (Nat.le_of_ble_eq_true rfl) ?_
        refine Cl.mono H (fun v τ6 hq => ?_)
        obtain ⟨r9, rfl, H⟩ := hq
        show Ev X 25 30 _ [vI r9] τ6 Q
        iterate 2 (refine e_nx hcd rfl rfl ?_)
        refine r_getR hcd rfl rfl rfl ?_
        iterate 3 (refine e_nx hcd rfl rfl ?_)
        refine r_cv hcd rfl (by omega) rfl rfl rfl (Nat.le_of_ble_eq_true rfl) ?_
        refine Cl.mono H (fun v τ7 hq => ?_)
        obtain ⟨r10, rfl, H⟩ := hq
        show Ev X 25 37 _ [vI r10, vI x4, vR (some 159)] τ7 Q
        iterate 2 (refine e_nx hcd rfl rfl ?_)
        refine r_cv hcd rfl (by omega) rfl rfl rfl (Nat.le_of_ble_eq_true rfl) ?_
        refine Cl.mono H (fun v τ8 hq => ?_)
        obtain ⟨r11, rfl, H⟩ := hq
        show Ev X 25 40 _ [vI r11, vI r10, vI x4, vR (some 159)] τ8 Q
        refine e_nx hcd rfl rfl ?_
        obtain ⟨h12, H⟩ := H
        refine r_ist hcd rfl rfl (by omega) h12 ?_
        refine e_nx hcd rfl rfl ?_
        show Ev X 25 43 [some (vR (some 157)), some (vR (some p1)), some (vI x2), some (vI x3), some (vI (x4 + 1))] [] _ Q
        refine e_nx hcd rfl rfl ?_
        exact H
    · replace H := H.2 hc
      refine e_nx hcd rfl rfl ?_
      refine r_getR hcd rfl rfl rfl ?_
      refine e_nx hcd rfl rfl ?_
      refine r_cv hcd rfl (by omega) rfl rfl rfl (Nat.le_of_ble_eq_true rfl) ?_
      refine Cl.mono H (fun v τ9 hq => ?_)
      obtain ⟨r13, rfl, H⟩ := hq
      show Ev X 25 17 _ [vI r13] τ9 Q
      iterate 4 (refine e_nx hcd rfl rfl ?_)
      obtain ⟨h14, H⟩ := H
      refine r_if hcd rfl h14 (fun hc => ?_) (fun hc => ?_)
      · replace H := H.1 hc
        refine e_nx hcd rfl rfl ?_
        refine r_getR hcd rfl rfl rfl ?_
        refine r_cv hcd rfl (by omega) rfl rfl rfl (Nat.le_of_ble_eq_true rfl) ?_
        refine Cl.mono H (fun v τ10 hq => ?_)
        obtain ⟨r15, rfl, H⟩ := hq
        show Ev X 25 30 _ [vI r15] τ10 Q
        iterate 2 (refine e_nx hcd rfl rfl ?_)
        refine r_getR hcd rfl rfl rfl ?_
        iterate 3 (refine e_nx hcd rfl rfl ?_)
        refine r_cv hcd rfl (by omega) rfl rfl rfl (Nat.le_of_ble_eq_true rfl) ?_
        refine Cl.mono H (fun v τ11 hq => ?_)
        obtain ⟨r16, rfl, H⟩ := hq
        show Ev X 25 37 _ [vI r16, vI x4, vR (some 159)] τ11 Q
        iterate 2 (refine e_nx hcd rfl rfl ?_)
        refine r_cv hcd rfl (by omega) rfl rfl rfl (Nat.le_of_ble_eq_true rfl) ?_
        refine Cl.mono H (fun v τ12 hq => ?_)
        obtain ⟨r17, rfl, H⟩ := hq
        show Ev X 25 40 _ [vI r17, vI r16, vI x4, vR (some 159)] τ12 Q
        refine e_nx hcd rfl rfl ?_
        obtain ⟨h18, H⟩ := H
        refine r_ist hcd rfl rfl (by omega) h18 ?_
        refine e_nx hcd rfl rfl ?_
        show Ev X 25 43 [some (vR (some 157)), some (vR (some p1)), some (vI x2), some (vI x3), some (vI (x4 + 1))] [] _ Q
        refine e_nx hcd rfl rfl ?_
        exact H
      · replace H := H.2 hc
        refine e_nx hcd rfl rfl ?_
        refine r_getR hcd rfl rfl rfl ?_
        refine e_nx hcd rfl rfl ?_
        refine r_cv hcd rfl (by omega) rfl rfl rfl (Nat.le_of_ble_eq_true rfl) ?_
        refine Cl.mono H (fun v τ13 hq => ?_)
        obtain ⟨r19, rfl, H⟩ := hq
        show Ev X 25 26 _ [vI r19] τ13 Q
        iterate 2 (refine e_nx hcd rfl rfl ?_)
        refine r_getR hcd rfl rfl rfl ?_
        refine r_cv hcd rfl (by omega) rfl rfl rfl (Nat.le_of_ble_eq_true rfl) ?_
        refine Cl.mono H (fun v τ14 hq => ?_)
        obtain ⟨r20, rfl, H⟩ := hq
        show Ev X 25 30 _ [vI r20] τ14 Q
        iterate 2 (refine e_nx hcd rfl rfl ?_)
        refine r_getR hcd rfl rfl rfl ?_
        iterate 3 (refine e_nx hcd rfl rfl ?_)
        refine r_cv hcd rfl (by omega) rfl rfl rfl (Nat.le_of_ble_eq_true rfl) ?_
        refine Cl.mono H (fun v τ15 hq => ?_)
        obtain ⟨r21, rfl, H⟩ := hq
        show Ev X 25 37 _ [vI r21, vI x4, vR (some 159)] τ15 Q
        iterate 2 (refine e_nx hcd rfl rfl ?_)
        refine r_cv hcd rfl (by omega) rfl rfl rfl (Nat.le_of_ble_eq_true rfl) ?_
        refine Cl.mono H (fun v τ16 hq => ?_)
        obtain ⟨r22, rfl, H⟩ := hq
        show Ev X 25 40 _ [vI r22, vI r21, vI x4, vR (some 159)] τ16 Q
        refine e_nx hcd rfl rfl ?_
        obtain ⟨h23, H⟩ := H
        refine r_ist hcd rfl rfl (by omega) h23 ?_
        refine e_nx hcd rfl rfl ?_
        show Ev X 25 43 [some (vR (some 157)), some (vR (some p1)), some (vI x2), some (vI x3), some (vI (x4 + 1))] [] _ Q
        refine e_nx hcd rfl rfl ?_
        exact H
/-! X2_goodsOf -/
theorem v_26 {X : PX} {σ : Sg} {Q : Option PV → Sg → Prop} {a1 : Int}  (H : CI X 82 [vR (some 147), vI a1] σ (fun r1 τ1 => InR r1 ∧ (r1 = 0 → Q (some (vI 0)) τ1) ∧ (¬ r1 = 0 → (0 ≤ a1 ∧ a1 < 7) ∧ Q (some (vI (τ1.2 148 a1.toNat))) τ1))) : Cl X 26 [vR (some 157), vI a1] σ Q := by
  have hcd : cds 26 = cd_26 := rfl
  refine c_in (Nat.le_of_ble_eq_true rfl) rfl rfl ?_
  show Ev X 26 0 [some (vR (some 157)), some (vI a1)] [] σ Q
  refine e_nx hcd rfl rfl ?_
  refine r_getR hcd rfl rfl rfl ?_
  refine r_getR hcd rfl rfl rfl ?_
  refine e_nx hcd rfl rfl ?_
  refine r_cv hcd rfl (by omega) rfl rfl rfl (Nat.le_of_ble_eq_true rfl) ?_
  refine Cl.mono H (fun v τ1 hq => ?_)
  obtain ⟨r1, rfl, H⟩ := hq
  show Ev X 26 5 _ [vI r1] τ1 Q
  obtain ⟨h2, H⟩ := H
  refine r_if hcd rfl h2 (fun hc => ?_) (fun hc => ?_)
  · replace H := H.1 hc
    refine e_nx hcd rfl rfl ?_
    exact r_iret hcd rfl rfl rfl H
  · replace H := H.2 hc
    refine e_nx hcd rfl rfl ?_
    refine r_getR hcd rfl rfl rfl ?_
    refine r_getR hcd rfl rfl rfl ?_
    refine r_getR hcd rfl rfl rfl ?_
    refine e_nx hcd rfl rfl ?_
    obtain ⟨h3, H⟩ := H
    refine r_ild hcd rfl rfl (by omega) h3 ?_
    refine e_nx hcd rfl rfl ?_
    exact r_iret hcd rfl rfl rfl H
/-! X2_takeTurn -/
set_option maxRecDepth 20000 in
set_option maxHeartbeats 8000000 in
theorem v_27 {X : PX} {σ : Sg} {Q : Option PV → Sg → Prop} {p1 : Nat} {a1 : Int} {a2 : Int} {a3 : Int} (hp1 : p1 ∈ parL) (H : InR (iRem a3 2) ∧ (iRem a3 2 ≠ 0 → CV X 29 [vR (some 146), vR (some p1)] σ (fun τ1 => CI X 34 [vR (some 146), vI a2] τ1 (fun r2 τ2 => InR r2 ∧ (r2 ≠ 0 → Ev X 27 30 [some (vR (some 157)), none, none, none, none, some (vI 0), some (vI 2), some (vI 0), none] [] τ2 Q) ∧ (¬ r2 ≠ 0 → Q none τ2)))) ∧ (¬ iRem a3 2 ≠ 0 → CV X 29 [vR (some 146), vR (some p1)] σ (fun τ3 => CI X 34 [vR (some 146), vI a1] τ3 (fun r4 τ4 => InR r4 ∧ (r4 ≠ 0 → Ev X 27 30 [some (vR (some 157)), none, none, none, none, some (vI 1), some (vI 1), some (vI 0), none] [] τ4 Q) ∧ (¬ r4 ≠ 0 → Q none τ4))))) : Cl X 27 [vR (some 157), vR (some p1), vI a1, vI a2, vI a3] σ Q := by
  have hcd : cds 27 = cd_27 := rfl
  refine c_in (Nat.le_of_ble_eq_true rfl) rfl rfl ?_
  show Ev X 27 0 [some (vR (some 157)), some (vR (some p1)), some (vI a1), some (vI a2), some (vI a3), none, none, none, none] [] σ Q
  iterate 2 (refine e_nx hcd rfl rfl ?_)
  refine r_rem hcd rfl (by omega) (by omega) ?_
  obtain ⟨h1, H⟩ := H
  refine r_if hcd rfl h1 (fun hc => ?_) (fun hc => ?_)
  · replace H := H.1 hc
    iterate 2 (refine e_nx hcd rfl rfl ?_)
    show Ev X 27 8 [some (vR (some 157)), some (vR (some p1)), some (vI a1), some (vI a2), some (vI a3), some (vI 0), none, none, none] [] _ Q
    refine e_nx hcd rfl rfl ?_
    refine r_if hcd rfl (by omega) (fun hc => ?_) (fun hc => ?_)
    · refine e_nx hcd rfl rfl ?_
      refine e_nx hcd rfl rfl ?_
      show Ev X 27 14 [some (vR (some 157)), some (vR (some p1)), some (vI a1), some (vI a2), some (vI a3), some (vI 0), some (vI 2), none, none] [] _ Q
      refine e_nx hcd rfl rfl ?_
      refine r_getR hcd rfl rfl rfl ?_
      refine e_nx hcd rfl rfl ?_
      refine r_cv hcd rfl (by omega) rfl rfl rfl (Nat.le_of_ble_eq_true rfl) ?_
      refine Cl.mono H (fun v τ1 hq => ?_)
      obtain ⟨rfl, H⟩ := hq
      show Ev X 27 18 _ [] τ1 Q
      refine e_nx hcd rfl rfl ?_
      refine r_getR hcd rfl rfl rfl ?_
      refine e_nx hcd rfl rfl ?_
      refine r_if hcd rfl (by omega) (fun hc => ?_) (fun hc => ?_)
      · refine e_nx hcd rfl rfl ?_
        refine r_cv hcd rfl (by omega) rfl rfl rfl (Nat.le_of_ble_eq_true rfl) ?_
        refine Cl.mono H (fun v τ2 hq => ?_)
        obtain ⟨r2, rfl, H⟩ := hq
        show Ev X 27 26 _ [vI r2] τ2 Q
        obtain ⟨h3, H⟩ := H
        refine r_if hcd rfl h3 (fun hc => ?_) (fun hc => ?_)
        · replace H := H.1 hc
          iterate 2 (refine e_nx hcd rfl rfl ?_)
          show Ev X 27 30 [some (vR (some 157)), some (vR (some p1)), some (vI a1), some (vI a2), some (vI a3), some (vI 0), some (vI 2), some (vI 0), none] [] _ Q
          refine e_fg [1, 2, 3, 4] ?_
          exact H
        · replace H := H.2 hc
          exact r_vret hcd rfl rfl rfl H
      · exact absurd hc (by simp [cmpP])
    · exact absurd hc (by simp [cmpP])
  · replace H := H.2 hc
    iterate 3 (refine e_nx hcd rfl rfl ?_)
    show Ev X 27 8 [some (vR (some 157)), some (vR (some p1)), some (vI a1), some (vI a2), some (vI a3), some (vI 1), none, none, none] [] _ Q
    refine e_nx hcd rfl rfl ?_
    refine r_if hcd rfl (by omega) (fun hc => ?_) (fun hc => ?_)
    · exact absurd hc (by simp [cmpP])
    · refine e_nx hcd rfl rfl ?_
      iterate 2 (refine e_nx hcd rfl rfl ?_)
      show Ev X 27 14 [some (vR (some 157)), some (vR (some p1)), some (vI a1), some (vI a2), some (vI a3), some (vI 1), some (vI 1), none, none] [] _ Q
      refine e_nx hcd rfl rfl ?_
      refine r_getR hcd rfl rfl rfl ?_
      refine e_nx hcd rfl rfl ?_
      refine r_cv hcd rfl (by omega) rfl rfl rfl (Nat.le_of_ble_eq_true rfl) ?_
      refine Cl.mono H (fun v τ3 hq => ?_)
      obtain ⟨rfl, H⟩ := hq
      show Ev X 27 18 _ [] τ3 Q
      refine e_nx hcd rfl rfl ?_
      refine r_getR hcd rfl rfl rfl ?_
      refine e_nx hcd rfl rfl ?_
      refine r_if hcd rfl (by omega) (fun hc => ?_) (fun hc => ?_)
      · exact absurd hc (by simp [cmpP])
      · refine e_nx hcd rfl rfl ?_
        refine e_nx hcd rfl rfl ?_
        refine r_cv hcd rfl (by omega) rfl rfl rfl (Nat.le_of_ble_eq_true rfl) ?_
        refine Cl.mono H (fun v τ4 hq => ?_)
        obtain ⟨r4, rfl, H⟩ := hq
        show Ev X 27 26 _ [vI r4] τ4 Q
        obtain ⟨h5, H⟩ := H
        refine r_if hcd rfl h5 (fun hc => ?_) (fun hc => ?_)
        · replace H := H.1 hc
          iterate 2 (refine e_nx hcd rfl rfl ?_)
          show Ev X 27 30 [some (vR (some 157)), some (vR (some p1)), some (vI a1), some (vI a2), some (vI a3), some (vI 1), some (vI 1), some (vI 0), none] [] _ Q
          refine e_fg [1, 2, 3, 4] ?_
          exact H
        · replace H := H.2 hc
          exact r_vret hcd rfl rfl rfl H
set_option maxRecDepth 20000 in
set_option maxHeartbeats 8000000 in
theorem v_27_30 {X : PX} {σ : Sg} {Q : Option PV → Sg → Prop} {x5 : Int} {x6 : Int} {x7 : Int}  (H : InR x7 ∧ (4 ≤ x7 → Q none σ) ∧ (¬ 4 ≤ x7 → InR (iAnd x7 x6) ∧ (iAnd x7 x6 ≠ 0 → Ev X 27 30 [some (vR (some 157)), none, none, none, none, some (vI x5), some (vI x6), some (vI (x7 + 1)), none] [] σ Q) ∧ (¬ iAnd x7 x6 ≠ 0 → (0 ≤ iOr x7 x6 ∧ iOr x7 x6 < 4) ∧ InR x5 ∧ (x5 = 0 → (0 ≤ x7 ∧ x7 < 4) ∧ InR (σ.2 159 x7.toNat) ∧ InR (σ.2 159 (iOr x7 x6).toNat) ∧ Ev X 27 30 [some (vR (some 157)), none, none, none, none, some (vI x5), some (vI x6), some (vI (x7 + 1)), none] [] (σ.1, up2 σ.2 159 x7.toNat (min (σ.2 159 x7.toNat) (σ.2 159 (iOr x7 x6).toNat))) Q) ∧ (¬ x5 = 0 → (0 ≤ x7 ∧ x7 < 4) ∧ InR (σ.2 159 x7.toNat) ∧ InR (σ.2 159 (iOr x7 x6).toNat) ∧ Ev X 27 30 [some (vR (some 157)), none, none, none, none, some (vI x5), some (vI x6), some (vI (x7 + 1)), none] [] (σ.1, up2 σ.2 159 x7.toNat (max (σ.2 159 x7.toNat) (σ.2 159 (iOr x7 x6).toNat))) Q)))) : Ev X 27 30 [some (vR (some 157)), none, none, none, none, some (vI x5), some (vI x6), some (vI x7), none] [] σ Q := by
  have hcd : cds 27 = cd_27 := rfl
  iterate 2 (refine e_nx hcd rfl rfl ?_)
  obtain ⟨h1, H⟩ := H
  refine r_icmp hcd rfl h1 (by omega) (fun hc => ?_) (fun hc => ?_)
  · replace H := H.1 hc
    exact r_vret hcd rfl rfl rfl H
  · replace H := H.2 hc
    iterate 3 (refine e_nx hcd rfl rfl ?_)
    obtain ⟨h2, H⟩ := H
    refine r_if hcd rfl h2 (fun hc => ?_) (fun hc => ?_)
    · replace H := H.1 hc
      refine e_nx hcd rfl rfl ?_
      show Ev X 27 64 [some (vR (some 157)), none, none, none, none, some (vI x5), some (vI x6), some (vI (x7 + 1)), none] [] _ Q
      refine e_nx hcd rfl rfl ?_
      exact H
    · replace H := H.2 hc
      refine e_nx hcd rfl rfl ?_
      refine r_getR hcd rfl rfl rfl ?_
      iterate 3 (refine e_nx hcd rfl rfl ?_)
      obtain ⟨h3, H⟩ := H
      refine r_ild hcd rfl rfl (by omega) h3 ?_
      refine e_nx hcd rfl rfl ?_
      show Ev X 27 44 [some (vR (some 157)), none, none, none, none, some (vI x5), some (vI x6), some (vI x7), some (vI (σ.2 159 (iOr x7 x6).toNat))] [] _ Q
      refine e_nx hcd rfl rfl ?_
      refine r_getR hcd rfl rfl rfl ?_
      iterate 2 (refine e_nx hcd rfl rfl ?_)
      obtain ⟨h4, H⟩ := H
      refine r_if hcd rfl h4 (fun hc => ?_) (fun hc => ?_)
      · replace H := H.1 hc
        refine e_nx hcd rfl rfl ?_
        refine r_getR hcd rfl rfl rfl ?_
        refine e_nx hcd rfl rfl ?_
        obtain ⟨h5, H⟩ := H
        refine r_ild hcd rfl rfl (by omega) h5 ?_
        refine e_nx hcd rfl rfl ?_
        obtain ⟨h6, H⟩ := H
        obtain ⟨h7, H⟩ := H
        refine r_min hcd rfl h6 h7 (Nat.le_of_ble_eq_true rfl) ?_
        refine r_ist hcd rfl rfl (by omega) h5 ?_
        refine e_nx hcd rfl rfl ?_
        show Ev X 27 64 [some (vR (some 157)), none, none, none, none, some (vI x5), some (vI x6), some (vI (x7 + 1)), some (vI (σ.2 159 (iOr x7 x6).toNat))] [] _ Q
        refine e_nx hcd rfl rfl ?_
        refine e_fg [8] ?_
        exact H
      · replace H := H.2 hc
        refine e_nx hcd rfl rfl ?_
        refine r_getR hcd rfl rfl rfl ?_
        refine e_nx hcd rfl rfl ?_
        obtain ⟨h8, H⟩ := H
        refine r_ild hcd rfl rfl (by omega) h8 ?_
        refine e_nx hcd rfl rfl ?_
        obtain ⟨h9, H⟩ := H
        obtain ⟨h10, H⟩ := H
        refine r_max hcd rfl h9 h10 (Nat.le_of_ble_eq_true rfl) ?_
        refine e_nx hcd rfl rfl ?_
        refine r_ist hcd rfl rfl (by omega) h8 ?_
        refine e_nx hcd rfl rfl ?_
        show Ev X 27 64 [some (vR (some 157)), none, none, none, none, some (vI x5), some (vI x6), some (vI (x7 + 1)), some (vI (σ.2 159 (iOr x7 x6).toNat))] [] _ Q
        refine e_nx hcd rfl rfl ?_
        refine e_fg [8] ?_
        exact H
/-! X3_begin -/
theorem v_29 {X : PX} {σ : Sg} {Q : Option PV → Sg → Prop} {p1 : Nat} (hp1 : p1 ∈ parL) (H : CV X 79 [vR (some 147), vR (some p1)] σ (fun τ1 => CV X 30 [vR (some 146)] (up2 (up2 (up2 (up2 (up2 (up2 (up2 τ1.1 146 2 0) 146 3 0) 146 4 0) 146 5 0) 146 7 0) 146 8 (-1)) 146 9 0, τ1.2) (fun τ2 => Q none τ2))) : Cl X 29 [vR (some 146), vR (some p1)] σ Q := by
  have hcd : cds 29 = cd_29 := rfl
  refine c_in (Nat.le_of_ble_eq_true rfl) rfl rfl ?_
  show Ev X 29 0 [some (vR (some 146)), some (vR (some p1))] [] σ Q
  refine e_nx hcd rfl rfl ?_
  refine r_getR hcd rfl rfl rfl ?_
  refine e_nx hcd rfl rfl ?_
  refine r_cv hcd rfl (by omega) rfl rfl rfl (Nat.le_of_ble_eq_true rfl) ?_
  refine Cl.mono H (fun v τ1 hq => ?_)
  obtain ⟨rfl, H⟩ := hq
  show Ev X 29 4 _ [] τ1 Q
  iterate 2 (refine e_nx hcd rfl rfl ?_)
  refine r_putI hcd rfl rfl rfl rfl ?_
  iterate 2 (refine e_nx hcd rfl rfl ?_)
  refine r_putI hcd rfl rfl rfl rfl ?_
  iterate 2 (refine e_nx hcd rfl rfl ?_)
  refine r_putI hcd rfl rfl rfl rfl ?_
  iterate 2 (refine e_nx hcd rfl rfl ?_)
  refine r_putI hcd rfl rfl rfl rfl ?_
  iterate 2 (refine e_nx hcd rfl rfl ?_)
  refine r_putI hcd rfl rfl rfl rfl ?_
  iterate 2 (refine e_nx hcd rfl rfl ?_)
  refine r_putI hcd rfl rfl rfl rfl ?_
  iterate 2 (refine e_nx hcd rfl rfl ?_)
  refine r_putI hcd rfl rfl rfl rfl ?_
  refine e_nx hcd rfl rfl ?_
  refine r_cv hcd rfl (by omega) rfl rfl rfl (Nat.le_of_ble_eq_true rfl) ?_
  refine Cl.mono H (fun v τ2 hq => ?_)
  obtain ⟨rfl, H⟩ := hq
  show Ev X 29 27 _ [] τ2 Q
  exact r_vret hcd rfl rfl rfl H
/-! X3_assess -/
theorem v_30 {X : PX} {σ : Sg} {Q : Option PV → Sg → Prop}   (H : CI X 86 [vR (some 147), vI (σ.1 147 3), vI (σ.1 146 5)] σ (fun r1 τ1 => CV X 55 [vR (some 154), vR (some 147), vI (τ1.1 147 0), vI r1] (up2 τ1.1 146 6 r1, τ1.2) (fun τ2 => Q none τ2))) : Cl X 30 [vR (some 146)] σ Q := by
  have hcd : cds 30 = cd_30 := rfl
  refine c_in (Nat.le_of_ble_eq_true rfl) rfl rfl ?_
  show Ev X 30 0 [some (vR (some 146))] [] σ Q
  iterate 2 (refine e_nx hcd rfl rfl ?_)
  refine r_getR hcd rfl rfl rfl ?_
  refine e_nx hcd rfl rfl ?_
  refine r_getR hcd rfl rfl rfl ?_
  refine r_getI hcd rfl rfl rfl ?_
  refine e_nx hcd rfl rfl ?_
  refine r_getI hcd rfl rfl rfl ?_
  refine r_cv hcd rfl (by omega) rfl rfl rfl (Nat.le_of_ble_eq_true rfl) ?_
  refine Cl.mono H (fun v τ1 hq => ?_)
  obtain ⟨r1, rfl, H⟩ := hq
  show Ev X 30 9 _ [vI r1, vR (some 146)] τ1 Q
  refine r_putI hcd rfl rfl rfl rfl ?_
  refine e_nx hcd rfl rfl ?_
  refine r_getR hcd rfl rfl rfl ?_
  refine e_nx hcd rfl rfl ?_
  refine r_getR hcd rfl rfl rfl ?_
  refine e_nx hcd rfl rfl ?_
  refine r_getR hcd rfl rfl rfl ?_
  refine r_getI hcd rfl rfl rfl ?_
  show Ev X 30 17 _ [vI (τ1.1 147 0), vR (some 147), vR (some 154)] _ Q
  refine e_nx hcd rfl rfl ?_
  refine r_getI hcd rfl rfl rfl ?_
  show Ev X 30 19 _ [vI r1, vI (τ1.1 147 0), vR (some 147), vR (some 154)] _ Q
  refine r_cv hcd rfl (by omega) rfl rfl rfl (Nat.le_of_ble_eq_true rfl) ?_
  refine Cl.mono H (fun v τ2 hq => ?_)
  obtain ⟨rfl, H⟩ := hq
  show Ev X 30 20 _ [] τ2 Q
  exact r_vret hcd rfl rfl rfl H
/-! X3_isExempt -/
theorem v_31 {X : PX} {σ : Sg} {Q : Option PV → Sg → Prop} {a1 : Int}  (H : InR (iAnd (iShr (σ.1 146 6) a1) 1) ∧ (iAnd (iShr (σ.1 146 6) a1) 1 = 0 → Q (some (vI 0)) σ) ∧ (¬ iAnd (iShr (σ.1 146 6) a1) 1 = 0 → Q (some (vI 1)) σ)) : Cl X 31 [vR (some 146), vI a1] σ Q := by
  have hcd : cds 31 = cd_31 := rfl
  refine c_in (Nat.le_of_ble_eq_true rfl) rfl rfl ?_
  show Ev X 31 0 [some (vR (some 146)), some (vI a1)] [] σ Q
  refine e_nx hcd rfl rfl ?_
  refine r_getI hcd rfl rfl rfl ?_
  iterate 4 (refine e_nx hcd rfl rfl ?_)
  obtain ⟨h1, H⟩ := H
  refine r_if hcd rfl h1 (fun hc => ?_) (fun hc => ?_)
  · replace H := H.1 hc
    refine e_nx hcd rfl rfl ?_
    exact r_zret hcd rfl rfl rfl (by omega) H
  · replace H := H.2 hc
    iterate 2 (refine e_nx hcd rfl rfl ?_)
    exact r_zret hcd rfl rfl rfl (by omega) H
/-! X3_act -/
set_option maxRecDepth 20000 in
set_option maxHeartbeats 8000000 in
theorem v_32 {X : PX} {σ : Sg} {Q : Option PV → Sg → Prop} {a1 : Int} {a2 : Int}  (H : InR a1 ∧ (a1 = 0 → InR (σ.1 146 2) ∧ (50 ≤ σ.1 146 2 → Q (some (vI 0)) σ) ∧ (¬ 50 ≤ σ.1 146 2 → CI X 33 [vR (some 146)] σ (fun r3 τ1 => InR r3 ∧ (r3 = 0 → Q (some (vI 0)) τ1) ∧ (¬ r3 = 0 → Q (some (vI 1)) τ1)))) ∧ (a1 = 1 → CI X 35 [vR (some 146), vI a2] σ (fun r5 τ2 => (r5 = 0 ∨ r5 = 1) ∧ Q (some (vI r5)) τ2)) ∧ (a1 = 2 → CI X 36 [vR (some 146), vI a2] σ (fun r7 τ3 => (r7 = 0 ∨ r7 = 1) ∧ Q (some (vI r7)) τ3)) ∧ (a1 = 3 → CI X 37 [vR (some 146), vI a2] σ (fun r9 τ4 => (r9 = 0 ∨ r9 = 1) ∧ Q (some (vI r9)) τ4)) ∧ (a1 = 4 → CI X 38 [vR (some 146), vI a2] σ (fun r11 τ5 => (r11 = 0 ∨ r11 = 1) ∧ Q (some (vI r11)) τ5)) ∧ (a1 = 5 → CI X 39 [vR (some 146), vI a2] σ (fun r13 τ6 => (r13 = 0 ∨ r13 = 1) ∧ Q (some (vI r13)) τ6)) ∧ (a1 ≠ 0 ∧ a1 ≠ 1 ∧ a1 ≠ 2 ∧ a1 ≠ 3 ∧ a1 ≠ 4 ∧ a1 ≠ 5 → Q (some (vI 0)) σ)) : Cl X 32 [vR (some 146), vI a1, vI a2] σ Q := by
  have hcd : cds 32 = cd_32 := rfl
  refine c_in (Nat.le_of_ble_eq_true rfl) rfl rfl ?_
  show Ev X 32 0 [some (vR (some 146)), some (vI a1), some (vI a2)] [] σ Q
  refine e_nx hcd rfl rfl ?_
  obtain ⟨h1, H⟩ := H
  refine r_tab hcd rfl h1 ?_
  by_cases hs15 : a1 = 0
  · replace H := H.1 hs15
    refine e_pc (i2 := 2) (by rw [hs15]; rfl) ?_
    refine e_nx hcd rfl rfl ?_
    refine r_getI hcd rfl rfl rfl ?_
    refine e_nx hcd rfl rfl ?_
    obtain ⟨h2, H⟩ := H
    refine r_icmp hcd rfl h2 (by omega) (fun hc => ?_) (fun hc => ?_)
    · replace H := H.1 hc
      refine e_nx hcd rfl rfl ?_
      exact r_zret hcd rfl rfl rfl (by omega) H
    · replace H := H.2 hc
      refine e_nx hcd rfl rfl ?_
      refine r_cv hcd rfl (by omega) rfl rfl rfl (Nat.le_of_ble_eq_true rfl) ?_
      refine Cl.mono H (fun v τ1 hq => ?_)
      obtain ⟨r3, rfl, H⟩ := hq
      show Ev X 32 8 _ [vI r3] τ1 Q
      obtain ⟨h4, H⟩ := H
      refine r_if hcd rfl h4 (fun hc => ?_) (fun hc => ?_)
      · replace H := H.1 hc
        refine e_nx hcd rfl rfl ?_
        exact r_zret hcd rfl rfl rfl (by omega) H
      · replace H := H.2 hc
        iterate 2 (refine e_nx hcd rfl rfl ?_)
        exact r_zret hcd rfl rfl rfl (by omega) H
  by_cases hs16 : a1 = 1
  · replace H := H.2.1 hs16
    refine e_pc (i2 := 13) (by rw [hs16]; rfl) ?_
    iterate 2 (refine e_nx hcd rfl rfl ?_)
    refine r_cv hcd rfl (by omega) rfl rfl rfl (Nat.le_of_ble_eq_true rfl) ?_
    refine Cl.mono H (fun v τ2 hq => ?_)
    obtain ⟨r5, rfl, H⟩ := hq
    show Ev X 32 16 _ [vI r5] τ2 Q
    obtain ⟨h6, H⟩ := H
    exact r_zret hcd rfl rfl rfl h6 H
  by_cases hs17 : a1 = 2
  · replace H := H.2.2.1 hs17
    refine e_pc (i2 := 17) (by rw [hs17]; rfl) ?_
    iterate 2 (refine e_nx hcd rfl rfl ?_)
    refine r_cv hcd rfl (by omega) rfl rfl rfl (Nat.le_of_ble_eq_true rfl) ?_
    refine Cl.mono H (fun v τ3 hq => ?_)
    obtain ⟨r7, rfl, H⟩ := hq
    show Ev X 32 20 _ [vI r7] τ3 Q
    obtain ⟨h8, H⟩ := H
    exact r_zret hcd rfl rfl rfl h8 H
  by_cases hs18 : a1 = 3
  · replace H := H.2.2.2.1 hs18
    refine e_pc (i2 := 21) (by rw [hs18]; rfl) ?_
    iterate 2 (refine e_nx hcd rfl rfl ?_)
    refine r_cv hcd rfl (by omega) rfl rfl rfl (Nat.le_of_ble_eq_true rfl) ?_
    refine Cl.mono H (fun v τ4 hq => ?_)
    obtain ⟨r9, rfl, H⟩ := hq
    show Ev X 32 24 _ [vI r9] τ4 Q
    obtain ⟨h10, H⟩ := H
    exact r_zret hcd rfl rfl rfl h10 H
  by_cases hs19 : a1 = 4
  · replace H := H.2.2.2.2.1 hs19
    refine e_pc (i2 := 25) (by rw [hs19]; rfl) ?_
    iterate 2 (refine e_nx hcd rfl rfl ?_)
    refine r_cv hcd rfl (by omega) rfl rfl rfl (Nat.le_of_ble_eq_true rfl) ?_
    refine Cl.mono H (fun v τ5 hq => ?_)
    obtain ⟨r11, rfl, H⟩ := hq
    show Ev X 32 28 _ [vI r11] τ5 Q
    obtain ⟨h12, H⟩ := H
    exact r_zret hcd rfl rfl rfl h12 H
  by_cases hs20 : a1 = 5
  · replace H := H.2.2.2.2.2.1 hs20
    refine e_pc (i2 := 29) (by rw [hs20]; rfl) ?_
    iterate 2 (refine e_nx hcd rfl rfl ?_)
    refine r_cv hcd rfl (by omega) rfl rfl rfl (Nat.le_of_ble_eq_true rfl) ?_
    refine Cl.mono H (fun v τ6 hq => ?_)
    obtain ⟨r13, rfl, H⟩ := hq
    show Ev X 32 32 _ [vI r13] τ6 Q
    obtain ⟨h14, H⟩ := H
    exact r_zret hcd rfl rfl rfl h14 H
  replace H := H.2.2.2.2.2.2 ⟨hs15, hs16, hs17, hs18, hs19, hs20⟩
  refine e_pc (i2 := 33) (tab_def (lo := 0) (hi := 5) (fun h1 h2 => ?_)) ?_
  · omega
  · refine e_nx hcd rfl rfl ?_
    exact r_zret hcd rfl rfl rfl (by omega) H
/-! X3_collect -/
theorem v_33 {X : PX} {σ : Sg} {Q : Option PV → Sg → Prop}   (H : Ev X 33 19 [some (vR (some 146)), some (vI 0), none, none, none] [] (up2 (up2 (up2 (up2 σ.1 146 9 0) 146 7 0) 146 8 (-1)) 146 4 ((σ.1 146 4) + (σ.1 154 0)), σ.2) Q) : Cl X 33 [vR (some 146)] σ Q := by
  have hcd : cds 33 = cd_33 := rfl
  refine c_in (Nat.le_of_ble_eq_true rfl) rfl rfl ?_
  show Ev X 33 0 [some (vR (some 146)), none, none, none, none] [] σ Q
  iterate 2 (refine e_nx hcd rfl rfl ?_)
  refine r_putI hcd rfl rfl rfl rfl ?_
  iterate 2 (refine e_nx hcd rfl rfl ?_)
  refine r_putI hcd rfl rfl rfl rfl ?_
  iterate 2 (refine e_nx hcd rfl rfl ?_)
  refine r_putI hcd rfl rfl rfl rfl ?_
  iterate 2 (refine e_nx hcd rfl rfl ?_)
  refine r_getI hcd rfl rfl rfl ?_
  show Ev X 33 12 _ [vI (σ.1 146 4), vR (some 146)] _ Q
  refine e_nx hcd rfl rfl ?_
  refine r_getR hcd rfl rfl rfl ?_
  refine r_getI hcd rfl rfl rfl ?_
  show Ev X 33 15 _ [vI (σ.1 154 0), vI (σ.1 146 4), vR (some 146)] _ Q
  refine e_nx hcd rfl rfl ?_
  refine r_putI hcd rfl rfl rfl rfl ?_
  iterate 2 (refine e_nx hcd rfl rfl ?_)
  show Ev X 33 19 [some (vR (some 146)), some (vI 0), none, none, none] [] _ Q
  exact H
set_option maxRecDepth 20000 in
set_option maxHeartbeats 8000000 in
theorem v_33_19 {X : PX} {σ : Sg} {Q : Option PV → Sg → Prop} {x1 : Int}  (H : InR x1 ∧ InR (σ.1 147 2) ∧ (σ.1 147 2 ≤ x1 → CV X 55 [vR (some 154), vR (some 147), vI (σ.1 147 0), vI (σ.1 146 6)] (up2 (up2 σ.1 146 3 ((σ.1 146 3) + (σ.1 146 7))) 146 2 ((σ.1 146 2) + 1), σ.2) (fun τ1 => Q (some (vI 1)) τ1)) ∧ (¬ σ.1 147 2 ≤ x1 → (7 ≤ x1 → CV X 55 [vR (some 154), vR (some 147), vI (σ.1 147 0), vI (σ.1 146 6)] (up2 (up2 σ.1 146 3 ((σ.1 146 3) + (σ.1 146 7))) 146 2 ((σ.1 146 2) + 1), σ.2) (fun τ2 => Q (some (vI 1)) τ2)) ∧ (¬ 7 ≤ x1 → CI X 54 [vR (some 154), vI x1] σ (fun r3 τ3 => (0 ≤ x1 ∧ x1 < 7) ∧ InR r3 ∧ InR (τ3.2 148 x1.toNat) ∧ InR (min r3 (τ3.2 148 x1.toNat)) ∧ (r3 ≤ min r3 (τ3.2 148 x1.toNat) → InR (((τ3.2 148 x1.toNat) - (min r3 (τ3.2 148 x1.toNat))) + (τ3.2 149 x1.toNat)) ∧ InR ((up2 τ3.2 148 x1.toNat (min 99 (((τ3.2 148 x1.toNat) - (min r3 (τ3.2 148 x1.toNat))) + (τ3.2 149 x1.toNat)))) 148 x1.toNat) ∧ ((up2 τ3.2 148 x1.toNat (min 99 (((τ3.2 148 x1.toNat) - (min r3 (τ3.2 148 x1.toNat))) + (τ3.2 149 x1.toNat)))) 148 x1.toNat = τ3.2 148 x1.toNat → (iOr (τ3.1 146 9) 0 = 0 ∨ iOr (τ3.1 146 9) 0 = 1) ∧ Ev X 33 19 [some (vR (some 146)), some (vI (x1 + 1)), none, none, none] [] (up2 (up2 (up2 τ3.1 146 7 ((τ3.1 146 7) + (min r3 (τ3.2 148 x1.toNat)))) 146 4 ((τ3.1 146 4) + (r3 - (min r3 (τ3.2 148 x1.toNat))))) 146 9 (iOr (τ3.1 146 9) 0), up2 τ3.2 148 x1.toNat (min 99 (((τ3.2 148 x1.toNat) - (min r3 (τ3.2 148 x1.toNat))) + (τ3.2 149 x1.toNat)))) Q) ∧ (¬ (up2 τ3.2 148 x1.toNat (min 99 (((τ3.2 148 x1.toNat) - (min r3 (τ3.2 148 x1.toNat))) + (τ3.2 149 x1.toNat)))) 148 x1.toNat = τ3.2 148 x1.toNat → (iOr (τ3.1 146 9) 1 = 0 ∨ iOr (τ3.1 146 9) 1 = 1) ∧ Ev X 33 19 [some (vR (some 146)), some (vI (x1 + 1)), none, none, none] [] (up2 (up2 (up2 τ3.1 146 7 ((τ3.1 146 7) + (min r3 (τ3.2 148 x1.toNat)))) 146 4 ((τ3.1 146 4) + (r3 - (min r3 (τ3.2 148 x1.toNat))))) 146 9 (iOr (τ3.1 146 9) 1), up2 τ3.2 148 x1.toNat (min 99 (((τ3.2 148 x1.toNat) - (min r3 (τ3.2 148 x1.toNat))) + (τ3.2 149 x1.toNat)))) Q)) ∧ (¬ r3 ≤ min r3 (τ3.2 148 x1.toNat) → InR (τ3.1 146 8) ∧ (τ3.1 146 8 ≠ (-1) → InR (((τ3.2 148 x1.toNat) - (min r3 (τ3.2 148 x1.toNat))) + (τ3.2 149 x1.toNat)) ∧ InR ((up2 τ3.2 148 x1.toNat (min 99 (((τ3.2 148 x1.toNat) - (min r3 (τ3.2 148 x1.toNat))) + (τ3.2 149 x1.toNat)))) 148 x1.toNat) ∧ ((up2 τ3.2 148 x1.toNat (min 99 (((τ3.2 148 x1.toNat) - (min r3 (τ3.2 148 x1.toNat))) + (τ3.2 149 x1.toNat)))) 148 x1.toNat = τ3.2 148 x1.toNat → (iOr (τ3.1 146 9) 0 = 0 ∨ iOr (τ3.1 146 9) 0 = 1) ∧ Ev X 33 19 [some (vR (some 146)), some (vI (x1 + 1)), none, none, none] [] (up2 (up2 (up2 τ3.1 146 7 ((τ3.1 146 7) + (min r3 (τ3.2 148 x1.toNat)))) 146 4 ((τ3.1 146 4) + (r3 - (min r3 (τ3.2 148 x1.toNat))))) 146 9 (iOr (τ3.1 146 9) 0), up2 τ3.2 148 x1.toNat (min 99 (((τ3.2 148 x1.toNat) - (min r3 (τ3.2 148 x1.toNat))) + (τ3.2 149 x1.toNat)))) Q) ∧ (¬ (up2 τ3.2 148 x1.toNat (min 99 (((τ3.2 148 x1.toNat) - (min r3 (τ3.2 148 x1.toNat))) + (τ3.2 149 x1.toNat)))) 148 x1.toNat = τ3.2 148 x1.toNat → (iOr (τ3.1 146 9) 1 = 0 ∨ iOr (τ3.1 146 9) 1 = 1) ∧ Ev X 33 19 [some (vR (some 146)), some (vI (x1 + 1)), none, none, none] [] (up2 (up2 (up2 τ3.1 146 7 ((τ3.1 146 7) + (min r3 (τ3.2 148 x1.toNat)))) 146 4 ((τ3.1 146 4) + (r3 - (min r3 (τ3.2 148 x1.toNat))))) 146 9 (iOr (τ3.1 146 9) 1), up2 τ3.2 148 x1.toNat (min 99 (((τ3.2 148 x1.toNat) - (min r3 (τ3.2 148 x1.toNat))) + (τ3.2 149 x1.toNat)))) Q)) ∧ (¬ τ3.1 146 8 ≠ (-1) → InR (((τ3.2 148 x1.toNat) - (min r3 (τ3.2 148 x1.toNat))) + (τ3.2 149 x1.toNat)) ∧ InR ((up2 τ3.2 148 x1.toNat (min 99 (((τ3.2 148 x1.toNat) - (min r3 (τ3.2 148 x1.toNat))) + (τ3.2 149 x1.toNat)))) 148 x1.toNat) ∧ ((up2 τ3.2 148 x1.toNat (min 99 (((τ3.2 148 x1.toNat) - (min r3 (τ3.2 148 x1.toNat))) + (τ3.2 149 x1.toNat)))) 148 x1.toNat = τ3.2 148 x1.toNat → (iOr (τ3.1 146 9) 0 = 0 ∨ iOr (τ3.1 146 9) 0 = 1) ∧ Ev X 33 19 [some (vR (some 146)), some (vI (x1 + 1)), none, none, none] [] (up2 (up2 (up2 (up2 τ3.1 146 8 x1) 146 7 ((τ3.1 146 7) + (min r3 (τ3.2 148 x1.toNat)))) 146 4 ((τ3.1 146 4) + (r3 - (min r3 (τ3.2 148 x1.toNat))))) 146 9 (iOr (τ3.1 146 9) 0), up2 τ3.2 148 x1.toNat (min 99 (((τ3.2 148 x1.toNat) - (min r3 (τ3.2 148 x1.toNat))) + (τ3.2 149 x1.toNat)))) Q) ∧ (¬ (up2 τ3.2 148 x1.toNat (min 99 (((τ3.2 148 x1.toNat) - (min r3 (τ3.2 148 x1.toNat))) + (τ3.2 149 x1.toNat)))) 148 x1.toNat = τ3.2 148 x1.toNat → (iOr (τ3.1 146 9) 1 = 0 ∨ iOr (τ3.1 146 9) 1 = 1) ∧ Ev X 33 19 [some (vR (some 146)), some (vI (x1 + 1)), none, none, none] [] (up2 (up2 (up2 (up2 τ3.1 146 8 x1) 146 7 ((τ3.1 146 7) + (min r3 (τ3.2 148 x1.toNat)))) 146 4 ((τ3.1 146 4) + (r3 - (min r3 (τ3.2 148 x1.toNat))))) 146 9 (iOr (τ3.1 146 9) 1), up2 τ3.2 148 x1.toNat (min 99 (((τ3.2 148 x1.toNat) - (min r3 (τ3.2 148 x1.toNat))) + (τ3.2 149 x1.toNat)))) Q))))))) : Ev X 33 19 [some (vR (some 146)), some (vI x1), none, none, none] [] σ Q := by
  have hcd : cds 33 = cd_33 := rfl
  iterate 2 (refine e_nx hcd rfl rfl ?_)
  refine r_getR hcd rfl rfl rfl ?_
  refine r_getI hcd rfl rfl rfl ?_
  obtain ⟨h1, H⟩ := H
  obtain ⟨h2, H⟩ := H
  refine r_icmp hcd rfl h1 h2 (fun hc => ?_) (fun hc => ?_)
  · replace H := H.1 hc
    iterate 2 (refine e_nx hcd rfl rfl ?_)
    refine r_getI hcd rfl rfl rfl ?_
    refine e_nx hcd rfl rfl ?_
    refine r_getI hcd rfl rfl rfl ?_
    refine e_nx hcd rfl rfl ?_
    refine r_putI hcd rfl rfl rfl rfl ?_
    iterate 2 (refine e_nx hcd rfl rfl ?_)
    refine r_getI hcd rfl rfl rfl ?_
    show Ev X 33 109 _ [vI (σ.1 146 2), vR (some 146)] _ Q
    iterate 2 (refine e_nx hcd rfl rfl ?_)
    refine r_putI hcd rfl rfl rfl rfl ?_
    refine e_nx hcd rfl rfl ?_
    refine r_getR hcd rfl rfl rfl ?_
    refine e_nx hcd rfl rfl ?_
    refine r_getR hcd rfl rfl rfl ?_
    refine e_nx hcd rfl rfl ?_
    refine r_getR hcd rfl rfl rfl ?_
    refine r_getI hcd rfl rfl rfl ?_
    show Ev X 33 119 _ [vI (σ.1 147 0), vR (some 147), vR (some 154)] _ Q
    refine e_nx hcd rfl rfl ?_
    refine r_getI hcd rfl rfl rfl ?_
    show Ev X 33 121 _ [vI (σ.1 146 6), vI (σ.1 147 0), vR (some 147), vR (some 154)] _ Q
    refine r_cv hcd rfl (by omega) rfl rfl rfl (Nat.le_of_ble_eq_true rfl) ?_
    refine Cl.mono H (fun v τ1 hq => ?_)
    obtain ⟨rfl, H⟩ := hq
    show Ev X 33 122 _ [] τ1 Q
    refine e_nx hcd rfl rfl ?_
    exact r_zret hcd rfl rfl rfl (by omega) H
  · replace H := H.2 hc
    iterate 2 (refine e_nx hcd rfl rfl ?_)
    refine r_icmp hcd rfl h1 (by omega) (fun hc => ?_) (fun hc => ?_)
    · replace H := H.1 hc
      iterate 2 (refine e_nx hcd rfl rfl ?_)
      refine r_getI hcd rfl rfl rfl ?_
      refine e_nx hcd rfl rfl ?_
      refine r_getI hcd rfl rfl rfl ?_
      refine e_nx hcd rfl rfl ?_
      refine r_putI hcd rfl rfl rfl rfl ?_
      iterate 2 (refine e_nx hcd rfl rfl ?_)
      refine r_getI hcd rfl rfl rfl ?_
      show Ev X 33 109 _ [vI (σ.1 146 2), vR (some 146)] _ Q
      iterate 2 (refine e_nx hcd rfl rfl ?_)
      refine r_putI hcd rfl rfl rfl rfl ?_
      refine e_nx hcd rfl rfl ?_
      refine r_getR hcd rfl rfl rfl ?_
      refine e_nx hcd rfl rfl ?_
      refine r_getR hcd rfl rfl rfl ?_
      refine e_nx hcd rfl rfl ?_
      refine r_getR hcd rfl rfl rfl ?_
      refine r_getI hcd rfl rfl rfl ?_
      show Ev X 33 119 _ [vI (σ.1 147 0), vR (some 147), vR (some 154)] _ Q
      refine e_nx hcd rfl rfl ?_
      refine r_getI hcd rfl rfl rfl ?_
      show Ev X 33 121 _ [vI (σ.1 146 6), vI (σ.1 147 0), vR (some 147), vR (some 154)] _ Q
      refine r_cv hcd rfl (by omega) rfl rfl rfl (Nat.le_of_ble_eq_true rfl) ?_
      refine Cl.mono H (fun v τ2 hq => ?_)
      obtain ⟨rfl, H⟩ := hq
      show Ev X 33 122 _ [] τ2 Q
      refine e_nx hcd rfl rfl ?_
      exact r_zret hcd rfl rfl rfl (by omega) H
    · replace H := H.2 hc
      refine e_nx hcd rfl rfl ?_
      refine r_getR hcd rfl rfl rfl ?_
      refine e_nx hcd rfl rfl ?_
      refine r_cv hcd rfl (by omega) rfl rfl rfl (Nat.le_of_ble_eq_true rfl) ?_
      refine Cl.mono H (fun v τ3 hq => ?_)
      obtain ⟨r3, rfl, H⟩ := hq
      show Ev X 33 31 _ [vI r3] τ3 Q
      refine e_nx hcd rfl rfl ?_
      show Ev X 33 32 [some (vR (some 146)), some (vI x1), some (vI r3), none, none] [] _ Q
      refine e_nx hcd rfl rfl ?_
      refine r_getR hcd rfl rfl rfl ?_
      refine r_getR hcd rfl rfl rfl ?_
      refine e_nx hcd rfl rfl ?_
      obtain ⟨h4, H⟩ := H
      refine r_ild hcd rfl rfl (by omega) h4 ?_
      refine e_nx hcd rfl rfl ?_
      show Ev X 33 38 [some (vR (some 146)), some (vI x1), some (vI r3), some (vI (τ3.2 148 x1.toNat)), none] [] _ Q
      iterate 2 (refine e_nx hcd rfl rfl ?_)
      obtain ⟨h5, H⟩ := H
      obtain ⟨h6, H⟩ := H
      refine r_min hcd rfl h5 h6 (Nat.le_of_ble_eq_true rfl) ?_
      refine e_nx hcd rfl rfl ?_
      show Ev X 33 42 [some (vR (some 146)), some (vI x1), some (vI r3), some (vI (τ3.2 148 x1.toNat)), some (vI (min r3 (τ3.2 148 x1.toNat)))] [] _ Q
      iterate 2 (refine e_nx hcd rfl rfl ?_)
      obtain ⟨h7, H⟩ := H
      refine r_icmp hcd rfl h7 h5 (fun hc => ?_) (fun hc => ?_)
      · replace H := H.1 hc
        iterate 2 (refine e_nx hcd rfl rfl ?_)
        refine r_getI hcd rfl rfl rfl ?_
        iterate 2 (refine e_nx hcd rfl rfl ?_)
        refine r_putI hcd rfl rfl rfl rfl ?_
        iterate 2 (refine e_nx hcd rfl rfl ?_)
        refine r_getI hcd rfl rfl rfl ?_
        show Ev X 33 61 _ [vI (τ3.1 146 4), vR (some 146)] _ Q
        iterate 4 (refine e_nx hcd rfl rfl ?_)
        refine r_putI hcd rfl rfl rfl rfl ?_
        refine e_nx hcd rfl rfl ?_
        refine r_getR hcd rfl rfl rfl ?_
        refine r_getR hcd rfl rfl rfl ?_
        iterate 6 (refine e_nx hcd rfl rfl ?_)
        refine r_getR hcd rfl rfl rfl ?_
        refine r_getR hcd rfl rfl rfl ?_
        refine e_nx hcd rfl rfl ?_
        refine r_ild hcd rfl rfl (by omega) h4 ?_
        refine e_nx hcd rfl rfl ?_
        obtain ⟨h8, H⟩ := H
        refine r_min hcd rfl (by omega) h8 (Nat.le_of_ble_eq_true rfl) ?_
        refine r_ist hcd rfl rfl (by omega) h4 ?_
        iterate 2 (refine e_nx hcd rfl rfl ?_)
        refine r_getI hcd rfl rfl rfl ?_
        show Ev X 33 85 _ [vI (τ3.1 146 9), vR (some 146)] _ Q
        refine e_nx hcd rfl rfl ?_
        refine r_getR hcd rfl rfl rfl ?_
        refine r_getR hcd rfl rfl rfl ?_
        refine e_nx hcd rfl rfl ?_
        refine r_ild hcd rfl rfl (by omega) h4 ?_
        refine e_nx hcd rfl rfl ?_
        obtain ⟨h9, H⟩ := H
        refine r_icmp hcd rfl h9 h6 (fun hc => ?_) (fun hc => ?_)
        · replace H := H.1 hc
          iterate 2 (refine e_nx hcd rfl rfl ?_)
          obtain ⟨h10, H⟩ := H
          refine r_putI hcd rfl rfl rfl (fit1 h10) ?_
          refine e_nx hcd rfl rfl ?_
          show Ev X 33 98 [some (vR (some 146)), some (vI (x1 + 1)), some (vI r3), some (vI (τ3.2 148 x1.toNat)), some (vI (min r3 (τ3.2 148 x1.toNat)))] [] _ Q
          refine e_nx hcd rfl rfl ?_
          refine e_fg [2, 3, 4] ?_
          exact H
        · replace H := H.2 hc
          iterate 3 (refine e_nx hcd rfl rfl ?_)
          obtain ⟨h11, H⟩ := H
          refine r_putI hcd rfl rfl rfl (fit1 h11) ?_
          refine e_nx hcd rfl rfl ?_
          show Ev X 33 98 [some (vR (some 146)), some (vI (x1 + 1)), some (vI r3), some (vI (τ3.2 148 x1.toNat)), some (vI (min r3 (τ3.2 148 x1.toNat)))] [] _ Q
          refine e_nx hcd rfl rfl ?_
          refine e_fg [2, 3, 4] ?_
          exact H
      · replace H := H.2 hc
        refine e_nx hcd rfl rfl ?_
        refine r_getI hcd rfl rfl rfl ?_
        refine e_nx hcd rfl rfl ?_
        obtain ⟨h12, H⟩ := H
        refine r_icmp hcd rfl h12 (by omega) (fun hc => ?_) (fun hc => ?_)
        · replace H := H.1 hc
          iterate 2 (refine e_nx hcd rfl rfl ?_)
          refine r_getI hcd rfl rfl rfl ?_
          iterate 2 (refine e_nx hcd rfl rfl ?_)
          refine r_putI hcd rfl rfl rfl rfl ?_
          iterate 2 (refine e_nx hcd rfl rfl ?_)
          refine r_getI hcd rfl rfl rfl ?_
          show Ev X 33 61 _ [vI (τ3.1 146 4), vR (some 146)] _ Q
          iterate 4 (refine e_nx hcd rfl rfl ?_)
          refine r_putI hcd rfl rfl rfl rfl ?_
          refine e_nx hcd rfl rfl ?_
          refine r_getR hcd rfl rfl rfl ?_
          refine r_getR hcd rfl rfl rfl ?_
          iterate 6 (refine e_nx hcd rfl rfl ?_)
          refine r_getR hcd rfl rfl rfl ?_
          refine r_getR hcd rfl rfl rfl ?_
          refine e_nx hcd rfl rfl ?_
          refine r_ild hcd rfl rfl (by omega) h4 ?_
          refine e_nx hcd rfl rfl ?_
          obtain ⟨h13, H⟩ := H
          refine r_min hcd rfl (by omega) h13 (Nat.le_of_ble_eq_true rfl) ?_
          refine r_ist hcd rfl rfl (by omega) h4 ?_
          iterate 2 (refine e_nx hcd rfl rfl ?_)
          refine r_getI hcd rfl rfl rfl ?_
          show Ev X 33 85 _ [vI (τ3.1 146 9), vR (some 146)] _ Q
          refine e_nx hcd rfl rfl ?_
          refine r_getR hcd rfl rfl rfl ?_
          refine r_getR hcd rfl rfl rfl ?_
          refine e_nx hcd rfl rfl ?_
          refine r_ild hcd rfl rfl (by omega) h4 ?_
          refine e_nx hcd rfl rfl ?_
          obtain ⟨h14, H⟩ := H
          refine r_icmp hcd rfl h14 h6 (fun hc => ?_) (fun hc => ?_)
          · replace H := H.1 hc
            iterate 2 (refine e_nx hcd rfl rfl ?_)
            obtain ⟨h15, H⟩ := H
            refine r_putI hcd rfl rfl rfl (fit1 h15) ?_
            refine e_nx hcd rfl rfl ?_
            show Ev X 33 98 [some (vR (some 146)), some (vI (x1 + 1)), some (vI r3), some (vI (τ3.2 148 x1.toNat)), some (vI (min r3 (τ3.2 148 x1.toNat)))] [] _ Q
            refine e_nx hcd rfl rfl ?_
            refine e_fg [2, 3, 4] ?_
            exact H
          · replace H := H.2 hc
            iterate 3 (refine e_nx hcd rfl rfl ?_)
            obtain ⟨h16, H⟩ := H
            refine r_putI hcd rfl rfl rfl (fit1 h16) ?_
            refine e_nx hcd rfl rfl ?_
            show Ev X 33 98 [some (vR (some 146)), some (vI (x1 + 1)), some (vI r3), some (vI (τ3.2 148 x1.toNat)), some (vI (min r3 (τ3.2 148 x1.toNat)))] [] _ Q
            refine e_nx hcd rfl rfl ?_
            refine e_fg [2, 3, 4] ?_
            exact H
        · replace H := H.2 hc
          iterate 2 (refine e_nx hcd rfl rfl ?_)
          refine r_putI hcd rfl rfl rfl rfl ?_
          iterate 2 (refine e_nx hcd rfl rfl ?_)
          refine r_getI hcd rfl rfl rfl ?_
          show Ev X 33 55 _ [vI (τ3.1 146 7), vR (some 146)] _ Q
          iterate 2 (refine e_nx hcd rfl rfl ?_)
          refine r_putI hcd rfl rfl rfl rfl ?_
          iterate 2 (refine e_nx hcd rfl rfl ?_)
          refine r_getI hcd rfl rfl rfl ?_
          show Ev X 33 61 _ [vI (τ3.1 146 4), vR (some 146)] _ Q
          iterate 4 (refine e_nx hcd rfl rfl ?_)
          refine r_putI hcd rfl rfl rfl rfl ?_
          refine e_nx hcd rfl rfl ?_
          refine r_getR hcd rfl rfl rfl ?_
          refine r_getR hcd rfl rfl rfl ?_
          iterate 6 (refine e_nx hcd rfl rfl ?_)
          refine r_getR hcd rfl rfl rfl ?_
          refine r_getR hcd rfl rfl rfl ?_
          refine e_nx hcd rfl rfl ?_
          refine r_ild hcd rfl rfl (by omega) h4 ?_
          refine e_nx hcd rfl rfl ?_
          obtain ⟨h17, H⟩ := H
          refine r_min hcd rfl (by omega) h17 (Nat.le_of_ble_eq_true rfl) ?_
          refine r_ist hcd rfl rfl (by omega) h4 ?_
          iterate 2 (refine e_nx hcd rfl rfl ?_)
          refine r_getI hcd rfl rfl rfl ?_
          show Ev X 33 85 _ [vI (τ3.1 146 9), vR (some 146)] _ Q
          refine e_nx hcd rfl rfl ?_
          refine r_getR hcd rfl rfl rfl ?_
          refine r_getR hcd rfl rfl rfl ?_
          refine e_nx hcd rfl rfl ?_
          refine r_ild hcd rfl rfl (by omega) h4 ?_
          refine e_nx hcd rfl rfl ?_
          obtain ⟨h18, H⟩ := H
          refine r_icmp hcd rfl h18 h6 (fun hc => ?_) (fun hc => ?_)
          · replace H := H.1 hc
            iterate 2 (refine e_nx hcd rfl rfl ?_)
            obtain ⟨h19, H⟩ := H
            refine r_putI hcd rfl rfl rfl (fit1 h19) ?_
            refine e_nx hcd rfl rfl ?_
            show Ev X 33 98 [some (vR (some 146)), some (vI (x1 + 1)), some (vI r3), some (vI (τ3.2 148 x1.toNat)), some (vI (min r3 (τ3.2 148 x1.toNat)))] [] _ Q
            refine e_nx hcd rfl rfl ?_
            refine e_fg [2, 3, 4] ?_
            exact H
          · replace H := H.2 hc
            iterate 3 (refine e_nx hcd rfl rfl ?_)
            obtain ⟨h20, H⟩ := H
            refine r_putI hcd rfl rfl rfl (fit1 h20) ?_
            refine e_nx hcd rfl rfl ?_
            show Ev X 33 98 [some (vR (some 146)), some (vI (x1 + 1)), some (vI r3), some (vI (τ3.2 148 x1.toNat)), some (vI (min r3 (τ3.2 148 x1.toNat)))] [] _ Q
            refine e_nx hcd rfl rfl ?_
            refine e_fg [2, 3, 4] ?_
            exact H
/-! X3_canBuy -/
set_option maxRecDepth 20000 in
set_option maxHeartbeats 8000000 in
theorem v_34 {X : PX} {σ : Sg} {Q : Option PV → Sg → Prop} {a1 : Int}  (H : CI X 82 [vR (some 147), vI a1] σ (fun r1 τ1 => InR r1 ∧ (r1 = 0 → Q (some (vI 0)) τ1) ∧ (¬ r1 = 0 → InR (iAnd (iShr (τ1.1 147 3) a1) 1) ∧ (iAnd (iShr (τ1.1 147 3) a1) 1 ≠ 0 → Q (some (vI 0)) τ1) ∧ (¬ iAnd (iShr (τ1.1 147 3) a1) 1 ≠ 0 → (0 ≤ a1 ∧ a1 < 7) ∧ InR (τ1.2 148 a1.toNat) ∧ InR (τ1.1 147 1) ∧ (τ1.2 148 a1.toNat < τ1.1 147 1 → Q (some (vI 0)) τ1) ∧ (¬ τ1.2 148 a1.toNat < τ1.1 147 1 → Q (some (vI 1)) τ1))))) : Cl X 34 [vR (some 146), vI a1] σ Q := by
  have hcd : cds 34 = cd_34 := rfl
  refine c_in (Nat.le_of_ble_eq_true rfl) rfl rfl ?_
  show Ev X 34 0 [some (vR (some 146)), some (vI a1)] [] σ Q
  refine e_nx hcd rfl rfl ?_
  refine r_getR hcd rfl rfl rfl ?_
  refine e_nx hcd rfl rfl ?_
  refine r_cv hcd rfl (by omega) rfl rfl rfl (Nat.le_of_ble_eq_true rfl) ?_
  refine Cl.mono H (fun v τ1 hq => ?_)
  obtain ⟨r1, rfl, H⟩ := hq
  show Ev X 34 4 _ [vI r1] τ1 Q
  obtain ⟨h2, H⟩ := H
  refine r_if hcd rfl h2 (fun hc => ?_) (fun hc => ?_)
  · replace H := H.1 hc
    refine e_nx hcd rfl rfl ?_
    exact r_zret hcd rfl rfl rfl (by omega) H
  · replace H := H.2 hc
    refine e_nx hcd rfl rfl ?_
    refine r_getR hcd rfl rfl rfl ?_
    refine r_getI hcd rfl rfl rfl ?_
    iterate 4 (refine e_nx hcd rfl rfl ?_)
    obtain ⟨h3, H⟩ := H
    refine r_if hcd rfl h3 (fun hc => ?_) (fun hc => ?_)
    · replace H := H.1 hc
      refine e_nx hcd rfl rfl ?_
      exact r_zret hcd rfl rfl rfl (by omega) H
    · replace H := H.2 hc
      refine e_nx hcd rfl rfl ?_
      refine r_getR hcd rfl rfl rfl ?_
      refine r_getR hcd rfl rfl rfl ?_
      refine e_nx hcd rfl rfl ?_
      obtain ⟨h4, H⟩ := H
      refine r_ild hcd rfl rfl (by omega) h4 ?_
      refine e_nx hcd rfl rfl ?_
      refine r_getR hcd rfl rfl rfl ?_
      refine r_getI hcd rfl rfl rfl ?_
      obtain ⟨h5, H⟩ := H
      obtain ⟨h6, H⟩ := H
      refine r_icmp hcd rfl h5 h6 (fun hc => ?_) (fun hc => ?_)
      · replace H := H.1 hc
        refine e_nx hcd rfl rfl ?_
        exact r_zret hcd rfl rfl rfl (by omega) H
      · replace H := H.2 hc
        iterate 2 (refine e_nx hcd rfl rfl ?_)
        exact r_zret hcd rfl rfl rfl (by omega) H
/-! X3_buyOffice -/
theorem v_35 {X : PX} {σ : Sg} {Q : Option PV → Sg → Prop} {a1 : Int}  (H : CI X 34 [vR (some 146), vI a1] σ (fun r1 τ1 => InR r1 ∧ (r1 ≠ 0 → (0 ≤ a1 ∧ a1 < 7) ∧ CV X 30 [vR (some 146)] (up2 τ1.1 147 3 (iOr (τ1.1 147 3) (iShl 1 a1)), up2 τ1.2 148 a1.toNat ((τ1.2 148 a1.toNat) - (τ1.1 147 1))) (fun τ2 => Q (some (vI 1)) τ2)) ∧ (¬ r1 ≠ 0 → Q (some (vI 0)) τ1))) : Cl X 35 [vR (some 146), vI a1] σ Q := by
  have hcd : cds 35 = cd_35 := rfl
  refine c_in (Nat.le_of_ble_eq_true rfl) rfl rfl ?_
  show Ev X 35 0 [some (vR (some 146)), some (vI a1)] [] σ Q
  iterate 2 (refine e_nx hcd rfl rfl ?_)
  refine r_cv hcd rfl (by omega) rfl rfl rfl (Nat.le_of_ble_eq_true rfl) ?_
  refine Cl.mono H (fun v τ1 hq => ?_)
  obtain ⟨r1, rfl, H⟩ := hq
  show Ev X 35 3 _ [vI r1] τ1 Q
  obtain ⟨h2, H⟩ := H
  refine r_if hcd rfl h2 (fun hc => ?_) (fun hc => ?_)
  · replace H := H.1 hc
    refine e_nx hcd rfl rfl ?_
    refine r_getR hcd rfl rfl rfl ?_
    refine r_getR hcd rfl rfl rfl ?_
    iterate 2 (refine e_nx hcd rfl rfl ?_)
    obtain ⟨h3, H⟩ := H
    refine r_ild hcd rfl rfl (by omega) h3 ?_
    refine e_nx hcd rfl rfl ?_
    refine r_getR hcd rfl rfl rfl ?_
    refine r_getI hcd rfl rfl rfl ?_
    refine e_nx hcd rfl rfl ?_
    refine r_ist hcd rfl rfl (by omega) h3 ?_
    refine e_nx hcd rfl rfl ?_
    refine r_getR hcd rfl rfl rfl ?_
    refine e_nx hcd rfl rfl ?_
    refine r_getI hcd rfl rfl rfl ?_
    iterate 4 (refine e_nx hcd rfl rfl ?_)
    refine r_putI hcd rfl rfl rfl rfl ?_
    refine e_nx hcd rfl rfl ?_
    refine r_cv hcd rfl (by omega) rfl rfl rfl (Nat.le_of_ble_eq_true rfl) ?_
    refine Cl.mono H (fun v τ2 hq => ?_)
    obtain ⟨rfl, H⟩ := hq
    show Ev X 35 28 _ [] τ2 Q
    refine e_nx hcd rfl rfl ?_
    exact r_zret hcd rfl rfl rfl (by omega) H
  · replace H := H.2 hc
    refine e_nx hcd rfl rfl ?_
    exact r_zret hcd rfl rfl rfl (by omega) H
/-! X3_loseOffice -/
theorem v_36 {X : PX} {σ : Sg} {Q : Option PV → Sg → Prop} {a1 : Int}  (H : CI X 82 [vR (some 147), vI a1] σ (fun r1 τ1 => InR r1 ∧ (r1 = 0 → Q (some (vI 0)) τ1) ∧ (¬ r1 = 0 → InR (iAnd (iShr (τ1.1 147 3) a1) 1) ∧ (iAnd (iShr (τ1.1 147 3) a1) 1 ≠ 0 → CV X 30 [vR (some 146)] (up2 τ1.1 147 3 (iAnd (τ1.1 147 3) (iXor (iShl 1 a1) (-1))), τ1.2) (fun τ2 => Q (some (vI 1)) τ2)) ∧ (¬ iAnd (iShr (τ1.1 147 3) a1) 1 ≠ 0 → Q (some (vI 0)) τ1)))) : Cl X 36 [vR (some 146), vI a1] σ Q := by
  have hcd : cds 36 = cd_36 := rfl
  refine c_in (Nat.le_of_ble_eq_true rfl) rfl rfl ?_
  show Ev X 36 0 [some (vR (some 146)), some (vI a1)] [] σ Q
  refine e_nx hcd rfl rfl ?_
  refine r_getR hcd rfl rfl rfl ?_
  refine e_nx hcd rfl rfl ?_
  refine r_cv hcd rfl (by omega) rfl rfl rfl (Nat.le_of_ble_eq_true rfl) ?_
  refine Cl.mono H (fun v τ1 hq => ?_)
  obtain ⟨r1, rfl, H⟩ := hq
  show Ev X 36 4 _ [vI r1] τ1 Q
  obtain ⟨h2, H⟩ := H
  refine r_if hcd rfl h2 (fun hc => ?_) (fun hc => ?_)
  · replace H := H.1 hc
    refine e_nx hcd rfl rfl ?_
    exact r_zret hcd rfl rfl rfl (by omega) H
  · replace H := H.2 hc
    refine e_nx hcd rfl rfl ?_
    refine r_getR hcd rfl rfl rfl ?_
    refine r_getI hcd rfl rfl rfl ?_
    iterate 4 (refine e_nx hcd rfl rfl ?_)
    obtain ⟨h3, H⟩ := H
    refine r_if hcd rfl h3 (fun hc => ?_) (fun hc => ?_)
    · replace H := H.1 hc
      refine e_nx hcd rfl rfl ?_
      refine r_getR hcd rfl rfl rfl ?_
      refine e_nx hcd rfl rfl ?_
      refine r_getI hcd rfl rfl rfl ?_
      iterate 6 (refine e_nx hcd rfl rfl ?_)
      refine r_putI hcd rfl rfl rfl rfl ?_
      refine e_nx hcd rfl rfl ?_
      refine r_cv hcd rfl (by omega) rfl rfl rfl (Nat.le_of_ble_eq_true rfl) ?_
      refine Cl.mono H (fun v τ2 hq => ?_)
      obtain ⟨rfl, H⟩ := hq
      show Ev X 36 28 _ [] τ2 Q
      refine e_nx hcd rfl rfl ?_
      exact r_zret hcd rfl rfl rfl (by omega) H
    · replace H := H.2 hc
      refine e_nx hcd rfl rfl ?_
      exact r_zret hcd rfl rfl rfl (by omega) H
/-! X3_changeQuota -/
theorem v_37 {X : PX} {σ : Sg} {Q : Option PV → Sg → Prop} {a1 : Int}  (H : InR a1 ∧ InR (σ.1 147 0) ∧ (a1 ≠ σ.1 147 0 → CV X 30 [vR (some 146)] (up2 σ.1 147 0 a1, σ.2) (fun τ1 => Q (some (vI 1)) τ1)) ∧ (¬ a1 ≠ σ.1 147 0 → Q (some (vI 0)) σ)) : Cl X 37 [vR (some 146), vI a1] σ Q := by
  have hcd : cds 37 = cd_37 := rfl
  refine c_in (Nat.le_of_ble_eq_true rfl) rfl rfl ?_
  show Ev X 37 0 [some (vR (some 146)), some (vI a1)] [] σ Q
  iterate 2 (refine e_nx hcd rfl rfl ?_)
  refine r_getR hcd rfl rfl rfl ?_
  refine r_getI hcd rfl rfl rfl ?_
  obtain ⟨h1, H⟩ := H
  obtain ⟨h2, H⟩ := H
  refine r_icmp hcd rfl h1 h2 (fun hc => ?_) (fun hc => ?_)
  · replace H := H.1 hc
    refine e_nx hcd rfl rfl ?_
    refine r_getR hcd rfl rfl rfl ?_
    refine e_nx hcd rfl rfl ?_
    refine r_putI hcd rfl rfl rfl rfl ?_
    refine e_nx hcd rfl rfl ?_
    refine r_cv hcd rfl (by omega) rfl rfl rfl (Nat.le_of_ble_eq_true rfl) ?_
    refine Cl.mono H (fun v τ1 hq => ?_)
    obtain ⟨rfl, H⟩ := hq
    show Ev X 37 13 _ [] τ1 Q
    refine e_nx hcd rfl rfl ?_
    exact r_zret hcd rfl rfl rfl (by omega) H
  · replace H := H.2 hc
    refine e_nx hcd rfl rfl ?_
    exact r_zret hcd rfl rfl rfl (by omega) H
/-! X3_changePrice -/
theorem v_38 {X : PX} {σ : Sg} {Q : Option PV → Sg → Prop} {a1 : Int}  (H : InR a1 ∧ InR (σ.1 147 1) ∧ (a1 ≠ σ.1 147 1 → Q (some (vI 1)) (up2 σ.1 147 1 a1, σ.2)) ∧ (¬ a1 ≠ σ.1 147 1 → Q (some (vI 0)) σ)) : Cl X 38 [vR (some 146), vI a1] σ Q := by
  have hcd : cds 38 = cd_38 := rfl
  refine c_in (Nat.le_of_ble_eq_true rfl) rfl rfl ?_
  show Ev X 38 0 [some (vR (some 146)), some (vI a1)] [] σ Q
  iterate 2 (refine e_nx hcd rfl rfl ?_)
  refine r_getR hcd rfl rfl rfl ?_
  refine r_getI hcd rfl rfl rfl ?_
  obtain ⟨h1, H⟩ := H
  obtain ⟨h2, H⟩ := H
  refine r_icmp hcd rfl h1 h2 (fun hc => ?_) (fun hc => ?_)
  · replace H := H.1 hc
    refine e_nx hcd rfl rfl ?_
    refine r_getR hcd rfl rfl rfl ?_
    refine e_nx hcd rfl rfl ?_
    refine r_putI hcd rfl rfl rfl rfl ?_
    refine e_nx hcd rfl rfl ?_
    exact r_zret hcd rfl rfl rfl (by omega) H
  · replace H := H.2 hc
    refine e_nx hcd rfl rfl ?_
    exact r_zret hcd rfl rfl rfl (by omega) H
/-! X3_cutRule -/
theorem v_39 {X : PX} {σ : Sg} {Q : Option PV → Sg → Prop} {a1 : Int}  (H : CI X 83 [vR (some 147), vI a1] σ (fun r1 τ1 => InR r1 ∧ (r1 = 0 → Q (some (vI 0)) τ1) ∧ (¬ r1 = 0 → InR (iAnd (iShr (τ1.1 146 5) a1) 1) ∧ (iAnd (iShr (τ1.1 146 5) a1) 1 = 0 → CV X 30 [vR (some 146)] (up2 τ1.1 146 5 (iOr (τ1.1 146 5) (iShl 1 a1)), τ1.2) (fun τ2 => Q (some (vI 1)) τ2)) ∧ (¬ iAnd (iShr (τ1.1 146 5) a1) 1 = 0 → Q (some (vI 0)) τ1)))) : Cl X 39 [vR (some 146), vI a1] σ Q := by
  have hcd : cds 39 = cd_39 := rfl
  refine c_in (Nat.le_of_ble_eq_true rfl) rfl rfl ?_
  show Ev X 39 0 [some (vR (some 146)), some (vI a1)] [] σ Q
  refine e_nx hcd rfl rfl ?_
  refine r_getR hcd rfl rfl rfl ?_
  refine e_nx hcd rfl rfl ?_
  refine r_cv hcd rfl (by omega) rfl rfl rfl (Nat.le_of_ble_eq_true rfl) ?_
  refine Cl.mono H (fun v τ1 hq => ?_)
  obtain ⟨r1, rfl, H⟩ := hq
  show Ev X 39 4 _ [vI r1] τ1 Q
  obtain ⟨h2, H⟩ := H
  refine r_if hcd rfl h2 (fun hc => ?_) (fun hc => ?_)
  · replace H := H.1 hc
    refine e_nx hcd rfl rfl ?_
    exact r_zret hcd rfl rfl rfl (by omega) H
  · replace H := H.2 hc
    refine e_nx hcd rfl rfl ?_
    refine r_getI hcd rfl rfl rfl ?_
    iterate 4 (refine e_nx hcd rfl rfl ?_)
    obtain ⟨h3, H⟩ := H
    refine r_if hcd rfl h3 (fun hc => ?_) (fun hc => ?_)
    · replace H := H.1 hc
      iterate 2 (refine e_nx hcd rfl rfl ?_)
      refine r_getI hcd rfl rfl rfl ?_
      iterate 4 (refine e_nx hcd rfl rfl ?_)
      refine r_putI hcd rfl rfl rfl rfl ?_
      refine e_nx hcd rfl rfl ?_
      refine r_cv hcd rfl (by omega) rfl rfl rfl (Nat.le_of_ble_eq_true rfl) ?_
      refine Cl.mono H (fun v τ2 hq => ?_)
      obtain ⟨rfl, H⟩ := hq
      show Ev X 39 24 _ [] τ2 Q
      refine e_nx hcd rfl rfl ?_
      exact r_zret hcd rfl rfl rfl (by omega) H
    · replace H := H.2 hc
      refine e_nx hcd rfl rfl ?_
      exact r_zret hcd rfl rfl rfl (by omega) H
/-! X3_detail -/
set_option maxRecDepth 20000 in
set_option maxHeartbeats 8000000 in
theorem v_40 {X : PX} {σ : Sg} {Q : Option PV → Sg → Prop} {a1 : Int}  (H : InR a1 ∧ (a1 = 0 → Q (some (vI (σ.1 146 2))) σ) ∧ (a1 = 1 → Q (some (vI (σ.1 146 3))) σ) ∧ (a1 = 2 → Q (some (vI (σ.1 146 4))) σ) ∧ (a1 = 3 → Q (some (vI (σ.1 147 3))) σ) ∧ (a1 = 4 → Q (some (vI (σ.1 146 6))) σ) ∧ (a1 = 5 → Q (some (vI (σ.1 147 0))) σ) ∧ (a1 = 6 → Q (some (vI (σ.1 147 1))) σ) ∧ (a1 = 7 → Q (some (vI (σ.1 146 5))) σ) ∧ (a1 ≠ 0 ∧ a1 ≠ 1 ∧ a1 ≠ 2 ∧ a1 ≠ 3 ∧ a1 ≠ 4 ∧ a1 ≠ 5 ∧ a1 ≠ 6 ∧ a1 ≠ 7 → (a1 < 20 → (a1 < 10 → Q (some (vI (-2))) σ) ∧ (¬ a1 < 10 → CI X 82 [vR (some 147), vI (a1 - 10)] σ (fun r2 τ1 => InR r2 ∧ (r2 = 0 → Q (some (vI (-2))) τ1) ∧ (¬ r2 = 0 → (0 ≤ a1 - 10 ∧ a1 - 10 < 7) ∧ Q (some (vI (τ1.2 148 (a1 - 10).toNat))) τ1)))) ∧ (¬ a1 < 20 → CI X 82 [vR (some 147), vI (a1 - 20)] σ (fun r5 τ2 => InR r5 ∧ (r5 = 0 → Q (some (vI (-2))) τ2) ∧ (¬ r5 = 0 → CI X 54 [vR (some 154), vI (a1 - 20)] τ2 (fun r7 τ3 => Q (some (vI r7)) τ3)))))) : Cl X 40 [vR (some 146), vI a1] σ Q := by
  have hcd : cds 40 = cd_40 := rfl
  refine c_in (Nat.le_of_ble_eq_true rfl) rfl rfl ?_
  show Ev X 40 0 [some (vR (some 146)), some (vI a1)] [] σ Q
  refine e_nx hcd rfl rfl ?_
  obtain ⟨h1, H⟩ := H
  refine r_tab hcd rfl h1 ?_
  by_cases hs8 : a1 = 0
  · replace H := H.1 hs8
    refine e_pc (i2 := 2) (by rw [hs8]; rfl) ?_
    refine e_nx hcd rfl rfl ?_
    refine r_getI hcd rfl rfl rfl ?_
    exact r_iret hcd rfl rfl rfl H
  by_cases hs9 : a1 = 1
  · replace H := H.2.1 hs9
    refine e_pc (i2 := 5) (by rw [hs9]; rfl) ?_
    refine e_nx hcd rfl rfl ?_
    refine r_getI hcd rfl rfl rfl ?_
    exact r_iret hcd rfl rfl rfl H
  by_cases hs10 : a1 = 2
  · replace H := H.2.2.1 hs10
    refine e_pc (i2 := 8) (by rw [hs10]; rfl) ?_
    refine e_nx hcd rfl rfl ?_
    refine r_getI hcd rfl rfl rfl ?_
    exact r_iret hcd rfl rfl rfl H
  by_cases hs11 : a1 = 3
  · replace H := H.2.2.2.1 hs11
    refine e_pc (i2 := 11) (by rw [hs11]; rfl) ?_
    refine e_nx hcd rfl rfl ?_
    refine r_getR hcd rfl rfl rfl ?_
    refine r_getI hcd rfl rfl rfl ?_
    exact r_iret hcd rfl rfl rfl H
  by_cases hs12 : a1 = 4
  · replace H := H.2.2.2.2.1 hs12
    refine e_pc (i2 := 15) (by rw [hs12]; rfl) ?_
    refine e_nx hcd rfl rfl ?_
    refine r_getI hcd rfl rfl rfl ?_
    exact r_iret hcd rfl rfl rfl H
  by_cases hs13 : a1 = 5
  · replace H := H.2.2.2.2.2.1 hs13
    refine e_pc (i2 := 18) (by rw [hs13]; rfl) ?_
    refine e_nx hcd rfl rfl ?_
    refine r_getR hcd rfl rfl rfl ?_
    refine r_getI hcd rfl rfl rfl ?_
    exact r_iret hcd rfl rfl rfl H
  by_cases hs14 : a1 = 6
  · replace H := H.2.2.2.2.2.2.1 hs14
    refine e_pc (i2 := 22) (by rw [hs14]; rfl) ?_
    refine e_nx hcd rfl rfl ?_
    refine r_getR hcd rfl rfl rfl ?_
    refine r_getI hcd rfl rfl rfl ?_
    exact r_iret hcd rfl rfl rfl H
  by_cases hs15 : a1 = 7
  · replace H := H.2.2.2.2.2.2.2.1 hs15
    refine e_pc (i2 := 26) (by rw [hs15]; rfl) ?_
    refine e_nx hcd rfl rfl ?_
    refine r_getI hcd rfl rfl rfl ?_
    exact r_iret hcd rfl rfl rfl H
  replace H := H.2.2.2.2.2.2.2.2 ⟨hs8, hs9, hs10, hs11, hs12, hs13, hs14, hs15⟩
  refine e_pc (i2 := 29) (tab_def (lo := 0) (hi := 7) (fun h1 h2 => ?_)) ?_
  · omega
  · refine e_nx hcd rfl rfl ?_
    refine e_nx hcd rfl rfl ?_
    refine r_icmp hcd rfl h1 (by omega) (fun hc => ?_) (fun hc => ?_)
    · replace H := H.1 hc
      iterate 2 (refine e_nx hcd rfl rfl ?_)
      refine r_icmp hcd rfl h1 (by omega) (fun hc => ?_) (fun hc => ?_)
      · replace H := H.1 hc
        refine e_nx hcd rfl rfl ?_
        exact r_iret hcd rfl rfl rfl H
      · replace H := H.2 hc
        refine e_nx hcd rfl rfl ?_
        refine r_getR hcd rfl rfl rfl ?_
        iterate 3 (refine e_nx hcd rfl rfl ?_)
        refine r_cv hcd rfl (by omega) rfl rfl rfl (Nat.le_of_ble_eq_true rfl) ?_
        refine Cl.mono H (fun v τ1 hq => ?_)
        obtain ⟨r2, rfl, H⟩ := hq
        show Ev X 40 57 _ [vI r2] τ1 Q
        obtain ⟨h3, H⟩ := H
        refine r_if hcd rfl h3 (fun hc => ?_) (fun hc => ?_)
        · replace H := H.1 hc
          refine e_nx hcd rfl rfl ?_
          exact r_iret hcd rfl rfl rfl H
        · replace H := H.2 hc
          refine e_nx hcd rfl rfl ?_
          refine r_getR hcd rfl rfl rfl ?_
          refine r_getR hcd rfl rfl rfl ?_
          iterate 3 (refine e_nx hcd rfl rfl ?_)
          obtain ⟨h4, H⟩ := H
          refine r_ild hcd rfl rfl (by omega) h4 ?_
          refine e_nx hcd rfl rfl ?_
          exact r_iret hcd rfl rfl rfl H
    · replace H := H.2 hc
      refine e_nx hcd rfl rfl ?_
      refine r_getR hcd rfl rfl rfl ?_
      iterate 3 (refine e_nx hcd rfl rfl ?_)
      refine r_cv hcd rfl (by omega) rfl rfl rfl (Nat.le_of_ble_eq_true rfl) ?_
      refine Cl.mono H (fun v τ2 hq => ?_)
      obtain ⟨r5, rfl, H⟩ := hq
      show Ev X 40 38 _ [vI r5] τ2 Q
      obtain ⟨h6, H⟩ := H
      refine r_if hcd rfl h6 (fun hc => ?_) (fun hc => ?_)
      · replace H := H.1 hc
        refine e_nx hcd rfl rfl ?_
        exact r_iret hcd rfl rfl rfl H
      · replace H := H.2 hc
        refine e_nx hcd rfl rfl ?_
        refine r_getR hcd rfl rfl rfl ?_
        iterate 3 (refine e_nx hcd rfl rfl ?_)
        refine r_cv hcd rfl (by omega) rfl rfl rfl (Nat.le_of_ble_eq_true rfl) ?_
        refine Cl.mono H (fun v τ3 hq => ?_)
        obtain ⟨r7, rfl, H⟩ := hq
        show Ev X 40 45 _ [vI r7] τ3 Q
        refine e_nx hcd rfl rfl ?_
        exact r_iret hcd rfl rfl rfl H
/-! X4_find -/
theorem v_42 {X : PX} {σ : Sg} {Q : Option PV → Sg → Prop} {p1 : Nat} {q1 : Nat} (hp1 : p1 ∈ parL) (hq1 : q1 ∈ paiL) (H : Ev X 42 9 [some (vR (some 163)), some (vR (some p1)), some (vR (some q1)), some (vI 0)] [] (up2 (up2 σ.1 163 0 0) 163 1 ((up2 σ.1 163 0 0) p1 2), σ.2) Q) : Cl X 42 [vR (some 163), vR (some p1), vR (some q1)] σ Q := by
  have hcd : cds 42 = cd_42 := rfl
  refine c_in (Nat.le_of_ble_eq_true rfl) rfl rfl ?_
  show Ev X 42 0 [some (vR (some 163)), some (vR (some p1)), some (vR (some q1)), none] [] σ Q
  iterate 2 (refine e_nx hcd rfl rfl ?_)
  refine r_putI hcd rfl rfl rfl rfl ?_
  iterate 2 (refine e_nx hcd rfl rfl ?_)
  refine r_getI hcd rfl ((parS hp1).1) rfl ?_
  show Ev X 42 6 _ [vI ((up2 σ.1 163 0 0) p1 2), vR (some 163)] _ Q
  refine r_putI hcd rfl rfl rfl rfl ?_
  iterate 2 (refine e_nx hcd rfl rfl ?_)
  show Ev X 42 9 [some (vR (some 163)), some (vR (some p1)), some (vR (some q1)), some (vI 0)] [] _ Q
  exact H
set_option maxRecDepth 20000 in
set_option maxHeartbeats 8000000 in
theorem v_42_9 {X : PX} {σ : Sg} {Q : Option PV → Sg → Prop} {p1 : Nat} {q1 : Nat} {x3 : Int} (hp1 : p1 ∈ parL) (hq1 : q1 ∈ paiL) (H : CI X 84 [vR (some p1)] σ (fun r1 τ1 => InR x3 ∧ InR r1 ∧ (r1 < x3 → Q none τ1) ∧ (¬ r1 < x3 → (128 ≤ x3 → Q none τ1) ∧ (¬ 128 ≤ x3 → CI X 86 [vR (some p1), vI x3, vI 0] τ1 (fun r4 τ2 => CV X 55 [vR (some 167), vR (some p1), vI (τ1.1 p1 0), vI r4] τ2 (fun τ3 => InR (τ3.1 163 0) ∧ (128 ≤ τ3.1 163 0 → Ev X 42 9 [some (vR (some 163)), some (vR (some p1)), some (vR (some q1)), some (vI (x3 + 1))] [] τ3 Q) ∧ (¬ 128 ≤ τ3.1 163 0 → CI X 43 [vR (some 163), vR (some p1), vR (some q1)] τ3 (fun r6 τ4 => InR r6 ∧ (r6 = 0 → Ev X 42 9 [some (vR (some 163)), some (vR (some p1)), some (vR (some q1)), some (vI (x3 + 1))] [] τ4 Q) ∧ (¬ r6 = 0 → (0 ≤ τ4.1 163 0 ∧ τ4.1 163 0 < 128) ∧ CG X 44 [vR (some 163)] (τ4.1, up2 τ4.2 164 (τ4.1 163 0).toNat x3) (fun r9 τ5 => Ev X 42 9 [some (vR (some 163)), some (vR (some p1)), some (vR (some q1)), some (vI (x3 + 1))] [] (up2 τ5.1 163 0 ((τ5.1 163 0) + 1), up2 τ5.2 165 (τ4.1 163 0).toNat r9) Q)))))))))) : Ev X 42 9 [some (vR (some 163)), some (vR (some p1)), some (vR (some q1)), some (vI x3)] [] σ Q := by
  have hcd : cds 42 = cd_42 := rfl
  iterate 2 (refine e_nx hcd rfl rfl ?_)
  refine r_cv hcd rfl (by omega) ((parS hp1).1) rfl rfl (Nat.le_of_ble_eq_true rfl) ?_
  refine Cl.mono H (fun v τ1 hq => ?_)
  obtain ⟨r1, rfl, H⟩ := hq
  show Ev X 42 12 _ [vI r1, vI x3] τ1 Q
  obtain ⟨h2, H⟩ := H
  obtain ⟨h3, H⟩ := H
  refine r_icmp hcd rfl h2 h3 (fun hc => ?_) (fun hc => ?_)
  · replace H := H.1 hc
    exact r_vret hcd rfl rfl rfl H
  · replace H := H.2 hc
    iterate 2 (refine e_nx hcd rfl rfl ?_)
    refine r_icmp hcd rfl h2 (by omega) (fun hc => ?_) (fun hc => ?_)
    · replace H := H.1 hc
      exact r_vret hcd rfl rfl rfl H
    · replace H := H.2 hc
      refine e_nx hcd rfl rfl ?_
      refine r_getR hcd rfl rfl rfl ?_
      iterate 2 (refine e_nx hcd rfl rfl ?_)
      refine r_getI hcd rfl ((parS hp1).1) rfl ?_
      iterate 3 (refine e_nx hcd rfl rfl ?_)
      refine r_cv hcd rfl (by omega) ((parS hp1).1) rfl rfl (Nat.le_of_ble_eq_true rfl) ?_
      refine Cl.mono H (fun v τ2 hq => ?_)
      obtain ⟨r4, rfl, H⟩ := hq
      show Ev X 42 25 _ [vI r4, vI (τ1.1 p1 0), vR (some p1), vR (some 167)] τ2 Q
      refine r_cv hcd rfl (by omega) rfl rfl rfl (Nat.le_of_ble_eq_true rfl) ?_
      refine Cl.mono H (fun v τ3 hq => ?_)
      obtain ⟨rfl, H⟩ := hq
      show Ev X 42 26 _ [] τ3 Q
      refine e_nx hcd rfl rfl ?_
      refine r_getI hcd rfl rfl rfl ?_
      refine e_nx hcd rfl rfl ?_
      obtain ⟨h5, H⟩ := H
      refine r_icmp hcd rfl h5 (by omega) (fun hc => ?_) (fun hc => ?_)
      · replace H := H.1 hc
        refine e_nx hcd rfl rfl ?_
        show Ev X 42 55 [some (vR (some 163)), some (vR (some p1)), some (vR (some q1)), some (vI (x3 + 1))] [] _ Q
        refine e_nx hcd rfl rfl ?_
        exact H
      · replace H := H.2 hc
        iterate 3 (refine e_nx hcd rfl rfl ?_)
        refine r_cv hcd rfl (by omega) rfl rfl rfl (Nat.le_of_ble_eq_true rfl) ?_
        refine Cl.mono H (fun v τ4 hq => ?_)
        obtain ⟨r6, rfl, H⟩ := hq
        show Ev X 42 34 _ [vI r6] τ4 Q
        obtain ⟨h7, H⟩ := H
        refine r_if hcd rfl h7 (fun hc => ?_) (fun hc => ?_)
        · replace H := H.1 hc
          refine e_nx hcd rfl rfl ?_
          show Ev X 42 55 [some (vR (some 163)), some (vR (some p1)), some (vR (some q1)), some (vI (x3 + 1))] [] _ Q
          refine e_nx hcd rfl rfl ?_
          exact H
        · replace H := H.2 hc
          refine e_nx hcd rfl rfl ?_
          refine r_getR hcd rfl rfl rfl ?_
          refine e_nx hcd rfl rfl ?_
          refine r_getI hcd rfl rfl rfl ?_
          refine e_nx hcd rfl rfl ?_
          obtain ⟨h8, H⟩ := H
          refine r_ist hcd rfl rfl (by omega) h8 ?_
          refine e_nx hcd rfl rfl ?_
          refine r_getR hcd rfl rfl rfl ?_
          refine e_nx hcd rfl rfl ?_
          refine r_getI hcd rfl rfl rfl ?_
          refine e_nx hcd rfl rfl ?_
          refine r_cv hcd rfl (by omega) rfl rfl rfl (Nat.le_of_ble_eq_true rfl) ?_
          refine Cl.mono H (fun v τ5 hq => ?_)
          obtain ⟨r9, rfl, H⟩ := hq
          show Ev X 42 47 _ [vL r9, vI (τ4.1 163 0), vR (some 165)] τ5 Q
          refine r_lst hcd rfl rfl (by omega) h8 ?_
          iterate 2 (refine e_nx hcd rfl rfl ?_)
          refine r_getI hcd rfl rfl rfl ?_
          iterate 2 (refine e_nx hcd rfl rfl ?_)
          refine r_putI hcd rfl rfl rfl rfl ?_
          refine e_nx hcd rfl rfl ?_
          show Ev X 42 55 [some (vR (some 163)), some (vR (some p1)), some (vR (some q1)), some (vI (x3 + 1))] [] _ Q
          refine e_nx hcd rfl rfl ?_
          exact H
/-! X4_isAsLogged -/
theorem v_43 {X : PX} {σ : Sg} {Q : Option PV → Sg → Prop} {p1 : Nat} {q1 : Nat} (hp1 : p1 ∈ parL) (hq1 : q1 ∈ paiL) (H : Ev X 43 2 [some (vR (some 163)), some (vR (some p1)), some (vR (some q1)), some (vI 0)] [] σ Q) : Cl X 43 [vR (some 163), vR (some p1), vR (some q1)] σ Q := by
  have hcd : cds 43 = cd_43 := rfl
  refine c_in (Nat.le_of_ble_eq_true rfl) rfl rfl ?_
  show Ev X 43 0 [some (vR (some 163)), some (vR (some p1)), some (vR (some q1)), none] [] σ Q
  iterate 2 (refine e_nx hcd rfl rfl ?_)
  show Ev X 43 2 [some (vR (some 163)), some (vR (some p1)), some (vR (some q1)), some (vI 0)] [] _ Q
  exact H
set_option maxRecDepth 20000 in
set_option maxHeartbeats 8000000 in
theorem v_43_2 {X : PX} {σ : Sg} {Q : Option PV → Sg → Prop} {p1 : Nat} {q1 : Nat} {x3 : Int} (hp1 : p1 ∈ parL) (hq1 : q1 ∈ paiL) (H : InR x3 ∧ InR (σ.1 q1 0) ∧ (σ.1 q1 0 ≤ x3 → Q (some (vI 1)) σ) ∧ (¬ σ.1 q1 0 ≤ x3 → (8 ≤ x3 → Q (some (vI 1)) σ) ∧ (¬ 8 ≤ x3 → (0 ≤ x3 ∧ x3 < 40) ∧ CI X 82 [vR (some p1), vI (σ.2 (q1 + 1) x3.toNat)] σ (fun r4 τ1 => InR r4 ∧ (r4 = 0 → Q (some (vI 0)) τ1) ∧ (¬ r4 = 0 → CI X 54 [vR (some 167), vI (τ1.2 (q1 + 1) x3.toNat)] τ1 (fun r6 τ2 => InR r6 ∧ InR (τ2.2 (q1 + 2) x3.toNat) ∧ (r6 = τ2.2 (q1 + 2) x3.toNat → Ev X 43 2 [some (vR (some 163)), some (vR (some p1)), some (vR (some q1)), some (vI (x3 + 1))] [] τ2 Q) ∧ (¬ r6 = τ2.2 (q1 + 2) x3.toNat → Q (some (vI 0)) τ2))))))) : Ev X 43 2 [some (vR (some 163)), some (vR (some p1)), some (vR (some q1)), some (vI x3)] [] σ Q := by
  have hcd : cds 43 = cd_43 := rfl
  iterate 2 (refine e_nx hcd rfl rfl ?_)
  refine r_getI hcd rfl ((paiS hq1).1) rfl ?_
  obtain ⟨h1, H⟩ := H
  obtain ⟨h2, H⟩ := H
  refine r_icmp hcd rfl h1 h2 (fun hc => ?_) (fun hc => ?_)
  · replace H := H.1 hc
    refine e_nx hcd rfl rfl ?_
    exact r_zret hcd rfl rfl rfl (by omega) H
  · replace H := H.2 hc
    iterate 2 (refine e_nx hcd rfl rfl ?_)
    refine r_icmp hcd rfl h1 (by omega) (fun hc => ?_) (fun hc => ?_)
    · replace H := H.1 hc
      refine e_nx hcd rfl rfl ?_
      exact r_zret hcd rfl rfl rfl (by omega) H
    · replace H := H.2 hc
      iterate 2 (refine e_nx hcd rfl rfl ?_)
      refine r_getR hcd rfl ((paiS hq1).1) rfl ?_
      refine e_nx hcd rfl rfl ?_
      obtain ⟨h3, H⟩ := H
      refine r_ild hcd rfl ((paiS hq1).2.1) (by omega) h3 ?_
      refine r_cv hcd rfl (by omega) ((parS hp1).1) rfl rfl (Nat.le_of_ble_eq_true rfl) ?_
      refine Cl.mono H (fun v τ1 hq => ?_)
      obtain ⟨r4, rfl, H⟩ := hq
      show Ev X 43 15 _ [vI r4] τ1 Q
      obtain ⟨h5, H⟩ := H
      refine r_if hcd rfl h5 (fun hc => ?_) (fun hc => ?_)
      · replace H := H.1 hc
        refine e_nx hcd rfl rfl ?_
        exact r_zret hcd rfl rfl rfl (by omega) H
      · replace H := H.2 hc
        refine e_nx hcd rfl rfl ?_
        refine r_getR hcd rfl rfl rfl ?_
        refine e_nx hcd rfl rfl ?_
        refine r_getR hcd rfl ((paiS hq1).1) rfl ?_
        refine e_nx hcd rfl rfl ?_
        refine r_ild hcd rfl ((paiS hq1).2.1) (by omega) h3 ?_
        refine r_cv hcd rfl (by omega) rfl rfl rfl (Nat.le_of_ble_eq_true rfl) ?_
        refine Cl.mono H (fun v τ2 hq => ?_)
        obtain ⟨r6, rfl, H⟩ := hq
        show Ev X 43 23 _ [vI r6] τ2 Q
        refine e_nx hcd rfl rfl ?_
        refine r_getR hcd rfl ((paiS hq1).1) rfl ?_
        refine e_nx hcd rfl rfl ?_
        refine r_ild hcd rfl ((paiS hq1).2.2) (by omega) h3 ?_
        obtain ⟨h7, H⟩ := H
        obtain ⟨h8, H⟩ := H
        refine r_icmp hcd rfl h7 h8 (fun hc => ?_) (fun hc => ?_)
        · replace H := H.1 hc
          refine e_nx hcd rfl rfl ?_
          show Ev X 43 31 [some (vR (some 163)), some (vR (some p1)), some (vR (some q1)), some (vI (x3 + 1))] [] _ Q
          refine e_nx hcd rfl rfl ?_
          exact H
        · replace H := H.2 hc
          refine e_nx hcd rfl rfl ?_
          exact r_zret hcd rfl rfl rfl (by omega) H
/-! X4_packedTaxes -/
theorem v_44 {X : PX} {σ : Sg} {Q : Option PV → Sg → Prop}   (H : Ev X 44 7 [some (vR (some 163)), some (vL 0), none, some (vI ((σ.1 163 1) - 1))] [] σ Q) : Cl X 44 [vR (some 163)] σ Q := by
  have hcd : cds 44 = cd_44 := rfl
  refine c_in (Nat.le_of_ble_eq_true rfl) rfl rfl ?_
  show Ev X 44 0 [some (vR (some 163)), none, none, none] [] σ Q
  iterate 2 (refine e_nx hcd rfl rfl ?_)
  show Ev X 44 2 [some (vR (some 163)), some (vL 0), none, none] [] _ Q
  refine e_nx hcd rfl rfl ?_
  refine r_getI hcd rfl rfl rfl ?_
  iterate 3 (refine e_nx hcd rfl rfl ?_)
  show Ev X 44 7 [some (vR (some 163)), some (vL 0), none, some (vI ((σ.1 163 1) - 1))] [] _ Q
  exact H
theorem v_44_7 {X : PX} {σ : Sg} {Q : Option PV → Sg → Prop} {x1 : Int} {x3 : Int}  (H : InR x3 ∧ (x3 < 0 → Q (some (vL x1)) σ) ∧ (¬ x3 < 0 → CI X 54 [vR (some 167), vI x3] σ (fun r2 τ1 => Ev X 44 7 [some (vR (some 163)), some (vL (lOr (lShl x1 7) (iI2l r2))), none, some (vI (x3 + (-1)))] [] τ1 Q))) : Ev X 44 7 [some (vR (some 163)), some (vL x1), none, some (vI x3)] [] σ Q := by
  have hcd : cds 44 = cd_44 := rfl
  refine e_nx hcd rfl rfl ?_
  obtain ⟨h1, H⟩ := H
  refine r_if hcd rfl h1 (fun hc => ?_) (fun hc => ?_)
  · replace H := H.1 hc
    refine e_nx hcd rfl rfl ?_
    exact r_lret hcd rfl rfl rfl H
  · replace H := H.2 hc
    iterate 4 (refine e_nx hcd rfl rfl ?_)
    refine r_getR hcd rfl rfl rfl ?_
    refine e_nx hcd rfl rfl ?_
    refine r_cv hcd rfl (by omega) rfl rfl rfl (Nat.le_of_ble_eq_true rfl) ?_
    refine Cl.mono H (fun v τ1 hq => ?_)
    obtain ⟨r2, rfl, H⟩ := hq
    show Ev X 44 16 _ [vI r2, vL (lShl x1 7)] τ1 Q
    iterate 3 (refine e_nx hcd rfl rfl ?_)
    show Ev X 44 19 [some (vR (some 163)), some (vL (lOr (lShl x1 7) (iI2l r2))), none, some (vI x3)] [] _ Q
    refine e_nx hcd rfl rfl ?_
    show Ev X 44 20 [some (vR (some 163)), some (vL (lOr (lShl x1 7) (iI2l r2))), none, some (vI (x3 + (-1)))] [] _ Q
    refine e_nx hcd rfl rfl ?_
    exact H
/-! X4_fittingSet -/
theorem v_45 {X : PX} {σ : Sg} {Q : Option PV → Sg → Prop} {a1 : Int}  (H : InR a1 ∧ (a1 < 0 → Q (some (vI (-2))) σ) ∧ (¬ a1 < 0 → InR (σ.1 163 0) ∧ (σ.1 163 0 ≤ a1 → Q (some (vI (-2))) σ) ∧ (¬ σ.1 163 0 ≤ a1 → (128 ≤ a1 → Q (some (vI (-2))) σ) ∧ (¬ 128 ≤ a1 → (0 ≤ a1 ∧ a1 < 128) ∧ Q (some (vI (σ.2 164 a1.toNat))) σ)))) : Cl X 45 [vR (some 163), vI a1] σ Q := by
  have hcd : cds 45 = cd_45 := rfl
  refine c_in (Nat.le_of_ble_eq_true rfl) rfl rfl ?_
  show Ev X 45 0 [some (vR (some 163)), some (vI a1)] [] σ Q
  refine e_nx hcd rfl rfl ?_
  obtain ⟨h1, H⟩ := H
  refine r_if hcd rfl h1 (fun hc => ?_) (fun hc => ?_)
  · replace H := H.1 hc
    refine e_nx hcd rfl rfl ?_
    exact r_iret hcd rfl rfl rfl H
  · replace H := H.2 hc
    iterate 2 (refine e_nx hcd rfl rfl ?_)
    refine r_getI hcd rfl rfl rfl ?_
    obtain ⟨h2, H⟩ := H
    refine r_icmp hcd rfl h1 h2 (fun hc => ?_) (fun hc => ?_)
    · replace H := H.1 hc
      refine e_nx hcd rfl rfl ?_
      exact r_iret hcd rfl rfl rfl H
    · replace H := H.2 hc
      iterate 2 (refine e_nx hcd rfl rfl ?_)
      refine r_icmp hcd rfl h1 (by omega) (fun hc => ?_) (fun hc => ?_)
      · replace H := H.1 hc
        refine e_nx hcd rfl rfl ?_
        exact r_iret hcd rfl rfl rfl H
      · replace H := H.2 hc
        refine e_nx hcd rfl rfl ?_
        refine r_getR hcd rfl rfl rfl ?_
        refine e_nx hcd rfl rfl ?_
        obtain ⟨h3, H⟩ := H
        refine r_ild hcd rfl rfl (by omega) h3 ?_
        refine e_nx hcd rfl rfl ?_
        exact r_iret hcd rfl rfl rfl H
/-! X4_holding -/
theorem v_46 {X : PX} {σ : Sg} {Q : Option PV → Sg → Prop} {a1 : Int}  (H : Ev X 46 4 [some (vR (some 163)), some (vI a1), some (vI 0), some (vI 0)] [] σ Q) : Cl X 46 [vR (some 163), vI a1] σ Q := by
  have hcd : cds 46 = cd_46 := rfl
  refine c_in (Nat.le_of_ble_eq_true rfl) rfl rfl ?_
  show Ev X 46 0 [some (vR (some 163)), some (vI a1), none, none] [] σ Q
  iterate 2 (refine e_nx hcd rfl rfl ?_)
  show Ev X 46 2 [some (vR (some 163)), some (vI a1), some (vI 0), none] [] _ Q
  iterate 2 (refine e_nx hcd rfl rfl ?_)
  show Ev X 46 4 [some (vR (some 163)), some (vI a1), some (vI 0), some (vI 0)] [] _ Q
  exact H
theorem v_46_4 {X : PX} {σ : Sg} {Q : Option PV → Sg → Prop} {x1 : Int} {x2 : Int} {x3 : Int}  (H : InR x3 ∧ InR (σ.1 163 0) ∧ (σ.1 163 0 ≤ x3 → Q (some (vI x2)) σ) ∧ (¬ σ.1 163 0 ≤ x3 → (128 ≤ x3 → Q (some (vI x2)) σ) ∧ (¬ 128 ≤ x3 → (0 ≤ x3 ∧ x3 < 128) ∧ Ev X 46 4 [some (vR (some 163)), some (vI x1), some (vI (x2 + (iAnd (iShr (σ.2 164 x3.toNat) x1) 1))), some (vI (x3 + 1))] [] σ Q))) : Ev X 46 4 [some (vR (some 163)), some (vI x1), some (vI x2), some (vI x3)] [] σ Q := by
  have hcd : cds 46 = cd_46 := rfl
  iterate 2 (refine e_nx hcd rfl rfl ?_)
  refine r_getI hcd rfl rfl rfl ?_
  obtain ⟨h1, H⟩ := H
  obtain ⟨h2, H⟩ := H
  refine r_icmp hcd rfl h1 h2 (fun hc => ?_) (fun hc => ?_)
  · replace H := H.1 hc
    refine e_nx hcd rfl rfl ?_
    exact r_iret hcd rfl rfl rfl H
  · replace H := H.2 hc
    iterate 2 (refine e_nx hcd rfl rfl ?_)
    refine r_icmp hcd rfl h1 (by omega) (fun hc => ?_) (fun hc => ?_)
    · replace H := H.1 hc
      refine e_nx hcd rfl rfl ?_
      exact r_iret hcd rfl rfl rfl H
    · replace H := H.2 hc
      iterate 2 (refine e_nx hcd rfl rfl ?_)
      refine r_getR hcd rfl rfl rfl ?_
      refine e_nx hcd rfl rfl ?_
      obtain ⟨h3, H⟩ := H
      refine r_ild hcd rfl rfl (by omega) h3 ?_
      iterate 6 (refine e_nx hcd rfl rfl ?_)
      show Ev X 46 22 [some (vR (some 163)), some (vI x1), some (vI (x2 + (iAnd (iShr (σ.2 164 x3.toNat) x1) 1))), some (vI x3)] [] _ Q
      refine e_nx hcd rfl rfl ?_
      show Ev X 46 23 [some (vR (some 163)), some (vI x1), some (vI (x2 + (iAnd (iShr (σ.2 164 x3.toNat) x1) 1))), some (vI (x3 + 1))] [] _ Q
      refine e_nx hcd rfl rfl ?_
      exact H
/-! X4_sureOf -/
set_option maxRecDepth 20000 in
set_option maxHeartbeats 8000000 in
theorem v_47 {X : PX} {σ : Sg} {Q : Option PV → Sg → Prop} {a1 : Int}  (H : InR (σ.1 163 0) ∧ (σ.1 163 0 = 0 → Q (some (vI (-1))) σ) ∧ (¬ σ.1 163 0 = 0 → InR a1 ∧ (a1 < 0 → Q (some (vI (-1))) σ) ∧ (¬ a1 < 0 → InR (σ.1 163 1) ∧ (a1 < σ.1 163 1 → CI X 46 [vR (some 163), vI a1] σ (fun r4 τ1 => InR r4 ∧ InR (τ1.1 163 0) ∧ (r4 ≠ τ1.1 163 0 → (r4 ≠ 0 → Q (some (vI (-1))) τ1) ∧ (¬ r4 ≠ 0 → Q (some (vI 0)) τ1)) ∧ (¬ r4 ≠ τ1.1 163 0 → Q (some (vI 1)) τ1))) ∧ (¬ a1 < σ.1 163 1 → Q (some (vI (-1))) σ)))) : Cl X 47 [vR (some 163), vI a1] σ Q := by
  have hcd : cds 47 = cd_47 := rfl
  refine c_in (Nat.le_of_ble_eq_true rfl) rfl rfl ?_
  show Ev X 47 0 [some (vR (some 163)), some (vI a1), none] [] σ Q
  refine e_nx hcd rfl rfl ?_
  refine r_getI hcd rfl rfl rfl ?_
  obtain ⟨h1, H⟩ := H
  refine r_if hcd rfl h1 (fun hc => ?_) (fun hc => ?_)
  · replace H := H.1 hc
    refine e_nx hcd rfl rfl ?_
    exact r_iret hcd rfl rfl rfl H
  · replace H := H.2 hc
    refine e_nx hcd rfl rfl ?_
    obtain ⟨h2, H⟩ := H
    refine r_if hcd rfl h2 (fun hc => ?_) (fun hc => ?_)
    · replace H := H.1 hc
      refine e_nx hcd rfl rfl ?_
      exact r_iret hcd rfl rfl rfl H
    · replace H := H.2 hc
      iterate 2 (refine e_nx hcd rfl rfl ?_)
      refine r_getI hcd rfl rfl rfl ?_
      obtain ⟨h3, H⟩ := H
      refine r_icmp hcd rfl h2 h3 (fun hc => ?_) (fun hc => ?_)
      · replace H := H.1 hc
        iterate 2 (refine e_nx hcd rfl rfl ?_)
        refine r_cv hcd rfl (by omega) rfl rfl rfl (Nat.le_of_ble_eq_true rfl) ?_
        refine Cl.mono H (fun v τ1 hq => ?_)
        obtain ⟨r4, rfl, H⟩ := hq
        show Ev X 47 14 _ [vI r4] τ1 Q
        refine e_nx hcd rfl rfl ?_
        show Ev X 47 15 [some (vR (some 163)), some (vI a1), some (vI r4)] [] _ Q
        iterate 2 (refine e_nx hcd rfl rfl ?_)
        refine r_getI hcd rfl rfl rfl ?_
        obtain ⟨h5, H⟩ := H
        obtain ⟨h6, H⟩ := H
        refine r_icmp hcd rfl h5 h6 (fun hc => ?_) (fun hc => ?_)
        · replace H := H.1 hc
          refine e_nx hcd rfl rfl ?_
          refine r_if hcd rfl h5 (fun hc => ?_) (fun hc => ?_)
          · replace H := H.1 hc
            refine e_nx hcd rfl rfl ?_
            exact r_iret hcd rfl rfl rfl H
          · replace H := H.2 hc
            iterate 2 (refine e_nx hcd rfl rfl ?_)
            exact r_iret hcd rfl rfl rfl H
        · replace H := H.2 hc
          iterate 2 (refine e_nx hcd rfl rfl ?_)
          exact r_iret hcd rfl rfl rfl H
      · replace H := H.2 hc
        refine e_nx hcd rfl rfl ?_
        exact r_iret hcd rfl rfl rfl H
/-! X4_bestQuestion -/
theorem v_48 {X : PX} {σ : Sg} {Q : Option PV → Sg → Prop}   (H : InR (σ.1 163 0) ∧ (σ.1 163 0 ≠ 0 → Ev X 48 11 [some (vR (some 163)), some (vI (-1)), some (vI 129), some (vI 0), none] [] σ Q) ∧ (¬ σ.1 163 0 ≠ 0 → Q (some (vI (-1))) σ)) : Cl X 48 [vR (some 163)] σ Q := by
  have hcd : cds 48 = cd_48 := rfl
  refine c_in (Nat.le_of_ble_eq_true rfl) rfl rfl ?_
  show Ev X 48 0 [some (vR (some 163)), none, none, none, none] [] σ Q
  refine e_nx hcd rfl rfl ?_
  refine r_getI hcd rfl rfl rfl ?_
  obtain ⟨h1, H⟩ := H
  refine r_if hcd rfl h1 (fun hc => ?_) (fun hc => ?_)
  · replace H := H.1 hc
    iterate 2 (refine e_nx hcd rfl rfl ?_)
    show Ev X 48 7 [some (vR (some 163)), some (vI (-1)), none, none, none] [] _ Q
    iterate 2 (refine e_nx hcd rfl rfl ?_)
    show Ev X 48 9 [some (vR (some 163)), some (vI (-1)), some (vI 129), none, none] [] _ Q
    iterate 2 (refine e_nx hcd rfl rfl ?_)
    show Ev X 48 11 [some (vR (some 163)), some (vI (-1)), some (vI 129), some (vI 0), none] [] _ Q
    exact H
  · replace H := H.2 hc
    refine e_nx hcd rfl rfl ?_
    exact r_iret hcd rfl rfl rfl H
theorem v_48_11 {X : PX} {σ : Sg} {Q : Option PV → Sg → Prop} {x1 : Int} {x2 : Int} {x3 : Int}  (H : InR x3 ∧ InR (σ.1 163 1) ∧ (σ.1 163 1 ≤ x3 → Q (some (vI x1)) σ) ∧ (¬ σ.1 163 1 ≤ x3 → CI X 49 [vR (some 163), vI x3] σ (fun r3 τ1 => InR r3 ∧ InR x2 ∧ (x2 ≤ r3 → Ev X 48 11 [some (vR (some 163)), some (vI x1), some (vI x2), some (vI (x3 + 1)), none] [] τ1 Q) ∧ (¬ x2 ≤ r3 → Ev X 48 11 [some (vR (some 163)), some (vI x3), some (vI r3), some (vI (x3 + 1)), none] [] τ1 Q)))) : Ev X 48 11 [some (vR (some 163)), some (vI x1), some (vI x2), some (vI x3), none] [] σ Q := by
  have hcd : cds 48 = cd_48 := rfl
  iterate 2 (refine e_nx hcd rfl rfl ?_)
  refine r_getI hcd rfl rfl rfl ?_
  obtain ⟨h1, H⟩ := H
  obtain ⟨h2, H⟩ := H
  refine r_icmp hcd rfl h1 h2 (fun hc => ?_) (fun hc => ?_)
  · replace H := H.1 hc
    refine e_nx hcd rfl rfl ?_
    exact r_iret hcd rfl rfl rfl H
  · replace H := H.2 hc
    iterate 2 (refine e_nx hcd rfl rfl ?_)
    refine r_cv hcd rfl (by omega) rfl rfl rfl (Nat.le_of_ble_eq_true rfl) ?_
    refine Cl.mono H (fun v τ1 hq => ?_)
    obtain ⟨r3, rfl, H⟩ := hq
    show Ev X 48 18 _ [vI r3] τ1 Q
    refine e_nx hcd rfl rfl ?_
    show Ev X 48 19 [some (vR (some 163)), some (vI x1), some (vI x2), some (vI x3), some (vI r3)] [] _ Q
    iterate 2 (refine e_nx hcd rfl rfl ?_)
    obtain ⟨h4, H⟩ := H
    obtain ⟨h5, H⟩ := H
    refine r_icmp hcd rfl h4 h5 (fun hc => ?_) (fun hc => ?_)
    · replace H := H.1 hc
      refine e_nx hcd rfl rfl ?_
      show Ev X 48 27 [some (vR (some 163)), some (vI x1), some (vI x2), some (vI (x3 + 1)), some (vI r3)] [] _ Q
      refine e_nx hcd rfl rfl ?_
      refine e_fg [4] ?_
      exact H
    · replace H := H.2 hc
      iterate 2 (refine e_nx hcd rfl rfl ?_)
      show Ev X 48 24 [some (vR (some 163)), some (vI x3), some (vI x2), some (vI x3), some (vI r3)] [] _ Q
      iterate 2 (refine e_nx hcd rfl rfl ?_)
      show Ev X 48 26 [some (vR (some 163)), some (vI x3), some (vI r3), some (vI x3), some (vI r3)] [] _ Q
      refine e_nx hcd rfl rfl ?_
      show Ev X 48 27 [some (vR (some 163)), some (vI x3), some (vI r3), some (vI (x3 + 1)), some (vI r3)] [] _ Q
      refine e_nx hcd rfl rfl ?_
      refine e_fg [4] ?_
      exact H
/-! X4_leftAtWorst -/
theorem v_49 {X : PX} {σ : Sg} {Q : Option PV → Sg → Prop} {a1 : Int}  (H : Ev X 49 2 [some (vR (some 163)), some (vI a1), some (vI 0), none, none] [] σ Q) : Cl X 49 [vR (some 163), vI a1] σ Q := by
  have hcd : cds 49 = cd_49 := rfl
  refine c_in (Nat.le_of_ble_eq_true rfl) rfl rfl ?_
  show Ev X 49 0 [some (vR (some 163)), some (vI a1), none, none, none] [] σ Q
  iterate 2 (refine e_nx hcd rfl rfl ?_)
  show Ev X 49 2 [some (vR (some 163)), some (vI a1), some (vI 0), none, none] [] _ Q
  exact H
theorem v_49_2 {X : PX} {σ : Sg} {Q : Option PV → Sg → Prop} {x1 : Int} {x2 : Int}  (H : InR x2 ∧ (127 < x2 → Ev X 49 16 [some (vR (some 163)), some (vI x1), some (vI 0), some (vI 0), none] [] σ Q) ∧ (¬ 127 < x2 → (0 ≤ x2 ∧ x2 < 128) ∧ Ev X 49 2 [some (vR (some 163)), some (vI x1), some (vI (x2 + 1)), none, none] [] (σ.1, up2 σ.2 166 x2.toNat 0) Q)) : Ev X 49 2 [some (vR (some 163)), some (vI x1), some (vI x2), none, none] [] σ Q := by
  have hcd : cds 49 = cd_49 := rfl
  iterate 2 (refine e_nx hcd rfl rfl ?_)
  obtain ⟨h1, H⟩ := H
  refine r_icmp hcd rfl h1 (by omega) (fun hc => ?_) (fun hc => ?_)
  · replace H := H.1 hc
    iterate 2 (refine e_nx hcd rfl rfl ?_)
    show Ev X 49 14 [some (vR (some 163)), some (vI x1), some (vI 0), none, none] [] _ Q
    iterate 2 (refine e_nx hcd rfl rfl ?_)
    show Ev X 49 16 [some (vR (some 163)), some (vI x1), some (vI 0), some (vI 0), none] [] _ Q
    exact H
  · replace H := H.2 hc
    refine e_nx hcd rfl rfl ?_
    refine r_getR hcd rfl rfl rfl ?_
    iterate 2 (refine e_nx hcd rfl rfl ?_)
    obtain ⟨h2, H⟩ := H
    refine r_ist hcd rfl rfl (by omega) h2 ?_
    refine e_nx hcd rfl rfl ?_
    show Ev X 49 11 [some (vR (some 163)), some (vI x1), some (vI (x2 + 1)), none, none] [] _ Q
    refine e_nx hcd rfl rfl ?_
    exact H
set_option maxRecDepth 20000 in
set_option maxHeartbeats 8000000 in
theorem v_49_16 {X : PX} {σ : Sg} {Q : Option PV → Sg → Prop} {x1 : Int} {x2 : Int} {x3 : Int}  (H : InR x3 ∧ InR (σ.1 163 0) ∧ (σ.1 163 0 ≤ x3 → Q (some (vI x2)) σ) ∧ (¬ σ.1 163 0 ≤ x3 → (128 ≤ x3 → Q (some (vI x2)) σ) ∧ (¬ 128 ≤ x3 → (0 ≤ x3 ∧ x3 < 128) ∧ (0 ≤ iAnd (iL2i (lShr (σ.2 165 x3.toNat) (x1 * 7))) 127 ∧ iAnd (iL2i (lShr (σ.2 165 x3.toNat) (x1 * 7))) 127 < 128) ∧ InR x2 ∧ InR ((up2 σ.2 166 (iAnd (iL2i (lShr (σ.2 165 x3.toNat) (x1 * 7))) 127).toNat ((σ.2 166 (iAnd (iL2i (lShr (σ.2 165 x3.toNat) (x1 * 7))) 127).toNat) + 1)) 166 (iAnd (iL2i (lShr (σ.2 165 x3.toNat) (x1 * 7))) 127).toNat) ∧ Ev X 49 16 [some (vR (some 163)), some (vI x1), some (vI (max x2 ((up2 σ.2 166 (iAnd (iL2i (lShr (σ.2 165 x3.toNat) (x1 * 7))) 127).toNat ((σ.2 166 (iAnd (iL2i (lShr (σ.2 165 x3.toNat) (x1 * 7))) 127).toNat) + 1)) 166 (iAnd (iL2i (lShr (σ.2 165 x3.toNat) (x1 * 7))) 127).toNat))), some (vI (x3 + 1)), none] [] (σ.1, up2 σ.2 166 (iAnd (iL2i (lShr (σ.2 165 x3.toNat) (x1 * 7))) 127).toNat ((σ.2 166 (iAnd (iL2i (lShr (σ.2 165 x3.toNat) (x1 * 7))) 127).toNat) + 1)) Q))) : Ev X 49 16 [some (vR (some 163)), some (vI x1), some (vI x2), some (vI x3), none] [] σ Q := by
  have hcd : cds 49 = cd_49 := rfl
  iterate 2 (refine e_nx hcd rfl rfl ?_)
  refine r_getI hcd rfl rfl rfl ?_
  obtain ⟨h1, H⟩ := H
  obtain ⟨h2, H⟩ := H
  refine r_icmp hcd rfl h1 h2 (fun hc => ?_) (fun hc => ?_)
  · replace H := H.1 hc
    refine e_nx hcd rfl rfl ?_
    exact r_iret hcd rfl rfl rfl H
  · replace H := H.2 hc
    iterate 2 (refine e_nx hcd rfl rfl ?_)
    refine r_icmp hcd rfl h1 (by omega) (fun hc => ?_) (fun hc => ?_)
    · replace H := H.1 hc
      refine e_nx hcd rfl rfl ?_
      exact r_iret hcd rfl rfl rfl H
    · replace H := H.2 hc
      refine e_nx hcd rfl rfl ?_
      refine r_getR hcd rfl rfl rfl ?_
      refine e_nx hcd rfl rfl ?_
      obtain ⟨h3, H⟩ := H
      refine r_lld hcd rfl rfl (by omega) h3 ?_
      iterate 8 (refine e_nx hcd rfl rfl ?_)
      show Ev X 49 35 [some (vR (some 163)), some (vI x1), some (vI x2), some (vI x3), some (vI (iAnd (iL2i (lShr (σ.2 165 x3.toNat) (x1 * 7))) 127))] [] _ Q
      refine e_nx hcd rfl rfl ?_
      refine r_getR hcd rfl rfl rfl ?_
      iterate 2 (refine e_nx hcd rfl rfl ?_)
      obtain ⟨h4, H⟩ := H
      refine r_ild hcd rfl rfl (by omega) h4 ?_
      iterate 2 (refine e_nx hcd rfl rfl ?_)
      refine r_ist hcd rfl rfl (by omega) h4 ?_
      iterate 2 (refine e_nx hcd rfl rfl ?_)
      refine r_getR hcd rfl rfl rfl ?_
      refine e_nx hcd rfl rfl ?_
      refine r_ild hcd rfl rfl (by omega) h4 ?_
      obtain ⟨h5, H⟩ := H
      obtain ⟨h6, H⟩ := H
      refine r_max hcd rfl h5 h6 (Nat.le_of_ble_eq_true rfl) ?_
      refine e_nx hcd rfl rfl ?_
      show Ev X 49 50 [some (vR (some 163)), some (vI x1), some (vI (max x2 ((up2 σ.2 166 (iAnd (iL2i (lShr (σ.2 165 x3.toNat) (x1 * 7))) 127).toNat ((σ.2 166 (iAnd (iL2i (lShr (σ.2 165 x3.toNat) (x1 * 7))) 127).toNat) + 1)) 166 (iAnd (iL2i (lShr (σ.2 165 x3.toNat) (x1 * 7))) 127).toNat))), some (vI x3), some (vI (iAnd (iL2i (lShr (σ.2 165 x3.toNat) (x1 * 7))) 127))] [] _ Q
      refine e_nx hcd rfl rfl ?_
      show Ev X 49 51 [some (vR (some 163)), some (vI x1), some (vI (max x2 ((up2 σ.2 166 (iAnd (iL2i (lShr (σ.2 165 x3.toNat) (x1 * 7))) 127).toNat ((σ.2 166 (iAnd (iL2i (lShr (σ.2 165 x3.toNat) (x1 * 7))) 127).toNat) + 1)) 166 (iAnd (iL2i (lShr (σ.2 165 x3.toNat) (x1 * 7))) 127).toNat))), some (vI (x3 + 1)), some (vI (iAnd (iL2i (lShr (σ.2 165 x3.toNat) (x1 * 7))) 127))] [] _ Q
      refine e_nx hcd rfl rfl ?_
      refine e_fg [4] ?_
      exact H
/-! X4_fewestHouses -/
theorem v_50 {X : PX} {σ : Sg} {Q : Option PV → Sg → Prop}   (H : Ev X 50 4 [some (vR (some 163)), some (vI (-1)), some (vI 0), none] [] σ Q) : Cl X 50 [vR (some 163)] σ Q := by
  have hcd : cds 50 = cd_50 := rfl
  refine c_in (Nat.le_of_ble_eq_true rfl) rfl rfl ?_
  show Ev X 50 0 [some (vR (some 163)), none, none, none] [] σ Q
  iterate 2 (refine e_nx hcd rfl rfl ?_)
  show Ev X 50 2 [some (vR (some 163)), some (vI (-1)), none, none] [] _ Q
  iterate 2 (refine e_nx hcd rfl rfl ?_)
  show Ev X 50 4 [some (vR (some 163)), some (vI (-1)), some (vI 0), none] [] _ Q
  exact H
set_option maxRecDepth 20000 in
set_option maxHeartbeats 8000000 in
theorem v_50_4 {X : PX} {σ : Sg} {Q : Option PV → Sg → Prop} {x1 : Int} {x2 : Int}  (H : InR x2 ∧ InR (σ.1 163 0) ∧ (σ.1 163 0 ≤ x2 → Q (some (vI x1)) σ) ∧ (¬ σ.1 163 0 ≤ x2 → (128 ≤ x2 → Q (some (vI x1)) σ) ∧ (¬ 128 ≤ x2 → (0 ≤ x2 ∧ x2 < 128) ∧ CI X 283 [vI (σ.2 164 x2.toNat)] σ (fun r4 τ1 => InR x1 ∧ (x1 ≠ (-1) → InR r4 ∧ Ev X 50 4 [some (vR (some 163)), some (vI (min x1 r4)), some (vI (x2 + 1)), none] [] τ1 Q) ∧ (¬ x1 ≠ (-1) → Ev X 50 4 [some (vR (some 163)), some (vI r4), some (vI (x2 + 1)), none] [] τ1 Q))))) : Ev X 50 4 [some (vR (some 163)), some (vI x1), some (vI x2), none] [] σ Q := by
  have hcd : cds 50 = cd_50 := rfl
  iterate 2 (refine e_nx hcd rfl rfl ?_)
  refine r_getI hcd rfl rfl rfl ?_
  obtain ⟨h1, H⟩ := H
  obtain ⟨h2, H⟩ := H
  refine r_icmp hcd rfl h1 h2 (fun hc => ?_) (fun hc => ?_)
  · replace H := H.1 hc
    refine e_nx hcd rfl rfl ?_
    exact r_iret hcd rfl rfl rfl H
  · replace H := H.2 hc
    iterate 2 (refine e_nx hcd rfl rfl ?_)
    refine r_icmp hcd rfl h1 (by omega) (fun hc => ?_) (fun hc => ?_)
    · replace H := H.1 hc
      refine e_nx hcd rfl rfl ?_
      exact r_iret hcd rfl rfl rfl H
    · replace H := H.2 hc
      refine e_nx hcd rfl rfl ?_
      refine r_getR hcd rfl rfl rfl ?_
      refine e_nx hcd rfl rfl ?_
      obtain ⟨h3, H⟩ := H
      refine r_ild hcd rfl rfl (by omega) h3 ?_
      refine r_cs hcd rfl (by omega) (Nat.le_of_ble_eq_true rfl) rfl rfl (Nat.le_of_ble_eq_true rfl) ?_
      refine Cl.mono H (fun v τ1 hq => ?_)
      obtain ⟨r4, rfl, H⟩ := hq
      show Ev X 50 16 _ [vI r4] τ1 Q
      refine e_nx hcd rfl rfl ?_
      show Ev X 50 17 [some (vR (some 163)), some (vI x1), some (vI x2), some (vI r4)] [] _ Q
      iterate 2 (refine e_nx hcd rfl rfl ?_)
      obtain ⟨h5, H⟩ := H
      refine r_icmp hcd rfl h5 (by omega) (fun hc => ?_) (fun hc => ?_)
      · replace H := H.1 hc
        iterate 2 (refine e_nx hcd rfl rfl ?_)
        obtain ⟨h6, H⟩ := H
        refine r_min hcd rfl h5 h6 (Nat.le_of_ble_eq_true rfl) ?_
        refine e_nx hcd rfl rfl ?_
        show Ev X 50 26 [some (vR (some 163)), some (vI (min x1 r4)), some (vI x2), some (vI r4)] [] _ Q
        refine e_nx hcd rfl rfl ?_
        show Ev X 50 27 [some (vR (some 163)), some (vI (min x1 r4)), some (vI (x2 + 1)), some (vI r4)] [] _ Q
        refine e_nx hcd rfl rfl ?_
        refine e_fg [3] ?_
        exact H
      · replace H := H.2 hc
        iterate 3 (refine e_nx hcd rfl rfl ?_)
        show Ev X 50 26 [some (vR (some 163)), some (vI r4), some (vI x2), some (vI r4)] [] _ Q
        refine e_nx hcd rfl rfl ?_
        show Ev X 50 27 [some (vR (some 163)), some (vI r4), some (vI (x2 + 1)), some (vI r4)] [] _ Q
        refine e_nx hcd rfl rfl ?_
        refine e_fg [3] ?_
        exact H
/-! X4_mostHouses -/
theorem v_51 {X : PX} {σ : Sg} {Q : Option PV → Sg → Prop}   (H : Ev X 51 4 [some (vR (some 163)), some (vI (-1)), some (vI 0)] [] σ Q) : Cl X 51 [vR (some 163)] σ Q := by
  have hcd : cds 51 = cd_51 := rfl
  refine c_in (Nat.le_of_ble_eq_true rfl) rfl rfl ?_
  show Ev X 51 0 [some (vR (some 163)), none, none] [] σ Q
  iterate 2 (refine e_nx hcd rfl rfl ?_)
  show Ev X 51 2 [some (vR (some 163)), some (vI (-1)), none] [] _ Q
  iterate 2 (refine e_nx hcd rfl rfl ?_)
  show Ev X 51 4 [some (vR (some 163)), some (vI (-1)), some (vI 0)] [] _ Q
  exact H
theorem v_51_4 {X : PX} {σ : Sg} {Q : Option PV → Sg → Prop} {x1 : Int} {x2 : Int}  (H : InR x2 ∧ InR (σ.1 163 0) ∧ (σ.1 163 0 ≤ x2 → Q (some (vI x1)) σ) ∧ (¬ σ.1 163 0 ≤ x2 → (128 ≤ x2 → Q (some (vI x1)) σ) ∧ (¬ 128 ≤ x2 → (0 ≤ x2 ∧ x2 < 128) ∧ CI X 283 [vI (σ.2 164 x2.toNat)] σ (fun r4 τ1 => InR x1 ∧ InR r4 ∧ Ev X 51 4 [some (vR (some 163)), some (vI (max x1 r4)), some (vI (x2 + 1))] [] τ1 Q)))) : Ev X 51 4 [some (vR (some 163)), some (vI x1), some (vI x2)] [] σ Q := by
  have hcd : cds 51 = cd_51 := rfl
  iterate 2 (refine e_nx hcd rfl rfl ?_)
  refine r_getI hcd rfl rfl rfl ?_
  obtain ⟨h1, H⟩ := H
  obtain ⟨h2, H⟩ := H
  refine r_icmp hcd rfl h1 h2 (fun hc => ?_) (fun hc => ?_)
  · replace H := H.1 hc
    refine e_nx hcd rfl rfl ?_
    exact r_iret hcd rfl rfl rfl H
  · replace H := H.2 hc
    iterate 2 (refine e_nx hcd rfl rfl ?_)
    refine r_icmp hcd rfl h1 (by omega) (fun hc => ?_) (fun hc => ?_)
    · replace H := H.1 hc
      refine e_nx hcd rfl rfl ?_
      exact r_iret hcd rfl rfl rfl H
    · replace H := H.2 hc
      iterate 2 (refine e_nx hcd rfl rfl ?_)
      refine r_getR hcd rfl rfl rfl ?_
      refine e_nx hcd rfl rfl ?_
      obtain ⟨h3, H⟩ := H
      refine r_ild hcd rfl rfl (by omega) h3 ?_
      refine r_cs hcd rfl (by omega) (Nat.le_of_ble_eq_true rfl) rfl rfl (Nat.le_of_ble_eq_true rfl) ?_
      refine Cl.mono H (fun v τ1 hq => ?_)
      obtain ⟨r4, rfl, H⟩ := hq
      show Ev X 51 17 _ [vI r4, vI x1] τ1 Q
      obtain ⟨h5, H⟩ := H
      obtain ⟨h6, H⟩ := H
      refine r_max hcd rfl h5 h6 (Nat.le_of_ble_eq_true rfl) ?_
      refine e_nx hcd rfl rfl ?_
      show Ev X 51 19 [some (vR (some 163)), some (vI (max x1 r4)), some (vI x2)] [] _ Q
      refine e_nx hcd rfl rfl ?_
      show Ev X 51 20 [some (vR (some 163)), some (vI (max x1 r4)), some (vI (x2 + 1))] [] _ Q
      refine e_nx hcd rfl rfl ?_
      exact H
/-! X4_alikeCouples -/
theorem v_52 {X : PX} {σ : Sg} {Q : Option PV → Sg → Prop}   (H : Ev X 52 4 [some (vR (some 163)), some (vI 0), some (vI 0), none] [] σ Q) : Cl X 52 [vR (some 163)] σ Q := by
  have hcd : cds 52 = cd_52 := rfl
  refine c_in (Nat.le_of_ble_eq_true rfl) rfl rfl ?_
  show Ev X 52 0 [some (vR (some 163)), none, none, none] [] σ Q
  iterate 2 (refine e_nx hcd rfl rfl ?_)
  show Ev X 52 2 [some (vR (some 163)), some (vI 0), none, none] [] _ Q
  iterate 2 (refine e_nx hcd rfl rfl ?_)
  show Ev X 52 4 [some (vR (some 163)), some (vI 0), some (vI 0), none] [] _ Q
  exact H
theorem v_52_4 {X : PX} {σ : Sg} {Q : Option PV → Sg → Prop} {x1 : Int} {x2 : Int}  (H : InR x2 ∧ InR (σ.1 163 0) ∧ (σ.1 163 0 ≤ x2 → Q (some (vI x1)) σ) ∧ (¬ σ.1 163 0 ≤ x2 → (128 ≤ x2 → Q (some (vI x1)) σ) ∧ (¬ 128 ≤ x2 → Ev X 52 13 [some (vR (some 163)), some (vI x1), some (vI x2), some (vI 0)] [] σ Q))) : Ev X 52 4 [some (vR (some 163)), some (vI x1), some (vI x2), none] [] σ Q := by
  have hcd : cds 52 = cd_52 := rfl
  iterate 2 (refine e_nx hcd rfl rfl ?_)
  refine r_getI hcd rfl rfl rfl ?_
  obtain ⟨h1, H⟩ := H
  obtain ⟨h2, H⟩ := H
  refine r_icmp hcd rfl h1 h2 (fun hc => ?_) (fun hc => ?_)
  · replace H := H.1 hc
    refine e_nx hcd rfl rfl ?_
    exact r_iret hcd rfl rfl rfl H
  · replace H := H.2 hc
    iterate 2 (refine e_nx hcd rfl rfl ?_)
    refine r_icmp hcd rfl h1 (by omega) (fun hc => ?_) (fun hc => ?_)
    · replace H := H.1 hc
      refine e_nx hcd rfl rfl ?_
      exact r_iret hcd rfl rfl rfl H
    · replace H := H.2 hc
      iterate 2 (refine e_nx hcd rfl rfl ?_)
      show Ev X 52 13 [some (vR (some 163)), some (vI x1), some (vI x2), some (vI 0)] [] _ Q
      exact H
theorem v_52_13 {X : PX} {σ : Sg} {Q : Option PV → Sg → Prop} {x1 : Int} {x2 : Int} {x3 : Int}  (H : InR x3 ∧ InR x2 ∧ (x2 ≤ x3 → Ev X 52 4 [some (vR (some 163)), some (vI x1), some (vI (x2 + 1)), none] [] σ Q) ∧ (¬ x2 ≤ x3 → (0 ≤ x2 ∧ x2 < 128) ∧ (0 ≤ x3 ∧ x3 < 128) ∧ InR (lCmp (σ.2 165 x2.toNat) (σ.2 165 x3.toNat)) ∧ (lCmp (σ.2 165 x2.toNat) (σ.2 165 x3.toNat) ≠ 0 → Ev X 52 13 [some (vR (some 163)), some (vI x1), some (vI x2), some (vI (x3 + 1))] [] σ Q) ∧ (¬ lCmp (σ.2 165 x2.toNat) (σ.2 165 x3.toNat) ≠ 0 → Ev X 52 13 [some (vR (some 163)), some (vI (x1 + 1)), some (vI x2), some (vI (x3 + 1))] [] σ Q))) : Ev X 52 13 [some (vR (some 163)), some (vI x1), some (vI x2), some (vI x3)] [] σ Q := by
  have hcd : cds 52 = cd_52 := rfl
  iterate 2 (refine e_nx hcd rfl rfl ?_)
  obtain ⟨h1, H⟩ := H
  obtain ⟨h2, H⟩ := H
  refine r_icmp hcd rfl h1 h2 (fun hc => ?_) (fun hc => ?_)
  · replace H := H.1 hc
    refine e_nx hcd rfl rfl ?_
    show Ev X 52 30 [some (vR (some 163)), some (vI x1), some (vI (x2 + 1)), some (vI x3)] [] _ Q
    refine e_nx hcd rfl rfl ?_
    refine e_fg [3] ?_
    exact H
  · replace H := H.2 hc
    refine e_nx hcd rfl rfl ?_
    refine r_getR hcd rfl rfl rfl ?_
    refine e_nx hcd rfl rfl ?_
    obtain ⟨h3, H⟩ := H
    refine r_lld hcd rfl rfl (by omega) h3 ?_
    refine e_nx hcd rfl rfl ?_
    refine r_getR hcd rfl rfl rfl ?_
    refine e_nx hcd rfl rfl ?_
    obtain ⟨h4, H⟩ := H
    refine r_lld hcd rfl rfl (by omega) h4 ?_
    refine e_nx hcd rfl rfl ?_
    obtain ⟨h5, H⟩ := H
    refine r_if hcd rfl h5 (fun hc => ?_) (fun hc => ?_)
    · replace H := H.1 hc
      refine e_nx hcd rfl rfl ?_
      show Ev X 52 28 [some (vR (some 163)), some (vI x1), some (vI x2), some (vI (x3 + 1))] [] _ Q
      refine e_nx hcd rfl rfl ?_
      exact H
    · replace H := H.2 hc
      refine e_nx hcd rfl rfl ?_
      show Ev X 52 27 [some (vR (some 163)), some (vI (x1 + 1)), some (vI x2), some (vI x3)] [] _ Q
      refine e_nx hcd rfl rfl ?_
      show Ev X 52 28 [some (vR (some 163)), some (vI (x1 + 1)), some (vI x2), some (vI (x3 + 1))] [] _ Q
      refine e_nx hcd rfl rfl ?_
      exact H
/-! X5_taxOf -/
theorem v_54 {X : PX} {σ : Sg} {Q : Option PV → Sg → Prop} {v1 : Nat} {a1 : Int} (hv1 : v1 ∈ levL) (H : InR a1 ∧ (a1 < 0 → Q (some (vI 0)) σ) ∧ (¬ a1 < 0 → (7 ≤ a1 → Q (some (vI 0)) σ) ∧ (¬ 7 ≤ a1 → (0 ≤ a1 ∧ a1 < 7) ∧ Q (some (vI (σ.2 (v1 + 1) a1.toNat))) σ))) : Cl X 54 [vR (some v1), vI a1] σ Q := by
  have hcd : cds 54 = cd_54 := rfl
  refine c_in (Nat.le_of_ble_eq_true rfl) rfl rfl ?_
  show Ev X 54 0 [some (vR (some v1)), some (vI a1)] [] σ Q
  refine e_nx hcd rfl rfl ?_
  obtain ⟨h1, H⟩ := H
  refine r_if hcd rfl h1 (fun hc => ?_) (fun hc => ?_)
  · replace H := H.1 hc
    refine e_nx hcd rfl rfl ?_
    exact r_iret hcd rfl rfl rfl H
  · replace H := H.2 hc
    iterate 2 (refine e_nx hcd rfl rfl ?_)
    refine r_icmp hcd rfl h1 (by omega) (fun hc => ?_) (fun hc => ?_)
    · replace H := H.1 hc
      refine e_nx hcd rfl rfl ?_
      exact r_iret hcd rfl rfl rfl H
    · replace H := H.2 hc
      refine e_nx hcd rfl rfl ?_
      refine r_getR hcd rfl ((levS hv1).1) rfl ?_
      refine e_nx hcd rfl rfl ?_
      obtain ⟨h2, H⟩ := H
      refine r_ild hcd rfl ((levS hv1).2.1) (by omega) h2 ?_
      refine e_nx hcd rfl rfl ?_
      exact r_iret hcd rfl rfl rfl H
