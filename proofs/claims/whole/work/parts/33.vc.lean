/-! X5_share -/
theorem v_55 {X : PX} {σ : Sg} {Q : Option PV → Sg → Prop} {v1 : Nat} {p1 : Nat} {a1 : Int} {a2 : Int} (hv1 : v1 ∈ levL) (hp1 : p1 ∈ parL) (H : Ev X 55 4 [some (vR (some v1)), some (vR (some p1)), some (vI a1), some (vI a2), some (vI 0), some (vI 0), none, none] [] σ Q) : Cl X 55 [vR (some v1), vR (some p1), vI a1, vI a2] σ Q := by
  have hcd : cds 55 = cd_55 := rfl
  refine c_in (Nat.le_of_ble_eq_true rfl) rfl rfl ?_
  show Ev X 55 0 [some (vR (some v1)), some (vR (some p1)), some (vI a1), some (vI a2), none, none, none, none] [] σ Q
  iterate 2 (refine e_nx hcd rfl rfl ?_)
  show Ev X 55 2 [some (vR (some v1)), some (vR (some p1)), some (vI a1), some (vI a2), some (vI 0), none, none, none] [] _ Q
  iterate 2 (refine e_nx hcd rfl rfl ?_)
  show Ev X 55 4 [some (vR (some v1)), some (vR (some p1)), some (vI a1), some (vI a2), some (vI 0), some (vI 0), none, none] [] _ Q
  exact H
set_option maxRecDepth 20000 in
set_option maxHeartbeats 8000000 in
theorem v_55_4 {X : PX} {σ : Sg} {Q : Option PV → Sg → Prop} {v1 : Nat} {p1 : Nat} {x2 : Int} {x3 : Int} {x4 : Int} {x5 : Int} (hv1 : v1 ∈ levL) (hp1 : p1 ∈ parL) (H : InR x5 ∧ (7 ≤ x5 → InR x4 ∧ (x4 ≤ 0 → (0 < x4 → Ev X 55 50 [some (vR (some v1)), some (vR (some p1)), some (vI x2), some (vI x3), some (vI x4), some (vI x2), some (vI 0), none] [] (up2 σ.1 v1 0 x2, σ.2) Q) ∧ (¬ 0 < x4 → Q none (up2 σ.1 v1 0 x2, σ.2))) ∧ (¬ x4 ≤ 0 → (0 < x4 → Ev X 55 50 [some (vR (some v1)), some (vR (some p1)), some (vI x2), some (vI x3), some (vI x4), some (vI x2), some (vI 0), none] [] (up2 σ.1 v1 0 0, σ.2) Q) ∧ (¬ 0 < x4 → Q none (up2 σ.1 v1 0 0, σ.2)))) ∧ (¬ 7 ≤ x5 → (0 ≤ x5 ∧ x5 < 7) ∧ InR (σ.1 p1 2) ∧ (σ.1 p1 2 ≤ x5 → Ev X 55 4 [some (vR (some v1)), some (vR (some p1)), some (vI x2), some (vI x3), some (vI x4), some (vI (x5 + 1)), none, none] [] (σ.1, up2 (up2 σ.2 (v1 + 1) x5.toNat 0) (v1 + 2) x5.toNat 0) Q) ∧ (¬ σ.1 p1 2 ≤ x5 → InR (iAnd (iShr x3 x5) 1) ∧ (iAnd (iShr x3 x5) 1 ≠ 0 → Ev X 55 4 [some (vR (some v1)), some (vR (some p1)), some (vI x2), some (vI x3), some (vI x4), some (vI (x5 + 1)), none, none] [] (σ.1, up2 (up2 σ.2 (v1 + 1) x5.toNat 0) (v1 + 2) x5.toNat 0) Q) ∧ (¬ iAnd (iShr x3 x5) 1 ≠ 0 → Ev X 55 4 [some (vR (some v1)), some (vR (some p1)), some (vI x2), some (vI x3), some (vI (x4 + ((up2 (up2 σ.2 (v1 + 1) x5.toNat 0) (v1 + 2) x5.toNat 0) (p1 + 1) x5.toNat))), some (vI (x5 + 1)), none, none] [] (σ.1, up2 (up2 σ.2 (v1 + 1) x5.toNat 0) (v1 + 2) x5.toNat 0) Q)))) : Ev X 55 4 [some (vR (some v1)), some (vR (some p1)), some (vI x2), some (vI x3), some (vI x4), some (vI x5), none, none] [] σ Q := by
  have hcd : cds 55 = cd_55 := rfl
  iterate 2 (refine e_nx hcd rfl rfl ?_)
  obtain ⟨h1, H⟩ := H
  refine r_icmp hcd rfl h1 (by omega) (fun hc => ?_) (fun hc => ?_)
  · replace H := H.1 hc
    iterate 2 (refine e_nx hcd rfl rfl ?_)
    obtain ⟨h2, H⟩ := H
    refine r_if hcd rfl h2 (fun hc => ?_) (fun hc => ?_)
    · replace H := H.1 hc
      refine e_nx hcd rfl rfl ?_
      refine r_putI hcd rfl ((levS hv1).1) rfl rfl ?_
      refine e_nx hcd rfl rfl ?_
      refine r_if hcd rfl h2 (fun hc => ?_) (fun hc => ?_)
      · replace H := H.1 hc
        iterate 2 (refine e_nx hcd rfl rfl ?_)
        show Ev X 55 48 [some (vR (some v1)), some (vR (some p1)), some (vI x2), some (vI x3), some (vI x4), some (vI x2), none, none] [] _ Q
        iterate 2 (refine e_nx hcd rfl rfl ?_)
        show Ev X 55 50 [some (vR (some v1)), some (vR (some p1)), some (vI x2), some (vI x3), some (vI x4), some (vI x2), some (vI 0), none] [] _ Q
        exact H
      · replace H := H.2 hc
        exact r_vret hcd rfl rfl rfl H
    · replace H := H.2 hc
      iterate 2 (refine e_nx hcd rfl rfl ?_)
      refine r_putI hcd rfl ((levS hv1).1) rfl rfl ?_
      refine e_nx hcd rfl rfl ?_
      refine r_if hcd rfl h2 (fun hc => ?_) (fun hc => ?_)
      · replace H := H.1 hc
        iterate 2 (refine e_nx hcd rfl rfl ?_)
        show Ev X 55 48 [some (vR (some v1)), some (vR (some p1)), some (vI x2), some (vI x3), some (vI x4), some (vI x2), none, none] [] _ Q
        iterate 2 (refine e_nx hcd rfl rfl ?_)
        show Ev X 55 50 [some (vR (some v1)), some (vR (some p1)), some (vI x2), some (vI x3), some (vI x4), some (vI x2), some (vI 0), none] [] _ Q
        exact H
      · replace H := H.2 hc
        exact r_vret hcd rfl rfl rfl H
  · replace H := H.2 hc
    refine e_nx hcd rfl rfl ?_
    refine r_getR hcd rfl ((levS hv1).1) rfl ?_
    iterate 2 (refine e_nx hcd rfl rfl ?_)
    obtain ⟨h3, H⟩ := H
    refine r_ist hcd rfl ((levS hv1).2.1) (by omega) h3 ?_
    refine e_nx hcd rfl rfl ?_
    refine r_getR hcd rfl ((levS hv1).1) rfl ?_
    iterate 2 (refine e_nx hcd rfl rfl ?_)
    refine r_ist hcd rfl ((levS hv1).2.2) (by omega) h3 ?_
    iterate 2 (refine e_nx hcd rfl rfl ?_)
    refine r_getI hcd rfl ((parS hp1).1) rfl ?_
    obtain ⟨h4, H⟩ := H
    refine r_icmp hcd rfl h1 h4 (fun hc => ?_) (fun hc => ?_)
    · replace H := H.1 hc
      refine e_nx hcd rfl rfl ?_
      show Ev X 55 35 [some (vR (some v1)), some (vR (some p1)), some (vI x2), some (vI x3), some (vI x4), some (vI (x5 + 1)), none, none] [] _ Q
      refine e_nx hcd rfl rfl ?_
      exact H
    · replace H := H.2 hc
      iterate 5 (refine e_nx hcd rfl rfl ?_)
      obtain ⟨h5, H⟩ := H
      refine r_if hcd rfl h5 (fun hc => ?_) (fun hc => ?_)
      · replace H := H.1 hc
        refine e_nx hcd rfl rfl ?_
        show Ev X 55 35 [some (vR (some v1)), some (vR (some p1)), some (vI x2), some (vI x3), some (vI x4), some (vI (x5 + 1)), none, none] [] _ Q
        refine e_nx hcd rfl rfl ?_
        exact H
      · replace H := H.2 hc
        iterate 2 (refine e_nx hcd rfl rfl ?_)
        refine r_getR hcd rfl ((parS hp1).1) rfl ?_
        refine e_nx hcd rfl rfl ?_
        refine r_ild hcd rfl ((parS hp1).2.1) (by omega) h3 ?_
        iterate 2 (refine e_nx hcd rfl rfl ?_)
        show Ev X 55 34 [some (vR (some v1)), some (vR (some p1)), some (vI x2), some (vI x3), some (vI (x4 + ((up2 (up2 σ.2 (v1 + 1) x5.toNat 0) (v1 + 2) x5.toNat 0) (p1 + 1) x5.toNat))), some (vI x5), none, none] [] _ Q
        refine e_nx hcd rfl rfl ?_
        show Ev X 55 35 [some (vR (some v1)), some (vR (some p1)), some (vI x2), some (vI x3), some (vI (x4 + ((up2 (up2 σ.2 (v1 + 1) x5.toNat 0) (v1 + 2) x5.toNat 0) (p1 + 1) x5.toNat))), some (vI (x5 + 1)), none, none] [] _ Q
        refine e_nx hcd rfl rfl ?_
        exact H
set_option maxRecDepth 20000 in
set_option maxHeartbeats 8000000 in
theorem v_55_50 {X : PX} {σ : Sg} {Q : Option PV → Sg → Prop} {v1 : Nat} {p1 : Nat} {x2 : Int} {x3 : Int} {x4 : Int} {x5 : Int} {x6 : Int} (hv1 : v1 ∈ levL) (hp1 : p1 ∈ parL) (H : InR x6 ∧ InR (σ.1 p1 2) ∧ (σ.1 p1 2 ≤ x6 → Ev X 55 100 [some (vR (some v1)), none, none, none, none, some (vI x5), some (vI 0), none] [] σ Q) ∧ (¬ σ.1 p1 2 ≤ x6 → (7 ≤ x6 → Ev X 55 100 [some (vR (some v1)), none, none, none, none, some (vI x5), some (vI 0), none] [] σ Q) ∧ (¬ 7 ≤ x6 → InR (iAnd (iShr x3 x6) 1) ∧ (iAnd (iShr x3 x6) 1 ≠ 0 → Ev X 55 50 [some (vR (some v1)), some (vR (some p1)), some (vI x2), some (vI x3), some (vI x4), some (vI x5), some (vI (x6 + 1)), none] [] σ Q) ∧ (¬ iAnd (iShr x3 x6) 1 ≠ 0 → (0 ≤ x6 ∧ x6 < 7) ∧ InR x4 ∧ (x4 ≠ 0) ∧ Ev X 55 50 [some (vR (some v1)), some (vR (some p1)), some (vI x2), some (vI x3), some (vI x4), some (vI (x5 - ((up2 (up2 σ.2 (v1 + 1) x6.toNat (iDiv (x2 * (σ.2 (p1 + 1) x6.toNat)) x4)) (v1 + 2) x6.toNat ((x2 * (σ.2 (p1 + 1) x6.toNat)) - (((up2 σ.2 (v1 + 1) x6.toNat (iDiv (x2 * (σ.2 (p1 + 1) x6.toNat)) x4)) (v1 + 1) x6.toNat) * x4))) (v1 + 1) x6.toNat))), some (vI (x6 + 1)), none] [] (σ.1, up2 (up2 σ.2 (v1 + 1) x6.toNat (iDiv (x2 * (σ.2 (p1 + 1) x6.toNat)) x4)) (v1 + 2) x6.toNat ((x2 * (σ.2 (p1 + 1) x6.toNat)) - (((up2 σ.2 (v1 + 1) x6.toNat (iDiv (x2 * (σ.2 (p1 + 1) x6.toNat)) x4)) (v1 + 1) x6.toNat) * x4))) Q)))) : Ev X 55 50 [some (vR (some v1)), some (vR (some p1)), some (vI x2), some (vI x3), some (vI x4), some (vI x5), some (vI x6), none] [] σ Q := by
  have hcd : cds 55 = cd_55 := rfl
  iterate 2 (refine e_nx hcd rfl rfl ?_)
  refine r_getI hcd rfl ((parS hp1).1) rfl ?_
  obtain ⟨h1, H⟩ := H
  obtain ⟨h2, H⟩ := H
  refine r_icmp hcd rfl h1 h2 (fun hc => ?_) (fun hc => ?_)
  · replace H := H.1 hc
    iterate 2 (refine e_nx hcd rfl rfl ?_)
    show Ev X 55 100 [some (vR (some v1)), some (vR (some p1)), some (vI x2), some (vI x3), some (vI x4), some (vI x5), some (vI 0), none] [] _ Q
    refine e_fg [1, 2, 3, 4] ?_
    exact H
  · replace H := H.2 hc
    iterate 2 (refine e_nx hcd rfl rfl ?_)
    refine r_icmp hcd rfl h1 (by omega) (fun hc => ?_) (fun hc => ?_)
    · replace H := H.1 hc
      iterate 2 (refine e_nx hcd rfl rfl ?_)
      show Ev X 55 100 [some (vR (some v1)), some (vR (some p1)), some (vI x2), some (vI x3), some (vI x4), some (vI x5), some (vI 0), none] [] _ Q
      refine e_fg [1, 2, 3, 4] ?_
      exact H
    · replace H := H.2 hc
      iterate 5 (refine e_nx hcd rfl rfl ?_)
      obtain ⟨h3, H⟩ := H
      refine r_if hcd rfl h3 (fun hc => ?_) (fun hc => ?_)
      · replace H := H.1 hc
        refine e_nx hcd rfl rfl ?_
        show Ev X 55 97 [some (vR (some v1)), some (vR (some p1)), some (vI x2), some (vI x3), some (vI x4), some (vI x5), some (vI (x6 + 1)), none] [] _ Q
        refine e_nx hcd rfl rfl ?_
        exact H
      · replace H := H.2 hc
        iterate 2 (refine e_nx hcd rfl rfl ?_)
        refine r_getR hcd rfl ((parS hp1).1) rfl ?_
        refine e_nx hcd rfl rfl ?_
        obtain ⟨h4, H⟩ := H
        refine r_ild hcd rfl ((parS hp1).2.1) (by omega) h4 ?_
        iterate 2 (refine e_nx hcd rfl rfl ?_)
        show Ev X 55 70 [some (vR (some v1)), some (vR (some p1)), some (vI x2), some (vI x3), some (vI x4), some (vI x5), some (vI x6), some (vI (x2 * (σ.2 (p1 + 1) x6.toNat)))] [] _ Q
        refine e_nx hcd rfl rfl ?_
        refine r_getR hcd rfl ((levS hv1).1) rfl ?_
        iterate 3 (refine e_nx hcd rfl rfl ?_)
        obtain ⟨h5, H⟩ := H
        obtain ⟨h6, H⟩ := H
        refine r_div hcd rfl h5 h6 ?_
        refine r_ist hcd rfl ((levS hv1).2.1) (by omega) h4 ?_
        refine e_nx hcd rfl rfl ?_
        refine r_getR hcd rfl ((levS hv1).1) rfl ?_
        iterate 3 (refine e_nx hcd rfl rfl ?_)
        refine r_getR hcd rfl ((levS hv1).1) rfl ?_
        refine e_nx hcd rfl rfl ?_
        refine r_ild hcd rfl ((levS hv1).2.1) (by omega) h4 ?_
        iterate 3 (refine e_nx hcd rfl rfl ?_)
        refine r_ist hcd rfl ((levS hv1).2.2) (by omega) h4 ?_
        iterate 2 (refine e_nx hcd rfl rfl ?_)
        refine r_getR hcd rfl ((levS hv1).1) rfl ?_
        refine e_nx hcd rfl rfl ?_
        refine r_ild hcd rfl ((levS hv1).2.1) (by omega) h4 ?_
        iterate 2 (refine e_nx hcd rfl rfl ?_)
        show Ev X 55 96 [some (vR (some v1)), some (vR (some p1)), some (vI x2), some (vI x3), some (vI x4), some (vI (x5 - ((up2 (up2 σ.2 (v1 + 1) x6.toNat (iDiv (x2 * (σ.2 (p1 + 1) x6.toNat)) x4)) (v1 + 2) x6.toNat ((x2 * (σ.2 (p1 + 1) x6.toNat)) - (((up2 σ.2 (v1 + 1) x6.toNat (iDiv (x2 * (σ.2 (p1 + 1) x6.toNat)) x4)) (v1 + 1) x6.toNat) * x4))) (v1 + 1) x6.toNat))), some (vI x6), some (vI (x2 * (σ.2 (p1 + 1) x6.toNat)))] [] _ Q
        refine e_nx hcd rfl rfl ?_
        show Ev X 55 97 [some (vR (some v1)), some (vR (some p1)), some (vI x2), some (vI x3), some (vI x4), some (vI (x5 - ((up2 (up2 σ.2 (v1 + 1) x6.toNat (iDiv (x2 * (σ.2 (p1 + 1) x6.toNat)) x4)) (v1 + 2) x6.toNat ((x2 * (σ.2 (p1 + 1) x6.toNat)) - (((up2 σ.2 (v1 + 1) x6.toNat (iDiv (x2 * (σ.2 (p1 + 1) x6.toNat)) x4)) (v1 + 1) x6.toNat) * x4))) (v1 + 1) x6.toNat))), some (vI (x6 + 1)), some (vI (x2 * (σ.2 (p1 + 1) x6.toNat)))] [] _ Q
        refine e_nx hcd rfl rfl ?_
        refine e_fg [7] ?_
        exact H
theorem v_55_100 {X : PX} {σ : Sg} {Q : Option PV → Sg → Prop} {v1 : Nat} {x5 : Int} {x6 : Int} (hv1 : v1 ∈ levL) (H : InR x6 ∧ InR x5 ∧ (x5 ≤ x6 → Q none σ) ∧ (¬ x5 ≤ x6 → (7 ≤ x6 → Q none σ) ∧ (¬ 7 ≤ x6 → CV X 56 [vR (some v1)] σ (fun τ1 => Ev X 55 100 [some (vR (some v1)), none, none, none, none, some (vI x5), some (vI (x6 + 1)), none] [] τ1 Q)))) : Ev X 55 100 [some (vR (some v1)), none, none, none, none, some (vI x5), some (vI x6), none] [] σ Q := by
  have hcd : cds 55 = cd_55 := rfl
  iterate 2 (refine e_nx hcd rfl rfl ?_)
  obtain ⟨h1, H⟩ := H
  obtain ⟨h2, H⟩ := H
  refine r_icmp hcd rfl h1 h2 (fun hc => ?_) (fun hc => ?_)
  · replace H := H.1 hc
    exact r_vret hcd rfl rfl rfl H
  · replace H := H.2 hc
    iterate 2 (refine e_nx hcd rfl rfl ?_)
    refine r_icmp hcd rfl h1 (by omega) (fun hc => ?_) (fun hc => ?_)
    · replace H := H.1 hc
      exact r_vret hcd rfl rfl rfl H
    · replace H := H.2 hc
      refine e_nx hcd rfl rfl ?_
      refine r_cv hcd rfl (by omega) ((levS hv1).1) rfl rfl (Nat.le_of_ble_eq_true rfl) ?_
      refine Cl.mono H (fun v τ1 hq => ?_)
      obtain ⟨rfl, H⟩ := hq
      show Ev X 55 108 _ [] τ1 Q
      refine e_nx hcd rfl rfl ?_
      show Ev X 55 109 [some (vR (some v1)), none, none, none, none, some (vI x5), some (vI (x6 + 1)), none] [] _ Q
      refine e_nx hcd rfl rfl ?_
      exact H
/-! X5_giveOneMore -/
theorem v_56 {X : PX} {σ : Sg} {Q : Option PV → Sg → Prop} {v1 : Nat} (hv1 : v1 ∈ levL) (H : Ev X 56 4 [some (vR (some v1)), some (vI 0), some (vI 1)] [] σ Q) : Cl X 56 [vR (some v1)] σ Q := by
  have hcd : cds 56 = cd_56 := rfl
  refine c_in (Nat.le_of_ble_eq_true rfl) rfl rfl ?_
  show Ev X 56 0 [some (vR (some v1)), none, none] [] σ Q
  iterate 2 (refine e_nx hcd rfl rfl ?_)
  show Ev X 56 2 [some (vR (some v1)), some (vI 0), none] [] _ Q
  iterate 2 (refine e_nx hcd rfl rfl ?_)
  show Ev X 56 4 [some (vR (some v1)), some (vI 0), some (vI 1)] [] _ Q
  exact H
set_option maxRecDepth 20000 in
set_option maxHeartbeats 8000000 in
theorem v_56_4 {X : PX} {σ : Sg} {Q : Option PV → Sg → Prop} {v1 : Nat} {x1 : Int} {x2 : Int} (hv1 : v1 ∈ levL) (H : InR x2 ∧ (7 ≤ x2 → (0 ≤ x1 ∧ x1 < 7) ∧ Q none (σ.1, up2 (up2 σ.2 (v1 + 1) x1.toNat ((σ.2 (v1 + 1) x1.toNat) + 1)) (v1 + 2) x1.toNat 0)) ∧ (¬ 7 ≤ x2 → (0 ≤ x2 ∧ x2 < 7) ∧ (0 ≤ x1 ∧ x1 < 7) ∧ InR (σ.2 (v1 + 2) x2.toNat) ∧ InR (σ.2 (v1 + 2) x1.toNat) ∧ (σ.2 (v1 + 2) x2.toNat ≤ σ.2 (v1 + 2) x1.toNat → Ev X 56 4 [some (vR (some v1)), some (vI x1), some (vI (x2 + 1))] [] σ Q) ∧ (¬ σ.2 (v1 + 2) x2.toNat ≤ σ.2 (v1 + 2) x1.toNat → Ev X 56 4 [some (vR (some v1)), some (vI x2), some (vI (x2 + 1))] [] σ Q))) : Ev X 56 4 [some (vR (some v1)), some (vI x1), some (vI x2)] [] σ Q := by
  have hcd : cds 56 = cd_56 := rfl
  iterate 2 (refine e_nx hcd rfl rfl ?_)
  obtain ⟨h1, H⟩ := H
  refine r_icmp hcd rfl h1 (by omega) (fun hc => ?_) (fun hc => ?_)
  · replace H := H.1 hc
    refine e_nx hcd rfl rfl ?_
    refine r_getR hcd rfl ((levS hv1).1) rfl ?_
    iterate 2 (refine e_nx hcd rfl rfl ?_)
    obtain ⟨h2, H⟩ := H
    refine r_ild hcd rfl ((levS hv1).2.1) (by omega) h2 ?_
    iterate 2 (refine e_nx hcd rfl rfl ?_)
    refine r_ist hcd rfl ((levS hv1).2.1) (by omega) h2 ?_
    refine e_nx hcd rfl rfl ?_
    refine r_getR hcd rfl ((levS hv1).1) rfl ?_
    iterate 2 (refine e_nx hcd rfl rfl ?_)
    refine r_ist hcd rfl ((levS hv1).2.2) (by omega) h2 ?_
    exact r_vret hcd rfl rfl rfl H
  · replace H := H.2 hc
    refine e_nx hcd rfl rfl ?_
    refine r_getR hcd rfl ((levS hv1).1) rfl ?_
    refine e_nx hcd rfl rfl ?_
    obtain ⟨h3, H⟩ := H
    refine r_ild hcd rfl ((levS hv1).2.2) (by omega) h3 ?_
    refine e_nx hcd rfl rfl ?_
    refine r_getR hcd rfl ((levS hv1).1) rfl ?_
    refine e_nx hcd rfl rfl ?_
    obtain ⟨h4, H⟩ := H
    refine r_ild hcd rfl ((levS hv1).2.2) (by omega) h4 ?_
    obtain ⟨h5, H⟩ := H
    obtain ⟨h6, H⟩ := H
    refine r_icmp hcd rfl h5 h6 (fun hc => ?_) (fun hc => ?_)
    · replace H := H.1 hc
      refine e_nx hcd rfl rfl ?_
      show Ev X 56 19 [some (vR (some v1)), some (vI x1), some (vI (x2 + 1))] [] _ Q
      refine e_nx hcd rfl rfl ?_
      exact H
    · replace H := H.2 hc
      iterate 2 (refine e_nx hcd rfl rfl ?_)
      show Ev X 56 18 [some (vR (some v1)), some (vI x2), some (vI x2)] [] _ Q
      refine e_nx hcd rfl rfl ?_
      show Ev X 56 19 [some (vR (some v1)), some (vI x2), some (vI (x2 + 1))] [] _ Q
      refine e_nx hcd rfl rfl ?_
      exact H
/-! X6_goYears -/
theorem v_58 {X : PX} {σ : Sg} {Q : Option PV → Sg → Prop} {p1 : Nat} {a1 : Int} (hp1 : p1 ∈ parL) (H : CV X 29 [vR (some 146), vR (some p1)] σ (fun τ1 => Ev X 58 6 [some (vR (some 160)), none, some (vI a1), some (vI 0)] [] τ1 Q)) : Cl X 58 [vR (some 160), vR (some p1), vI a1] σ Q := by
  have hcd : cds 58 = cd_58 := rfl
  refine c_in (Nat.le_of_ble_eq_true rfl) rfl rfl ?_
  show Ev X 58 0 [some (vR (some 160)), some (vR (some p1)), some (vI a1), none] [] σ Q
  refine e_nx hcd rfl rfl ?_
  refine r_getR hcd rfl rfl rfl ?_
  refine e_nx hcd rfl rfl ?_
  refine r_cv hcd rfl (by omega) rfl rfl rfl (Nat.le_of_ble_eq_true rfl) ?_
  refine Cl.mono H (fun v τ1 hq => ?_)
  obtain ⟨rfl, H⟩ := hq
  show Ev X 58 4 _ [] τ1 Q
  iterate 2 (refine e_nx hcd rfl rfl ?_)
  show Ev X 58 6 [some (vR (some 160)), some (vR (some p1)), some (vI a1), some (vI 0)] [] _ Q
  refine e_fg [1] ?_
  exact H
theorem v_58_6 {X : PX} {σ : Sg} {Q : Option PV → Sg → Prop} {x2 : Int} {x3 : Int}  (H : InR x3 ∧ InR x2 ∧ (x2 ≤ x3 → Q none σ) ∧ (¬ x2 ≤ x3 → (50 ≤ x3 → Q none σ) ∧ (¬ 50 ≤ x3 → CI X 33 [vR (some 146)] σ (fun r3 τ1 => Ev X 58 6 [some (vR (some 160)), none, some (vI x2), some (vI (x3 + 1))] [] τ1 Q)))) : Ev X 58 6 [some (vR (some 160)), none, some (vI x2), some (vI x3)] [] σ Q := by
  have hcd : cds 58 = cd_58 := rfl
  iterate 2 (refine e_nx hcd rfl rfl ?_)
  obtain ⟨h1, H⟩ := H
  obtain ⟨h2, H⟩ := H
  refine r_icmp hcd rfl h1 h2 (fun hc => ?_) (fun hc => ?_)
  · replace H := H.1 hc
    exact r_vret hcd rfl rfl rfl H
  · replace H := H.2 hc
    iterate 2 (refine e_nx hcd rfl rfl ?_)
    refine r_icmp hcd rfl h1 (by omega) (fun hc => ?_) (fun hc => ?_)
    · replace H := H.1 hc
      exact r_vret hcd rfl rfl rfl H
    · replace H := H.2 hc
      refine e_nx hcd rfl rfl ?_
      refine r_getR hcd rfl rfl rfl ?_
      refine r_cv hcd rfl (by omega) rfl rfl rfl (Nat.le_of_ble_eq_true rfl) ?_
      refine Cl.mono H (fun v τ1 hq => ?_)
      obtain ⟨r3, rfl, H⟩ := hq
      show Ev X 58 15 _ [vI r3] τ1 Q
      iterate 2 (refine e_nx hcd rfl rfl ?_)
      show Ev X 58 17 [some (vR (some 160)), none, some (vI x2), some (vI (x3 + 1))] [] _ Q
      refine e_nx hcd rfl rfl ?_
      exact H
/-! X6_ruinYear -/
theorem v_59 {X : PX} {σ : Sg} {Q : Option PV → Sg → Prop} {p1 : Nat} {a1 : Int} {a2 : Int} (hp1 : p1 ∈ parL) (H : CV X 29 [vR (some 146), vR (some p1)] σ (fun τ1 => CV X 30 [vR (some 146)] (up2 τ1.1 147 0 a1, τ1.2) (fun τ2 => Ev X 59 14 [some (vR (some 160)), none, none, some (vI a2), some (vI 1)] [] τ2 Q))) : Cl X 59 [vR (some 160), vR (some p1), vI a1, vI a2] σ Q := by
  have hcd : cds 59 = cd_59 := rfl
  refine c_in (Nat.le_of_ble_eq_true rfl) rfl rfl ?_
  show Ev X 59 0 [some (vR (some 160)), some (vR (some p1)), some (vI a1), some (vI a2), none] [] σ Q
  refine e_nx hcd rfl rfl ?_
  refine r_getR hcd rfl rfl rfl ?_
  refine e_nx hcd rfl rfl ?_
  refine r_cv hcd rfl (by omega) rfl rfl rfl (Nat.le_of_ble_eq_true rfl) ?_
  refine Cl.mono H (fun v τ1 hq => ?_)
  obtain ⟨rfl, H⟩ := hq
  show Ev X 59 4 _ [] τ1 Q
  refine e_nx hcd rfl rfl ?_
  refine r_getR hcd rfl rfl rfl ?_
  refine r_getR hcd rfl rfl rfl ?_
  refine e_nx hcd rfl rfl ?_
  refine r_putI hcd rfl rfl rfl rfl ?_
  refine e_nx hcd rfl rfl ?_
  refine r_getR hcd rfl rfl rfl ?_
  refine r_cv hcd rfl (by omega) rfl rfl rfl (Nat.le_of_ble_eq_true rfl) ?_
  refine Cl.mono H (fun v τ2 hq => ?_)
  obtain ⟨rfl, H⟩ := hq
  show Ev X 59 12 _ [] τ2 Q
  iterate 2 (refine e_nx hcd rfl rfl ?_)
  show Ev X 59 14 [some (vR (some 160)), some (vR (some p1)), some (vI a1), some (vI a2), some (vI 1)] [] _ Q
  refine e_fg [1, 2] ?_
  exact H
theorem v_59_14 {X : PX} {σ : Sg} {Q : Option PV → Sg → Prop} {x3 : Int} {x4 : Int}  (H : InR x4 ∧ InR x3 ∧ (x3 < x4 → Q (some (vI (-1))) σ) ∧ (¬ x3 < x4 → (50 < x4 → Q (some (vI (-1))) σ) ∧ (¬ 50 < x4 → CI X 33 [vR (some 146)] σ (fun r3 τ1 => InR (τ1.1 146 8) ∧ (τ1.1 146 8 = (-1) → Ev X 59 14 [some (vR (some 160)), none, none, some (vI x3), some (vI (x4 + 1))] [] τ1 Q) ∧ (¬ τ1.1 146 8 = (-1) → Q (some (vI x4)) τ1))))) : Ev X 59 14 [some (vR (some 160)), none, none, some (vI x3), some (vI x4)] [] σ Q := by
  have hcd : cds 59 = cd_59 := rfl
  iterate 2 (refine e_nx hcd rfl rfl ?_)
  obtain ⟨h1, H⟩ := H
  obtain ⟨h2, H⟩ := H
  refine r_icmp hcd rfl h1 h2 (fun hc => ?_) (fun hc => ?_)
  · replace H := H.1 hc
    refine e_nx hcd rfl rfl ?_
    exact r_iret hcd rfl rfl rfl H
  · replace H := H.2 hc
    iterate 2 (refine e_nx hcd rfl rfl ?_)
    refine r_icmp hcd rfl h1 (by omega) (fun hc => ?_) (fun hc => ?_)
    · replace H := H.1 hc
      refine e_nx hcd rfl rfl ?_
      exact r_iret hcd rfl rfl rfl H
    · replace H := H.2 hc
      refine e_nx hcd rfl rfl ?_
      refine r_getR hcd rfl rfl rfl ?_
      refine r_cv hcd rfl (by omega) rfl rfl rfl (Nat.le_of_ble_eq_true rfl) ?_
      refine Cl.mono H (fun v τ1 hq => ?_)
      obtain ⟨r3, rfl, H⟩ := hq
      show Ev X 59 23 _ [vI r3] τ1 Q
      iterate 2 (refine e_nx hcd rfl rfl ?_)
      refine r_getR hcd rfl rfl rfl ?_
      refine r_getI hcd rfl rfl rfl ?_
      refine e_nx hcd rfl rfl ?_
      obtain ⟨h4, H⟩ := H
      refine r_icmp hcd rfl h4 (by omega) (fun hc => ?_) (fun hc => ?_)
      · replace H := H.1 hc
        refine e_nx hcd rfl rfl ?_
        show Ev X 59 32 [some (vR (some 160)), none, none, some (vI x3), some (vI (x4 + 1))] [] _ Q
        refine e_nx hcd rfl rfl ?_
        exact H
      · replace H := H.2 hc
        refine e_nx hcd rfl rfl ?_
        exact r_iret hcd rfl rfl rfl H
/-! X6_topQuota -/
theorem v_60 {X : PX} {σ : Sg} {Q : Option PV → Sg → Prop} {p1 : Nat} {a1 : Int} (hp1 : p1 ∈ parL) (H : Ev X 60 2 [some (vR (some 160)), some (vR (some p1)), some (vI a1), some (vI 99)] [] σ Q) : Cl X 60 [vR (some 160), vR (some p1), vI a1] σ Q := by
  have hcd : cds 60 = cd_60 := rfl
  refine c_in (Nat.le_of_ble_eq_true rfl) rfl rfl ?_
  show Ev X 60 0 [some (vR (some 160)), some (vR (some p1)), some (vI a1), none] [] σ Q
  iterate 2 (refine e_nx hcd rfl rfl ?_)
  show Ev X 60 2 [some (vR (some 160)), some (vR (some p1)), some (vI a1), some (vI 99)] [] _ Q
  exact H
theorem v_60_2 {X : PX} {σ : Sg} {Q : Option PV → Sg → Prop} {p1 : Nat} {x2 : Int} {x3 : Int} (hp1 : p1 ∈ parL) (H : InR x3 ∧ (x3 ≤ 0 → Q (some (vI 0)) σ) ∧ (¬ x3 ≤ 0 → CI X 59 [vR (some 160), vR (some p1), vI x3, vI x2] σ (fun r2 τ1 => InR r2 ∧ (r2 ≠ (-1) → Ev X 60 2 [some (vR (some 160)), some (vR (some p1)), some (vI x2), some (vI (x3 + (-1)))] [] τ1 Q) ∧ (¬ r2 ≠ (-1) → Q (some (vI x3)) τ1)))) : Ev X 60 2 [some (vR (some 160)), some (vR (some p1)), some (vI x2), some (vI x3)] [] σ Q := by
  have hcd : cds 60 = cd_60 := rfl
  refine e_nx hcd rfl rfl ?_
  obtain ⟨h1, H⟩ := H
  refine r_if hcd rfl h1 (fun hc => ?_) (fun hc => ?_)
  · replace H := H.1 hc
    refine e_nx hcd rfl rfl ?_
    exact r_iret hcd rfl rfl rfl H
  · replace H := H.2 hc
    iterate 4 (refine e_nx hcd rfl rfl ?_)
    refine r_cv hcd rfl (by omega) rfl rfl rfl (Nat.le_of_ble_eq_true rfl) ?_
    refine Cl.mono H (fun v τ1 hq => ?_)
    obtain ⟨r2, rfl, H⟩ := hq
    show Ev X 60 9 _ [vI r2] τ1 Q
    refine e_nx hcd rfl rfl ?_
    obtain ⟨h3, H⟩ := H
    refine r_icmp hcd rfl h3 (by omega) (fun hc => ?_) (fun hc => ?_)
    · replace H := H.1 hc
      refine e_nx hcd rfl rfl ?_
      show Ev X 60 14 [some (vR (some 160)), some (vR (some p1)), some (vI x2), some (vI (x3 + (-1)))] [] _ Q
      refine e_nx hcd rfl rfl ?_
      exact H
    · replace H := H.2 hc
      refine e_nx hcd rfl rfl ?_
      exact r_iret hcd rfl rfl rfl H
/-! X6_passedYear -/
theorem v_61 {X : PX} {σ : Sg} {Q : Option PV → Sg → Prop} {p1 : Nat} (hp1 : p1 ∈ parL) (H : CV X 29 [vR (some 146), vR (some p1)] σ (fun τ1 => CI X 89 [vR (some 147)] τ1 (fun r1 τ2 => Ev X 61 11 [some (vR (some 160)), none, some (vI r1), some (vI 1)] [] τ2 Q))) : Cl X 61 [vR (some 160), vR (some p1)] σ Q := by
  have hcd : cds 61 = cd_61 := rfl
  refine c_in (Nat.le_of_ble_eq_true rfl) rfl rfl ?_
  show Ev X 61 0 [some (vR (some 160)), some (vR (some p1)), none, none] [] σ Q
  refine e_nx hcd rfl rfl ?_
  refine r_getR hcd rfl rfl rfl ?_
  refine e_nx hcd rfl rfl ?_
  refine r_cv hcd rfl (by omega) rfl rfl rfl (Nat.le_of_ble_eq_true rfl) ?_
  refine Cl.mono H (fun v τ1 hq => ?_)
  obtain ⟨rfl, H⟩ := hq
  show Ev X 61 4 _ [] τ1 Q
  refine e_nx hcd rfl rfl ?_
  refine r_getR hcd rfl rfl rfl ?_
  refine r_getR hcd rfl rfl rfl ?_
  refine r_cv hcd rfl (by omega) rfl rfl rfl (Nat.le_of_ble_eq_true rfl) ?_
  refine Cl.mono H (fun v τ2 hq => ?_)
  obtain ⟨r1, rfl, H⟩ := hq
  show Ev X 61 8 _ [vI r1] τ2 Q
  refine e_nx hcd rfl rfl ?_
  show Ev X 61 9 [some (vR (some 160)), some (vR (some p1)), some (vI r1), none] [] _ Q
  iterate 2 (refine e_nx hcd rfl rfl ?_)
  show Ev X 61 11 [some (vR (some 160)), some (vR (some p1)), some (vI r1), some (vI 1)] [] _ Q
  refine e_fg [1] ?_
  exact H
theorem v_61_11 {X : PX} {σ : Sg} {Q : Option PV → Sg → Prop} {x2 : Int} {x3 : Int}  (H : InR x3 ∧ (50 < x3 → Q (some (vI (-1))) σ) ∧ (¬ 50 < x3 → CI X 33 [vR (some 146)] σ (fun r2 τ1 => CI X 89 [vR (some 147)] τ1 (fun r3 τ2 => InR r3 ∧ InR x2 ∧ (r3 = x2 → Ev X 61 11 [some (vR (some 160)), none, some (vI x2), some (vI (x3 + 1))] [] τ2 Q) ∧ (¬ r3 = x2 → Q (some (vI x3)) τ2))))) : Ev X 61 11 [some (vR (some 160)), none, some (vI x2), some (vI x3)] [] σ Q := by
  have hcd : cds 61 = cd_61 := rfl
  iterate 2 (refine e_nx hcd rfl rfl ?_)
  obtain ⟨h1, H⟩ := H
  refine r_icmp hcd rfl h1 (by omega) (fun hc => ?_) (fun hc => ?_)
  · replace H := H.1 hc
    refine e_nx hcd rfl rfl ?_
    exact r_iret hcd rfl rfl rfl H
  · replace H := H.2 hc
    refine e_nx hcd rfl rfl ?_
    refine r_getR hcd rfl rfl rfl ?_
    refine r_cv hcd rfl (by omega) rfl rfl rfl (Nat.le_of_ble_eq_true rfl) ?_
    refine Cl.mono H (fun v τ1 hq => ?_)
    obtain ⟨r2, rfl, H⟩ := hq
    show Ev X 61 17 _ [vI r2] τ1 Q
    iterate 2 (refine e_nx hcd rfl rfl ?_)
    refine r_getR hcd rfl rfl rfl ?_
    refine r_getR hcd rfl rfl rfl ?_
    refine r_cv hcd rfl (by omega) rfl rfl rfl (Nat.le_of_ble_eq_true rfl) ?_
    refine Cl.mono H (fun v τ2 hq => ?_)
    obtain ⟨r3, rfl, H⟩ := hq
    show Ev X 61 22 _ [vI r3] τ2 Q
    refine e_nx hcd rfl rfl ?_
    obtain ⟨h4, H⟩ := H
    obtain ⟨h5, H⟩ := H
    refine r_icmp hcd rfl h4 h5 (fun hc => ?_) (fun hc => ?_)
    · replace H := H.1 hc
      refine e_nx hcd rfl rfl ?_
      show Ev X 61 27 [some (vR (some 160)), none, some (vI x2), some (vI (x3 + 1))] [] _ Q
      refine e_nx hcd rfl rfl ?_
      exact H
    · replace H := H.2 hc
      refine e_nx hcd rfl rfl ?_
      exact r_iret hcd rfl rfl rfl H
/-! X6_levelYear -/
theorem v_62 {X : PX} {σ : Sg} {Q : Option PV → Sg → Prop} {p1 : Nat} (hp1 : p1 ∈ parL) (H : CV X 29 [vR (some 146), vR (some p1)] σ (fun τ1 => Ev X 62 6 [some (vR (some 160)), none, some (vI 0)] [] τ1 Q)) : Cl X 62 [vR (some 160), vR (some p1)] σ Q := by
  have hcd : cds 62 = cd_62 := rfl
  refine c_in (Nat.le_of_ble_eq_true rfl) rfl rfl ?_
  show Ev X 62 0 [some (vR (some 160)), some (vR (some p1)), none] [] σ Q
  refine e_nx hcd rfl rfl ?_
  refine r_getR hcd rfl rfl rfl ?_
  refine e_nx hcd rfl rfl ?_
  refine r_cv hcd rfl (by omega) rfl rfl rfl (Nat.le_of_ble_eq_true rfl) ?_
  refine Cl.mono H (fun v τ1 hq => ?_)
  obtain ⟨rfl, H⟩ := hq
  show Ev X 62 4 _ [] τ1 Q
  iterate 2 (refine e_nx hcd rfl rfl ?_)
  show Ev X 62 6 [some (vR (some 160)), some (vR (some p1)), some (vI 0)] [] _ Q
  refine e_fg [1] ?_
  exact H
theorem v_62_6 {X : PX} {σ : Sg} {Q : Option PV → Sg → Prop} {x2 : Int}  (H : InR x2 ∧ (50 < x2 → Q (some (vI (-1))) σ) ∧ (¬ 50 < x2 → CI X 33 [vR (some 146)] σ (fun r2 τ1 => InR (τ1.1 146 9) ∧ (τ1.1 146 9 ≠ 0 → Ev X 62 6 [some (vR (some 160)), none, some (vI (x2 + 1))] [] τ1 Q) ∧ (¬ τ1.1 146 9 ≠ 0 → Q (some (vI x2)) τ1)))) : Ev X 62 6 [some (vR (some 160)), none, some (vI x2)] [] σ Q := by
  have hcd : cds 62 = cd_62 := rfl
  iterate 2 (refine e_nx hcd rfl rfl ?_)
  obtain ⟨h1, H⟩ := H
  refine r_icmp hcd rfl h1 (by omega) (fun hc => ?_) (fun hc => ?_)
  · replace H := H.1 hc
    refine e_nx hcd rfl rfl ?_
    exact r_iret hcd rfl rfl rfl H
  · replace H := H.2 hc
    refine e_nx hcd rfl rfl ?_
    refine r_getR hcd rfl rfl rfl ?_
    refine r_cv hcd rfl (by omega) rfl rfl rfl (Nat.le_of_ble_eq_true rfl) ?_
    refine Cl.mono H (fun v τ1 hq => ?_)
    obtain ⟨r2, rfl, H⟩ := hq
    show Ev X 62 12 _ [vI r2] τ1 Q
    iterate 2 (refine e_nx hcd rfl rfl ?_)
    refine r_getR hcd rfl rfl rfl ?_
    refine r_getI hcd rfl rfl rfl ?_
    obtain ⟨h3, H⟩ := H
    refine r_if hcd rfl h3 (fun hc => ?_) (fun hc => ?_)
    · replace H := H.1 hc
      refine e_nx hcd rfl rfl ?_
      show Ev X 62 20 [some (vR (some 160)), none, some (vI (x2 + 1))] [] _ Q
      refine e_nx hcd rfl rfl ?_
      exact H
    · replace H := H.2 hc
      refine e_nx hcd rfl rfl ?_
      exact r_iret hcd rfl rfl rfl H
/-! X6_spreadOf -/
theorem v_63 {X : PX} {σ : Sg} {Q : Option PV → Sg → Prop} {p1 : Nat} (hp1 : p1 ∈ parL) (H : CV X 29 [vR (some 146), vR (some p1)] σ (fun τ1 => Ev X 63 10 [some (vR (some 160)), some (vR (some p1)), some (vI 0), some (vI (-1)), some (vI 0), none] [] τ1 Q)) : Cl X 63 [vR (some 160), vR (some p1)] σ Q := by
  have hcd : cds 63 = cd_63 := rfl
  refine c_in (Nat.le_of_ble_eq_true rfl) rfl rfl ?_
  show Ev X 63 0 [some (vR (some 160)), some (vR (some p1)), none, none, none, none] [] σ Q
  refine e_nx hcd rfl rfl ?_
  refine r_getR hcd rfl rfl rfl ?_
  refine e_nx hcd rfl rfl ?_
  refine r_cv hcd rfl (by omega) rfl rfl rfl (Nat.le_of_ble_eq_true rfl) ?_
  refine Cl.mono H (fun v τ1 hq => ?_)
  obtain ⟨rfl, H⟩ := hq
  show Ev X 63 4 _ [] τ1 Q
  iterate 2 (refine e_nx hcd rfl rfl ?_)
  show Ev X 63 6 [some (vR (some 160)), some (vR (some p1)), some (vI 0), none, none, none] [] _ Q
  iterate 2 (refine e_nx hcd rfl rfl ?_)
  show Ev X 63 8 [some (vR (some 160)), some (vR (some p1)), some (vI 0), some (vI (-1)), none, none] [] _ Q
  iterate 2 (refine e_nx hcd rfl rfl ?_)
  show Ev X 63 10 [some (vR (some 160)), some (vR (some p1)), some (vI 0), some (vI (-1)), some (vI 0), none] [] _ Q
  exact H
set_option maxRecDepth 20000 in
set_option maxHeartbeats 8000000 in
theorem v_63_10 {X : PX} {σ : Sg} {Q : Option PV → Sg → Prop} {p1 : Nat} {x2 : Int} {x3 : Int} {x4 : Int} (hp1 : p1 ∈ parL) (H : InR x4 ∧ InR (σ.1 p1 2) ∧ (σ.1 p1 2 ≤ x4 → InR x3 ∧ (x3 ≠ (-1) → Q (some (vI (x2 - x3))) σ) ∧ (¬ x3 ≠ (-1) → Q (some (vI 0)) σ)) ∧ (¬ σ.1 p1 2 ≤ x4 → (7 ≤ x4 → InR x3 ∧ (x3 ≠ (-1) → Q (some (vI (x2 - x3))) σ) ∧ (¬ x3 ≠ (-1) → Q (some (vI 0)) σ)) ∧ (¬ 7 ≤ x4 → CI X 54 [vR (some 154), vI x4] σ (fun r5 τ1 => InR x2 ∧ InR r5 ∧ CI X 31 [vR (some 146), vI x4] τ1 (fun r8 τ2 => InR r8 ∧ (r8 ≠ 0 → Ev X 63 10 [some (vR (some 160)), some (vR (some p1)), some (vI (max x2 r5)), some (vI x3), some (vI (x4 + 1)), none] [] τ2 Q) ∧ (¬ r8 ≠ 0 → InR x3 ∧ (x3 ≠ (-1) → Ev X 63 10 [some (vR (some 160)), some (vR (some p1)), some (vI (max x2 r5)), some (vI (min x3 r5)), some (vI (x4 + 1)), none] [] τ2 Q) ∧ (¬ x3 ≠ (-1) → Ev X 63 10 [some (vR (some 160)), some (vR (some p1)), some (vI (max x2 r5)), some (vI r5), some (vI (x4 + 1)), none] [] τ2 Q))))))) : Ev X 63 10 [some (vR (some 160)), some (vR (some p1)), some (vI x2), some (vI x3), some (vI x4), none] [] σ Q := by
  have hcd : cds 63 = cd_63 := rfl
  iterate 2 (refine e_nx hcd rfl rfl ?_)
  refine r_getI hcd rfl ((parS hp1).1) rfl ?_
  obtain ⟨h1, H⟩ := H
  obtain ⟨h2, H⟩ := H
  refine r_icmp hcd rfl h1 h2 (fun hc => ?_) (fun hc => ?_)
  · replace H := H.1 hc
    iterate 2 (refine e_nx hcd rfl rfl ?_)
    obtain ⟨h3, H⟩ := H
    refine r_icmp hcd rfl h3 (by omega) (fun hc => ?_) (fun hc => ?_)
    · replace H := H.1 hc
      iterate 3 (refine e_nx hcd rfl rfl ?_)
      exact r_iret hcd rfl rfl rfl H
    · replace H := H.2 hc
      iterate 2 (refine e_nx hcd rfl rfl ?_)
      exact r_iret hcd rfl rfl rfl H
  · replace H := H.2 hc
    iterate 2 (refine e_nx hcd rfl rfl ?_)
    refine r_icmp hcd rfl h1 (by omega) (fun hc => ?_) (fun hc => ?_)
    · replace H := H.1 hc
      iterate 2 (refine e_nx hcd rfl rfl ?_)
      obtain ⟨h4, H⟩ := H
      refine r_icmp hcd rfl h4 (by omega) (fun hc => ?_) (fun hc => ?_)
      · replace H := H.1 hc
        iterate 3 (refine e_nx hcd rfl rfl ?_)
        exact r_iret hcd rfl rfl rfl H
      · replace H := H.2 hc
        iterate 2 (refine e_nx hcd rfl rfl ?_)
        exact r_iret hcd rfl rfl rfl H
    · replace H := H.2 hc
      refine e_nx hcd rfl rfl ?_
      refine r_getR hcd rfl rfl rfl ?_
      refine r_getR hcd rfl rfl rfl ?_
      refine e_nx hcd rfl rfl ?_
      refine r_cv hcd rfl (by omega) rfl rfl rfl (Nat.le_of_ble_eq_true rfl) ?_
      refine Cl.mono H (fun v τ1 hq => ?_)
      obtain ⟨r5, rfl, H⟩ := hq
      show Ev X 63 22 _ [vI r5] τ1 Q
      refine e_nx hcd rfl rfl ?_
      show Ev X 63 23 [some (vR (some 160)), some (vR (some p1)), some (vI x2), some (vI x3), some (vI x4), some (vI r5)] [] _ Q
      iterate 2 (refine e_nx hcd rfl rfl ?_)
      obtain ⟨h6, H⟩ := H
      obtain ⟨h7, H⟩ := H
      refine r_max hcd rfl h6 h7 (Nat.le_of_ble_eq_true rfl) ?_
      refine e_nx hcd rfl rfl ?_
      show Ev X 63 27 [some (vR (some 160)), some (vR (some p1)), some (vI (max x2 r5)), some (vI x3), some (vI x4), some (vI r5)] [] _ Q
      refine e_nx hcd rfl rfl ?_
      refine r_getR hcd rfl rfl rfl ?_
      refine e_nx hcd rfl rfl ?_
      refine r_cv hcd rfl (by omega) rfl rfl rfl (Nat.le_of_ble_eq_true rfl) ?_
      refine Cl.mono H (fun v τ2 hq => ?_)
      obtain ⟨r8, rfl, H⟩ := hq
      show Ev X 63 31 _ [vI r8] τ2 Q
      obtain ⟨h9, H⟩ := H
      refine r_if hcd rfl h9 (fun hc => ?_) (fun hc => ?_)
      · replace H := H.1 hc
        refine e_nx hcd rfl rfl ?_
        show Ev X 63 42 [some (vR (some 160)), some (vR (some p1)), some (vI (max x2 r5)), some (vI x3), some (vI (x4 + 1)), some (vI r5)] [] _ Q
        refine e_nx hcd rfl rfl ?_
        refine e_fg [5] ?_
        exact H
      · replace H := H.2 hc
        iterate 2 (refine e_nx hcd rfl rfl ?_)
        obtain ⟨h10, H⟩ := H
        refine r_icmp hcd rfl h10 (by omega) (fun hc => ?_) (fun hc => ?_)
        · replace H := H.1 hc
          iterate 2 (refine e_nx hcd rfl rfl ?_)
          refine r_min hcd rfl h10 h7 (Nat.le_of_ble_eq_true rfl) ?_
          refine e_nx hcd rfl rfl ?_
          show Ev X 63 41 [some (vR (some 160)), some (vR (some p1)), some (vI (max x2 r5)), some (vI (min x3 r5)), some (vI x4), some (vI r5)] [] _ Q
          refine e_nx hcd rfl rfl ?_
          show Ev X 63 42 [some (vR (some 160)), some (vR (some p1)), some (vI (max x2 r5)), some (vI (min x3 r5)), some (vI (x4 + 1)), some (vI r5)] [] _ Q
          refine e_nx hcd rfl rfl ?_
          refine e_fg [5] ?_
          exact H
        · replace H := H.2 hc
          iterate 3 (refine e_nx hcd rfl rfl ?_)
          show Ev X 63 41 [some (vR (some 160)), some (vR (some p1)), some (vI (max x2 r5)), some (vI r5), some (vI x4), some (vI r5)] [] _ Q
          refine e_nx hcd rfl rfl ?_
          show Ev X 63 42 [some (vR (some 160)), some (vR (some p1)), some (vI (max x2 r5)), some (vI r5), some (vI (x4 + 1)), some (vI r5)] [] _ Q
          refine e_nx hcd rfl rfl ?_
          refine e_fg [5] ?_
          exact H
/-! X6_unevenOf -/
theorem v_64 {X : PX} {σ : Sg} {Q : Option PV → Sg → Prop} {p1 : Nat} (hp1 : p1 ∈ parL) (H : CV X 29 [vR (some 146), vR (some p1)] σ (fun τ1 => Ev X 64 8 [some (vR (some 160)), some (vR (some p1)), some (vI 0), some (vI 0), none] [] τ1 Q)) : Cl X 64 [vR (some 160), vR (some p1)] σ Q := by
  have hcd : cds 64 = cd_64 := rfl
  refine c_in (Nat.le_of_ble_eq_true rfl) rfl rfl ?_
  show Ev X 64 0 [some (vR (some 160)), some (vR (some p1)), none, none, none] [] σ Q
  refine e_nx hcd rfl rfl ?_
  refine r_getR hcd rfl rfl rfl ?_
  refine e_nx hcd rfl rfl ?_
  refine r_cv hcd rfl (by omega) rfl rfl rfl (Nat.le_of_ble_eq_true rfl) ?_
  refine Cl.mono H (fun v τ1 hq => ?_)
  obtain ⟨rfl, H⟩ := hq
  show Ev X 64 4 _ [] τ1 Q
  iterate 2 (refine e_nx hcd rfl rfl ?_)
  show Ev X 64 6 [some (vR (some 160)), some (vR (some p1)), some (vI 0), none, none] [] _ Q
  iterate 2 (refine e_nx hcd rfl rfl ?_)
  show Ev X 64 8 [some (vR (some 160)), some (vR (some p1)), some (vI 0), some (vI 0), none] [] _ Q
  exact H
theorem v_64_8 {X : PX} {σ : Sg} {Q : Option PV → Sg → Prop} {p1 : Nat} {x2 : Int} {x3 : Int} (hp1 : p1 ∈ parL) (H : InR x3 ∧ InR (σ.1 p1 2) ∧ (σ.1 p1 2 ≤ x3 → Q (some (vI x2)) σ) ∧ (¬ σ.1 p1 2 ≤ x3 → (7 ≤ x3 → Q (some (vI x2)) σ) ∧ (¬ 7 ≤ x3 → Ev X 64 17 [some (vR (some 160)), some (vR (some p1)), some (vI x2), some (vI x3), some (vI 0)] [] σ Q))) : Ev X 64 8 [some (vR (some 160)), some (vR (some p1)), some (vI x2), some (vI x3), none] [] σ Q := by
  have hcd : cds 64 = cd_64 := rfl
  iterate 2 (refine e_nx hcd rfl rfl ?_)
  refine r_getI hcd rfl ((parS hp1).1) rfl ?_
  obtain ⟨h1, H⟩ := H
  obtain ⟨h2, H⟩ := H
  refine r_icmp hcd rfl h1 h2 (fun hc => ?_) (fun hc => ?_)
  · replace H := H.1 hc
    refine e_nx hcd rfl rfl ?_
    exact r_iret hcd rfl rfl rfl H
  · replace H := H.2 hc
    iterate 2 (refine e_nx hcd rfl rfl ?_)
    refine r_icmp hcd rfl h1 (by omega) (fun hc => ?_) (fun hc => ?_)
    · replace H := H.1 hc
      refine e_nx hcd rfl rfl ?_
      exact r_iret hcd rfl rfl rfl H
    · replace H := H.2 hc
      iterate 2 (refine e_nx hcd rfl rfl ?_)
      show Ev X 64 17 [some (vR (some 160)), some (vR (some p1)), some (vI x2), some (vI x3), some (vI 0)] [] _ Q
      exact H
set_option maxRecDepth 20000 in
set_option maxHeartbeats 8000000 in
theorem v_64_17 {X : PX} {σ : Sg} {Q : Option PV → Sg → Prop} {p1 : Nat} {x2 : Int} {x3 : Int} {x4 : Int} (hp1 : p1 ∈ parL) (H : InR x4 ∧ InR x3 ∧ (x3 ≤ x4 → Ev X 64 8 [some (vR (some 160)), some (vR (some p1)), some (vI x2), some (vI (x3 + 1)), none] [] σ Q) ∧ (¬ x3 ≤ x4 → CI X 31 [vR (some 146), vI x3] σ (fun r3 τ1 => InR r3 ∧ (r3 ≠ 0 → Ev X 64 17 [some (vR (some 160)), some (vR (some p1)), some (vI x2), some (vI x3), some (vI (x4 + 1))] [] τ1 Q) ∧ (¬ r3 ≠ 0 → CI X 31 [vR (some 146), vI x4] τ1 (fun r5 τ2 => InR r5 ∧ (r5 ≠ 0 → Ev X 64 17 [some (vR (some 160)), some (vR (some p1)), some (vI x2), some (vI x3), some (vI (x4 + 1))] [] τ2 Q) ∧ (¬ r5 ≠ 0 → (0 ≤ x3 ∧ x3 < 7) ∧ (0 ≤ x4 ∧ x4 < 7) ∧ InR (τ2.2 (p1 + 1) x3.toNat) ∧ InR (τ2.2 (p1 + 1) x4.toNat) ∧ (τ2.2 (p1 + 1) x3.toNat ≠ τ2.2 (p1 + 1) x4.toNat → Ev X 64 17 [some (vR (some 160)), some (vR (some p1)), some (vI x2), some (vI x3), some (vI (x4 + 1))] [] τ2 Q) ∧ (¬ τ2.2 (p1 + 1) x3.toNat ≠ τ2.2 (p1 + 1) x4.toNat → CI X 54 [vR (some 154), vI x3] τ2 (fun r11 τ3 => CI X 54 [vR (some 154), vI x4] τ3 (fun r12 τ4 => InR r11 ∧ InR r12 ∧ (r11 = r12 → Ev X 64 17 [some (vR (some 160)), some (vR (some p1)), some (vI x2), some (vI x3), some (vI (x4 + 1))] [] τ4 Q) ∧ (¬ r11 = r12 → Ev X 64 17 [some (vR (some 160)), some (vR (some p1)), some (vI (x2 + 1)), some (vI x3), some (vI (x4 + 1))] [] τ4 Q)))))))))) : Ev X 64 17 [some (vR (some 160)), some (vR (some p1)), some (vI x2), some (vI x3), some (vI x4)] [] σ Q := by
  have hcd : cds 64 = cd_64 := rfl
  iterate 2 (refine e_nx hcd rfl rfl ?_)
  obtain ⟨h1, H⟩ := H
  obtain ⟨h2, H⟩ := H
  refine r_icmp hcd rfl h1 h2 (fun hc => ?_) (fun hc => ?_)
  · replace H := H.1 hc
    refine e_nx hcd rfl rfl ?_
    show Ev X 64 54 [some (vR (some 160)), some (vR (some p1)), some (vI x2), some (vI (x3 + 1)), some (vI x4)] [] _ Q
    refine e_nx hcd rfl rfl ?_
    refine e_fg [4] ?_
    exact H
  · replace H := H.2 hc
    refine e_nx hcd rfl rfl ?_
    refine r_getR hcd rfl rfl rfl ?_
    refine e_nx hcd rfl rfl ?_
    refine r_cv hcd rfl (by omega) rfl rfl rfl (Nat.le_of_ble_eq_true rfl) ?_
    refine Cl.mono H (fun v τ1 hq => ?_)
    obtain ⟨r3, rfl, H⟩ := hq
    show Ev X 64 24 _ [vI r3] τ1 Q
    obtain ⟨h4, H⟩ := H
    refine r_if hcd rfl h4 (fun hc => ?_) (fun hc => ?_)
    · replace H := H.1 hc
      refine e_nx hcd rfl rfl ?_
      show Ev X 64 52 [some (vR (some 160)), some (vR (some p1)), some (vI x2), some (vI x3), some (vI (x4 + 1))] [] _ Q
      refine e_nx hcd rfl rfl ?_
      exact H
    · replace H := H.2 hc
      refine e_nx hcd rfl rfl ?_
      refine r_getR hcd rfl rfl rfl ?_
      refine e_nx hcd rfl rfl ?_
      refine r_cv hcd rfl (by omega) rfl rfl rfl (Nat.le_of_ble_eq_true rfl) ?_
      refine Cl.mono H (fun v τ2 hq => ?_)
      obtain ⟨r5, rfl, H⟩ := hq
      show Ev X 64 29 _ [vI r5] τ2 Q
      obtain ⟨h6, H⟩ := H
      refine r_if hcd rfl h6 (fun hc => ?_) (fun hc => ?_)
      · replace H := H.1 hc
        refine e_nx hcd rfl rfl ?_
        show Ev X 64 52 [some (vR (some 160)), some (vR (some p1)), some (vI x2), some (vI x3), some (vI (x4 + 1))] [] _ Q
        refine e_nx hcd rfl rfl ?_
        exact H
      · replace H := H.2 hc
        refine e_nx hcd rfl rfl ?_
        refine r_getR hcd rfl ((parS hp1).1) rfl ?_
        refine e_nx hcd rfl rfl ?_
        obtain ⟨h7, H⟩ := H
        refine r_ild hcd rfl ((parS hp1).2.1) (by omega) h7 ?_
        refine e_nx hcd rfl rfl ?_
        refine r_getR hcd rfl ((parS hp1).1) rfl ?_
        refine e_nx hcd rfl rfl ?_
        obtain ⟨h8, H⟩ := H
        refine r_ild hcd rfl ((parS hp1).2.1) (by omega) h8 ?_
        obtain ⟨h9, H⟩ := H
        obtain ⟨h10, H⟩ := H
        refine r_icmp hcd rfl h9 h10 (fun hc => ?_) (fun hc => ?_)
        · replace H := H.1 hc
          refine e_nx hcd rfl rfl ?_
          show Ev X 64 52 [some (vR (some 160)), some (vR (some p1)), some (vI x2), some (vI x3), some (vI (x4 + 1))] [] _ Q
          refine e_nx hcd rfl rfl ?_
          exact H
        · replace H := H.2 hc
          refine e_nx hcd rfl rfl ?_
          refine r_getR hcd rfl rfl rfl ?_
          refine r_getR hcd rfl rfl rfl ?_
          refine e_nx hcd rfl rfl ?_
          refine r_cv hcd rfl (by omega) rfl rfl rfl (Nat.le_of_ble_eq_true rfl) ?_
          refine Cl.mono H (fun v τ3 hq => ?_)
          obtain ⟨r11, rfl, H⟩ := hq
          show Ev X 64 44 _ [vI r11] τ3 Q
          refine e_nx hcd rfl rfl ?_
          refine r_getR hcd rfl rfl rfl ?_
          refine r_getR hcd rfl rfl rfl ?_
          refine e_nx hcd rfl rfl ?_
          refine r_cv hcd rfl (by omega) rfl rfl rfl (Nat.le_of_ble_eq_true rfl) ?_
          refine Cl.mono H (fun v τ4 hq => ?_)
          obtain ⟨r12, rfl, H⟩ := hq
          show Ev X 64 49 _ [vI r12, vI r11] τ4 Q
          obtain ⟨h13, H⟩ := H
          obtain ⟨h14, H⟩ := H
          refine r_icmp hcd rfl h13 h14 (fun hc => ?_) (fun hc => ?_)
          · replace H := H.1 hc
            refine e_nx hcd rfl rfl ?_
            show Ev X 64 52 [some (vR (some 160)), some (vR (some p1)), some (vI x2), some (vI x3), some (vI (x4 + 1))] [] _ Q
            refine e_nx hcd rfl rfl ?_
            exact H
          · replace H := H.2 hc
            refine e_nx hcd rfl rfl ?_
            show Ev X 64 51 [some (vR (some 160)), some (vR (some p1)), some (vI (x2 + 1)), some (vI x3), some (vI x4)] [] _ Q
            refine e_nx hcd rfl rfl ?_
            show Ev X 64 52 [some (vR (some 160)), some (vR (some p1)), some (vI (x2 + 1)), some (vI x3), some (vI (x4 + 1))] [] _ Q
            refine e_nx hcd rfl rfl ?_
            exact H
/-! X6_mostBurdened -/
theorem v_65 {X : PX} {σ : Sg} {Q : Option PV → Sg → Prop} {p1 : Nat} (hp1 : p1 ∈ parL) (H : CV X 29 [vR (some 146), vR (some p1)] σ (fun τ1 => Ev X 65 8 [some (vR (some 160)), some (vR (some p1)), some (vI (-1)), some (vI 0), none] [] τ1 Q)) : Cl X 65 [vR (some 160), vR (some p1)] σ Q := by
  have hcd : cds 65 = cd_65 := rfl
  refine c_in (Nat.le_of_ble_eq_true rfl) rfl rfl ?_
  show Ev X 65 0 [some (vR (some 160)), some (vR (some p1)), none, none, none] [] σ Q
  refine e_nx hcd rfl rfl ?_
  refine r_getR hcd rfl rfl rfl ?_
  refine e_nx hcd rfl rfl ?_
  refine r_cv hcd rfl (by omega) rfl rfl rfl (Nat.le_of_ble_eq_true rfl) ?_
  refine Cl.mono H (fun v τ1 hq => ?_)
  obtain ⟨rfl, H⟩ := hq
  show Ev X 65 4 _ [] τ1 Q
  iterate 2 (refine e_nx hcd rfl rfl ?_)
  show Ev X 65 6 [some (vR (some 160)), some (vR (some p1)), some (vI (-1)), none, none] [] _ Q
  iterate 2 (refine e_nx hcd rfl rfl ?_)
  show Ev X 65 8 [some (vR (some 160)), some (vR (some p1)), some (vI (-1)), some (vI 0), none] [] _ Q
  exact H
set_option maxRecDepth 20000 in
set_option maxHeartbeats 8000000 in
theorem v_65_8 {X : PX} {σ : Sg} {Q : Option PV → Sg → Prop} {p1 : Nat} {x2 : Int} {x3 : Int} (hp1 : p1 ∈ parL) (H : InR x3 ∧ InR (σ.1 p1 2) ∧ (σ.1 p1 2 ≤ x3 → Q (some (vI x2)) σ) ∧ (¬ σ.1 p1 2 ≤ x3 → (7 ≤ x3 → Q (some (vI x2)) σ) ∧ (¬ 7 ≤ x3 → CI X 54 [vR (some 154), vI x3] σ (fun r3 τ1 => InR r3 ∧ (r3 ≤ 0 → Ev X 65 8 [some (vR (some 160)), some (vR (some p1)), some (vI x2), some (vI (x3 + 1)), none] [] τ1 Q) ∧ (¬ r3 ≤ 0 → InR x2 ∧ (x2 = (-1) → Ev X 65 8 [some (vR (some 160)), some (vR (some p1)), some (vI x3), some (vI (x3 + 1)), none] [] τ1 Q) ∧ (¬ x2 = (-1) → (0 ≤ x2 ∧ x2 < 7) ∧ CI X 54 [vR (some 154), vI x2] τ1 (fun r7 τ2 => (0 ≤ x3 ∧ x3 < 7) ∧ InR (r3 * (τ1.2 (p1 + 1) x2.toNat)) ∧ InR (r7 * (τ2.2 (p1 + 1) x3.toNat)) ∧ (r3 * (τ1.2 (p1 + 1) x2.toNat) ≤ r7 * (τ2.2 (p1 + 1) x3.toNat) → Ev X 65 8 [some (vR (some 160)), some (vR (some p1)), some (vI x2), some (vI (x3 + 1)), none] [] τ2 Q) ∧ (¬ r3 * (τ1.2 (p1 + 1) x2.toNat) ≤ r7 * (τ2.2 (p1 + 1) x3.toNat) → Ev X 65 8 [some (vR (some 160)), some (vR (some p1)), some (vI x3), some (vI (x3 + 1)), none] [] τ2 Q)))))))) : Ev X 65 8 [some (vR (some 160)), some (vR (some p1)), some (vI x2), some (vI x3), none] [] σ Q := by
  have hcd : cds 65 = cd_65 := rfl
  iterate 2 (refine e_nx hcd rfl rfl ?_)
  refine r_getI hcd rfl ((parS hp1).1) rfl ?_
  obtain ⟨h1, H⟩ := H
  obtain ⟨h2, H⟩ := H
  refine r_icmp hcd rfl h1 h2 (fun hc => ?_) (fun hc => ?_)
  · replace H := H.1 hc
    refine e_nx hcd rfl rfl ?_
    exact r_iret hcd rfl rfl rfl H
  · replace H := H.2 hc
    iterate 2 (refine e_nx hcd rfl rfl ?_)
    refine r_icmp hcd rfl h1 (by omega) (fun hc => ?_) (fun hc => ?_)
    · replace H := H.1 hc
      refine e_nx hcd rfl rfl ?_
      exact r_iret hcd rfl rfl rfl H
    · replace H := H.2 hc
      refine e_nx hcd rfl rfl ?_
      refine r_getR hcd rfl rfl rfl ?_
      refine r_getR hcd rfl rfl rfl ?_
      refine e_nx hcd rfl rfl ?_
      refine r_cv hcd rfl (by omega) rfl rfl rfl (Nat.le_of_ble_eq_true rfl) ?_
      refine Cl.mono H (fun v τ1 hq => ?_)
      obtain ⟨r3, rfl, H⟩ := hq
      show Ev X 65 20 _ [vI r3] τ1 Q
      refine e_nx hcd rfl rfl ?_
      show Ev X 65 21 [some (vR (some 160)), some (vR (some p1)), some (vI x2), some (vI x3), some (vI r3)] [] _ Q
      refine e_nx hcd rfl rfl ?_
      obtain ⟨h4, H⟩ := H
      refine r_if hcd rfl h4 (fun hc => ?_) (fun hc => ?_)
      · replace H := H.1 hc
        refine e_nx hcd rfl rfl ?_
        show Ev X 65 46 [some (vR (some 160)), some (vR (some p1)), some (vI x2), some (vI (x3 + 1)), some (vI r3)] [] _ Q
        refine e_nx hcd rfl rfl ?_
        refine e_fg [4] ?_
        exact H
      · replace H := H.2 hc
        iterate 2 (refine e_nx hcd rfl rfl ?_)
        obtain ⟨h5, H⟩ := H
        refine r_icmp hcd rfl h5 (by omega) (fun hc => ?_) (fun hc => ?_)
        · replace H := H.1 hc
          iterate 2 (refine e_nx hcd rfl rfl ?_)
          show Ev X 65 45 [some (vR (some 160)), some (vR (some p1)), some (vI x3), some (vI x3), some (vI r3)] [] _ Q
          refine e_nx hcd rfl rfl ?_
          show Ev X 65 46 [some (vR (some 160)), some (vR (some p1)), some (vI x3), some (vI (x3 + 1)), some (vI r3)] [] _ Q
          refine e_nx hcd rfl rfl ?_
          refine e_fg [4] ?_
          exact H
        · replace H := H.2 hc
          iterate 2 (refine e_nx hcd rfl rfl ?_)
          refine r_getR hcd rfl ((parS hp1).1) rfl ?_
          refine e_nx hcd rfl rfl ?_
          obtain ⟨h6, H⟩ := H
          refine r_ild hcd rfl ((parS hp1).2.1) (by omega) h6 ?_
          iterate 2 (refine e_nx hcd rfl rfl ?_)
          refine r_getR hcd rfl rfl rfl ?_
          refine r_getR hcd rfl rfl rfl ?_
          refine e_nx hcd rfl rfl ?_
          refine r_cv hcd rfl (by omega) rfl rfl rfl (Nat.le_of_ble_eq_true rfl) ?_
          refine Cl.mono H (fun v τ2 hq => ?_)
          obtain ⟨r7, rfl, H⟩ := hq
          show Ev X 65 37 _ [vI r7, vI (r3 * (τ1.2 (p1 + 1) x2.toNat))] τ2 Q
          refine e_nx hcd rfl rfl ?_
          refine r_getR hcd rfl ((parS hp1).1) rfl ?_
          refine e_nx hcd rfl rfl ?_
          obtain ⟨h8, H⟩ := H
          refine r_ild hcd rfl ((parS hp1).2.1) (by omega) h8 ?_
          refine e_nx hcd rfl rfl ?_
          obtain ⟨h9, H⟩ := H
          obtain ⟨h10, H⟩ := H
          refine r_icmp hcd rfl h9 h10 (fun hc => ?_) (fun hc => ?_)
          · replace H := H.1 hc
            refine e_nx hcd rfl rfl ?_
            show Ev X 65 46 [some (vR (some 160)), some (vR (some p1)), some (vI x2), some (vI (x3 + 1)), some (vI r3)] [] _ Q
            refine e_nx hcd rfl rfl ?_
            refine e_fg [4] ?_
            exact H
          · replace H := H.2 hc
            iterate 2 (refine e_nx hcd rfl rfl ?_)
            show Ev X 65 45 [some (vR (some 160)), some (vR (some p1)), some (vI x3), some (vI x3), some (vI r3)] [] _ Q
            refine e_nx hcd rfl rfl ?_
            show Ev X 65 46 [some (vR (some 160)), some (vR (some p1)), some (vI x3), some (vI (x3 + 1)), some (vI r3)] [] _ Q
            refine e_nx hcd rfl rfl ?_
            refine e_fg [4] ?_
            exact H
/-! X6_fallOf -/
theorem v_66 {X : PX} {σ : Sg} {Q : Option PV → Sg → Prop} {p1 : Nat} {a1 : Int} {a2 : Int} (hp1 : p1 ∈ parL) (H : CI X 86 [vR (some p1), vI (σ.1 p1 3), vI 0] σ (fun r1 τ1 => Ev X 66 12 [some (vR (some 160)), some (vR (some p1)), some (vI a1), some (vI a2), some (vI r1), some (vI 0), some (vI 0), some (vI 1), none] [] τ1 Q)) : Cl X 66 [vR (some 160), vR (some p1), vI a1, vI a2] σ Q := by
  have hcd : cds 66 = cd_66 := rfl
  refine c_in (Nat.le_of_ble_eq_true rfl) rfl rfl ?_
  show Ev X 66 0 [some (vR (some 160)), some (vR (some p1)), some (vI a1), some (vI a2), none, none, none, none, none] [] σ Q
  iterate 2 (refine e_nx hcd rfl rfl ?_)
  refine r_getI hcd rfl ((parS hp1).1) rfl ?_
  refine e_nx hcd rfl rfl ?_
  refine r_cv hcd rfl (by omega) ((parS hp1).1) rfl rfl (Nat.le_of_ble_eq_true rfl) ?_
  refine Cl.mono H (fun v τ1 hq => ?_)
  obtain ⟨r1, rfl, H⟩ := hq
  show Ev X 66 5 _ [vI r1] τ1 Q
  refine e_nx hcd rfl rfl ?_
  show Ev X 66 6 [some (vR (some 160)), some (vR (some p1)), some (vI a1), some (vI a2), some (vI r1), none, none, none, none] [] _ Q
  iterate 2 (refine e_nx hcd rfl rfl ?_)
  show Ev X 66 8 [some (vR (some 160)), some (vR (some p1)), some (vI a1), some (vI a2), some (vI r1), some (vI 0), none, none, none] [] _ Q
  iterate 2 (refine e_nx hcd rfl rfl ?_)
  show Ev X 66 10 [some (vR (some 160)), some (vR (some p1)), some (vI a1), some (vI a2), some (vI r1), some (vI 0), some (vI 0), none, none] [] _ Q
  iterate 2 (refine e_nx hcd rfl rfl ?_)
  show Ev X 66 12 [some (vR (some 160)), some (vR (some p1)), some (vI a1), some (vI a2), some (vI r1), some (vI 0), some (vI 0), some (vI 1), none] [] _ Q
  exact H
set_option maxRecDepth 20000 in
set_option maxHeartbeats 8000000 in
theorem v_66_12 {X : PX} {σ : Sg} {Q : Option PV → Sg → Prop} {p1 : Nat} {x2 : Int} {x3 : Int} {x4 : Int} {x5 : Int} {x6 : Int} {x7 : Int} (hp1 : p1 ∈ parL) (H : InR x7 ∧ (99 < x7 → InR x3 ∧ (x3 ≠ (-1) → Q (some (vI (-1))) σ) ∧ (¬ x3 ≠ (-1) → Q (some (vI x5)) σ)) ∧ (¬ 99 < x7 → CV X 55 [vR (some 154), vR (some p1), vI x7, vI x4] σ (fun τ1 => CI X 54 [vR (some 154), vI x2] τ1 (fun r3 τ2 => InR r3 ∧ InR x6 ∧ (x6 ≤ r3 → Ev X 66 12 [some (vR (some 160)), some (vR (some p1)), some (vI x2), some (vI x3), some (vI x4), some (vI x5), some (vI r3), some (vI (x7 + 1)), none] [] τ2 Q) ∧ (¬ x6 ≤ r3 → InR x5 ∧ InR x3 ∧ (x5 ≠ x3 → Ev X 66 12 [some (vR (some 160)), some (vR (some p1)), some (vI x2), some (vI x3), some (vI x4), some (vI (x5 + 1)), some (vI r3), some (vI (x7 + 1)), none] [] τ2 Q) ∧ (¬ x5 ≠ x3 → Q (some (vI x7)) τ2)))))) : Ev X 66 12 [some (vR (some 160)), some (vR (some p1)), some (vI x2), some (vI x3), some (vI x4), some (vI x5), some (vI x6), some (vI x7), none] [] σ Q := by
  have hcd : cds 66 = cd_66 := rfl
  iterate 2 (refine e_nx hcd rfl rfl ?_)
  obtain ⟨h1, H⟩ := H
  refine r_icmp hcd rfl h1 (by omega) (fun hc => ?_) (fun hc => ?_)
  · replace H := H.1 hc
    iterate 2 (refine e_nx hcd rfl rfl ?_)
    obtain ⟨h2, H⟩ := H
    refine r_icmp hcd rfl h2 (by omega) (fun hc => ?_) (fun hc => ?_)
    · replace H := H.1 hc
      refine e_nx hcd rfl rfl ?_
      exact r_iret hcd rfl rfl rfl H
    · replace H := H.2 hc
      iterate 2 (refine e_nx hcd rfl rfl ?_)
      exact r_iret hcd rfl rfl rfl H
  · replace H := H.2 hc
    refine e_nx hcd rfl rfl ?_
    refine r_getR hcd rfl rfl rfl ?_
    refine r_getR hcd rfl rfl rfl ?_
    iterate 3 (refine e_nx hcd rfl rfl ?_)
    refine r_cv hcd rfl (by omega) rfl rfl rfl (Nat.le_of_ble_eq_true rfl) ?_
    refine Cl.mono H (fun v τ1 hq => ?_)
    obtain ⟨rfl, H⟩ := hq
    show Ev X 66 22 _ [] τ1 Q
    refine e_nx hcd rfl rfl ?_
    refine r_getR hcd rfl rfl rfl ?_
    refine r_getR hcd rfl rfl rfl ?_
    refine e_nx hcd rfl rfl ?_
    refine r_cv hcd rfl (by omega) rfl rfl rfl (Nat.le_of_ble_eq_true rfl) ?_
    refine Cl.mono H (fun v τ2 hq => ?_)
    obtain ⟨r3, rfl, H⟩ := hq
    show Ev X 66 27 _ [vI r3] τ2 Q
    refine e_nx hcd rfl rfl ?_
    show Ev X 66 28 [some (vR (some 160)), some (vR (some p1)), some (vI x2), some (vI x3), some (vI x4), some (vI x5), some (vI x6), some (vI x7), some (vI r3)] [] _ Q
    iterate 2 (refine e_nx hcd rfl rfl ?_)
    obtain ⟨h4, H⟩ := H
    obtain ⟨h5, H⟩ := H
    refine r_icmp hcd rfl h4 h5 (fun hc => ?_) (fun hc => ?_)
    · replace H := H.1 hc
      iterate 2 (refine e_nx hcd rfl rfl ?_)
      show Ev X 66 39 [some (vR (some 160)), some (vR (some p1)), some (vI x2), some (vI x3), some (vI x4), some (vI x5), some (vI r3), some (vI x7), some (vI r3)] [] _ Q
      refine e_nx hcd rfl rfl ?_
      show Ev X 66 40 [some (vR (some 160)), some (vR (some p1)), some (vI x2), some (vI x3), some (vI x4), some (vI x5), some (vI r3), some (vI (x7 + 1)), some (vI r3)] [] _ Q
      refine e_nx hcd rfl rfl ?_
      refine e_fg [8] ?_
      exact H
    · replace H := H.2 hc
      iterate 2 (refine e_nx hcd rfl rfl ?_)
      obtain ⟨h6, H⟩ := H
      obtain ⟨h7, H⟩ := H
      refine r_icmp hcd rfl h6 h7 (fun hc => ?_) (fun hc => ?_)
      · replace H := H.1 hc
        refine e_nx hcd rfl rfl ?_
        show Ev X 66 37 [some (vR (some 160)), some (vR (some p1)), some (vI x2), some (vI x3), some (vI x4), some (vI (x5 + 1)), some (vI x6), some (vI x7), some (vI r3)] [] _ Q
        iterate 2 (refine e_nx hcd rfl rfl ?_)
        show Ev X 66 39 [some (vR (some 160)), some (vR (some p1)), some (vI x2), some (vI x3), some (vI x4), some (vI (x5 + 1)), some (vI r3), some (vI x7), some (vI r3)] [] _ Q
        refine e_nx hcd rfl rfl ?_
        show Ev X 66 40 [some (vR (some 160)), some (vR (some p1)), some (vI x2), some (vI x3), some (vI x4), some (vI (x5 + 1)), some (vI r3), some (vI (x7 + 1)), some (vI r3)] [] _ Q
        refine e_nx hcd rfl rfl ?_
        refine e_fg [8] ?_
        exact H
      · replace H := H.2 hc
        refine e_nx hcd rfl rfl ?_
        exact r_iret hcd rfl rfl rfl H
/-! X6_harmOf -/
set_option maxRecDepth 20000 in
set_option maxHeartbeats 8000000 in
theorem v_67 {X : PX} {σ : Sg} {Q : Option PV → Sg → Prop} {p1 : Nat} {a1 : Int} {a2 : Int} (hp1 : p1 ∈ parL) (H : CV X 29 [vR (some 146), vR (some p1)] σ (fun τ1 => CI X 54 [vR (some 154), vI a2] τ1 (fun r1 τ2 => CV X 30 [vR (some 146)] (up2 τ2.1 147 3 (iOr (τ2.1 147 3) (iShl 1 a1)), τ2.2) (fun τ3 => CI X 54 [vR (some 154), vI a2] τ3 (fun r2 τ4 => Q (some (vI (r2 - r1))) τ4))))) : Cl X 67 [vR (some 160), vR (some p1), vI a1, vI a2] σ Q := by
  have hcd : cds 67 = cd_67 := rfl
  refine c_in (Nat.le_of_ble_eq_true rfl) rfl rfl ?_
  show Ev X 67 0 [some (vR (some 160)), some (vR (some p1)), some (vI a1), some (vI a2), none] [] σ Q
  refine e_nx hcd rfl rfl ?_
  refine r_getR hcd rfl rfl rfl ?_
  refine e_nx hcd rfl rfl ?_
  refine r_cv hcd rfl (by omega) rfl rfl rfl (Nat.le_of_ble_eq_true rfl) ?_
  refine Cl.mono H (fun v τ1 hq => ?_)
  obtain ⟨rfl, H⟩ := hq
  show Ev X 67 4 _ [] τ1 Q
  refine e_nx hcd rfl rfl ?_
  refine r_getR hcd rfl rfl rfl ?_
  refine r_getR hcd rfl rfl rfl ?_
  refine e_nx hcd rfl rfl ?_
  refine r_cv hcd rfl (by omega) rfl rfl rfl (Nat.le_of_ble_eq_true rfl) ?_
  refine Cl.mono H (fun v τ2 hq => ?_)
  obtain ⟨r1, rfl, H⟩ := hq
  show Ev X 67 9 _ [vI r1] τ2 Q
  refine e_nx hcd rfl rfl ?_
  show Ev X 67 10 [some (vR (some 160)), some (vR (some p1)), some (vI a1), some (vI a2), some (vI r1)] [] _ Q
  refine e_nx hcd rfl rfl ?_
  refine r_getR hcd rfl rfl rfl ?_
  refine r_getR hcd rfl rfl rfl ?_
  refine e_nx hcd rfl rfl ?_
  refine r_getI hcd rfl rfl rfl ?_
  iterate 4 (refine e_nx hcd rfl rfl ?_)
  refine r_putI hcd rfl rfl rfl rfl ?_
  refine e_nx hcd rfl rfl ?_
  refine r_getR hcd rfl rfl rfl ?_
  refine r_cv hcd rfl (by omega) rfl rfl rfl (Nat.le_of_ble_eq_true rfl) ?_
  refine Cl.mono H (fun v τ3 hq => ?_)
  obtain ⟨rfl, H⟩ := hq
  show Ev X 67 23 _ [] τ3 Q
  refine e_nx hcd rfl rfl ?_
  refine r_getR hcd rfl rfl rfl ?_
  refine r_getR hcd rfl rfl rfl ?_
  refine e_nx hcd rfl rfl ?_
  refine r_cv hcd rfl (by omega) rfl rfl rfl (Nat.le_of_ble_eq_true rfl) ?_
  refine Cl.mono H (fun v τ4 hq => ?_)
  obtain ⟨r2, rfl, H⟩ := hq
  show Ev X 67 28 _ [vI r2] τ4 Q
  iterate 2 (refine e_nx hcd rfl rfl ?_)
  exact r_iret hcd rfl rfl rfl H
/-! X6_strongest -/
theorem v_68 {X : PX} {σ : Sg} {Q : Option PV → Sg → Prop} {p1 : Nat} {a1 : Int} {a2 : Int} (hp1 : p1 ∈ parL) (H : Ev X 68 6 [some (vR (some 160)), some (vR (some p1)), some (vI a1), some (vI a2), some (vI (-1)), some (vI 0), some (vI 0), none, none] [] σ Q) : Cl X 68 [vR (some 160), vR (some p1), vI a1, vI a2] σ Q := by
  have hcd : cds 68 = cd_68 := rfl
  refine c_in (Nat.le_of_ble_eq_true rfl) rfl rfl ?_
  show Ev X 68 0 [some (vR (some 160)), some (vR (some p1)), some (vI a1), some (vI a2), none, none, none, none, none] [] σ Q
  iterate 2 (refine e_nx hcd rfl rfl ?_)
  show Ev X 68 2 [some (vR (some 160)), some (vR (some p1)), some (vI a1), some (vI a2), some (vI (-1)), none, none, none, none] [] _ Q
  iterate 2 (refine e_nx hcd rfl rfl ?_)
  show Ev X 68 4 [some (vR (some 160)), some (vR (some p1)), some (vI a1), some (vI a2), some (vI (-1)), some (vI 0), none, none, none] [] _ Q
  iterate 2 (refine e_nx hcd rfl rfl ?_)
  show Ev X 68 6 [some (vR (some 160)), some (vR (some p1)), some (vI a1), some (vI a2), some (vI (-1)), some (vI 0), some (vI 0), none, none] [] _ Q
  exact H
set_option maxRecDepth 20000 in
set_option maxHeartbeats 8000000 in
theorem v_68_6 {X : PX} {σ : Sg} {Q : Option PV → Sg → Prop} {p1 : Nat} {x2 : Int} {x3 : Int} {x4 : Int} {x5 : Int} {x6 : Int} (hp1 : p1 ∈ parL) (H : InR x6 ∧ InR (σ.1 p1 2) ∧ (σ.1 p1 2 ≤ x6 → Q (some (vI x4)) σ) ∧ (¬ σ.1 p1 2 ≤ x6 → (7 ≤ x6 → Q (some (vI x4)) σ) ∧ (¬ 7 ≤ x6 → InR x2 ∧ (x6 = x2 → Ev X 68 6 [some (vR (some 160)), some (vR (some p1)), some (vI x2), some (vI x3), some (vI x4), some (vI x5), some (vI (x6 + 1)), none, none] [] σ Q) ∧ (¬ x6 = x2 → CI X 67 [vR (some 160), vR (some p1), vI x6, vI x2] σ (fun r4 τ1 => InR x3 ∧ (x3 = 0 → InR r4 ∧ InR x5 ∧ (r4 ≤ x5 → Ev X 68 6 [some (vR (some 160)), some (vR (some p1)), some (vI x2), some (vI x3), some (vI x4), some (vI x5), some (vI (x6 + 1)), none, none] [] τ1 Q) ∧ (¬ r4 ≤ x5 → Ev X 68 6 [some (vR (some 160)), some (vR (some p1)), some (vI x2), some (vI x3), some (vI x6), some (vI r4), some (vI (x6 + 1)), none, none] [] τ1 Q)) ∧ (¬ x3 = 0 → InR (-r4) ∧ InR x5 ∧ (-r4 ≤ x5 → Ev X 68 6 [some (vR (some 160)), some (vR (some p1)), some (vI x2), some (vI x3), some (vI x4), some (vI x5), some (vI (x6 + 1)), none, none] [] τ1 Q) ∧ (¬ -r4 ≤ x5 → Ev X 68 6 [some (vR (some 160)), some (vR (some p1)), some (vI x2), some (vI x3), some (vI x6), some (vI (-r4)), some (vI (x6 + 1)), none, none] [] τ1 Q))))))) : Ev X 68 6 [some (vR (some 160)), some (vR (some p1)), some (vI x2), some (vI x3), some (vI x4), some (vI x5), some (vI x6), none, none] [] σ Q := by
  have hcd : cds 68 = cd_68 := rfl
  iterate 2 (refine e_nx hcd rfl rfl ?_)
  refine r_getI hcd rfl ((parS hp1).1) rfl ?_
  obtain ⟨h1, H⟩ := H
  obtain ⟨h2, H⟩ := H
  refine r_icmp hcd rfl h1 h2 (fun hc => ?_) (fun hc => ?_)
  · replace H := H.1 hc
    refine e_nx hcd rfl rfl ?_
    exact r_iret hcd rfl rfl rfl H
  · replace H := H.2 hc
    iterate 2 (refine e_nx hcd rfl rfl ?_)
    refine r_icmp hcd rfl h1 (by omega) (fun hc => ?_) (fun hc => ?_)
    · replace H := H.1 hc
      refine e_nx hcd rfl rfl ?_
      exact r_iret hcd rfl rfl rfl H
    · replace H := H.2 hc
      iterate 2 (refine e_nx hcd rfl rfl ?_)
      obtain ⟨h3, H⟩ := H
      refine r_icmp hcd rfl h1 h3 (fun hc => ?_) (fun hc => ?_)
      · replace H := H.1 hc
        refine e_nx hcd rfl rfl ?_
        show Ev X 68 37 [some (vR (some 160)), some (vR (some p1)), some (vI x2), some (vI x3), some (vI x4), some (vI x5), some (vI (x6 + 1)), none, none] [] _ Q
        refine e_nx hcd rfl rfl ?_
        exact H
      · replace H := H.2 hc
        iterate 4 (refine e_nx hcd rfl rfl ?_)
        refine r_cv hcd rfl (by omega) rfl rfl rfl (Nat.le_of_ble_eq_true rfl) ?_
        refine Cl.mono H (fun v τ1 hq => ?_)
        obtain ⟨r4, rfl, H⟩ := hq
        show Ev X 68 21 _ [vI r4] τ1 Q
        refine e_nx hcd rfl rfl ?_
        show Ev X 68 22 [some (vR (some 160)), some (vR (some p1)), some (vI x2), some (vI x3), some (vI x4), some (vI x5), some (vI x6), some (vI r4), none] [] _ Q
        refine e_nx hcd rfl rfl ?_
        obtain ⟨h5, H⟩ := H
        refine r_if hcd rfl h5 (fun hc => ?_) (fun hc => ?_)
        · replace H := H.1 hc
          iterate 2 (refine e_nx hcd rfl rfl ?_)
          show Ev X 68 29 [some (vR (some 160)), some (vR (some p1)), some (vI x2), some (vI x3), some (vI x4), some (vI x5), some (vI x6), some (vI r4), some (vI r4)] [] _ Q
          iterate 2 (refine e_nx hcd rfl rfl ?_)
          obtain ⟨h6, H⟩ := H
          obtain ⟨h7, H⟩ := H
          refine r_icmp hcd rfl h6 h7 (fun hc => ?_) (fun hc => ?_)
          · replace H := H.1 hc
            refine e_nx hcd rfl rfl ?_
            show Ev X 68 37 [some (vR (some 160)), some (vR (some p1)), some (vI x2), some (vI x3), some (vI x4), some (vI x5), some (vI (x6 + 1)), some (vI r4), some (vI r4)] [] _ Q
            refine e_nx hcd rfl rfl ?_
            refine e_fg [7, 8] ?_
            exact H
          · replace H := H.2 hc
            iterate 2 (refine e_nx hcd rfl rfl ?_)
            show Ev X 68 34 [some (vR (some 160)), some (vR (some p1)), some (vI x2), some (vI x3), some (vI x6), some (vI x5), some (vI x6), some (vI r4), some (vI r4)] [] _ Q
            iterate 2 (refine e_nx hcd rfl rfl ?_)
            show Ev X 68 36 [some (vR (some 160)), some (vR (some p1)), some (vI x2), some (vI x3), some (vI x6), some (vI r4), some (vI x6), some (vI r4), some (vI r4)] [] _ Q
            refine e_nx hcd rfl rfl ?_
            show Ev X 68 37 [some (vR (some 160)), some (vR (some p1)), some (vI x2), some (vI x3), some (vI x6), some (vI r4), some (vI (x6 + 1)), some (vI r4), some (vI r4)] [] _ Q
            refine e_nx hcd rfl rfl ?_
            refine e_fg [7, 8] ?_
            exact H
        · replace H := H.2 hc
          iterate 4 (refine e_nx hcd rfl rfl ?_)
          show Ev X 68 29 [some (vR (some 160)), some (vR (some p1)), some (vI x2), some (vI x3), some (vI x4), some (vI x5), some (vI x6), some (vI r4), some (vI (-r4))] [] _ Q
          iterate 2 (refine e_nx hcd rfl rfl ?_)
          obtain ⟨h8, H⟩ := H
          obtain ⟨h9, H⟩ := H
          refine r_icmp hcd rfl h8 h9 (fun hc => ?_) (fun hc => ?_)
          · replace H := H.1 hc
            refine e_nx hcd rfl rfl ?_
            show Ev X 68 37 [some (vR (some 160)), some (vR (some p1)), some (vI x2), some (vI x3), some (vI x4), some (vI x5), some (vI (x6 + 1)), some (vI r4), some (vI (-r4))] [] _ Q
            refine e_nx hcd rfl rfl ?_
            refine e_fg [7, 8] ?_
            exact H
          · replace H := H.2 hc
            iterate 2 (refine e_nx hcd rfl rfl ?_)
            show Ev X 68 34 [some (vR (some 160)), some (vR (some p1)), some (vI x2), some (vI x3), some (vI x6), some (vI x5), some (vI x6), some (vI r4), some (vI (-r4))] [] _ Q
            iterate 2 (refine e_nx hcd rfl rfl ?_)
            show Ev X 68 36 [some (vR (some 160)), some (vR (some p1)), some (vI x2), some (vI x3), some (vI x6), some (vI (-r4)), some (vI x6), some (vI r4), some (vI (-r4))] [] _ Q
            refine e_nx hcd rfl rfl ?_
            show Ev X 68 37 [some (vR (some 160)), some (vR (some p1)), some (vI x2), some (vI x3), some (vI x6), some (vI (-r4)), some (vI (x6 + 1)), some (vI r4), some (vI (-r4))] [] _ Q
            refine e_nx hcd rfl rfl ?_
            refine e_fg [7, 8] ?_
            exact H
/-! X6_beginDrawing -/
theorem v_69 {X : PX} {σ : Sg} {Q : Option PV → Sg → Prop} {p1 : Nat} {a1 : Int} (hp1 : p1 ∈ parL) (H : CV X 29 [vR (some 146), vR (some p1)] σ (fun τ1 => Q none (up2 τ1.1 160 1 a1, τ1.2))) : Cl X 69 [vR (some 160), vR (some p1), vI a1] σ Q := by
  have hcd : cds 69 = cd_69 := rfl
  refine c_in (Nat.le_of_ble_eq_true rfl) rfl rfl ?_
  show Ev X 69 0 [some (vR (some 160)), some (vR (some p1)), some (vI a1)] [] σ Q
  refine e_nx hcd rfl rfl ?_
  refine r_getR hcd rfl rfl rfl ?_
  refine e_nx hcd rfl rfl ?_
  refine r_cv hcd rfl (by omega) rfl rfl rfl (Nat.le_of_ble_eq_true rfl) ?_
  refine Cl.mono H (fun v τ1 hq => ?_)
  obtain ⟨rfl, H⟩ := hq
  show Ev X 69 4 _ [] τ1 Q
  iterate 2 (refine e_nx hcd rfl rfl ?_)
  refine r_putI hcd rfl rfl rfl rfl ?_
  exact r_vret hcd rfl rfl rfl H
/-! X6_drawDeed -/
set_option maxRecDepth 20000 in
set_option maxHeartbeats 8000000 in
theorem v_70 {X : PX} {σ : Sg} {Q : Option PV → Sg → Prop}   (H : CI X 71 [vR (some 160), vI 10] σ (fun r1 τ1 => InR r1 ∧ (3 < r1 → (6 < r1 → (r1 ≠ 9 → (r1 ≠ 7 → CI X 71 [vR (some 160), vI 100] τ1 (fun r3 τ2 => CI X 32 [vR (some 146), vI 4, vI r3] τ2 (fun r4 τ3 => Q none τ3))) ∧ (¬ r1 ≠ 7 → CI X 71 [vR (some 160), vI 100] τ1 (fun r5 τ4 => CI X 32 [vR (some 146), vI 3, vI r5] τ4 (fun r6 τ5 => Q none τ5)))) ∧ (¬ r1 ≠ 9 → CI X 71 [vR (some 160), vI 10] τ1 (fun r7 τ6 => CI X 32 [vR (some 146), vI 5, vI r7] τ6 (fun r8 τ7 => Q none τ7)))) ∧ (¬ 6 < r1 → InR (τ1.1 147 2) ∧ (τ1.1 147 2 ≤ 0 → Q none τ1) ∧ (¬ τ1.1 147 2 ≤ 0 → (r1 ≠ 6 → CI X 71 [vR (some 160), vI (τ1.1 147 2)] τ1 (fun r10 τ8 => CI X 32 [vR (some 146), vI 1, vI r10] τ8 (fun r11 τ9 => Q none τ9))) ∧ (¬ r1 ≠ 6 → CI X 71 [vR (some 160), vI (τ1.1 147 2)] τ1 (fun r12 τ10 => CI X 32 [vR (some 146), vI 2, vI r12] τ10 (fun r13 τ11 => Q none τ11)))))) ∧ (¬ 3 < r1 → CI X 32 [vR (some 146), vI 0, vI (-1)] τ1 (fun r14 τ12 => Q none τ12)))) : Cl X 70 [vR (some 160)] σ Q := by
  have hcd : cds 70 = cd_70 := rfl
  refine c_in (Nat.le_of_ble_eq_true rfl) rfl rfl ?_
  show Ev X 70 0 [some (vR (some 160)), none] [] σ Q
  iterate 2 (refine e_nx hcd rfl rfl ?_)
  refine r_cv hcd rfl (by omega) rfl rfl rfl (Nat.le_of_ble_eq_true rfl) ?_
  refine Cl.mono H (fun v τ1 hq => ?_)
  obtain ⟨r1, rfl, H⟩ := hq
  show Ev X 70 3 _ [vI r1] τ1 Q
  refine e_nx hcd rfl rfl ?_
  show Ev X 70 4 [some (vR (some 160)), some (vI r1)] [] _ Q
  iterate 2 (refine e_nx hcd rfl rfl ?_)
  obtain ⟨h2, H⟩ := H
  refine r_icmp hcd rfl h2 (by omega) (fun hc => ?_) (fun hc => ?_)
  · replace H := H.1 hc
    iterate 2 (refine e_nx hcd rfl rfl ?_)
    refine r_icmp hcd rfl h2 (by omega) (fun hc => ?_) (fun hc => ?_)
    · replace H := H.1 hc
      iterate 2 (refine e_nx hcd rfl rfl ?_)
      refine r_icmp hcd rfl h2 (by omega) (fun hc => ?_) (fun hc => ?_)
      · replace H := H.1 hc
        refine e_nx hcd rfl rfl ?_
        refine r_getR hcd rfl rfl rfl ?_
        iterate 2 (refine e_nx hcd rfl rfl ?_)
        refine r_icmp hcd rfl h2 (by omega) (fun hc => ?_) (fun hc => ?_)
        · replace H := H.1 hc
          iterate 3 (refine e_nx hcd rfl rfl ?_)
          refine r_cv hcd rfl (by omega) rfl rfl rfl (Nat.le_of_ble_eq_true rfl) ?_
          refine Cl.mono H (fun v τ2 hq => ?_)
          obtain ⟨r3, rfl, H⟩ := hq
          show Ev X 70 62 _ [vI r3, vI 4, vR (some 146)] τ2 Q
          refine r_cv hcd rfl (by omega) rfl rfl rfl (Nat.le_of_ble_eq_true rfl) ?_
          refine Cl.mono H (fun v τ3 hq => ?_)
          obtain ⟨r4, rfl, H⟩ := hq
          show Ev X 70 63 _ [vI r4] τ3 Q
          refine e_nx hcd rfl rfl ?_
          exact r_vret hcd rfl rfl rfl H
        · replace H := H.2 hc
          iterate 4 (refine e_nx hcd rfl rfl ?_)
          refine r_cv hcd rfl (by omega) rfl rfl rfl (Nat.le_of_ble_eq_true rfl) ?_
          refine Cl.mono H (fun v τ4 hq => ?_)
          obtain ⟨r5, rfl, H⟩ := hq
          show Ev X 70 62 _ [vI r5, vI 3, vR (some 146)] τ4 Q
          refine r_cv hcd rfl (by omega) rfl rfl rfl (Nat.le_of_ble_eq_true rfl) ?_
          refine Cl.mono H (fun v τ5 hq => ?_)
          obtain ⟨r6, rfl, H⟩ := hq
          show Ev X 70 63 _ [vI r6] τ5 Q
          refine e_nx hcd rfl rfl ?_
          exact r_vret hcd rfl rfl rfl H
      · replace H := H.2 hc
        refine e_nx hcd rfl rfl ?_
        refine r_getR hcd rfl rfl rfl ?_
        iterate 3 (refine e_nx hcd rfl rfl ?_)
        refine r_cv hcd rfl (by omega) rfl rfl rfl (Nat.le_of_ble_eq_true rfl) ?_
        refine Cl.mono H (fun v τ6 hq => ?_)
        obtain ⟨r7, rfl, H⟩ := hq
        show Ev X 70 48 _ [vI r7, vI 5, vR (some 146)] τ6 Q
        refine r_cv hcd rfl (by omega) rfl rfl rfl (Nat.le_of_ble_eq_true rfl) ?_
        refine Cl.mono H (fun v τ7 hq => ?_)
        obtain ⟨r8, rfl, H⟩ := hq
        show Ev X 70 49 _ [vI r8] τ7 Q
        iterate 2 (refine e_nx hcd rfl rfl ?_)
        exact r_vret hcd rfl rfl rfl H
    · replace H := H.2 hc
      refine e_nx hcd rfl rfl ?_
      refine r_getR hcd rfl rfl rfl ?_
      refine r_getR hcd rfl rfl rfl ?_
      refine r_getI hcd rfl rfl rfl ?_
      obtain ⟨h9, H⟩ := H
      refine r_if hcd rfl h9 (fun hc => ?_) (fun hc => ?_)
      · replace H := H.1 hc
        exact r_vret hcd rfl rfl rfl H
      · replace H := H.2 hc
        refine e_nx hcd rfl rfl ?_
        refine r_getR hcd rfl rfl rfl ?_
        iterate 2 (refine e_nx hcd rfl rfl ?_)
        refine r_icmp hcd rfl h2 (by omega) (fun hc => ?_) (fun hc => ?_)
        · replace H := H.1 hc
          iterate 3 (refine e_nx hcd rfl rfl ?_)
          refine r_getR hcd rfl rfl rfl ?_
          refine r_getR hcd rfl rfl rfl ?_
          refine r_getI hcd rfl rfl rfl ?_
          refine r_cv hcd rfl (by omega) rfl rfl rfl (Nat.le_of_ble_eq_true rfl) ?_
          refine Cl.mono H (fun v τ8 hq => ?_)
          obtain ⟨r10, rfl, H⟩ := hq
          show Ev X 70 36 _ [vI r10, vI 1, vR (some 146)] τ8 Q
          refine r_cv hcd rfl (by omega) rfl rfl rfl (Nat.le_of_ble_eq_true rfl) ?_
          refine Cl.mono H (fun v τ9 hq => ?_)
          obtain ⟨r11, rfl, H⟩ := hq
          show Ev X 70 37 _ [vI r11] τ9 Q
          iterate 2 (refine e_nx hcd rfl rfl ?_)
          exact r_vret hcd rfl rfl rfl H
        · replace H := H.2 hc
          iterate 4 (refine e_nx hcd rfl rfl ?_)
          refine r_getR hcd rfl rfl rfl ?_
          refine r_getR hcd rfl rfl rfl ?_
          refine r_getI hcd rfl rfl rfl ?_
          refine r_cv hcd rfl (by omega) rfl rfl rfl (Nat.le_of_ble_eq_true rfl) ?_
          refine Cl.mono H (fun v τ10 hq => ?_)
          obtain ⟨r12, rfl, H⟩ := hq
          show Ev X 70 36 _ [vI r12, vI 2, vR (some 146)] τ10 Q
          refine r_cv hcd rfl (by omega) rfl rfl rfl (Nat.le_of_ble_eq_true rfl) ?_
          refine Cl.mono H (fun v τ11 hq => ?_)
          obtain ⟨r13, rfl, H⟩ := hq
          show Ev X 70 37 _ [vI r13] τ11 Q
          iterate 2 (refine e_nx hcd rfl rfl ?_)
          exact r_vret hcd rfl rfl rfl H
  · replace H := H.2 hc
    refine e_nx hcd rfl rfl ?_
    refine r_getR hcd rfl rfl rfl ?_
    iterate 2 (refine e_nx hcd rfl rfl ?_)
    refine r_cv hcd rfl (by omega) rfl rfl rfl (Nat.le_of_ble_eq_true rfl) ?_
    refine Cl.mono H (fun v τ12 hq => ?_)
    obtain ⟨r14, rfl, H⟩ := hq
    show Ev X 70 12 _ [vI r14] τ12 Q
    iterate 2 (refine e_nx hcd rfl rfl ?_)
    exact r_vret hcd rfl rfl rfl H
/-! X6_draw -/
theorem v_71 {X : PX} {σ : Sg} {Q : Option PV → Sg → Prop} {a1 : Int}  (H : InR a1 ∧ (a1 ≤ 0 → Q (some (vI 0)) (up2 σ.1 160 1 (((σ.1 160 1) * 1103515245) + 12345), σ.2)) ∧ (¬ a1 ≤ 0 → (a1 ≠ 0) ∧ Q (some (vI (iRem (iUshr (((σ.1 160 1) * 1103515245) + 12345) 16) a1))) (up2 σ.1 160 1 (((σ.1 160 1) * 1103515245) + 12345), σ.2))) : Cl X 71 [vR (some 160), vI a1] σ Q := by
  have hcd : cds 71 = cd_71 := rfl
  refine c_in (Nat.le_of_ble_eq_true rfl) rfl rfl ?_
  show Ev X 71 0 [some (vR (some 160)), some (vI a1)] [] σ Q
  iterate 2 (refine e_nx hcd rfl rfl ?_)
  refine r_getI hcd rfl rfl rfl ?_
  iterate 4 (refine e_nx hcd rfl rfl ?_)
  refine r_putI hcd rfl rfl rfl rfl ?_
  refine e_nx hcd rfl rfl ?_
  obtain ⟨h1, H⟩ := H
  refine r_if hcd rfl h1 (fun hc => ?_) (fun hc => ?_)
  · replace H := H.1 hc
    refine e_nx hcd rfl rfl ?_
    exact r_iret hcd rfl rfl rfl H
  · replace H := H.2 hc
    refine e_nx hcd rfl rfl ?_
    refine r_getI hcd rfl rfl rfl ?_
    show Ev X 71 12 _ [vI (((σ.1 160 1) * 1103515245) + 12345)] _ Q
    iterate 3 (refine e_nx hcd rfl rfl ?_)
    obtain ⟨h2, H⟩ := H
    refine r_rem hcd rfl h1 h2 ?_
    refine e_nx hcd rfl rfl ?_
    exact r_iret hcd rfl rfl rfl H
/-! X7_has -/
theorem v_73 {X : PX} {σ : Sg} {Q : Option PV → Sg → Prop} {q1 : Nat} {a1 : Int} (hq1 : q1 ∈ paiL) (H : InR a1 ∧ (a1 < 0 → Q (some (vI 0)) σ) ∧ (¬ a1 < 0 → InR (σ.1 q1 0) ∧ (σ.1 q1 0 ≤ a1 → Q (some (vI 0)) σ) ∧ (¬ σ.1 q1 0 ≤ a1 → (40 ≤ a1 → Q (some (vI 0)) σ) ∧ (¬ 40 ≤ a1 → Q (some (vI 1)) σ)))) : Cl X 73 [vR (some q1), vI a1] σ Q := by
  have hcd : cds 73 = cd_73 := rfl
  refine c_in (Nat.le_of_ble_eq_true rfl) rfl rfl ?_
  show Ev X 73 0 [some (vR (some q1)), some (vI a1)] [] σ Q
  refine e_nx hcd rfl rfl ?_
  obtain ⟨h1, H⟩ := H
  refine r_if hcd rfl h1 (fun hc => ?_) (fun hc => ?_)
  · replace H := H.1 hc
    refine e_nx hcd rfl rfl ?_
    exact r_zret hcd rfl rfl rfl (by omega) H
  · replace H := H.2 hc
    iterate 2 (refine e_nx hcd rfl rfl ?_)
    refine r_getI hcd rfl ((paiS hq1).1) rfl ?_
    obtain ⟨h2, H⟩ := H
    refine r_icmp hcd rfl h1 h2 (fun hc => ?_) (fun hc => ?_)
    · replace H := H.1 hc
      refine e_nx hcd rfl rfl ?_
      exact r_zret hcd rfl rfl rfl (by omega) H
    · replace H := H.2 hc
      iterate 2 (refine e_nx hcd rfl rfl ?_)
      refine r_icmp hcd rfl h1 (by omega) (fun hc => ?_) (fun hc => ?_)
      · replace H := H.1 hc
        refine e_nx hcd rfl rfl ?_
        exact r_zret hcd rfl rfl rfl (by omega) H
      · replace H := H.2 hc
        iterate 2 (refine e_nx hcd rfl rfl ?_)
        exact r_zret hcd rfl rfl rfl (by omega) H
/-! X7_add -/
theorem v_74 {X : PX} {σ : Sg} {Q : Option PV → Sg → Prop} {q1 : Nat} {a1 : Int} {a2 : Int} (hq1 : q1 ∈ paiL) (H : InR (σ.1 q1 0) ∧ (σ.1 q1 0 < 0 → Q none σ) ∧ (¬ σ.1 q1 0 < 0 → (40 ≤ σ.1 q1 0 → Q none σ) ∧ (¬ 40 ≤ σ.1 q1 0 → (0 ≤ σ.1 q1 0 ∧ σ.1 q1 0 < 40) ∧ Q none (up2 σ.1 q1 0 ((σ.1 q1 0) + 1), up2 (up2 σ.2 (q1 + 1) (σ.1 q1 0).toNat a1) (q1 + 2) (σ.1 q1 0).toNat a2)))) : Cl X 74 [vR (some q1), vI a1, vI a2] σ Q := by
  have hcd : cds 74 = cd_74 := rfl
  refine c_in (Nat.le_of_ble_eq_true rfl) rfl rfl ?_
  show Ev X 74 0 [some (vR (some q1)), some (vI a1), some (vI a2)] [] σ Q
  refine e_nx hcd rfl rfl ?_
  refine r_getI hcd rfl ((paiS hq1).1) rfl ?_
  obtain ⟨h1, H⟩ := H
  refine r_if hcd rfl h1 (fun hc => ?_) (fun hc => ?_)
  · replace H := H.1 hc
    exact r_vret hcd rfl rfl rfl H
  · replace H := H.2 hc
    refine e_nx hcd rfl rfl ?_
    refine r_getI hcd rfl ((paiS hq1).1) rfl ?_
    refine e_nx hcd rfl rfl ?_
    refine r_icmp hcd rfl h1 (by omega) (fun hc => ?_) (fun hc => ?_)
    · replace H := H.1 hc
      exact r_vret hcd rfl rfl rfl H
    · replace H := H.2 hc
      refine e_nx hcd rfl rfl ?_
      refine r_getR hcd rfl ((paiS hq1).1) rfl ?_
      refine e_nx hcd rfl rfl ?_
      refine r_getI hcd rfl ((paiS hq1).1) rfl ?_
      refine e_nx hcd rfl rfl ?_
      obtain ⟨h2, H⟩ := H
      refine r_ist hcd rfl ((paiS hq1).2.1) (by omega) h2 ?_
      refine e_nx hcd rfl rfl ?_
      refine r_getR hcd rfl ((paiS hq1).1) rfl ?_
      refine e_nx hcd rfl rfl ?_
      refine r_getI hcd rfl ((paiS hq1).1) rfl ?_
      refine e_nx hcd rfl rfl ?_
      refine r_ist hcd rfl ((paiS hq1).2.2) (by omega) h2 ?_
      iterate 2 (refine e_nx hcd rfl rfl ?_)
      refine r_getI hcd rfl ((paiS hq1).1) rfl ?_
      iterate 2 (refine e_nx hcd rfl rfl ?_)
      refine r_putI hcd rfl ((paiS hq1).1) rfl rfl ?_
      exact r_vret hcd rfl rfl rfl H
/-! X7_detail -/
set_option maxRecDepth 20000 in
set_option maxHeartbeats 8000000 in
theorem v_75 {X : PX} {σ : Sg} {Q : Option PV → Sg → Prop} {q1 : Nat} {a1 : Int} {a2 : Int} (hq1 : q1 ∈ paiL) (H : InR a1 ∧ (a1 ≠ (-1) → CI X 73 [vR (some q1), vI a1] σ (fun r2 τ1 => InR r2 ∧ (r2 ≠ 0 → InR a2 ∧ (a2 ≠ 0 → (a2 ≠ 1 → Q (some (vI (-2))) τ1) ∧ (¬ a2 ≠ 1 → (0 ≤ a1 ∧ a1 < 40) ∧ Q (some (vI (τ1.2 (q1 + 2) a1.toNat))) τ1)) ∧ (¬ a2 ≠ 0 → (0 ≤ a1 ∧ a1 < 40) ∧ Q (some (vI (τ1.2 (q1 + 1) a1.toNat))) τ1)) ∧ (¬ r2 ≠ 0 → Q (some (vI (-2))) τ1))) ∧ (¬ a1 ≠ (-1) → InR a2 ∧ (a2 ≠ 0 → CI X 73 [vR (some q1), vI a1] σ (fun r8 τ2 => InR r8 ∧ (r8 ≠ 0 → (a2 ≠ 0 → (a2 ≠ 1 → Q (some (vI (-2))) τ2) ∧ (¬ a2 ≠ 1 → (0 ≤ a1 ∧ a1 < 40) ∧ Q (some (vI (τ2.2 (q1 + 2) a1.toNat))) τ2)) ∧ (¬ a2 ≠ 0 → (0 ≤ a1 ∧ a1 < 40) ∧ Q (some (vI (τ2.2 (q1 + 1) a1.toNat))) τ2)) ∧ (¬ r8 ≠ 0 → Q (some (vI (-2))) τ2))) ∧ (¬ a2 ≠ 0 → Q (some (vI (σ.1 q1 0))) σ))) : Cl X 75 [vR (some q1), vI a1, vI a2] σ Q := by
  have hcd : cds 75 = cd_75 := rfl
  refine c_in (Nat.le_of_ble_eq_true rfl) rfl rfl ?_
  show Ev X 75 0 [some (vR (some q1)), some (vI a1), some (vI a2)] [] σ Q
  iterate 2 (refine e_nx hcd rfl rfl ?_)
  obtain ⟨h1, H⟩ := H
  refine r_icmp hcd rfl h1 (by omega) (fun hc => ?_) (fun hc => ?_)
  · replace H := H.1 hc
    iterate 2 (refine e_nx hcd rfl rfl ?_)
    refine r_cv hcd rfl (by omega) ((paiS hq1).1) rfl rfl (Nat.le_of_ble_eq_true rfl) ?_
    refine Cl.mono H (fun v τ1 hq => ?_)
    obtain ⟨r2, rfl, H⟩ := hq
    show Ev X 75 11 _ [vI r2] τ1 Q
    obtain ⟨h3, H⟩ := H
    refine r_if hcd rfl h3 (fun hc => ?_) (fun hc => ?_)
    · replace H := H.1 hc
      refine e_nx hcd rfl rfl ?_
      obtain ⟨h4, H⟩ := H
      refine r_if hcd rfl h4 (fun hc => ?_) (fun hc => ?_)
      · replace H := H.1 hc
        iterate 2 (refine e_nx hcd rfl rfl ?_)
        refine r_icmp hcd rfl h4 (by omega) (fun hc => ?_) (fun hc => ?_)
        · replace H := H.1 hc
          refine e_nx hcd rfl rfl ?_
          exact r_iret hcd rfl rfl rfl H
        · replace H := H.2 hc
          refine e_nx hcd rfl rfl ?_
          refine r_getR hcd rfl ((paiS hq1).1) rfl ?_
          refine e_nx hcd rfl rfl ?_
          obtain ⟨h5, H⟩ := H
          refine r_ild hcd rfl ((paiS hq1).2.2) (by omega) h5 ?_
          refine e_nx hcd rfl rfl ?_
          exact r_iret hcd rfl rfl rfl H
      · replace H := H.2 hc
        refine e_nx hcd rfl rfl ?_
        refine r_getR hcd rfl ((paiS hq1).1) rfl ?_
        refine e_nx hcd rfl rfl ?_
        obtain ⟨h6, H⟩ := H
        refine r_ild hcd rfl ((paiS hq1).2.1) (by omega) h6 ?_
        exact r_iret hcd rfl rfl rfl H
    · replace H := H.2 hc
      refine e_nx hcd rfl rfl ?_
      exact r_iret hcd rfl rfl rfl H
  · replace H := H.2 hc
    refine e_nx hcd rfl rfl ?_
    obtain ⟨h7, H⟩ := H
    refine r_if hcd rfl h7 (fun hc => ?_) (fun hc => ?_)
    · replace H := H.1 hc
      iterate 2 (refine e_nx hcd rfl rfl ?_)
      refine r_cv hcd rfl (by omega) ((paiS hq1).1) rfl rfl (Nat.le_of_ble_eq_true rfl) ?_
      refine Cl.mono H (fun v τ2 hq => ?_)
      obtain ⟨r8, rfl, H⟩ := hq
      show Ev X 75 11 _ [vI r8] τ2 Q
      obtain ⟨h9, H⟩ := H
      refine r_if hcd rfl h9 (fun hc => ?_) (fun hc => ?_)
      · replace H := H.1 hc
        refine e_nx hcd rfl rfl ?_
        refine r_if hcd rfl h7 (fun hc => ?_) (fun hc => ?_)
        · replace H := H.1 hc
          iterate 2 (refine e_nx hcd rfl rfl ?_)
          refine r_icmp hcd rfl h7 (by omega) (fun hc => ?_) (fun hc => ?_)
          · replace H := H.1 hc
            refine e_nx hcd rfl rfl ?_
            exact r_iret hcd rfl rfl rfl H
          · replace H := H.2 hc
            refine e_nx hcd rfl rfl ?_
            refine r_getR hcd rfl ((paiS hq1).1) rfl ?_
            refine e_nx hcd rfl rfl ?_
            obtain ⟨h10, H⟩ := H
            refine r_ild hcd rfl ((paiS hq1).2.2) (by omega) h10 ?_
            refine e_nx hcd rfl rfl ?_
            exact r_iret hcd rfl rfl rfl H
        · replace H := H.2 hc
          refine e_nx hcd rfl rfl ?_
          refine r_getR hcd rfl ((paiS hq1).1) rfl ?_
          refine e_nx hcd rfl rfl ?_
          obtain ⟨h11, H⟩ := H
          refine r_ild hcd rfl ((paiS hq1).2.1) (by omega) h11 ?_
          exact r_iret hcd rfl rfl rfl H
      · replace H := H.2 hc
        refine e_nx hcd rfl rfl ?_
        exact r_iret hcd rfl rfl rfl H
    · replace H := H.2 hc
      refine e_nx hcd rfl rfl ?_
      refine r_getI hcd rfl ((paiS hq1).1) rfl ?_
      exact r_iret hcd rfl rfl rfl H
/-! X7_copyFrom -/
theorem v_76 {X : PX} {σ : Sg} {Q : Option PV → Sg → Prop} {q1 : Nat} {q2 : Nat} (hq1 : q1 ∈ paiL) (hq2 : q2 ∈ paiL) (H : (0 ≤ 0 ∧ 0 ≤ 0 ∧ 0 ≤ (up2 σ.1 q1 0 (σ.1 q2 0)) q1 0 ∧ 0 + ((up2 σ.1 q1 0 (σ.1 q2 0)) q1 0) ≤ 40 ∧ 0 + ((up2 σ.1 q1 0 (σ.1 q2 0)) q1 0) ≤ 40) ∧ Q none (up2 σ.1 q1 0 (σ.1 q2 0), upc (upc σ.2 (q2 + 1) (q1 + 1) 0 0 ((up2 σ.1 q1 0 (σ.1 q2 0)) q1 0).toNat) (q2 + 2) (q1 + 2) 0 0 ((up2 σ.1 q1 0 (σ.1 q2 0)) q1 0).toNat)) : Cl X 76 [vR (some q1), vR (some q2)] σ Q := by
  have hcd : cds 76 = cd_76 := rfl
  refine c_in (Nat.le_of_ble_eq_true rfl) rfl rfl ?_
  show Ev X 76 0 [some (vR (some q1)), some (vR (some q2))] [] σ Q
  iterate 2 (refine e_nx hcd rfl rfl ?_)
  refine r_getI hcd rfl ((paiS hq2).1) rfl ?_
  refine r_putI hcd rfl ((paiS hq1).1) rfl rfl ?_
  refine e_nx hcd rfl rfl ?_
  refine r_getR hcd rfl ((paiS hq2).1) rfl ?_
  iterate 2 (refine e_nx hcd rfl rfl ?_)
  refine r_getR hcd rfl ((paiS hq1).1) rfl ?_
  iterate 2 (refine e_nx hcd rfl rfl ?_)
  refine r_getI hcd rfl ((paiS hq1).1) rfl ?_
  show Ev X 76 12 _ [vI ((up2 σ.1 q1 0 (σ.1 q2 0)) q1 0), vI 0, vR (some (q1 + 1)), vI 0, vR (some (q2 + 1))] _ Q
  obtain ⟨h1, H⟩ := H
  refine r_cpy hcd rfl ((paiS hq2).2.1) (by omega) ((paiS hq1).2.1) (by omega) (by simpa using h1) (Nat.le_of_ble_eq_true rfl) ?_
  refine e_nx hcd rfl rfl ?_
  refine r_getR hcd rfl ((paiS hq2).1) rfl ?_
  iterate 2 (refine e_nx hcd rfl rfl ?_)
  refine r_getR hcd rfl ((paiS hq1).1) rfl ?_
  iterate 2 (refine e_nx hcd rfl rfl ?_)
  refine r_getI hcd rfl ((paiS hq1).1) rfl ?_
  show Ev X 76 21 _ [vI ((up2 σ.1 q1 0 (σ.1 q2 0)) q1 0), vI 0, vR (some (q1 + 2)), vI 0, vR (some (q2 + 2))] _ Q
  refine r_cpy hcd rfl ((paiS hq2).2.2) (by omega) ((paiS hq1).2.2) (by omega) (by simpa using h1) (Nat.le_of_ble_eq_true rfl) ?_
  exact r_vret hcd rfl rfl rfl H
/-! X8_clear -/
theorem v_78 {X : PX} {σ : Sg} {Q : Option PV → Sg → Prop} {p1 : Nat} (hp1 : p1 ∈ parL) (H : Q none (up2 (up2 (up2 (up2 (up2 σ.1 p1 0 10) p1 1 10) p1 2 0) p1 3 0) p1 4 0, σ.2)) : Cl X 78 [vR (some p1)] σ Q := by
  have hcd : cds 78 = cd_78 := rfl
  refine c_in (Nat.le_of_ble_eq_true rfl) rfl rfl ?_
  show Ev X 78 0 [some (vR (some p1))] [] σ Q
  iterate 2 (refine e_nx hcd rfl rfl ?_)
  refine r_putI hcd rfl ((parS hp1).1) rfl rfl ?_
  iterate 2 (refine e_nx hcd rfl rfl ?_)
  refine r_putI hcd rfl ((parS hp1).1) rfl rfl ?_
  iterate 2 (refine e_nx hcd rfl rfl ?_)
  refine r_putI hcd rfl ((parS hp1).1) rfl rfl ?_
  iterate 2 (refine e_nx hcd rfl rfl ?_)
  refine r_putI hcd rfl ((parS hp1).1) rfl rfl ?_
  iterate 2 (refine e_nx hcd rfl rfl ?_)
  refine r_putI hcd rfl ((parS hp1).1) rfl rfl ?_
  exact r_vret hcd rfl rfl rfl H
/-! X8_copyFrom -/
set_option maxRecDepth 20000 in
set_option maxHeartbeats 8000000 in
theorem v_79 {X : PX} {σ : Sg} {Q : Option PV → Sg → Prop} {p1 : Nat} {p2 : Nat} (hp1 : p1 ∈ parL) (hp2 : p2 ∈ parL) (H : (0 ≤ 0 ∧ 0 ≤ 0 ∧ 0 ≤ (up2 (up2 (up2 (up2 (up2 σ.1 p1 0 (σ.1 p2 0)) p1 1 ((up2 σ.1 p1 0 (σ.1 p2 0)) p2 1)) p1 2 ((up2 (up2 σ.1 p1 0 (σ.1 p2 0)) p1 1 ((up2 σ.1 p1 0 (σ.1 p2 0)) p2 1)) p2 2)) p1 3 ((up2 (up2 (up2 σ.1 p1 0 (σ.1 p2 0)) p1 1 ((up2 σ.1 p1 0 (σ.1 p2 0)) p2 1)) p1 2 ((up2 (up2 σ.1 p1 0 (σ.1 p2 0)) p1 1 ((up2 σ.1 p1 0 (σ.1 p2 0)) p2 1)) p2 2)) p2 3)) p1 4 ((up2 (up2 (up2 (up2 σ.1 p1 0 (σ.1 p2 0)) p1 1 ((up2 σ.1 p1 0 (σ.1 p2 0)) p2 1)) p1 2 ((up2 (up2 σ.1 p1 0 (σ.1 p2 0)) p1 1 ((up2 σ.1 p1 0 (σ.1 p2 0)) p2 1)) p2 2)) p1 3 ((up2 (up2 (up2 σ.1 p1 0 (σ.1 p2 0)) p1 1 ((up2 σ.1 p1 0 (σ.1 p2 0)) p2 1)) p1 2 ((up2 (up2 σ.1 p1 0 (σ.1 p2 0)) p1 1 ((up2 σ.1 p1 0 (σ.1 p2 0)) p2 1)) p2 2)) p2 3)) p2 4)) p1 2 ∧ 0 + ((up2 (up2 (up2 (up2 (up2 σ.1 p1 0 (σ.1 p2 0)) p1 1 ((up2 σ.1 p1 0 (σ.1 p2 0)) p2 1)) p1 2 ((up2 (up2 σ.1 p1 0 (σ.1 p2 0)) p1 1 ((up2 σ.1 p1 0 (σ.1 p2 0)) p2 1)) p2 2)) p1 3 ((up2 (up2 (up2 σ.1 p1 0 (σ.1 p2 0)) p1 1 ((up2 σ.1 p1 0 (σ.1 p2 0)) p2 1)) p1 2 ((up2 (up2 σ.1 p1 0 (σ.1 p2 0)) p1 1 ((up2 σ.1 p1 0 (σ.1 p2 0)) p2 1)) p2 2)) p2 3)) p1 4 ((up2 (up2 (up2 (up2 σ.1 p1 0 (σ.1 p2 0)) p1 1 ((up2 σ.1 p1 0 (σ.1 p2 0)) p2 1)) p1 2 ((up2 (up2 σ.1 p1 0 (σ.1 p2 0)) p1 1 ((up2 σ.1 p1 0 (σ.1 p2 0)) p2 1)) p2 2)) p1 3 ((up2 (up2 (up2 σ.1 p1 0 (σ.1 p2 0)) p1 1 ((up2 σ.1 p1 0 (σ.1 p2 0)) p2 1)) p1 2 ((up2 (up2 σ.1 p1 0 (σ.1 p2 0)) p1 1 ((up2 σ.1 p1 0 (σ.1 p2 0)) p2 1)) p2 2)) p2 3)) p2 4)) p1 2) ≤ 7 ∧ 0 + ((up2 (up2 (up2 (up2 (up2 σ.1 p1 0 (σ.1 p2 0)) p1 1 ((up2 σ.1 p1 0 (σ.1 p2 0)) p2 1)) p1 2 ((up2 (up2 σ.1 p1 0 (σ.1 p2 0)) p1 1 ((up2 σ.1 p1 0 (σ.1 p2 0)) p2 1)) p2 2)) p1 3 ((up2 (up2 (up2 σ.1 p1 0 (σ.1 p2 0)) p1 1 ((up2 σ.1 p1 0 (σ.1 p2 0)) p2 1)) p1 2 ((up2 (up2 σ.1 p1 0 (σ.1 p2 0)) p1 1 ((up2 σ.1 p1 0 (σ.1 p2 0)) p2 1)) p2 2)) p2 3)) p1 4 ((up2 (up2 (up2 (up2 σ.1 p1 0 (σ.1 p2 0)) p1 1 ((up2 σ.1 p1 0 (σ.1 p2 0)) p2 1)) p1 2 ((up2 (up2 σ.1 p1 0 (σ.1 p2 0)) p1 1 ((up2 σ.1 p1 0 (σ.1 p2 0)) p2 1)) p2 2)) p1 3 ((up2 (up2 (up2 σ.1 p1 0 (σ.1 p2 0)) p1 1 ((up2 σ.1 p1 0 (σ.1 p2 0)) p2 1)) p1 2 ((up2 (up2 σ.1 p1 0 (σ.1 p2 0)) p1 1 ((up2 σ.1 p1 0 (σ.1 p2 0)) p2 1)) p2 2)) p2 3)) p2 4)) p1 2) ≤ 7) ∧ (0 ≤ 0 ∧ 0 ≤ 0 ∧ 0 ≤ (up2 (up2 (up2 (up2 (up2 σ.1 p1 0 (σ.1 p2 0)) p1 1 ((up2 σ.1 p1 0 (σ.1 p2 0)) p2 1)) p1 2 ((up2 (up2 σ.1 p1 0 (σ.1 p2 0)) p1 1 ((up2 σ.1 p1 0 (σ.1 p2 0)) p2 1)) p2 2)) p1 3 ((up2 (up2 (up2 σ.1 p1 0 (σ.1 p2 0)) p1 1 ((up2 σ.1 p1 0 (σ.1 p2 0)) p2 1)) p1 2 ((up2 (up2 σ.1 p1 0 (σ.1 p2 0)) p1 1 ((up2 σ.1 p1 0 (σ.1 p2 0)) p2 1)) p2 2)) p2 3)) p1 4 ((up2 (up2 (up2 (up2 σ.1 p1 0 (σ.1 p2 0)) p1 1 ((up2 σ.1 p1 0 (σ.1 p2 0)) p2 1)) p1 2 ((up2 (up2 σ.1 p1 0 (σ.1 p2 0)) p1 1 ((up2 σ.1 p1 0 (σ.1 p2 0)) p2 1)) p2 2)) p1 3 ((up2 (up2 (up2 σ.1 p1 0 (σ.1 p2 0)) p1 1 ((up2 σ.1 p1 0 (σ.1 p2 0)) p2 1)) p1 2 ((up2 (up2 σ.1 p1 0 (σ.1 p2 0)) p1 1 ((up2 σ.1 p1 0 (σ.1 p2 0)) p2 1)) p2 2)) p2 3)) p2 4)) p1 4 ∧ 0 + ((up2 (up2 (up2 (up2 (up2 σ.1 p1 0 (σ.1 p2 0)) p1 1 ((up2 σ.1 p1 0 (σ.1 p2 0)) p2 1)) p1 2 ((up2 (up2 σ.1 p1 0 (σ.1 p2 0)) p1 1 ((up2 σ.1 p1 0 (σ.1 p2 0)) p2 1)) p2 2)) p1 3 ((up2 (up2 (up2 σ.1 p1 0 (σ.1 p2 0)) p1 1 ((up2 σ.1 p1 0 (σ.1 p2 0)) p2 1)) p1 2 ((up2 (up2 σ.1 p1 0 (σ.1 p2 0)) p1 1 ((up2 σ.1 p1 0 (σ.1 p2 0)) p2 1)) p2 2)) p2 3)) p1 4 ((up2 (up2 (up2 (up2 σ.1 p1 0 (σ.1 p2 0)) p1 1 ((up2 σ.1 p1 0 (σ.1 p2 0)) p2 1)) p1 2 ((up2 (up2 σ.1 p1 0 (σ.1 p2 0)) p1 1 ((up2 σ.1 p1 0 (σ.1 p2 0)) p2 1)) p2 2)) p1 3 ((up2 (up2 (up2 σ.1 p1 0 (σ.1 p2 0)) p1 1 ((up2 σ.1 p1 0 (σ.1 p2 0)) p2 1)) p1 2 ((up2 (up2 σ.1 p1 0 (σ.1 p2 0)) p1 1 ((up2 σ.1 p1 0 (σ.1 p2 0)) p2 1)) p2 2)) p2 3)) p2 4)) p1 4) ≤ 10 ∧ 0 + ((up2 (up2 (up2 (up2 (up2 σ.1 p1 0 (σ.1 p2 0)) p1 1 ((up2 σ.1 p1 0 (σ.1 p2 0)) p2 1)) p1 2 ((up2 (up2 σ.1 p1 0 (σ.1 p2 0)) p1 1 ((up2 σ.1 p1 0 (σ.1 p2 0)) p2 1)) p2 2)) p1 3 ((up2 (up2 (up2 σ.1 p1 0 (σ.1 p2 0)) p1 1 ((up2 σ.1 p1 0 (σ.1 p2 0)) p2 1)) p1 2 ((up2 (up2 σ.1 p1 0 (σ.1 p2 0)) p1 1 ((up2 σ.1 p1 0 (σ.1 p2 0)) p2 1)) p2 2)) p2 3)) p1 4 ((up2 (up2 (up2 (up2 σ.1 p1 0 (σ.1 p2 0)) p1 1 ((up2 σ.1 p1 0 (σ.1 p2 0)) p2 1)) p1 2 ((up2 (up2 σ.1 p1 0 (σ.1 p2 0)) p1 1 ((up2 σ.1 p1 0 (σ.1 p2 0)) p2 1)) p2 2)) p1 3 ((up2 (up2 (up2 σ.1 p1 0 (σ.1 p2 0)) p1 1 ((up2 σ.1 p1 0 (σ.1 p2 0)) p2 1)) p1 2 ((up2 (up2 σ.1 p1 0 (σ.1 p2 0)) p1 1 ((up2 σ.1 p1 0 (σ.1 p2 0)) p2 1)) p2 2)) p2 3)) p2 4)) p1 4) ≤ 10) ∧ Q none (up2 (up2 (up2 (up2 (up2 σ.1 p1 0 (σ.1 p2 0)) p1 1 ((up2 σ.1 p1 0 (σ.1 p2 0)) p2 1)) p1 2 ((up2 (up2 σ.1 p1 0 (σ.1 p2 0)) p1 1 ((up2 σ.1 p1 0 (σ.1 p2 0)) p2 1)) p2 2)) p1 3 ((up2 (up2 (up2 σ.1 p1 0 (σ.1 p2 0)) p1 1 ((up2 σ.1 p1 0 (σ.1 p2 0)) p2 1)) p1 2 ((up2 (up2 σ.1 p1 0 (σ.1 p2 0)) p1 1 ((up2 σ.1 p1 0 (σ.1 p2 0)) p2 1)) p2 2)) p2 3)) p1 4 ((up2 (up2 (up2 (up2 σ.1 p1 0 (σ.1 p2 0)) p1 1 ((up2 σ.1 p1 0 (σ.1 p2 0)) p2 1)) p1 2 ((up2 (up2 σ.1 p1 0 (σ.1 p2 0)) p1 1 ((up2 σ.1 p1 0 (σ.1 p2 0)) p2 1)) p2 2)) p1 3 ((up2 (up2 (up2 σ.1 p1 0 (σ.1 p2 0)) p1 1 ((up2 σ.1 p1 0 (σ.1 p2 0)) p2 1)) p1 2 ((up2 (up2 σ.1 p1 0 (σ.1 p2 0)) p1 1 ((up2 σ.1 p1 0 (σ.1 p2 0)) p2 1)) p2 2)) p2 3)) p2 4), upc (upc (upc (upc (upc (upc σ.2 (p2 + 1) (p1 + 1) 0 0 ((up2 (up2 (up2 (up2 (up2 σ.1 p1 0 (σ.1 p2 0)) p1 1 ((up2 σ.1 p1 0 (σ.1 p2 0)) p2 1)) p1 2 ((up2 (up2 σ.1 p1 0 (σ.1 p2 0)) p1 1 ((up2 σ.1 p1 0 (σ.1 p2 0)) p2 1)) p2 2)) p1 3 ((up2 (up2 (up2 σ.1 p1 0 (σ.1 p2 0)) p1 1 ((up2 σ.1 p1 0 (σ.1 p2 0)) p2 1)) p1 2 ((up2 (up2 σ.1 p1 0 (σ.1 p2 0)) p1 1 ((up2 σ.1 p1 0 (σ.1 p2 0)) p2 1)) p2 2)) p2 3)) p1 4 ((up2 (up2 (up2 (up2 σ.1 p1 0 (σ.1 p2 0)) p1 1 ((up2 σ.1 p1 0 (σ.1 p2 0)) p2 1)) p1 2 ((up2 (up2 σ.1 p1 0 (σ.1 p2 0)) p1 1 ((up2 σ.1 p1 0 (σ.1 p2 0)) p2 1)) p2 2)) p1 3 ((up2 (up2 (up2 σ.1 p1 0 (σ.1 p2 0)) p1 1 ((up2 σ.1 p1 0 (σ.1 p2 0)) p2 1)) p1 2 ((up2 (up2 σ.1 p1 0 (σ.1 p2 0)) p1 1 ((up2 σ.1 p1 0 (σ.1 p2 0)) p2 1)) p2 2)) p2 3)) p2 4)) p1 2).toNat) (p2 + 2) (p1 + 2) 0 0 ((up2 (up2 (up2 (up2 (up2 σ.1 p1 0 (σ.1 p2 0)) p1 1 ((up2 σ.1 p1 0 (σ.1 p2 0)) p2 1)) p1 2 ((up2 (up2 σ.1 p1 0 (σ.1 p2 0)) p1 1 ((up2 σ.1 p1 0 (σ.1 p2 0)) p2 1)) p2 2)) p1 3 ((up2 (up2 (up2 σ.1 p1 0 (σ.1 p2 0)) p1 1 ((up2 σ.1 p1 0 (σ.1 p2 0)) p2 1)) p1 2 ((up2 (up2 σ.1 p1 0 (σ.1 p2 0)) p1 1 ((up2 σ.1 p1 0 (σ.1 p2 0)) p2 1)) p2 2)) p2 3)) p1 4 ((up2 (up2 (up2 (up2 σ.1 p1 0 (σ.1 p2 0)) p1 1 ((up2 σ.1 p1 0 (σ.1 p2 0)) p2 1)) p1 2 ((up2 (up2 σ.1 p1 0 (σ.1 p2 0)) p1 1 ((up2 σ.1 p1 0 (σ.1 p2 0)) p2 1)) p2 2)) p1 3 ((up2 (up2 (up2 σ.1 p1 0 (σ.1 p2 0)) p1 1 ((up2 σ.1 p1 0 (σ.1 p2 0)) p2 1)) p1 2 ((up2 (up2 σ.1 p1 0 (σ.1 p2 0)) p1 1 ((up2 σ.1 p1 0 (σ.1 p2 0)) p2 1)) p2 2)) p2 3)) p2 4)) p1 2).toNat) (p2 + 3) (p1 + 3) 0 0 ((up2 (up2 (up2 (up2 (up2 σ.1 p1 0 (σ.1 p2 0)) p1 1 ((up2 σ.1 p1 0 (σ.1 p2 0)) p2 1)) p1 2 ((up2 (up2 σ.1 p1 0 (σ.1 p2 0)) p1 1 ((up2 σ.1 p1 0 (σ.1 p2 0)) p2 1)) p2 2)) p1 3 ((up2 (up2 (up2 σ.1 p1 0 (σ.1 p2 0)) p1 1 ((up2 σ.1 p1 0 (σ.1 p2 0)) p2 1)) p1 2 ((up2 (up2 σ.1 p1 0 (σ.1 p2 0)) p1 1 ((up2 σ.1 p1 0 (σ.1 p2 0)) p2 1)) p2 2)) p2 3)) p1 4 ((up2 (up2 (up2 (up2 σ.1 p1 0 (σ.1 p2 0)) p1 1 ((up2 σ.1 p1 0 (σ.1 p2 0)) p2 1)) p1 2 ((up2 (up2 σ.1 p1 0 (σ.1 p2 0)) p1 1 ((up2 σ.1 p1 0 (σ.1 p2 0)) p2 1)) p2 2)) p1 3 ((up2 (up2 (up2 σ.1 p1 0 (σ.1 p2 0)) p1 1 ((up2 σ.1 p1 0 (σ.1 p2 0)) p2 1)) p1 2 ((up2 (up2 σ.1 p1 0 (σ.1 p2 0)) p1 1 ((up2 σ.1 p1 0 (σ.1 p2 0)) p2 1)) p2 2)) p2 3)) p2 4)) p1 4).toNat) (p2 + 4) (p1 + 4) 0 0 ((up2 (up2 (up2 (up2 (up2 σ.1 p1 0 (σ.1 p2 0)) p1 1 ((up2 σ.1 p1 0 (σ.1 p2 0)) p2 1)) p1 2 ((up2 (up2 σ.1 p1 0 (σ.1 p2 0)) p1 1 ((up2 σ.1 p1 0 (σ.1 p2 0)) p2 1)) p2 2)) p1 3 ((up2 (up2 (up2 σ.1 p1 0 (σ.1 p2 0)) p1 1 ((up2 σ.1 p1 0 (σ.1 p2 0)) p2 1)) p1 2 ((up2 (up2 σ.1 p1 0 (σ.1 p2 0)) p1 1 ((up2 σ.1 p1 0 (σ.1 p2 0)) p2 1)) p2 2)) p2 3)) p1 4 ((up2 (up2 (up2 (up2 σ.1 p1 0 (σ.1 p2 0)) p1 1 ((up2 σ.1 p1 0 (σ.1 p2 0)) p2 1)) p1 2 ((up2 (up2 σ.1 p1 0 (σ.1 p2 0)) p1 1 ((up2 σ.1 p1 0 (σ.1 p2 0)) p2 1)) p2 2)) p1 3 ((up2 (up2 (up2 σ.1 p1 0 (σ.1 p2 0)) p1 1 ((up2 σ.1 p1 0 (σ.1 p2 0)) p2 1)) p1 2 ((up2 (up2 σ.1 p1 0 (σ.1 p2 0)) p1 1 ((up2 σ.1 p1 0 (σ.1 p2 0)) p2 1)) p2 2)) p2 3)) p2 4)) p1 4).toNat) (p2 + 5) (p1 + 5) 0 0 ((up2 (up2 (up2 (up2 (up2 σ.1 p1 0 (σ.1 p2 0)) p1 1 ((up2 σ.1 p1 0 (σ.1 p2 0)) p2 1)) p1 2 ((up2 (up2 σ.1 p1 0 (σ.1 p2 0)) p1 1 ((up2 σ.1 p1 0 (σ.1 p2 0)) p2 1)) p2 2)) p1 3 ((up2 (up2 (up2 σ.1 p1 0 (σ.1 p2 0)) p1 1 ((up2 σ.1 p1 0 (σ.1 p2 0)) p2 1)) p1 2 ((up2 (up2 σ.1 p1 0 (σ.1 p2 0)) p1 1 ((up2 σ.1 p1 0 (σ.1 p2 0)) p2 1)) p2 2)) p2 3)) p1 4 ((up2 (up2 (up2 (up2 σ.1 p1 0 (σ.1 p2 0)) p1 1 ((up2 σ.1 p1 0 (σ.1 p2 0)) p2 1)) p1 2 ((up2 (up2 σ.1 p1 0 (σ.1 p2 0)) p1 1 ((up2 σ.1 p1 0 (σ.1 p2 0)) p2 1)) p2 2)) p1 3 ((up2 (up2 (up2 σ.1 p1 0 (σ.1 p2 0)) p1 1 ((up2 σ.1 p1 0 (σ.1 p2 0)) p2 1)) p1 2 ((up2 (up2 σ.1 p1 0 (σ.1 p2 0)) p1 1 ((up2 σ.1 p1 0 (σ.1 p2 0)) p2 1)) p2 2)) p2 3)) p2 4)) p1 4).toNat) (p2 + 6) (p1 + 6) 0 0 ((up2 (up2 (up2 (up2 (up2 σ.1 p1 0 (σ.1 p2 0)) p1 1 ((up2 σ.1 p1 0 (σ.1 p2 0)) p2 1)) p1 2 ((up2 (up2 σ.1 p1 0 (σ.1 p2 0)) p1 1 ((up2 σ.1 p1 0 (σ.1 p2 0)) p2 1)) p2 2)) p1 3 ((up2 (up2 (up2 σ.1 p1 0 (σ.1 p2 0)) p1 1 ((up2 σ.1 p1 0 (σ.1 p2 0)) p2 1)) p1 2 ((up2 (up2 σ.1 p1 0 (σ.1 p2 0)) p1 1 ((up2 σ.1 p1 0 (σ.1 p2 0)) p2 1)) p2 2)) p2 3)) p1 4 ((up2 (up2 (up2 (up2 σ.1 p1 0 (σ.1 p2 0)) p1 1 ((up2 σ.1 p1 0 (σ.1 p2 0)) p2 1)) p1 2 ((up2 (up2 σ.1 p1 0 (σ.1 p2 0)) p1 1 ((up2 σ.1 p1 0 (σ.1 p2 0)) p2 1)) p2 2)) p1 3 ((up2 (up2 (up2 σ.1 p1 0 (σ.1 p2 0)) p1 1 ((up2 σ.1 p1 0 (σ.1 p2 0)) p2 1)) p1 2 ((up2 (up2 σ.1 p1 0 (σ.1 p2 0)) p1 1 ((up2 σ.1 p1 0 (σ.1 p2 0)) p2 1)) p2 2)) p2 3)) p2 4)) p1 4).toNat)) : Cl X 79 [vR (some p1), vR (some p2)] σ Q := by
  have hcd : cds 79 = cd_79 := rfl
  refine c_in (Nat.le_of_ble_eq_true rfl) rfl rfl ?_
  show Ev X 79 0 [some (vR (some p1)), some (vR (some p2))] [] σ Q
  iterate 2 (refine e_nx hcd rfl rfl ?_)
  refine r_getI hcd rfl ((parS hp2).1) rfl ?_
  refine r_putI hcd rfl ((parS hp1).1) rfl rfl ?_
  iterate 2 (refine e_nx hcd rfl rfl ?_)
  refine r_getI hcd rfl ((parS hp2).1) rfl ?_
  show Ev X 79 7 _ [vI ((up2 σ.1 p1 0 (σ.1 p2 0)) p2 1), vR (some p1)] _ Q
  refine r_putI hcd rfl ((parS hp1).1) rfl rfl ?_
  iterate 2 (refine e_nx hcd rfl rfl ?_)
  refine r_getI hcd rfl ((parS hp2).1) rfl ?_
  show Ev X 79 11 _ [vI ((up2 (up2 σ.1 p1 0 (σ.1 p2 0)) p1 1 ((up2 σ.1 p1 0 (σ.1 p2 0)) p2 1)) p2 2), vR (some p1)] _ Q
  refine r_putI hcd rfl ((parS hp1).1) rfl rfl ?_
  iterate 2 (refine e_nx hcd rfl rfl ?_)
  refine r_getI hcd rfl ((parS hp2).1) rfl ?_
  show Ev X 79 15 _ [vI ((up2 (up2 (up2 σ.1 p1 0 (σ.1 p2 0)) p1 1 ((up2 σ.1 p1 0 (σ.1 p2 0)) p2 1)) p1 2 ((up2 (up2 σ.1 p1 0 (σ.1 p2 0)) p1 1 ((up2 σ.1 p1 0 (σ.1 p2 0)) p2 1)) p2 2)) p2 3), vR (some p1)] _ Q
  refine r_putI hcd rfl ((parS hp1).1) rfl rfl ?_
  iterate 2 (refine e_nx hcd rfl rfl ?_)
  refine r_getI hcd rfl ((parS hp2).1) rfl ?_
  show Ev X 79 19 _ [vI ((up2 (up2 (up2 (up2 σ.1 p1 0 (σ.1 p2 0)) p1 1 ((up2 σ.1 p1 0 (σ.1 p2 0)) p2 1)) p1 2 ((up2 (up2 σ.1 p1 0 (σ.1 p2 0)) p1 1 ((up2 σ.1 p1 0 (σ.1 p2 0)) p2 1)) p2 2)) p1 3 ((up2 (up2 (up2 σ.1 p1 0 (σ.1 p2 0)) p1 1 ((up2 σ.1 p1 0 (σ.1 p2 0)) p2 1)) p1 2 ((up2 (up2 σ.1 p1 0 (σ.1 p2 0)) p1 1 ((up2 σ.1 p1 0 (σ.1 p2 0)) p2 1)) p2 2)) p2 3)) p2 4), vR (some p1)] _ Q
  refine r_putI hcd rfl ((parS hp1).1) rfl rfl ?_
  refine e_nx hcd rfl rfl ?_
  refine r_getR hcd rfl ((parS hp2).1) rfl ?_
  iterate 2 (refine e_nx hcd rfl rfl ?_)
  refine r_getR hcd rfl ((parS hp1).1) rfl ?_
  iterate 2 (refine e_nx hcd rfl rfl ?_)
  refine r_getI hcd rfl ((parS hp1).1) rfl ?_
  show Ev X 79 28 _ [vI ((up2 (up2 (up2 (up2 (up2 σ.1 p1 0 (σ.1 p2 0)) p1 1 ((up2 σ.1 p1 0 (σ.1 p2 0)) p2 1)) p1 2 ((up2 (up2 σ.1 p1 0 (σ.1 p2 0)) p1 1 ((up2 σ.1 p1 0 (σ.1 p2 0)) p2 1)) p2 2)) p1 3 ((up2 (up2 (up2 σ.1 p1 0 (σ.1 p2 0)) p1 1 ((up2 σ.1 p1 0 (σ.1 p2 0)) p2 1)) p1 2 ((up2 (up2 σ.1 p1 0 (σ.1 p2 0)) p1 1 ((up2 σ.1 p1 0 (σ.1 p2 0)) p2 1)) p2 2)) p2 3)) p1 4 ((up2 (up2 (up2 (up2 σ.1 p1 0 (σ.1 p2 0)) p1 1 ((up2 σ.1 p1 0 (σ.1 p2 0)) p2 1)) p1 2 ((up2 (up2 σ.1 p1 0 (σ.1 p2 0)) p1 1 ((up2 σ.1 p1 0 (σ.1 p2 0)) p2 1)) p2 2)) p1 3 ((up2 (up2 (up2 σ.1 p1 0 (σ.1 p2 0)) p1 1 ((up2 σ.1 p1 0 (σ.1 p2 0)) p2 1)) p1 2 ((up2 (up2 σ.1 p1 0 (σ.1 p2 0)) p1 1 ((up2 σ.1 p1 0 (σ.1 p2 0)) p2 1)) p2 2)) p2 3)) p2 4)) p1 2), vI 0, vR (some (p1 + 1)), vI 0, vR (some (p2 + 1))] _ Q
  obtain ⟨h1, H⟩ := H
  refine r_cpy hcd rfl ((parS hp2).2.1) (by omega) ((parS hp1).2.1) (by omega) (by simpa using h1) (Nat.le_of_ble_eq_true rfl) ?_
  refine e_nx hcd rfl rfl ?_
  refine r_getR hcd rfl ((parS hp2).1) rfl ?_
  iterate 2 (refine e_nx hcd rfl rfl ?_)
  refine r_getR hcd rfl ((parS hp1).1) rfl ?_
  iterate 2 (refine e_nx hcd rfl rfl ?_)
  refine r_getI hcd rfl ((parS hp1).1) rfl ?_
  show Ev X 79 37 _ [vI ((up2 (up2 (up2 (up2 (up2 σ.1 p1 0 (σ.1 p2 0)) p1 1 ((up2 σ.1 p1 0 (σ.1 p2 0)) p2 1)) p1 2 ((up2 (up2 σ.1 p1 0 (σ.1 p2 0)) p1 1 ((up2 σ.1 p1 0 (σ.1 p2 0)) p2 1)) p2 2)) p1 3 ((up2 (up2 (up2 σ.1 p1 0 (σ.1 p2 0)) p1 1 ((up2 σ.1 p1 0 (σ.1 p2 0)) p2 1)) p1 2 ((up2 (up2 σ.1 p1 0 (σ.1 p2 0)) p1 1 ((up2 σ.1 p1 0 (σ.1 p2 0)) p2 1)) p2 2)) p2 3)) p1 4 ((up2 (up2 (up2 (up2 σ.1 p1 0 (σ.1 p2 0)) p1 1 ((up2 σ.1 p1 0 (σ.1 p2 0)) p2 1)) p1 2 ((up2 (up2 σ.1 p1 0 (σ.1 p2 0)) p1 1 ((up2 σ.1 p1 0 (σ.1 p2 0)) p2 1)) p2 2)) p1 3 ((up2 (up2 (up2 σ.1 p1 0 (σ.1 p2 0)) p1 1 ((up2 σ.1 p1 0 (σ.1 p2 0)) p2 1)) p1 2 ((up2 (up2 σ.1 p1 0 (σ.1 p2 0)) p1 1 ((up2 σ.1 p1 0 (σ.1 p2 0)) p2 1)) p2 2)) p2 3)) p2 4)) p1 2), vI 0, vR (some (p1 + 2)), vI 0, vR (some (p2 + 2))] _ Q
  refine r_cpy hcd rfl ((parS hp2).2.2.1) (by omega) ((parS hp1).2.2.1) (by omega) (by simpa using h1) (Nat.le_of_ble_eq_true rfl) ?_
  refine e_nx hcd rfl rfl ?_
  refine r_getR hcd rfl ((parS hp2).1) rfl ?_
  iterate 2 (refine e_nx hcd rfl rfl ?_)
  refine r_getR hcd rfl ((parS hp1).1) rfl ?_
  iterate 2 (refine e_nx hcd rfl rfl ?_)
  refine r_getI hcd rfl ((parS hp1).1) rfl ?_
  show Ev X 79 46 _ [vI ((up2 (up2 (up2 (up2 (up2 σ.1 p1 0 (σ.1 p2 0)) p1 1 ((up2 σ.1 p1 0 (σ.1 p2 0)) p2 1)) p1 2 ((up2 (up2 σ.1 p1 0 (σ.1 p2 0)) p1 1 ((up2 σ.1 p1 0 (σ.1 p2 0)) p2 1)) p2 2)) p1 3 ((up2 (up2 (up2 σ.1 p1 0 (σ.1 p2 0)) p1 1 ((up2 σ.1 p1 0 (σ.1 p2 0)) p2 1)) p1 2 ((up2 (up2 σ.1 p1 0 (σ.1 p2 0)) p1 1 ((up2 σ.1 p1 0 (σ.1 p2 0)) p2 1)) p2 2)) p2 3)) p1 4 ((up2 (up2 (up2 (up2 σ.1 p1 0 (σ.1 p2 0)) p1 1 ((up2 σ.1 p1 0 (σ.1 p2 0)) p2 1)) p1 2 ((up2 (up2 σ.1 p1 0 (σ.1 p2 0)) p1 1 ((up2 σ.1 p1 0 (σ.1 p2 0)) p2 1)) p2 2)) p1 3 ((up2 (up2 (up2 σ.1 p1 0 (σ.1 p2 0)) p1 1 ((up2 σ.1 p1 0 (σ.1 p2 0)) p2 1)) p1 2 ((up2 (up2 σ.1 p1 0 (σ.1 p2 0)) p1 1 ((up2 σ.1 p1 0 (σ.1 p2 0)) p2 1)) p2 2)) p2 3)) p2 4)) p1 4), vI 0, vR (some (p1 + 3)), vI 0, vR (some (p2 + 3))] _ Q
  obtain ⟨h2, H⟩ := H
  refine r_cpy hcd rfl ((parS hp2).2.2.2.1) (by omega) ((parS hp1).2.2.2.1) (by omega) (by simpa using h2) (Nat.le_of_ble_eq_true rfl) ?_
  refine e_nx hcd rfl rfl ?_
  refine r_getR hcd rfl ((parS hp2).1) rfl ?_
  iterate 2 (refine e_nx hcd rfl rfl ?_)
  refine r_getR hcd rfl ((parS hp1).1) rfl ?_
  iterate 2 (refine e_nx hcd rfl rfl ?_)
  refine r_getI hcd rfl ((parS hp1).1) rfl ?_
  show Ev X 79 55 _ [vI ((up2 (up2 (up2 (up2 (up2 σ.1 p1 0 (σ.1 p2 0)) p1 1 ((up2 σ.1 p1 0 (σ.1 p2 0)) p2 1)) p1 2 ((up2 (up2 σ.1 p1 0 (σ.1 p2 0)) p1 1 ((up2 σ.1 p1 0 (σ.1 p2 0)) p2 1)) p2 2)) p1 3 ((up2 (up2 (up2 σ.1 p1 0 (σ.1 p2 0)) p1 1 ((up2 σ.1 p1 0 (σ.1 p2 0)) p2 1)) p1 2 ((up2 (up2 σ.1 p1 0 (σ.1 p2 0)) p1 1 ((up2 σ.1 p1 0 (σ.1 p2 0)) p2 1)) p2 2)) p2 3)) p1 4 ((up2 (up2 (up2 (up2 σ.1 p1 0 (σ.1 p2 0)) p1 1 ((up2 σ.1 p1 0 (σ.1 p2 0)) p2 1)) p1 2 ((up2 (up2 σ.1 p1 0 (σ.1 p2 0)) p1 1 ((up2 σ.1 p1 0 (σ.1 p2 0)) p2 1)) p2 2)) p1 3 ((up2 (up2 (up2 σ.1 p1 0 (σ.1 p2 0)) p1 1 ((up2 σ.1 p1 0 (σ.1 p2 0)) p2 1)) p1 2 ((up2 (up2 σ.1 p1 0 (σ.1 p2 0)) p1 1 ((up2 σ.1 p1 0 (σ.1 p2 0)) p2 1)) p2 2)) p2 3)) p2 4)) p1 4), vI 0, vR (some (p1 + 4)), vI 0, vR (some (p2 + 4))] _ Q
  refine r_cpy hcd rfl ((parS hp2).2.2.2.2.1) (by omega) ((parS hp1).2.2.2.2.1) (by omega) (by simpa using h2) (Nat.le_of_ble_eq_true rfl) ?_
  refine e_nx hcd rfl rfl ?_
  refine r_getR hcd rfl ((parS hp2).1) rfl ?_
  iterate 2 (refine e_nx hcd rfl rfl ?_)
  refine r_getR hcd rfl ((parS hp1).1) rfl ?_
  iterate 2 (refine e_nx hcd rfl rfl ?_)
  refine r_getI hcd rfl ((parS hp1).1) rfl ?_
  show Ev X 79 64 _ [vI ((up2 (up2 (up2 (up2 (up2 σ.1 p1 0 (σ.1 p2 0)) p1 1 ((up2 σ.1 p1 0 (σ.1 p2 0)) p2 1)) p1 2 ((up2 (up2 σ.1 p1 0 (σ.1 p2 0)) p1 1 ((up2 σ.1 p1 0 (σ.1 p2 0)) p2 1)) p2 2)) p1 3 ((up2 (up2 (up2 σ.1 p1 0 (σ.1 p2 0)) p1 1 ((up2 σ.1 p1 0 (σ.1 p2 0)) p2 1)) p1 2 ((up2 (up2 σ.1 p1 0 (σ.1 p2 0)) p1 1 ((up2 σ.1 p1 0 (σ.1 p2 0)) p2 1)) p2 2)) p2 3)) p1 4 ((up2 (up2 (up2 (up2 σ.1 p1 0 (σ.1 p2 0)) p1 1 ((up2 σ.1 p1 0 (σ.1 p2 0)) p2 1)) p1 2 ((up2 (up2 σ.1 p1 0 (σ.1 p2 0)) p1 1 ((up2 σ.1 p1 0 (σ.1 p2 0)) p2 1)) p2 2)) p1 3 ((up2 (up2 (up2 σ.1 p1 0 (σ.1 p2 0)) p1 1 ((up2 σ.1 p1 0 (σ.1 p2 0)) p2 1)) p1 2 ((up2 (up2 σ.1 p1 0 (σ.1 p2 0)) p1 1 ((up2 σ.1 p1 0 (σ.1 p2 0)) p2 1)) p2 2)) p2 3)) p2 4)) p1 4), vI 0, vR (some (p1 + 5)), vI 0, vR (some (p2 + 5))] _ Q
  refine r_cpy hcd rfl ((parS hp2).2.2.2.2.2.1) (by omega) ((parS hp1).2.2.2.2.2.1) (by omega) (by simpa using h2) (Nat.le_of_ble_eq_true rfl) ?_
  refine e_nx hcd rfl rfl ?_
  refine r_getR hcd rfl ((parS hp2).1) rfl ?_
  iterate 2 (refine e_nx hcd rfl rfl ?_)
  refine r_getR hcd rfl ((parS hp1).1) rfl ?_
  iterate 2 (refine e_nx hcd rfl rfl ?_)
  refine r_getI hcd rfl ((parS hp1).1) rfl ?_
  show Ev X 79 73 _ [vI ((up2 (up2 (up2 (up2 (up2 σ.1 p1 0 (σ.1 p2 0)) p1 1 ((up2 σ.1 p1 0 (σ.1 p2 0)) p2 1)) p1 2 ((up2 (up2 σ.1 p1 0 (σ.1 p2 0)) p1 1 ((up2 σ.1 p1 0 (σ.1 p2 0)) p2 1)) p2 2)) p1 3 ((up2 (up2 (up2 σ.1 p1 0 (σ.1 p2 0)) p1 1 ((up2 σ.1 p1 0 (σ.1 p2 0)) p2 1)) p1 2 ((up2 (up2 σ.1 p1 0 (σ.1 p2 0)) p1 1 ((up2 σ.1 p1 0 (σ.1 p2 0)) p2 1)) p2 2)) p2 3)) p1 4 ((up2 (up2 (up2 (up2 σ.1 p1 0 (σ.1 p2 0)) p1 1 ((up2 σ.1 p1 0 (σ.1 p2 0)) p2 1)) p1 2 ((up2 (up2 σ.1 p1 0 (σ.1 p2 0)) p1 1 ((up2 σ.1 p1 0 (σ.1 p2 0)) p2 1)) p2 2)) p1 3 ((up2 (up2 (up2 σ.1 p1 0 (σ.1 p2 0)) p1 1 ((up2 σ.1 p1 0 (σ.1 p2 0)) p2 1)) p1 2 ((up2 (up2 σ.1 p1 0 (σ.1 p2 0)) p1 1 ((up2 σ.1 p1 0 (σ.1 p2 0)) p2 1)) p2 2)) p2 3)) p2 4)) p1 4), vI 0, vR (some (p1 + 6)), vI 0, vR (some (p2 + 6))] _ Q
  refine r_cpy hcd rfl ((parS hp2).2.2.2.2.2.2) (by omega) ((parS hp1).2.2.2.2.2.2) (by omega) (by simpa using h2) (Nat.le_of_ble_eq_true rfl) ?_
  exact r_vret hcd rfl rfl rfl H
/-! X8_addHouse -/
theorem v_80 {X : PX} {σ : Sg} {Q : Option PV → Sg → Prop} {p1 : Nat} {a1 : Int} {a2 : Int} (hp1 : p1 ∈ parL) (H : InR (σ.1 p1 2) ∧ (σ.1 p1 2 < 0 → Q none σ) ∧ (¬ σ.1 p1 2 < 0 → (7 ≤ σ.1 p1 2 → Q none σ) ∧ (¬ 7 ≤ σ.1 p1 2 → (0 ≤ σ.1 p1 2 ∧ σ.1 p1 2 < 7) ∧ Q none (up2 σ.1 p1 2 ((σ.1 p1 2) + 1), up2 (up2 σ.2 (p1 + 1) (σ.1 p1 2).toNat a1) (p1 + 2) (σ.1 p1 2).toNat a2)))) : Cl X 80 [vR (some p1), vI a1, vI a2] σ Q := by
  have hcd : cds 80 = cd_80 := rfl
  refine c_in (Nat.le_of_ble_eq_true rfl) rfl rfl ?_
  show Ev X 80 0 [some (vR (some p1)), some (vI a1), some (vI a2)] [] σ Q
  refine e_nx hcd rfl rfl ?_
  refine r_getI hcd rfl ((parS hp1).1) rfl ?_
  obtain ⟨h1, H⟩ := H
  refine r_if hcd rfl h1 (fun hc => ?_) (fun hc => ?_)
  · replace H := H.1 hc
    exact r_vret hcd rfl rfl rfl H
  · replace H := H.2 hc
    refine e_nx hcd rfl rfl ?_
    refine r_getI hcd rfl ((parS hp1).1) rfl ?_
    refine e_nx hcd rfl rfl ?_
    refine r_icmp hcd rfl h1 (by omega) (fun hc => ?_) (fun hc => ?_)
    · replace H := H.1 hc
      exact r_vret hcd rfl rfl rfl H
    · replace H := H.2 hc
      refine e_nx hcd rfl rfl ?_
      refine r_getR hcd rfl ((parS hp1).1) rfl ?_
      refine e_nx hcd rfl rfl ?_
      refine r_getI hcd rfl ((parS hp1).1) rfl ?_
      refine e_nx hcd rfl rfl ?_
      obtain ⟨h2, H⟩ := H
      refine r_ist hcd rfl ((parS hp1).2.1) (by omega) h2 ?_
      refine e_nx hcd rfl rfl ?_
      refine r_getR hcd rfl ((parS hp1).1) rfl ?_
      refine e_nx hcd rfl rfl ?_
      refine r_getI hcd rfl ((parS hp1).1) rfl ?_
      refine e_nx hcd rfl rfl ?_
      refine r_ist hcd rfl ((parS hp1).2.2.1) (by omega) h2 ?_
      iterate 2 (refine e_nx hcd rfl rfl ?_)
      refine r_getI hcd rfl ((parS hp1).1) rfl ?_
      iterate 2 (refine e_nx hcd rfl rfl ?_)
      refine r_putI hcd rfl ((parS hp1).1) rfl rfl ?_
      exact r_vret hcd rfl rfl rfl H
/-! X8_addRule -/
set_option maxRecDepth 20000 in
set_option maxHeartbeats 8000000 in
theorem v_81 {X : PX} {σ : Sg} {Q : Option PV → Sg → Prop} {p1 : Nat} {a1 : Int} {a2 : Int} {a3 : Int} (hp1 : p1 ∈ parL) (H : InR (σ.1 p1 4) ∧ (σ.1 p1 4 < 0 → Q none σ) ∧ (¬ σ.1 p1 4 < 0 → (10 ≤ σ.1 p1 4 → Q none σ) ∧ (¬ 10 ≤ σ.1 p1 4 → (0 ≤ σ.1 p1 4 ∧ σ.1 p1 4 < 10) ∧ InR a3 ∧ (a3 ≠ (-1) → Q none (up2 σ.1 p1 4 ((σ.1 p1 4) + 1), up2 (up2 (up2 (up2 σ.2 (p1 + 3) (σ.1 p1 4).toNat a1) (p1 + 4) (σ.1 p1 4).toNat a2) (p1 + 5) (σ.1 p1 4).toNat a3) (p1 + 6) (σ.1 p1 4).toNat (iOr (iShl 1 a2) (iShl 1 a3)))) ∧ (¬ a3 ≠ (-1) → Q none (up2 σ.1 p1 4 ((σ.1 p1 4) + 1), up2 (up2 (up2 (up2 σ.2 (p1 + 3) (σ.1 p1 4).toNat a1) (p1 + 4) (σ.1 p1 4).toNat a2) (p1 + 5) (σ.1 p1 4).toNat a3) (p1 + 6) (σ.1 p1 4).toNat (iOr (iShl 1 a2) 0)))))) : Cl X 81 [vR (some p1), vI a1, vI a2, vI a3] σ Q := by
  have hcd : cds 81 = cd_81 := rfl
  refine c_in (Nat.le_of_ble_eq_true rfl) rfl rfl ?_
  show Ev X 81 0 [some (vR (some p1)), some (vI a1), some (vI a2), some (vI a3)] [] σ Q
  refine e_nx hcd rfl rfl ?_
  refine r_getI hcd rfl ((parS hp1).1) rfl ?_
  obtain ⟨h1, H⟩ := H
  refine r_if hcd rfl h1 (fun hc => ?_) (fun hc => ?_)
  · replace H := H.1 hc
    exact r_vret hcd rfl rfl rfl H
  · replace H := H.2 hc
    refine e_nx hcd rfl rfl ?_
    refine r_getI hcd rfl ((parS hp1).1) rfl ?_
    refine e_nx hcd rfl rfl ?_
    refine r_icmp hcd rfl h1 (by omega) (fun hc => ?_) (fun hc => ?_)
    · replace H := H.1 hc
      exact r_vret hcd rfl rfl rfl H
    · replace H := H.2 hc
      refine e_nx hcd rfl rfl ?_
      refine r_getR hcd rfl ((parS hp1).1) rfl ?_
      refine e_nx hcd rfl rfl ?_
      refine r_getI hcd rfl ((parS hp1).1) rfl ?_
      refine e_nx hcd rfl rfl ?_
      obtain ⟨h2, H⟩ := H
      refine r_ist hcd rfl ((parS hp1).2.2.2.1) (by omega) h2 ?_
      refine e_nx hcd rfl rfl ?_
      refine r_getR hcd rfl ((parS hp1).1) rfl ?_
      refine e_nx hcd rfl rfl ?_
      refine r_getI hcd rfl ((parS hp1).1) rfl ?_
      refine e_nx hcd rfl rfl ?_
      refine r_ist hcd rfl ((parS hp1).2.2.2.2.1) (by omega) h2 ?_
      refine e_nx hcd rfl rfl ?_
      refine r_getR hcd rfl ((parS hp1).1) rfl ?_
      refine e_nx hcd rfl rfl ?_
      refine r_getI hcd rfl ((parS hp1).1) rfl ?_
      refine e_nx hcd rfl rfl ?_
      refine r_ist hcd rfl ((parS hp1).2.2.2.2.2.1) (by omega) h2 ?_
      refine e_nx hcd rfl rfl ?_
      refine r_getR hcd rfl ((parS hp1).1) rfl ?_
      refine e_nx hcd rfl rfl ?_
      refine r_getI hcd rfl ((parS hp1).1) rfl ?_
      iterate 5 (refine e_nx hcd rfl rfl ?_)
      obtain ⟨h3, H⟩ := H
      refine r_icmp hcd rfl h3 (by omega) (fun hc => ?_) (fun hc => ?_)
      · replace H := H.1 hc
        iterate 4 (refine e_nx hcd rfl rfl ?_)
        refine r_ist hcd rfl ((parS hp1).2.2.2.2.2.2) (by omega) h2 ?_
        iterate 2 (refine e_nx hcd rfl rfl ?_)
        refine r_getI hcd rfl ((parS hp1).1) rfl ?_
        iterate 2 (refine e_nx hcd rfl rfl ?_)
        refine r_putI hcd rfl ((parS hp1).1) rfl rfl ?_
        exact r_vret hcd rfl rfl rfl H
      · replace H := H.2 hc
        iterate 3 (refine e_nx hcd rfl rfl ?_)
        refine r_ist hcd rfl ((parS hp1).2.2.2.2.2.2) (by omega) h2 ?_
        iterate 2 (refine e_nx hcd rfl rfl ?_)
        refine r_getI hcd rfl ((parS hp1).1) rfl ?_
        iterate 2 (refine e_nx hcd rfl rfl ?_)
        refine r_putI hcd rfl ((parS hp1).1) rfl rfl ?_
        exact r_vret hcd rfl rfl rfl H
/-! X8_hasHouse -/
theorem v_82 {X : PX} {σ : Sg} {Q : Option PV → Sg → Prop} {p1 : Nat} {a1 : Int} (hp1 : p1 ∈ parL) (H : InR a1 ∧ (a1 < 0 → Q (some (vI 0)) σ) ∧ (¬ a1 < 0 → InR (σ.1 p1 2) ∧ (σ.1 p1 2 ≤ a1 → Q (some (vI 0)) σ) ∧ (¬ σ.1 p1 2 ≤ a1 → (7 ≤ a1 → Q (some (vI 0)) σ) ∧ (¬ 7 ≤ a1 → Q (some (vI 1)) σ)))) : Cl X 82 [vR (some p1), vI a1] σ Q := by
  have hcd : cds 82 = cd_82 := rfl
  refine c_in (Nat.le_of_ble_eq_true rfl) rfl rfl ?_
  show Ev X 82 0 [some (vR (some p1)), some (vI a1)] [] σ Q
  refine e_nx hcd rfl rfl ?_
  obtain ⟨h1, H⟩ := H
  refine r_if hcd rfl h1 (fun hc => ?_) (fun hc => ?_)
  · replace H := H.1 hc
    refine e_nx hcd rfl rfl ?_
    exact r_zret hcd rfl rfl rfl (by omega) H
  · replace H := H.2 hc
    iterate 2 (refine e_nx hcd rfl rfl ?_)
    refine r_getI hcd rfl ((parS hp1).1) rfl ?_
    obtain ⟨h2, H⟩ := H
    refine r_icmp hcd rfl h1 h2 (fun hc => ?_) (fun hc => ?_)
    · replace H := H.1 hc
      refine e_nx hcd rfl rfl ?_
      exact r_zret hcd rfl rfl rfl (by omega) H
    · replace H := H.2 hc
      iterate 2 (refine e_nx hcd rfl rfl ?_)
      refine r_icmp hcd rfl h1 (by omega) (fun hc => ?_) (fun hc => ?_)
      · replace H := H.1 hc
        refine e_nx hcd rfl rfl ?_
        exact r_zret hcd rfl rfl rfl (by omega) H
      · replace H := H.2 hc
        iterate 2 (refine e_nx hcd rfl rfl ?_)
        exact r_zret hcd rfl rfl rfl (by omega) H
/-! X8_hasRule -/
theorem v_83 {X : PX} {σ : Sg} {Q : Option PV → Sg → Prop} {p1 : Nat} {a1 : Int} (hp1 : p1 ∈ parL) (H : InR a1 ∧ (a1 < 0 → Q (some (vI 0)) σ) ∧ (¬ a1 < 0 → InR (σ.1 p1 4) ∧ (σ.1 p1 4 ≤ a1 → Q (some (vI 0)) σ) ∧ (¬ σ.1 p1 4 ≤ a1 → (10 ≤ a1 → Q (some (vI 0)) σ) ∧ (¬ 10 ≤ a1 → Q (some (vI 1)) σ)))) : Cl X 83 [vR (some p1), vI a1] σ Q := by
  have hcd : cds 83 = cd_83 := rfl
  refine c_in (Nat.le_of_ble_eq_true rfl) rfl rfl ?_
  show Ev X 83 0 [some (vR (some p1)), some (vI a1)] [] σ Q
  refine e_nx hcd rfl rfl ?_
  obtain ⟨h1, H⟩ := H
  refine r_if hcd rfl h1 (fun hc => ?_) (fun hc => ?_)
  · replace H := H.1 hc
    refine e_nx hcd rfl rfl ?_
    exact r_zret hcd rfl rfl rfl (by omega) H
  · replace H := H.2 hc
    iterate 2 (refine e_nx hcd rfl rfl ?_)
    refine r_getI hcd rfl ((parS hp1).1) rfl ?_
    obtain ⟨h2, H⟩ := H
    refine r_icmp hcd rfl h1 h2 (fun hc => ?_) (fun hc => ?_)
    · replace H := H.1 hc
      refine e_nx hcd rfl rfl ?_
      exact r_zret hcd rfl rfl rfl (by omega) H
    · replace H := H.2 hc
      iterate 2 (refine e_nx hcd rfl rfl ?_)
      refine r_icmp hcd rfl h1 (by omega) (fun hc => ?_) (fun hc => ?_)
      · replace H := H.1 hc
        refine e_nx hcd rfl rfl ?_
        exact r_zret hcd rfl rfl rfl (by omega) H
      · replace H := H.2 hc
        iterate 2 (refine e_nx hcd rfl rfl ?_)
        exact r_zret hcd rfl rfl rfl (by omega) H
/-! X8_everyHouse -/
theorem v_84 {X : PX} {σ : Sg} {Q : Option PV → Sg → Prop} {p1 : Nat} (hp1 : p1 ∈ parL) (H : Q (some (vI ((iShl 1 (σ.1 p1 2)) - 1))) σ) : Cl X 84 [vR (some p1)] σ Q := by
  have hcd : cds 84 = cd_84 := rfl
  refine c_in (Nat.le_of_ble_eq_true rfl) rfl rfl ?_
  show Ev X 84 0 [some (vR (some p1))] [] σ Q
  iterate 2 (refine e_nx hcd rfl rfl ?_)
  refine r_getI hcd rfl ((parS hp1).1) rfl ?_
  iterate 3 (refine e_nx hcd rfl rfl ?_)
  exact r_iret hcd rfl rfl rfl H
/-! X8_ruleDetail -/
set_option maxRecDepth 20000 in
set_option maxHeartbeats 8000000 in
theorem v_85 {X : PX} {σ : Sg} {Q : Option PV → Sg → Prop} {p1 : Nat} {a1 : Int} (hp1 : p1 ∈ parL) (H : CI X 83 [vR (some p1), vI (iRem a1 10)] σ (fun r1 τ1 => InR r1 ∧ (r1 ≠ 0 → InR (iDiv a1 10) ∧ (iDiv a1 10 = 4 → (0 ≤ iRem a1 10 ∧ iRem a1 10 < 10) ∧ Q (some (vI (τ1.2 (p1 + 3) (iRem a1 10).toNat))) τ1) ∧ (iDiv a1 10 = 5 → (0 ≤ iRem a1 10 ∧ iRem a1 10 < 10) ∧ Q (some (vI (τ1.2 (p1 + 4) (iRem a1 10).toNat))) τ1) ∧ (iDiv a1 10 = 6 → (0 ≤ iRem a1 10 ∧ iRem a1 10 < 10) ∧ Q (some (vI (τ1.2 (p1 + 5) (iRem a1 10).toNat))) τ1) ∧ (iDiv a1 10 ≠ 4 ∧ iDiv a1 10 ≠ 5 ∧ iDiv a1 10 ≠ 6 → Q (some (vI (-1))) τ1)) ∧ (¬ r1 ≠ 0 → Q (some (vI (-1))) τ1))) : Cl X 85 [vR (some p1), vI a1] σ Q := by
  have hcd : cds 85 = cd_85 := rfl
  refine c_in (Nat.le_of_ble_eq_true rfl) rfl rfl ?_
  show Ev X 85 0 [some (vR (some p1)), some (vI a1), none] [] σ Q
  iterate 2 (refine e_nx hcd rfl rfl ?_)
  refine r_rem hcd rfl (by omega) (by omega) ?_
  refine e_nx hcd rfl rfl ?_
  show Ev X 85 4 [some (vR (some p1)), some (vI a1), some (vI (iRem a1 10))] [] _ Q
  iterate 2 (refine e_nx hcd rfl rfl ?_)
  refine r_cv hcd rfl (by omega) ((parS hp1).1) rfl rfl (Nat.le_of_ble_eq_true rfl) ?_
  refine Cl.mono H (fun v τ1 hq => ?_)
  obtain ⟨r1, rfl, H⟩ := hq
  show Ev X 85 7 _ [vI r1] τ1 Q
  obtain ⟨h2, H⟩ := H
  refine r_if hcd rfl h2 (fun hc => ?_) (fun hc => ?_)
  · replace H := H.1 hc
    iterate 2 (refine e_nx hcd rfl rfl ?_)
    refine r_div hcd rfl (by omega) (by omega) ?_
    obtain ⟨h3, H⟩ := H
    refine r_tab hcd rfl h3 ?_
    by_cases hs7 : iDiv a1 10 = 4
    · replace H := H.1 hs7
      refine e_pc (i2 := 14) (by rw [hs7]; rfl) ?_
      refine e_nx hcd rfl rfl ?_
      refine r_getR hcd rfl ((parS hp1).1) rfl ?_
      refine e_nx hcd rfl rfl ?_
      obtain ⟨h4, H⟩ := H
      refine r_ild hcd rfl ((parS hp1).2.2.2.1) (by omega) h4 ?_
      exact r_iret hcd rfl rfl rfl H
    by_cases hs8 : iDiv a1 10 = 5
    · replace H := H.2.1 hs8
      refine e_pc (i2 := 19) (by rw [hs8]; rfl) ?_
      refine e_nx hcd rfl rfl ?_
      refine r_getR hcd rfl ((parS hp1).1) rfl ?_
      refine e_nx hcd rfl rfl ?_
      obtain ⟨h5, H⟩ := H
      refine r_ild hcd rfl ((parS hp1).2.2.2.2.1) (by omega) h5 ?_
      exact r_iret hcd rfl rfl rfl H
    by_cases hs9 : iDiv a1 10 = 6
    · replace H := H.2.2.1 hs9
      refine e_pc (i2 := 24) (by rw [hs9]; rfl) ?_
      refine e_nx hcd rfl rfl ?_
      refine r_getR hcd rfl ((parS hp1).1) rfl ?_
      refine e_nx hcd rfl rfl ?_
      obtain ⟨h6, H⟩ := H
      refine r_ild hcd rfl ((parS hp1).2.2.2.2.2.1) (by omega) h6 ?_
      exact r_iret hcd rfl rfl rfl H
    replace H := H.2.2.2 ⟨hs7, hs8, hs9⟩
    refine e_pc (i2 := 29) (tab_def (lo := 4) (hi := 6) (fun h1 h2 => ?_)) ?_
    · omega
    · refine e_nx hcd rfl rfl ?_
      exact r_iret hcd rfl rfl rfl H
  · replace H := H.2 hc
    refine e_nx hcd rfl rfl ?_
    exact r_iret hcd rfl rfl rfl H
/-! X8_exemptBy -/
theorem v_86 {X : PX} {σ : Sg} {Q : Option PV → Sg → Prop} {p1 : Nat} {a1 : Int} {a2 : Int} (hp1 : p1 ∈ parL) (H : Ev X 86 6 [some (vR (some p1)), none, some (vI a2), some (vI a1), some (vI 1), some (vI 0), none, none] [] σ Q) : Cl X 86 [vR (some p1), vI a1, vI a2] σ Q := by
  have hcd : cds 86 = cd_86 := rfl
  refine c_in (Nat.le_of_ble_eq_true rfl) rfl rfl ?_
  show Ev X 86 0 [some (vR (some p1)), some (vI a1), some (vI a2), none, none, none, none, none] [] σ Q
  iterate 2 (refine e_nx hcd rfl rfl ?_)
  show Ev X 86 2 [some (vR (some p1)), some (vI a1), some (vI a2), some (vI a1), none, none, none, none] [] _ Q
  iterate 2 (refine e_nx hcd rfl rfl ?_)
  show Ev X 86 4 [some (vR (some p1)), some (vI a1), some (vI a2), some (vI a1), some (vI 1), none, none, none] [] _ Q
  iterate 2 (refine e_nx hcd rfl rfl ?_)
  show Ev X 86 6 [some (vR (some p1)), some (vI a1), some (vI a2), some (vI a1), some (vI 1), some (vI 0), none, none] [] _ Q
  refine e_fg [1] ?_
  exact H
theorem v_86_6 {X : PX} {σ : Sg} {Q : Option PV → Sg → Prop} {p1 : Nat} {x2 : Int} {x3 : Int} {x4 : Int} {x5 : Int} (hp1 : p1 ∈ parL) (H : InR x5 ∧ (7 < x5 → Q (some (vI x3)) σ) ∧ (¬ 7 < x5 → InR x4 ∧ (x4 = 0 → Q (some (vI x3)) σ) ∧ (¬ x4 = 0 → Ev X 86 15 [some (vR (some p1)), none, some (vI x2), some (vI x3), none, some (vI x5), some (vI x3), some (vI 0)] [] σ Q))) : Ev X 86 6 [some (vR (some p1)), none, some (vI x2), some (vI x3), some (vI x4), some (vI x5), none, none] [] σ Q := by
  have hcd : cds 86 = cd_86 := rfl
  iterate 2 (refine e_nx hcd rfl rfl ?_)
  obtain ⟨h1, H⟩ := H
  refine r_icmp hcd rfl h1 (by omega) (fun hc => ?_) (fun hc => ?_)
  · replace H := H.1 hc
    refine e_nx hcd rfl rfl ?_
    exact r_iret hcd rfl rfl rfl H
  · replace H := H.2 hc
    refine e_nx hcd rfl rfl ?_
    obtain ⟨h2, H⟩ := H
    refine r_if hcd rfl h2 (fun hc => ?_) (fun hc => ?_)
    · replace H := H.1 hc
      refine e_nx hcd rfl rfl ?_
      exact r_iret hcd rfl rfl rfl H
    · replace H := H.2 hc
      iterate 2 (refine e_nx hcd rfl rfl ?_)
      show Ev X 86 13 [some (vR (some p1)), none, some (vI x2), some (vI x3), some (vI x4), some (vI x5), some (vI x3), none] [] _ Q
      iterate 2 (refine e_nx hcd rfl rfl ?_)
      show Ev X 86 15 [some (vR (some p1)), none, some (vI x2), some (vI x3), some (vI x4), some (vI x5), some (vI x3), some (vI 0)] [] _ Q
      refine e_fg [4] ?_
      exact H
set_option maxRecDepth 20000 in
set_option maxHeartbeats 8000000 in
theorem v_86_15 {X : PX} {σ : Sg} {Q : Option PV → Sg → Prop} {p1 : Nat} {x2 : Int} {x3 : Int} {x5 : Int} {x6 : Int} {x7 : Int} (hp1 : p1 ∈ parL) (H : InR x7 ∧ InR (σ.1 p1 4) ∧ (σ.1 p1 4 ≤ x7 → InR x3 ∧ InR x6 ∧ (x3 = x6 → Ev X 86 6 [some (vR (some p1)), none, some (vI x2), some (vI x3), some (vI 0), some (vI (x5 + 1)), none, none] [] σ Q) ∧ (¬ x3 = x6 → Ev X 86 6 [some (vR (some p1)), none, some (vI x2), some (vI x3), some (vI 1), some (vI (x5 + 1)), none, none] [] σ Q)) ∧ (¬ σ.1 p1 4 ≤ x7 → (10 ≤ x7 → InR x3 ∧ InR x6 ∧ (x3 = x6 → Ev X 86 6 [some (vR (some p1)), none, some (vI x2), some (vI x3), some (vI 0), some (vI (x5 + 1)), none, none] [] σ Q) ∧ (¬ x3 = x6 → Ev X 86 6 [some (vR (some p1)), none, some (vI x2), some (vI x3), some (vI 1), some (vI (x5 + 1)), none, none] [] σ Q)) ∧ (¬ 10 ≤ x7 → InR (iAnd (iShr x2 x7) 1) ∧ (iAnd (iShr x2 x7) 1 ≠ 0 → Ev X 86 15 [some (vR (some p1)), none, some (vI x2), some (vI x3), none, some (vI x5), some (vI x6), some (vI (x7 + 1))] [] σ Q) ∧ (¬ iAnd (iShr x2 x7) 1 ≠ 0 → (0 ≤ x7 ∧ x7 < 10) ∧ InR (iAnd x3 (σ.2 (p1 + 6) x7.toNat)) ∧ InR (σ.2 (p1 + 6) x7.toNat) ∧ (iAnd x3 (σ.2 (p1 + 6) x7.toNat) ≠ σ.2 (p1 + 6) x7.toNat → Ev X 86 15 [some (vR (some p1)), none, some (vI x2), some (vI x3), none, some (vI x5), some (vI x6), some (vI (x7 + 1))] [] σ Q) ∧ (¬ iAnd x3 (σ.2 (p1 + 6) x7.toNat) ≠ σ.2 (p1 + 6) x7.toNat → Ev X 86 15 [some (vR (some p1)), none, some (vI x2), some (vI (iOr x3 (iShl 1 (σ.2 (p1 + 3) x7.toNat)))), none, some (vI x5), some (vI x6), some (vI (x7 + 1))] [] σ Q))))) : Ev X 86 15 [some (vR (some p1)), none, some (vI x2), some (vI x3), none, some (vI x5), some (vI x6), some (vI x7)] [] σ Q := by
  have hcd : cds 86 = cd_86 := rfl
  iterate 2 (refine e_nx hcd rfl rfl ?_)
  refine r_getI hcd rfl ((parS hp1).1) rfl ?_
  obtain ⟨h1, H⟩ := H
  obtain ⟨h2, H⟩ := H
  refine r_icmp hcd rfl h1 h2 (fun hc => ?_) (fun hc => ?_)
  · replace H := H.1 hc
    iterate 2 (refine e_nx hcd rfl rfl ?_)
    obtain ⟨h3, H⟩ := H
    obtain ⟨h4, H⟩ := H
    refine r_icmp hcd rfl h3 h4 (fun hc => ?_) (fun hc => ?_)
    · replace H := H.1 hc
      iterate 2 (refine e_nx hcd rfl rfl ?_)
      show Ev X 86 57 [some (vR (some p1)), none, some (vI x2), some (vI x3), some (vI 0), some (vI x5), some (vI x6), some (vI x7)] [] _ Q
      refine e_nx hcd rfl rfl ?_
      show Ev X 86 58 [some (vR (some p1)), none, some (vI x2), some (vI x3), some (vI 0), some (vI (x5 + 1)), some (vI x6), some (vI x7)] [] _ Q
      refine e_nx hcd rfl rfl ?_
      refine e_fg [6, 7] ?_
      exact H
    · replace H := H.2 hc
      iterate 3 (refine e_nx hcd rfl rfl ?_)
      show Ev X 86 57 [some (vR (some p1)), none, some (vI x2), some (vI x3), some (vI 1), some (vI x5), some (vI x6), some (vI x7)] [] _ Q
      refine e_nx hcd rfl rfl ?_
      show Ev X 86 58 [some (vR (some p1)), none, some (vI x2), some (vI x3), some (vI 1), some (vI (x5 + 1)), some (vI x6), some (vI x7)] [] _ Q
      refine e_nx hcd rfl rfl ?_
      refine e_fg [6, 7] ?_
      exact H
  · replace H := H.2 hc
    iterate 2 (refine e_nx hcd rfl rfl ?_)
    refine r_icmp hcd rfl h1 (by omega) (fun hc => ?_) (fun hc => ?_)
    · replace H := H.1 hc
      iterate 2 (refine e_nx hcd rfl rfl ?_)
      obtain ⟨h5, H⟩ := H
      obtain ⟨h6, H⟩ := H
      refine r_icmp hcd rfl h5 h6 (fun hc => ?_) (fun hc => ?_)
      · replace H := H.1 hc
        iterate 2 (refine e_nx hcd rfl rfl ?_)
        show Ev X 86 57 [some (vR (some p1)), none, some (vI x2), some (vI x3), some (vI 0), some (vI x5), some (vI x6), some (vI x7)] [] _ Q
        refine e_nx hcd rfl rfl ?_
        show Ev X 86 58 [some (vR (some p1)), none, some (vI x2), some (vI x3), some (vI 0), some (vI (x5 + 1)), some (vI x6), some (vI x7)] [] _ Q
        refine e_nx hcd rfl rfl ?_
        refine e_fg [6, 7] ?_
        exact H
      · replace H := H.2 hc
        iterate 3 (refine e_nx hcd rfl rfl ?_)
        show Ev X 86 57 [some (vR (some p1)), none, some (vI x2), some (vI x3), some (vI 1), some (vI x5), some (vI x6), some (vI x7)] [] _ Q
        refine e_nx hcd rfl rfl ?_
        show Ev X 86 58 [some (vR (some p1)), none, some (vI x2), some (vI x3), some (vI 1), some (vI (x5 + 1)), some (vI x6), some (vI x7)] [] _ Q
        refine e_nx hcd rfl rfl ?_
        refine e_fg [6, 7] ?_
        exact H
    · replace H := H.2 hc
      iterate 5 (refine e_nx hcd rfl rfl ?_)
      obtain ⟨h7, H⟩ := H
      refine r_if hcd rfl h7 (fun hc => ?_) (fun hc => ?_)
      · replace H := H.1 hc
        refine e_nx hcd rfl rfl ?_
        show Ev X 86 49 [some (vR (some p1)), none, some (vI x2), some (vI x3), none, some (vI x5), some (vI x6), some (vI (x7 + 1))] [] _ Q
        refine e_nx hcd rfl rfl ?_
        exact H
      · replace H := H.2 hc
        iterate 2 (refine e_nx hcd rfl rfl ?_)
        refine r_getR hcd rfl ((parS hp1).1) rfl ?_
        refine e_nx hcd rfl rfl ?_
        obtain ⟨h8, H⟩ := H
        refine r_ild hcd rfl ((parS hp1).2.2.2.2.2.2) (by omega) h8 ?_
        iterate 2 (refine e_nx hcd rfl rfl ?_)
        refine r_getR hcd rfl ((parS hp1).1) rfl ?_
        refine e_nx hcd rfl rfl ?_
        refine r_ild hcd rfl ((parS hp1).2.2.2.2.2.2) (by omega) h8 ?_
        obtain ⟨h9, H⟩ := H
        obtain ⟨h10, H⟩ := H
        refine r_icmp hcd rfl h9 h10 (fun hc => ?_) (fun hc => ?_)
        · replace H := H.1 hc
          refine e_nx hcd rfl rfl ?_
          show Ev X 86 49 [some (vR (some p1)), none, some (vI x2), some (vI x3), none, some (vI x5), some (vI x6), some (vI (x7 + 1))] [] _ Q
          refine e_nx hcd rfl rfl ?_
          exact H
        · replace H := H.2 hc
          iterate 3 (refine e_nx hcd rfl rfl ?_)
          refine r_getR hcd rfl ((parS hp1).1) rfl ?_
          refine e_nx hcd rfl rfl ?_
          refine r_ild hcd rfl ((parS hp1).2.2.2.1) (by omega) h8 ?_
          iterate 3 (refine e_nx hcd rfl rfl ?_)
          show Ev X 86 48 [some (vR (some p1)), none, some (vI x2), some (vI (iOr x3 (iShl 1 (σ.2 (p1 + 3) x7.toNat)))), none, some (vI x5), some (vI x6), some (vI x7)] [] _ Q
          refine e_nx hcd rfl rfl ?_
          show Ev X 86 49 [some (vR (some p1)), none, some (vI x2), some (vI (iOr x3 (iShl 1 (σ.2 (p1 + 3) x7.toNat)))), none, some (vI x5), some (vI x6), some (vI (x7 + 1))] [] _ Q
          refine e_nx hcd rfl rfl ?_
          exact H
/-! X8_oneStepFrom -/
theorem v_87 {X : PX} {σ : Sg} {Q : Option PV → Sg → Prop} {p1 : Nat} {a1 : Int} (hp1 : p1 ∈ parL) (H : Ev X 87 4 [some (vR (some p1)), some (vI a1), some (vI a1), some (vI 0)] [] σ Q) : Cl X 87 [vR (some p1), vI a1] σ Q := by
  have hcd : cds 87 = cd_87 := rfl
  refine c_in (Nat.le_of_ble_eq_true rfl) rfl rfl ?_
  show Ev X 87 0 [some (vR (some p1)), some (vI a1), none, none] [] σ Q
  iterate 2 (refine e_nx hcd rfl rfl ?_)
  show Ev X 87 2 [some (vR (some p1)), some (vI a1), some (vI a1), none] [] _ Q
  iterate 2 (refine e_nx hcd rfl rfl ?_)
  show Ev X 87 4 [some (vR (some p1)), some (vI a1), some (vI a1), some (vI 0)] [] _ Q
  exact H
set_option maxRecDepth 20000 in
set_option maxHeartbeats 8000000 in
theorem v_87_4 {X : PX} {σ : Sg} {Q : Option PV → Sg → Prop} {p1 : Nat} {x1 : Int} {x2 : Int} {x3 : Int} (hp1 : p1 ∈ parL) (H : InR x3 ∧ InR (σ.1 p1 4) ∧ (σ.1 p1 4 ≤ x3 → Q (some (vI x2)) σ) ∧ (¬ σ.1 p1 4 ≤ x3 → (10 ≤ x3 → Q (some (vI x2)) σ) ∧ (¬ 10 ≤ x3 → (0 ≤ x3 ∧ x3 < 10) ∧ InR (iAnd x1 (σ.2 (p1 + 6) x3.toNat)) ∧ InR (σ.2 (p1 + 6) x3.toNat) ∧ (iAnd x1 (σ.2 (p1 + 6) x3.toNat) ≠ σ.2 (p1 + 6) x3.toNat → Ev X 87 4 [some (vR (some p1)), some (vI x1), some (vI x2), some (vI (x3 + 1))] [] σ Q) ∧ (¬ iAnd x1 (σ.2 (p1 + 6) x3.toNat) ≠ σ.2 (p1 + 6) x3.toNat → Ev X 87 4 [some (vR (some p1)), some (vI x1), some (vI (iOr x2 (iShl 1 (σ.2 (p1 + 3) x3.toNat)))), some (vI (x3 + 1))] [] σ Q)))) : Ev X 87 4 [some (vR (some p1)), some (vI x1), some (vI x2), some (vI x3)] [] σ Q := by
  have hcd : cds 87 = cd_87 := rfl
  iterate 2 (refine e_nx hcd rfl rfl ?_)
  refine r_getI hcd rfl ((parS hp1).1) rfl ?_
  obtain ⟨h1, H⟩ := H
  obtain ⟨h2, H⟩ := H
  refine r_icmp hcd rfl h1 h2 (fun hc => ?_) (fun hc => ?_)
  · replace H := H.1 hc
    refine e_nx hcd rfl rfl ?_
    exact r_iret hcd rfl rfl rfl H
  · replace H := H.2 hc
    iterate 2 (refine e_nx hcd rfl rfl ?_)
    refine r_icmp hcd rfl h1 (by omega) (fun hc => ?_) (fun hc => ?_)
    · replace H := H.1 hc
      refine e_nx hcd rfl rfl ?_
      exact r_iret hcd rfl rfl rfl H
    · replace H := H.2 hc
      iterate 2 (refine e_nx hcd rfl rfl ?_)
      refine r_getR hcd rfl ((parS hp1).1) rfl ?_
      refine e_nx hcd rfl rfl ?_
      obtain ⟨h3, H⟩ := H
      refine r_ild hcd rfl ((parS hp1).2.2.2.2.2.2) (by omega) h3 ?_
      iterate 2 (refine e_nx hcd rfl rfl ?_)
      refine r_getR hcd rfl ((parS hp1).1) rfl ?_
      refine e_nx hcd rfl rfl ?_
      refine r_ild hcd rfl ((parS hp1).2.2.2.2.2.2) (by omega) h3 ?_
      obtain ⟨h4, H⟩ := H
      obtain ⟨h5, H⟩ := H
      refine r_icmp hcd rfl h4 h5 (fun hc => ?_) (fun hc => ?_)
      · replace H := H.1 hc
        refine e_nx hcd rfl rfl ?_
        show Ev X 87 32 [some (vR (some p1)), some (vI x1), some (vI x2), some (vI (x3 + 1))] [] _ Q
        refine e_nx hcd rfl rfl ?_
        exact H
      · replace H := H.2 hc
        iterate 3 (refine e_nx hcd rfl rfl ?_)
        refine r_getR hcd rfl ((parS hp1).1) rfl ?_
        refine e_nx hcd rfl rfl ?_
        refine r_ild hcd rfl ((parS hp1).2.2.2.1) (by omega) h3 ?_
        iterate 3 (refine e_nx hcd rfl rfl ?_)
        show Ev X 87 31 [some (vR (some p1)), some (vI x1), some (vI (iOr x2 (iShl 1 (σ.2 (p1 + 3) x3.toNat)))), some (vI x3)] [] _ Q
        refine e_nx hcd rfl rfl ?_
        show Ev X 87 32 [some (vR (some p1)), some (vI x1), some (vI (iOr x2 (iShl 1 (σ.2 (p1 + 3) x3.toNat)))), some (vI (x3 + 1))] [] _ Q
        refine e_nx hcd rfl rfl ?_
        exact H
/-! X8_goodsTogether -/
theorem v_88 {X : PX} {σ : Sg} {Q : Option PV → Sg → Prop} {p1 : Nat} (hp1 : p1 ∈ parL) (H : Ev X 88 4 [some (vR (some p1)), some (vI 0), some (vI 0)] [] σ Q) : Cl X 88 [vR (some p1)] σ Q := by
  have hcd : cds 88 = cd_88 := rfl
  refine c_in (Nat.le_of_ble_eq_true rfl) rfl rfl ?_
  show Ev X 88 0 [some (vR (some p1)), none, none] [] σ Q
  iterate 2 (refine e_nx hcd rfl rfl ?_)
  show Ev X 88 2 [some (vR (some p1)), some (vI 0), none] [] _ Q
  iterate 2 (refine e_nx hcd rfl rfl ?_)
  show Ev X 88 4 [some (vR (some p1)), some (vI 0), some (vI 0)] [] _ Q
  exact H
theorem v_88_4 {X : PX} {σ : Sg} {Q : Option PV → Sg → Prop} {p1 : Nat} {x1 : Int} {x2 : Int} (hp1 : p1 ∈ parL) (H : InR x2 ∧ InR (σ.1 p1 2) ∧ (σ.1 p1 2 ≤ x2 → Q (some (vI x1)) σ) ∧ (¬ σ.1 p1 2 ≤ x2 → (7 ≤ x2 → Q (some (vI x1)) σ) ∧ (¬ 7 ≤ x2 → (0 ≤ x2 ∧ x2 < 7) ∧ Ev X 88 4 [some (vR (some p1)), some (vI (x1 + (σ.2 (p1 + 1) x2.toNat))), some (vI (x2 + 1))] [] σ Q))) : Ev X 88 4 [some (vR (some p1)), some (vI x1), some (vI x2)] [] σ Q := by
  have hcd : cds 88 = cd_88 := rfl
  iterate 2 (refine e_nx hcd rfl rfl ?_)
  refine r_getI hcd rfl ((parS hp1).1) rfl ?_
  obtain ⟨h1, H⟩ := H
  obtain ⟨h2, H⟩ := H
  refine r_icmp hcd rfl h1 h2 (fun hc => ?_) (fun hc => ?_)
  · replace H := H.1 hc
    refine e_nx hcd rfl rfl ?_
    exact r_iret hcd rfl rfl rfl H
  · replace H := H.2 hc
    iterate 2 (refine e_nx hcd rfl rfl ?_)
    refine r_icmp hcd rfl h1 (by omega) (fun hc => ?_) (fun hc => ?_)
    · replace H := H.1 hc
      refine e_nx hcd rfl rfl ?_
      exact r_iret hcd rfl rfl rfl H
    · replace H := H.2 hc
      iterate 2 (refine e_nx hcd rfl rfl ?_)
      refine r_getR hcd rfl ((parS hp1).1) rfl ?_
      refine e_nx hcd rfl rfl ?_
      obtain ⟨h3, H⟩ := H
      refine r_ild hcd rfl ((parS hp1).2.1) (by omega) h3 ?_
      iterate 2 (refine e_nx hcd rfl rfl ?_)
      show Ev X 88 18 [some (vR (some p1)), some (vI (x1 + (σ.2 (p1 + 1) x2.toNat))), some (vI x2)] [] _ Q
      refine e_nx hcd rfl rfl ?_
      show Ev X 88 19 [some (vR (some p1)), some (vI (x1 + (σ.2 (p1 + 1) x2.toNat))), some (vI (x2 + 1))] [] _ Q
      refine e_nx hcd rfl rfl ?_
      exact H
