/-! X12_strife -/
set_option maxRecDepth 20000 in
set_option maxHeartbeats 8000000 in
theorem v_219 {X : PX} {σ : Sg} {Q : Option PV → Sg → Prop} {a1 : Int} {a2 : Int} {a3 : Int} {a4 : Int} {a5 : Int}  (H : CI X 189 [vR (some 170), vI a1] σ (fun r1 τ1 => InR r1 ∧ (r1 = 0 → Q (some (vI (-999))) τ1) ∧ (¬ r1 = 0 → CI X 190 [vR (some 170), vI a2] τ1 (fun r3 τ2 => InR r3 ∧ (r3 = 0 → Q (some (vI (-999))) τ2) ∧ (¬ r3 = 0 → CI X 190 [vR (some 170), vI a3] τ2 (fun r5 τ3 => InR r5 ∧ (r5 = 0 → Q (some (vI (-999))) τ3) ∧ (¬ r5 = 0 → InR a2 ∧ InR a3 ∧ (a2 = a3 → Q (some (vI (-999))) τ3) ∧ (¬ a2 = a3 → CI X 161 [vI a4, vI 0, vI 6] τ3 (fun r9 τ4 => InR r9 ∧ (r9 ≠ 0 → Ev X 219 28 [some (vR (some 170)), none, some (vI a2), some (vI a3), some (vI a4), some (vI a5), some (vI (iShl 1 a4)), some (vI 0), none, none, none, none, none] [] τ4 Q) ∧ (¬ r9 ≠ 0 → Q (some (vI (-999))) τ4)))))))))) : Cl X 219 [vR (some 170), vI a1, vI a2, vI a3, vI a4, vI a5] σ Q := by
  have hcd : cds 219 = cd_219 := rfl
  refine c_in (Nat.le_of_ble_eq_true rfl) rfl rfl ?_
  show Ev X 219 0 [some (vR (some 170)), some (vI a1), some (vI a2), some (vI a3), some (vI a4), some (vI a5), none, none, none, none, none, none, none] [] σ Q
  iterate 2 (refine e_nx hcd rfl rfl ?_)
  refine r_cv hcd rfl (by omega) rfl rfl rfl (Nat.le_of_ble_eq_true rfl) ?_
  refine Cl.mono H (fun v τ1 hq => ?_)
  obtain ⟨r1, rfl, H⟩ := hq
  show Ev X 219 3 _ [vI r1] τ1 Q
  obtain ⟨h2, H⟩ := H
  refine r_if hcd rfl h2 (fun hc => ?_) (fun hc => ?_)
  · replace H := H.1 hc
    refine e_nx hcd rfl rfl ?_
    exact r_iret hcd rfl rfl rfl H
  · replace H := H.2 hc
    iterate 2 (refine e_nx hcd rfl rfl ?_)
    refine r_cv hcd rfl (by omega) rfl rfl rfl (Nat.le_of_ble_eq_true rfl) ?_
    refine Cl.mono H (fun v τ2 hq => ?_)
    obtain ⟨r3, rfl, H⟩ := hq
    show Ev X 219 7 _ [vI r3] τ2 Q
    obtain ⟨h4, H⟩ := H
    refine r_if hcd rfl h4 (fun hc => ?_) (fun hc => ?_)
    · replace H := H.1 hc
      refine e_nx hcd rfl rfl ?_
      exact r_iret hcd rfl rfl rfl H
    · replace H := H.2 hc
      iterate 2 (refine e_nx hcd rfl rfl ?_)
      refine r_cv hcd rfl (by omega) rfl rfl rfl (Nat.le_of_ble_eq_true rfl) ?_
      refine Cl.mono H (fun v τ3 hq => ?_)
      obtain ⟨r5, rfl, H⟩ := hq
      show Ev X 219 11 _ [vI r5] τ3 Q
      obtain ⟨h6, H⟩ := H
      refine r_if hcd rfl h6 (fun hc => ?_) (fun hc => ?_)
      · replace H := H.1 hc
        refine e_nx hcd rfl rfl ?_
        exact r_iret hcd rfl rfl rfl H
      · replace H := H.2 hc
        iterate 2 (refine e_nx hcd rfl rfl ?_)
        obtain ⟨h7, H⟩ := H
        obtain ⟨h8, H⟩ := H
        refine r_icmp hcd rfl h7 h8 (fun hc => ?_) (fun hc => ?_)
        · replace H := H.1 hc
          refine e_nx hcd rfl rfl ?_
          exact r_iret hcd rfl rfl rfl H
        · replace H := H.2 hc
          iterate 3 (refine e_nx hcd rfl rfl ?_)
          refine r_cs hcd rfl (by omega) (Nat.le_of_ble_eq_true rfl) rfl rfl (Nat.le_of_ble_eq_true rfl) ?_
          refine Cl.mono H (fun v τ4 hq => ?_)
          obtain ⟨r9, rfl, H⟩ := hq
          show Ev X 219 19 _ [vI r9] τ4 Q
          obtain ⟨h10, H⟩ := H
          refine r_if hcd rfl h10 (fun hc => ?_) (fun hc => ?_)
          · replace H := H.1 hc
            iterate 4 (refine e_nx hcd rfl rfl ?_)
            show Ev X 219 26 [some (vR (some 170)), some (vI a1), some (vI a2), some (vI a3), some (vI a4), some (vI a5), some (vI (iShl 1 a4)), none, none, none, none, none, none] [] _ Q
            iterate 2 (refine e_nx hcd rfl rfl ?_)
            show Ev X 219 28 [some (vR (some 170)), some (vI a1), some (vI a2), some (vI a3), some (vI a4), some (vI a5), some (vI (iShl 1 a4)), some (vI 0), none, none, none, none, none] [] _ Q
            refine e_fg [1] ?_
            exact H
          · replace H := H.2 hc
            refine e_nx hcd rfl rfl ?_
            exact r_iret hcd rfl rfl rfl H
theorem v_219_28 {X : PX} {σ : Sg} {Q : Option PV → Sg → Prop} {x2 : Int} {x3 : Int} {x4 : Int} {x5 : Int} {x6 : Int} {x7 : Int}  (H : InR x7 ∧ InR x6 ∧ (x6 ≤ x7 → Ev X 219 49 [some (vR (some 170)), none, none, none, none, some (vI x5), some (vI x6), some (vI (-1)), some (vI (x4 - 1)), none, none, none, none] [] σ Q) ∧ (¬ x6 ≤ x7 → CI X 218 [vR (some 170), vI x7, vI x2, vI x3, vI x4] σ (fun r3 τ1 => (0 ≤ x7 ∧ x7 < 64) ∧ Ev X 219 28 [some (vR (some 170)), none, some (vI x2), some (vI x3), some (vI x4), some (vI x5), some (vI x6), some (vI (x7 + 1)), none, none, none, none, none] [] (τ1.1, up2 τ1.2 178 x7.toNat r3) Q))) : Ev X 219 28 [some (vR (some 170)), none, some (vI x2), some (vI x3), some (vI x4), some (vI x5), some (vI x6), some (vI x7), none, none, none, none, none] [] σ Q := by
  have hcd : cds 219 = cd_219 := rfl
  iterate 2 (refine e_nx hcd rfl rfl ?_)
  obtain ⟨h1, H⟩ := H
  obtain ⟨h2, H⟩ := H
  refine r_icmp hcd rfl h1 h2 (fun hc => ?_) (fun hc => ?_)
  · replace H := H.1 hc
    iterate 2 (refine e_nx hcd rfl rfl ?_)
    show Ev X 219 45 [some (vR (some 170)), none, some (vI x2), some (vI x3), some (vI x4), some (vI x5), some (vI x6), some (vI (-1)), none, none, none, none, none] [] _ Q
    iterate 4 (refine e_nx hcd rfl rfl ?_)
    show Ev X 219 49 [some (vR (some 170)), none, some (vI x2), some (vI x3), some (vI x4), some (vI x5), some (vI x6), some (vI (-1)), some (vI (x4 - 1)), none, none, none, none] [] _ Q
    refine e_fg [2, 3, 4] ?_
    exact H
  · replace H := H.2 hc
    refine e_nx hcd rfl rfl ?_
    refine r_getR hcd rfl rfl rfl ?_
    iterate 6 (refine e_nx hcd rfl rfl ?_)
    refine r_cv hcd rfl (by omega) rfl rfl rfl (Nat.le_of_ble_eq_true rfl) ?_
    refine Cl.mono H (fun v τ1 hq => ?_)
    obtain ⟨r3, rfl, H⟩ := hq
    show Ev X 219 40 _ [vI r3, vI x7, vR (some 178)] τ1 Q
    obtain ⟨h4, H⟩ := H
    refine r_ist hcd rfl rfl (by omega) h4 ?_
    refine e_nx hcd rfl rfl ?_
    show Ev X 219 42 [some (vR (some 170)), none, some (vI x2), some (vI x3), some (vI x4), some (vI x5), some (vI x6), some (vI (x7 + 1)), none, none, none, none, none] [] _ Q
    refine e_nx hcd rfl rfl ?_
    exact H
theorem v_219_49 {X : PX} {σ : Sg} {Q : Option PV → Sg → Prop} {x5 : Int} {x6 : Int} {x7 : Int} {x8 : Int}  (H : InR x8 ∧ (x8 < 0 → InR x5 ∧ (x5 = 0 → Q (some (vI (σ.2 178 0))) σ) ∧ (¬ x5 = 0 → Q (some (vI x7)) σ)) ∧ (¬ x8 < 0 → Ev X 219 57 [some (vR (some 170)), none, none, none, none, some (vI x5), some (vI (iDiv x6 2)), some (vI x7), some (vI x8), some (vI 0), none, none, none] [] σ Q)) : Ev X 219 49 [some (vR (some 170)), none, none, none, none, some (vI x5), some (vI x6), some (vI x7), some (vI x8), none, none, none, none] [] σ Q := by
  have hcd : cds 219 = cd_219 := rfl
  refine e_nx hcd rfl rfl ?_
  obtain ⟨h1, H⟩ := H
  refine r_if hcd rfl h1 (fun hc => ?_) (fun hc => ?_)
  · replace H := H.1 hc
    refine e_nx hcd rfl rfl ?_
    obtain ⟨h2, H⟩ := H
    refine r_if hcd rfl h2 (fun hc => ?_) (fun hc => ?_)
    · replace H := H.1 hc
      refine e_nx hcd rfl rfl ?_
      refine r_getR hcd rfl rfl rfl ?_
      refine e_nx hcd rfl rfl ?_
      refine r_ild hcd rfl rfl (by omega) (by omega) ?_
      exact r_iret hcd rfl rfl rfl H
    · replace H := H.2 hc
      iterate 2 (refine e_nx hcd rfl rfl ?_)
      exact r_iret hcd rfl rfl rfl H
  · replace H := H.2 hc
    iterate 2 (refine e_nx hcd rfl rfl ?_)
    refine r_div hcd rfl (by omega) (by omega) ?_
    refine e_nx hcd rfl rfl ?_
    show Ev X 219 55 [some (vR (some 170)), none, none, none, none, some (vI x5), some (vI (iDiv x6 2)), some (vI x7), some (vI x8), none, none, none, none] [] _ Q
    iterate 2 (refine e_nx hcd rfl rfl ?_)
    show Ev X 219 57 [some (vR (some 170)), none, none, none, none, some (vI x5), some (vI (iDiv x6 2)), some (vI x7), some (vI x8), some (vI 0), none, none, none] [] _ Q
    exact H
set_option maxRecDepth 20000 in
set_option maxHeartbeats 8000000 in
theorem v_219_57 {X : PX} {σ : Sg} {Q : Option PV → Sg → Prop} {x5 : Int} {x6 : Int} {x7 : Int} {x8 : Int} {x9 : Int}  (H : InR x9 ∧ InR x6 ∧ (x6 ≤ x9 → Ev X 219 49 [some (vR (some 170)), none, none, none, none, some (vI x5), some (vI x6), some (vI x7), some (vI (x8 + (-1))), none, none, none, none] [] σ Q) ∧ (¬ x6 ≤ x9 → (0 ≤ 2 * x9 ∧ 2 * x9 < 64) ∧ (0 ≤ (2 * x9) + 1 ∧ (2 * x9) + 1 < 64) ∧ InR (σ.2 178 ((2 * x9) + 1).toNat) ∧ (σ.2 178 ((2 * x9) + 1).toNat = 99999999 → (0 ≤ x9 ∧ x9 < 64) ∧ Ev X 219 57 [some (vR (some 170)), none, none, none, none, some (vI x5), some (vI x6), some (vI 0), some (vI x8), some (vI (x9 + 1)), none, none, none] [] (σ.1, up2 σ.2 178 x9.toNat (σ.2 178 (2 * x9).toNat)) Q) ∧ (¬ σ.2 178 ((2 * x9) + 1).toNat = 99999999 → InR (iRem x8 2) ∧ (iRem x8 2 ≠ 0 → InR (σ.2 178 (2 * x9).toNat) ∧ (σ.2 178 (2 * x9).toNat ≤ σ.2 178 ((2 * x9) + 1).toNat → (0 ≤ x9 ∧ x9 < 64) ∧ Ev X 219 57 [some (vR (some 170)), none, none, none, none, some (vI x5), some (vI x6), some (vI 0), some (vI x8), some (vI (x9 + 1)), none, none, none] [] (σ.1, up2 σ.2 178 x9.toNat (σ.2 178 (2 * x9).toNat)) Q) ∧ (¬ σ.2 178 (2 * x9).toNat ≤ σ.2 178 ((2 * x9) + 1).toNat → (0 ≤ x9 ∧ x9 < 64) ∧ Ev X 219 57 [some (vR (some 170)), none, none, none, none, some (vI x5), some (vI x6), some (vI 1), some (vI x8), some (vI (x9 + 1)), none, none, none] [] (σ.1, up2 σ.2 178 x9.toNat (σ.2 178 ((2 * x9) + 1).toNat)) Q)) ∧ (¬ iRem x8 2 ≠ 0 → InR (σ.2 178 (2 * x9).toNat) ∧ (σ.2 178 ((2 * x9) + 1).toNat ≤ σ.2 178 (2 * x9).toNat → (0 ≤ x9 ∧ x9 < 64) ∧ Ev X 219 57 [some (vR (some 170)), none, none, none, none, some (vI x5), some (vI x6), some (vI 0), some (vI x8), some (vI (x9 + 1)), none, none, none] [] (σ.1, up2 σ.2 178 x9.toNat (σ.2 178 (2 * x9).toNat)) Q) ∧ (¬ σ.2 178 ((2 * x9) + 1).toNat ≤ σ.2 178 (2 * x9).toNat → (0 ≤ x9 ∧ x9 < 64) ∧ Ev X 219 57 [some (vR (some 170)), none, none, none, none, some (vI x5), some (vI x6), some (vI 1), some (vI x8), some (vI (x9 + 1)), none, none, none] [] (σ.1, up2 σ.2 178 x9.toNat (σ.2 178 ((2 * x9) + 1).toNat)) Q))))) : Ev X 219 57 [some (vR (some 170)), none, none, none, none, some (vI x5), some (vI x6), some (vI x7), some (vI x8), some (vI x9), none, none, none] [] σ Q := by
  have hcd : cds 219 = cd_219 := rfl
  iterate 2 (refine e_nx hcd rfl rfl ?_)
  obtain ⟨h1, H⟩ := H
  obtain ⟨h2, H⟩ := H
  refine r_icmp hcd rfl h1 h2 (fun hc => ?_) (fun hc => ?_)
  · replace H := H.1 hc
    refine e_nx hcd rfl rfl ?_
    show Ev X 219 112 [some (vR (some 170)), none, none, none, none, some (vI x5), some (vI x6), some (vI x7), some (vI (x8 + (-1))), some (vI x9), none, none, none] [] _ Q
    refine e_nx hcd rfl rfl ?_
    refine e_fg [9] ?_
    exact H
  · replace H := H.2 hc
    refine e_nx hcd rfl rfl ?_
    refine r_getR hcd rfl rfl rfl ?_
    iterate 3 (refine e_nx hcd rfl rfl ?_)
    obtain ⟨h3, H⟩ := H
    refine r_ild hcd rfl rfl (by omega) h3 ?_
    refine e_nx hcd rfl rfl ?_
    show Ev X 219 67 [some (vR (some 170)), none, none, none, none, some (vI x5), some (vI x6), some (vI x7), some (vI x8), some (vI x9), some (vI (σ.2 178 (2 * x9).toNat)), none, none] [] _ Q
    refine e_nx hcd rfl rfl ?_
    refine r_getR hcd rfl rfl rfl ?_
    iterate 5 (refine e_nx hcd rfl rfl ?_)
    obtain ⟨h4, H⟩ := H
    refine r_ild hcd rfl rfl (by omega) h4 ?_
    refine e_nx hcd rfl rfl ?_
    show Ev X 219 76 [some (vR (some 170)), none, none, none, none, some (vI x5), some (vI x6), some (vI x7), some (vI x8), some (vI x9), some (vI (σ.2 178 (2 * x9).toNat)), some (vI (σ.2 178 ((2 * x9) + 1).toNat)), none] [] _ Q
    iterate 2 (refine e_nx hcd rfl rfl ?_)
    obtain ⟨h5, H⟩ := H
    refine r_icmp hcd rfl h5 (by omega) (fun hc => ?_) (fun hc => ?_)
    · replace H := H.1 hc
      iterate 2 (refine e_nx hcd rfl rfl ?_)
      show Ev X 219 94 [some (vR (some 170)), none, none, none, none, some (vI x5), some (vI x6), some (vI x7), some (vI x8), some (vI x9), some (vI (σ.2 178 (2 * x9).toNat)), some (vI (σ.2 178 ((2 * x9) + 1).toNat)), some (vI 0)] [] _ Q
      refine e_nx hcd rfl rfl ?_
      refine r_getR hcd rfl rfl rfl ?_
      iterate 2 (refine e_nx hcd rfl rfl ?_)
      refine r_if hcd rfl (by omega) (fun hc => ?_) (fun hc => ?_)
      · refine e_nx hcd rfl rfl ?_
        obtain ⟨h6, H⟩ := H
        refine r_ist hcd rfl rfl (by omega) h6 ?_
        refine e_nx hcd rfl rfl ?_
        refine r_if hcd rfl (by omega) (fun hc => ?_) (fun hc => ?_)
        · refine e_nx hcd rfl rfl ?_
          refine e_nx hcd rfl rfl ?_
          show Ev X 219 109 [some (vR (some 170)), none, none, none, none, some (vI x5), some (vI x6), some (vI 0), some (vI x8), some (vI x9), some (vI (σ.2 178 (2 * x9).toNat)), some (vI (σ.2 178 ((2 * x9) + 1).toNat)), some (vI 0)] [] _ Q
          refine e_nx hcd rfl rfl ?_
          show Ev X 219 110 [some (vR (some 170)), none, none, none, none, some (vI x5), some (vI x6), some (vI 0), some (vI x8), some (vI (x9 + 1)), some (vI (σ.2 178 (2 * x9).toNat)), some (vI (σ.2 178 ((2 * x9) + 1).toNat)), some (vI 0)] [] _ Q
          refine e_nx hcd rfl rfl ?_
          refine e_fg [10, 11, 12] ?_
          exact H
        · exact absurd hc (by simp [cmpP])
      · exact absurd hc (by simp [cmpP])
    · replace H := H.2 hc
      iterate 2 (refine e_nx hcd rfl rfl ?_)
      refine r_rem hcd rfl (by omega) (by omega) ?_
      obtain ⟨h7, H⟩ := H
      refine r_if hcd rfl h7 (fun hc => ?_) (fun hc => ?_)
      · replace H := H.1 hc
        iterate 2 (refine e_nx hcd rfl rfl ?_)
        obtain ⟨h8, H⟩ := H
        refine r_icmp hcd rfl h5 h8 (fun hc => ?_) (fun hc => ?_)
        · replace H := H.1 hc
          iterate 2 (refine e_nx hcd rfl rfl ?_)
          show Ev X 219 94 [some (vR (some 170)), none, none, none, none, some (vI x5), some (vI x6), some (vI x7), some (vI x8), some (vI x9), some (vI (σ.2 178 (2 * x9).toNat)), some (vI (σ.2 178 ((2 * x9) + 1).toNat)), some (vI 0)] [] _ Q
          refine e_nx hcd rfl rfl ?_
          refine r_getR hcd rfl rfl rfl ?_
          iterate 2 (refine e_nx hcd rfl rfl ?_)
          refine r_if hcd rfl (by omega) (fun hc => ?_) (fun hc => ?_)
          · refine e_nx hcd rfl rfl ?_
            obtain ⟨h9, H⟩ := H
            refine r_ist hcd rfl rfl (by omega) h9 ?_
            refine e_nx hcd rfl rfl ?_
            refine r_if hcd rfl (by omega) (fun hc => ?_) (fun hc => ?_)
            · refine e_nx hcd rfl rfl ?_
              refine e_nx hcd rfl rfl ?_
              show Ev X 219 109 [some (vR (some 170)), none, none, none, none, some (vI x5), some (vI x6), some (vI 0), some (vI x8), some (vI x9), some (vI (σ.2 178 (2 * x9).toNat)), some (vI (σ.2 178 ((2 * x9) + 1).toNat)), some (vI 0)] [] _ Q
              refine e_nx hcd rfl rfl ?_
              show Ev X 219 110 [some (vR (some 170)), none, none, none, none, some (vI x5), some (vI x6), some (vI 0), some (vI x8), some (vI (x9 + 1)), some (vI (σ.2 178 (2 * x9).toNat)), some (vI (σ.2 178 ((2 * x9) + 1).toNat)), some (vI 0)] [] _ Q
              refine e_nx hcd rfl rfl ?_
              refine e_fg [10, 11, 12] ?_
              exact H
            · exact absurd hc (by simp [cmpP])
          · exact absurd hc (by simp [cmpP])
        · replace H := H.2 hc
          iterate 3 (refine e_nx hcd rfl rfl ?_)
          show Ev X 219 94 [some (vR (some 170)), none, none, none, none, some (vI x5), some (vI x6), some (vI x7), some (vI x8), some (vI x9), some (vI (σ.2 178 (2 * x9).toNat)), some (vI (σ.2 178 ((2 * x9) + 1).toNat)), some (vI 1)] [] _ Q
          refine e_nx hcd rfl rfl ?_
          refine r_getR hcd rfl rfl rfl ?_
          iterate 2 (refine e_nx hcd rfl rfl ?_)
          refine r_if hcd rfl (by omega) (fun hc => ?_) (fun hc => ?_)
          · exact absurd hc (by simp [cmpP])
          · refine e_nx hcd rfl rfl ?_
            refine e_nx hcd rfl rfl ?_
            obtain ⟨h10, H⟩ := H
            refine r_ist hcd rfl rfl (by omega) h10 ?_
            refine e_nx hcd rfl rfl ?_
            refine r_if hcd rfl (by omega) (fun hc => ?_) (fun hc => ?_)
            · exact absurd hc (by simp [cmpP])
            · refine e_nx hcd rfl rfl ?_
              iterate 2 (refine e_nx hcd rfl rfl ?_)
              show Ev X 219 109 [some (vR (some 170)), none, none, none, none, some (vI x5), some (vI x6), some (vI 1), some (vI x8), some (vI x9), some (vI (σ.2 178 (2 * x9).toNat)), some (vI (σ.2 178 ((2 * x9) + 1).toNat)), some (vI 1)] [] _ Q
              refine e_nx hcd rfl rfl ?_
              show Ev X 219 110 [some (vR (some 170)), none, none, none, none, some (vI x5), some (vI x6), some (vI 1), some (vI x8), some (vI (x9 + 1)), some (vI (σ.2 178 (2 * x9).toNat)), some (vI (σ.2 178 ((2 * x9) + 1).toNat)), some (vI 1)] [] _ Q
              refine e_nx hcd rfl rfl ?_
              refine e_fg [10, 11, 12] ?_
              exact H
      · replace H := H.2 hc
        iterate 2 (refine e_nx hcd rfl rfl ?_)
        obtain ⟨h11, H⟩ := H
        refine r_icmp hcd rfl h5 h11 (fun hc => ?_) (fun hc => ?_)
        · replace H := H.1 hc
          iterate 2 (refine e_nx hcd rfl rfl ?_)
          show Ev X 219 94 [some (vR (some 170)), none, none, none, none, some (vI x5), some (vI x6), some (vI x7), some (vI x8), some (vI x9), some (vI (σ.2 178 (2 * x9).toNat)), some (vI (σ.2 178 ((2 * x9) + 1).toNat)), some (vI 0)] [] _ Q
          refine e_nx hcd rfl rfl ?_
          refine r_getR hcd rfl rfl rfl ?_
          iterate 2 (refine e_nx hcd rfl rfl ?_)
          refine r_if hcd rfl (by omega) (fun hc => ?_) (fun hc => ?_)
          · refine e_nx hcd rfl rfl ?_
            obtain ⟨h12, H⟩ := H
            refine r_ist hcd rfl rfl (by omega) h12 ?_
            refine e_nx hcd rfl rfl ?_
            refine r_if hcd rfl (by omega) (fun hc => ?_) (fun hc => ?_)
            · refine e_nx hcd rfl rfl ?_
              refine e_nx hcd rfl rfl ?_
              show Ev X 219 109 [some (vR (some 170)), none, none, none, none, some (vI x5), some (vI x6), some (vI 0), some (vI x8), some (vI x9), some (vI (σ.2 178 (2 * x9).toNat)), some (vI (σ.2 178 ((2 * x9) + 1).toNat)), some (vI 0)] [] _ Q
              refine e_nx hcd rfl rfl ?_
              show Ev X 219 110 [some (vR (some 170)), none, none, none, none, some (vI x5), some (vI x6), some (vI 0), some (vI x8), some (vI (x9 + 1)), some (vI (σ.2 178 (2 * x9).toNat)), some (vI (σ.2 178 ((2 * x9) + 1).toNat)), some (vI 0)] [] _ Q
              refine e_nx hcd rfl rfl ?_
              refine e_fg [10, 11, 12] ?_
              exact H
            · exact absurd hc (by simp [cmpP])
          · exact absurd hc (by simp [cmpP])
        · replace H := H.2 hc
          iterate 4 (refine e_nx hcd rfl rfl ?_)
          show Ev X 219 94 [some (vR (some 170)), none, none, none, none, some (vI x5), some (vI x6), some (vI x7), some (vI x8), some (vI x9), some (vI (σ.2 178 (2 * x9).toNat)), some (vI (σ.2 178 ((2 * x9) + 1).toNat)), some (vI 1)] [] _ Q
          refine e_nx hcd rfl rfl ?_
          refine r_getR hcd rfl rfl rfl ?_
          iterate 2 (refine e_nx hcd rfl rfl ?_)
          refine r_if hcd rfl (by omega) (fun hc => ?_) (fun hc => ?_)
          · exact absurd hc (by simp [cmpP])
          · refine e_nx hcd rfl rfl ?_
            refine e_nx hcd rfl rfl ?_
            obtain ⟨h13, H⟩ := H
            refine r_ist hcd rfl rfl (by omega) h13 ?_
            refine e_nx hcd rfl rfl ?_
            refine r_if hcd rfl (by omega) (fun hc => ?_) (fun hc => ?_)
            · exact absurd hc (by simp [cmpP])
            · refine e_nx hcd rfl rfl ?_
              iterate 2 (refine e_nx hcd rfl rfl ?_)
              show Ev X 219 109 [some (vR (some 170)), none, none, none, none, some (vI x5), some (vI x6), some (vI 1), some (vI x8), some (vI x9), some (vI (σ.2 178 (2 * x9).toNat)), some (vI (σ.2 178 ((2 * x9) + 1).toNat)), some (vI 1)] [] _ Q
              refine e_nx hcd rfl rfl ?_
              show Ev X 219 110 [some (vR (some 170)), none, none, none, none, some (vI x5), some (vI x6), some (vI 1), some (vI x8), some (vI (x9 + 1)), some (vI (σ.2 178 (2 * x9).toNat)), some (vI (σ.2 178 ((2 * x9) + 1).toNat)), some (vI 1)] [] _ Q
              refine e_nx hcd rfl rfl ?_
              refine e_fg [10, 11, 12] ?_
              exact H
/-! X12_lot -/
set_option maxRecDepth 20000 in
set_option maxHeartbeats 8000000 in
theorem v_220 {X : PX} {σ : Sg} {Q : Option PV → Sg → Prop} {a1 : Int} {a2 : Int} {a3 : Int} {a4 : Int}  (H : CI X 189 [vR (some 170), vI a1] σ (fun r1 τ1 => InR r1 ∧ (r1 = 0 → Q (some (vI (-1))) τ1) ∧ (¬ r1 = 0 → CI X 190 [vR (some 170), vI a3] τ1 (fun r3 τ2 => InR r3 ∧ (r3 = 0 → Q (some (vI (-1))) τ2) ∧ (¬ r3 = 0 → CI X 161 [vI a2, vI 0, vI 7] τ2 (fun r5 τ3 => InR r5 ∧ (r5 = 0 → Q (some (vI (-1))) τ3) ∧ (¬ r5 = 0 → InR a2 ∧ InR (τ3.1 170 12) ∧ (a2 ≤ τ3.1 170 12 → Ev X 220 25 [some (vR (some 170)), none, some (vI a2), some (vI a3), some (vI a4), some (vI 0), some (vI 0), some (vI 0)] [] τ3 Q) ∧ (¬ a2 ≤ τ3.1 170 12 → Q (some (vI (-1))) τ3)))))))) : Cl X 220 [vR (some 170), vI a1, vI a2, vI a3, vI a4] σ Q := by
  have hcd : cds 220 = cd_220 := rfl
  refine c_in (Nat.le_of_ble_eq_true rfl) rfl rfl ?_
  show Ev X 220 0 [some (vR (some 170)), some (vI a1), some (vI a2), some (vI a3), some (vI a4), none, none, none] [] σ Q
  iterate 2 (refine e_nx hcd rfl rfl ?_)
  refine r_cv hcd rfl (by omega) rfl rfl rfl (Nat.le_of_ble_eq_true rfl) ?_
  refine Cl.mono H (fun v τ1 hq => ?_)
  obtain ⟨r1, rfl, H⟩ := hq
  show Ev X 220 3 _ [vI r1] τ1 Q
  obtain ⟨h2, H⟩ := H
  refine r_if hcd rfl h2 (fun hc => ?_) (fun hc => ?_)
  · replace H := H.1 hc
    refine e_nx hcd rfl rfl ?_
    exact r_iret hcd rfl rfl rfl H
  · replace H := H.2 hc
    iterate 2 (refine e_nx hcd rfl rfl ?_)
    refine r_cv hcd rfl (by omega) rfl rfl rfl (Nat.le_of_ble_eq_true rfl) ?_
    refine Cl.mono H (fun v τ2 hq => ?_)
    obtain ⟨r3, rfl, H⟩ := hq
    show Ev X 220 7 _ [vI r3] τ2 Q
    obtain ⟨h4, H⟩ := H
    refine r_if hcd rfl h4 (fun hc => ?_) (fun hc => ?_)
    · replace H := H.1 hc
      refine e_nx hcd rfl rfl ?_
      exact r_iret hcd rfl rfl rfl H
    · replace H := H.2 hc
      iterate 3 (refine e_nx hcd rfl rfl ?_)
      refine r_cs hcd rfl (by omega) (Nat.le_of_ble_eq_true rfl) rfl rfl (Nat.le_of_ble_eq_true rfl) ?_
      refine Cl.mono H (fun v τ3 hq => ?_)
      obtain ⟨r5, rfl, H⟩ := hq
      show Ev X 220 12 _ [vI r5] τ3 Q
      obtain ⟨h6, H⟩ := H
      refine r_if hcd rfl h6 (fun hc => ?_) (fun hc => ?_)
      · replace H := H.1 hc
        refine e_nx hcd rfl rfl ?_
        exact r_iret hcd rfl rfl rfl H
      · replace H := H.2 hc
        iterate 2 (refine e_nx hcd rfl rfl ?_)
        refine r_getI hcd rfl rfl rfl ?_
        obtain ⟨h7, H⟩ := H
        obtain ⟨h8, H⟩ := H
        refine r_icmp hcd rfl h7 h8 (fun hc => ?_) (fun hc => ?_)
        · replace H := H.1 hc
          iterate 2 (refine e_nx hcd rfl rfl ?_)
          show Ev X 220 21 [some (vR (some 170)), some (vI a1), some (vI a2), some (vI a3), some (vI a4), some (vI 0), none, none] [] _ Q
          iterate 2 (refine e_nx hcd rfl rfl ?_)
          show Ev X 220 23 [some (vR (some 170)), some (vI a1), some (vI a2), some (vI a3), some (vI a4), some (vI 0), some (vI 0), none] [] _ Q
          iterate 2 (refine e_nx hcd rfl rfl ?_)
          show Ev X 220 25 [some (vR (some 170)), some (vI a1), some (vI a2), some (vI a3), some (vI a4), some (vI 0), some (vI 0), some (vI 0)] [] _ Q
          refine e_fg [1] ?_
          exact H
        · replace H := H.2 hc
          refine e_nx hcd rfl rfl ?_
          exact r_iret hcd rfl rfl rfl H
set_option maxRecDepth 20000 in
set_option maxHeartbeats 8000000 in
theorem v_220_25 {X : PX} {σ : Sg} {Q : Option PV → Sg → Prop} {x2 : Int} {x3 : Int} {x4 : Int} {x5 : Int} {x6 : Int} {x7 : Int}  (H : CI X 191 [vR (some 170)] σ (fun r1 τ1 => InR x7 ∧ InR r1 ∧ (r1 < x7 → CI X 214 [vI x6, vI x5, vI x4] τ1 (fun r4 τ2 => Q (some (vI r4)) τ2)) ∧ (¬ r1 < x7 → CI X 195 [vI x7] τ1 (fun r5 τ3 => InR r5 ∧ InR x2 ∧ (r5 = x2 → CI X 197 [vR (some 170), vI (iOr (τ3.1 170 16) x7)] τ3 (fun r8 τ4 => Ev X 220 25 [some (vR (some 170)), none, some (vI x2), some (vI x3), some (vI x4), some (vI (x5 + 1)), some (vI (x6 + (iAnd (iShr r8 x3) 1))), some (vI (x7 + 1))] [] τ4 Q)) ∧ (¬ r5 = x2 → Ev X 220 25 [some (vR (some 170)), none, some (vI x2), some (vI x3), some (vI x4), some (vI x5), some (vI x6), some (vI (x7 + 1))] [] τ3 Q))))) : Ev X 220 25 [some (vR (some 170)), none, some (vI x2), some (vI x3), some (vI x4), some (vI x5), some (vI x6), some (vI x7)] [] σ Q := by
  have hcd : cds 220 = cd_220 := rfl
  iterate 2 (refine e_nx hcd rfl rfl ?_)
  refine r_cv hcd rfl (by omega) rfl rfl rfl (Nat.le_of_ble_eq_true rfl) ?_
  refine Cl.mono H (fun v τ1 hq => ?_)
  obtain ⟨r1, rfl, H⟩ := hq
  show Ev X 220 28 _ [vI r1, vI x7] τ1 Q
  obtain ⟨h2, H⟩ := H
  obtain ⟨h3, H⟩ := H
  refine r_icmp hcd rfl h2 h3 (fun hc => ?_) (fun hc => ?_)
  · replace H := H.1 hc
    iterate 3 (refine e_nx hcd rfl rfl ?_)
    refine r_cs hcd rfl (by omega) (Nat.le_of_ble_eq_true rfl) rfl rfl (Nat.le_of_ble_eq_true rfl) ?_
    refine Cl.mono H (fun v τ2 hq => ?_)
    obtain ⟨r4, rfl, H⟩ := hq
    show Ev X 220 54 _ [vI r4] τ2 Q
    exact r_iret hcd rfl rfl rfl H
  · replace H := H.2 hc
    refine e_nx hcd rfl rfl ?_
    refine r_cs hcd rfl (by omega) (Nat.le_of_ble_eq_true rfl) rfl rfl (Nat.le_of_ble_eq_true rfl) ?_
    refine Cl.mono H (fun v τ3 hq => ?_)
    obtain ⟨r5, rfl, H⟩ := hq
    show Ev X 220 31 _ [vI r5] τ3 Q
    refine e_nx hcd rfl rfl ?_
    obtain ⟨h6, H⟩ := H
    obtain ⟨h7, H⟩ := H
    refine r_icmp hcd rfl h6 h7 (fun hc => ?_) (fun hc => ?_)
    · replace H := H.1 hc
      refine e_nx hcd rfl rfl ?_
      show Ev X 220 35 [some (vR (some 170)), none, some (vI x2), some (vI x3), some (vI x4), some (vI (x5 + 1)), some (vI x6), some (vI x7)] [] _ Q
      iterate 3 (refine e_nx hcd rfl rfl ?_)
      refine r_getI hcd rfl rfl rfl ?_
      iterate 2 (refine e_nx hcd rfl rfl ?_)
      refine r_cv hcd rfl (by omega) rfl rfl rfl (Nat.le_of_ble_eq_true rfl) ?_
      refine Cl.mono H (fun v τ4 hq => ?_)
      obtain ⟨r8, rfl, H⟩ := hq
      show Ev X 220 42 _ [vI r8, vI x6] τ4 Q
      iterate 6 (refine e_nx hcd rfl rfl ?_)
      show Ev X 220 48 [some (vR (some 170)), none, some (vI x2), some (vI x3), some (vI x4), some (vI (x5 + 1)), some (vI (x6 + (iAnd (iShr r8 x3) 1))), some (vI x7)] [] _ Q
      refine e_nx hcd rfl rfl ?_
      show Ev X 220 49 [some (vR (some 170)), none, some (vI x2), some (vI x3), some (vI x4), some (vI (x5 + 1)), some (vI (x6 + (iAnd (iShr r8 x3) 1))), some (vI (x7 + 1))] [] _ Q
      refine e_nx hcd rfl rfl ?_
      exact H
    · replace H := H.2 hc
      iterate 2 (refine e_nx hcd rfl rfl ?_)
      show Ev X 220 49 [some (vR (some 170)), none, some (vI x2), some (vI x3), some (vI x4), some (vI x5), some (vI x6), some (vI (x7 + 1))] [] _ Q
      refine e_nx hcd rfl rfl ?_
      exact H
/-! X12_spared -/
set_option maxRecDepth 20000 in
set_option maxHeartbeats 8000000 in
theorem v_221 {X : PX} {σ : Sg} {Q : Option PV → Sg → Prop} {a1 : Int} {a2 : Int} {a3 : Int}  (H : CI X 189 [vR (some 170), vI a1] σ (fun r1 τ1 => InR r1 ∧ (r1 = 0 → Q (some (vI (-1))) τ1) ∧ (¬ r1 = 0 → CI X 161 [vI a2, vI 0, vI 7] τ1 (fun r3 τ2 => InR r3 ∧ (r3 = 0 → Q (some (vI (-1))) τ2) ∧ (¬ r3 = 0 → InR a2 ∧ InR (τ2.1 170 12) ∧ (a2 ≤ τ2.1 170 12 → Ev X 221 21 [some (vR (some 170)), none, some (vI a2), some (vI a3), some (vI 0), some (vI 0), some (vI 0)] [] τ2 Q) ∧ (¬ a2 ≤ τ2.1 170 12 → Q (some (vI (-1))) τ2)))))) : Cl X 221 [vR (some 170), vI a1, vI a2, vI a3] σ Q := by
  have hcd : cds 221 = cd_221 := rfl
  refine c_in (Nat.le_of_ble_eq_true rfl) rfl rfl ?_
  show Ev X 221 0 [some (vR (some 170)), some (vI a1), some (vI a2), some (vI a3), none, none, none] [] σ Q
  iterate 2 (refine e_nx hcd rfl rfl ?_)
  refine r_cv hcd rfl (by omega) rfl rfl rfl (Nat.le_of_ble_eq_true rfl) ?_
  refine Cl.mono H (fun v τ1 hq => ?_)
  obtain ⟨r1, rfl, H⟩ := hq
  show Ev X 221 3 _ [vI r1] τ1 Q
  obtain ⟨h2, H⟩ := H
  refine r_if hcd rfl h2 (fun hc => ?_) (fun hc => ?_)
  · replace H := H.1 hc
    refine e_nx hcd rfl rfl ?_
    exact r_iret hcd rfl rfl rfl H
  · replace H := H.2 hc
    iterate 3 (refine e_nx hcd rfl rfl ?_)
    refine r_cs hcd rfl (by omega) (Nat.le_of_ble_eq_true rfl) rfl rfl (Nat.le_of_ble_eq_true rfl) ?_
    refine Cl.mono H (fun v τ2 hq => ?_)
    obtain ⟨r3, rfl, H⟩ := hq
    show Ev X 221 8 _ [vI r3] τ2 Q
    obtain ⟨h4, H⟩ := H
    refine r_if hcd rfl h4 (fun hc => ?_) (fun hc => ?_)
    · replace H := H.1 hc
      refine e_nx hcd rfl rfl ?_
      exact r_iret hcd rfl rfl rfl H
    · replace H := H.2 hc
      iterate 2 (refine e_nx hcd rfl rfl ?_)
      refine r_getI hcd rfl rfl rfl ?_
      obtain ⟨h5, H⟩ := H
      obtain ⟨h6, H⟩ := H
      refine r_icmp hcd rfl h5 h6 (fun hc => ?_) (fun hc => ?_)
      · replace H := H.1 hc
        iterate 2 (refine e_nx hcd rfl rfl ?_)
        show Ev X 221 17 [some (vR (some 170)), some (vI a1), some (vI a2), some (vI a3), some (vI 0), none, none] [] _ Q
        iterate 2 (refine e_nx hcd rfl rfl ?_)
        show Ev X 221 19 [some (vR (some 170)), some (vI a1), some (vI a2), some (vI a3), some (vI 0), some (vI 0), none] [] _ Q
        iterate 2 (refine e_nx hcd rfl rfl ?_)
        show Ev X 221 21 [some (vR (some 170)), some (vI a1), some (vI a2), some (vI a3), some (vI 0), some (vI 0), some (vI 0)] [] _ Q
        refine e_fg [1] ?_
        exact H
      · replace H := H.2 hc
        refine e_nx hcd rfl rfl ?_
        exact r_iret hcd rfl rfl rfl H
set_option maxRecDepth 20000 in
set_option maxHeartbeats 8000000 in
theorem v_221_21 {X : PX} {σ : Sg} {Q : Option PV → Sg → Prop} {x2 : Int} {x3 : Int} {x4 : Int} {x5 : Int} {x6 : Int}  (H : CI X 191 [vR (some 170)] σ (fun r1 τ1 => InR x6 ∧ InR r1 ∧ (r1 < x6 → CI X 214 [vI x5, vI x4, vI x3] τ1 (fun r4 τ2 => Q (some (vI r4)) τ2)) ∧ (¬ r1 < x6 → CI X 195 [vI x6] τ1 (fun r5 τ3 => InR r5 ∧ InR x2 ∧ (r5 = x2 → CI X 197 [vR (some 170), vI (iOr (τ3.1 170 16) x6)] τ3 (fun r8 τ4 => CI X 195 [vI r8] τ4 (fun r9 τ5 => Ev X 221 21 [some (vR (some 170)), none, some (vI x2), some (vI x3), some (vI (x4 + 1)), some (vI (x5 + r9)), some (vI (x6 + 1))] [] τ5 Q))) ∧ (¬ r5 = x2 → Ev X 221 21 [some (vR (some 170)), none, some (vI x2), some (vI x3), some (vI x4), some (vI x5), some (vI (x6 + 1))] [] τ3 Q))))) : Ev X 221 21 [some (vR (some 170)), none, some (vI x2), some (vI x3), some (vI x4), some (vI x5), some (vI x6)] [] σ Q := by
  have hcd : cds 221 = cd_221 := rfl
  iterate 2 (refine e_nx hcd rfl rfl ?_)
  refine r_cv hcd rfl (by omega) rfl rfl rfl (Nat.le_of_ble_eq_true rfl) ?_
  refine Cl.mono H (fun v τ1 hq => ?_)
  obtain ⟨r1, rfl, H⟩ := hq
  show Ev X 221 24 _ [vI r1, vI x6] τ1 Q
  obtain ⟨h2, H⟩ := H
  obtain ⟨h3, H⟩ := H
  refine r_icmp hcd rfl h2 h3 (fun hc => ?_) (fun hc => ?_)
  · replace H := H.1 hc
    iterate 3 (refine e_nx hcd rfl rfl ?_)
    refine r_cs hcd rfl (by omega) (Nat.le_of_ble_eq_true rfl) rfl rfl (Nat.le_of_ble_eq_true rfl) ?_
    refine Cl.mono H (fun v τ2 hq => ?_)
    obtain ⟨r4, rfl, H⟩ := hq
    show Ev X 221 47 _ [vI r4] τ2 Q
    exact r_iret hcd rfl rfl rfl H
  · replace H := H.2 hc
    refine e_nx hcd rfl rfl ?_
    refine r_cs hcd rfl (by omega) (Nat.le_of_ble_eq_true rfl) rfl rfl (Nat.le_of_ble_eq_true rfl) ?_
    refine Cl.mono H (fun v τ3 hq => ?_)
    obtain ⟨r5, rfl, H⟩ := hq
    show Ev X 221 27 _ [vI r5] τ3 Q
    refine e_nx hcd rfl rfl ?_
    obtain ⟨h6, H⟩ := H
    obtain ⟨h7, H⟩ := H
    refine r_icmp hcd rfl h6 h7 (fun hc => ?_) (fun hc => ?_)
    · replace H := H.1 hc
      refine e_nx hcd rfl rfl ?_
      show Ev X 221 31 [some (vR (some 170)), none, some (vI x2), some (vI x3), some (vI (x4 + 1)), some (vI x5), some (vI x6)] [] _ Q
      iterate 3 (refine e_nx hcd rfl rfl ?_)
      refine r_getI hcd rfl rfl rfl ?_
      iterate 2 (refine e_nx hcd rfl rfl ?_)
      refine r_cv hcd rfl (by omega) rfl rfl rfl (Nat.le_of_ble_eq_true rfl) ?_
      refine Cl.mono H (fun v τ4 hq => ?_)
      obtain ⟨r8, rfl, H⟩ := hq
      show Ev X 221 38 _ [vI r8, vI x5] τ4 Q
      refine r_cs hcd rfl (by omega) (Nat.le_of_ble_eq_true rfl) rfl rfl (Nat.le_of_ble_eq_true rfl) ?_
      refine Cl.mono H (fun v τ5 hq => ?_)
      obtain ⟨r9, rfl, H⟩ := hq
      show Ev X 221 39 _ [vI r9, vI x5] τ5 Q
      iterate 2 (refine e_nx hcd rfl rfl ?_)
      show Ev X 221 41 [some (vR (some 170)), none, some (vI x2), some (vI x3), some (vI (x4 + 1)), some (vI (x5 + r9)), some (vI x6)] [] _ Q
      refine e_nx hcd rfl rfl ?_
      show Ev X 221 42 [some (vR (some 170)), none, some (vI x2), some (vI x3), some (vI (x4 + 1)), some (vI (x5 + r9)), some (vI (x6 + 1))] [] _ Q
      refine e_nx hcd rfl rfl ?_
      exact H
    · replace H := H.2 hc
      iterate 2 (refine e_nx hcd rfl rfl ?_)
      show Ev X 221 42 [some (vR (some 170)), none, some (vI x2), some (vI x3), some (vI x4), some (vI x5), some (vI (x6 + 1))] [] _ Q
      refine e_nx hcd rfl rfl ?_
      exact H
/-! X12_retinue -/
theorem v_222 {X : PX} {σ : Sg} {Q : Option PV → Sg → Prop} {a1 : Int} {a2 : Int}  (H : CI X 189 [vR (some 170), vI a1] σ (fun r1 τ1 => InR r1 ∧ (r1 = 0 → Q (some (vI (-1))) τ1) ∧ (¬ r1 = 0 → CI X 190 [vR (some 170), vI a2] τ1 (fun r3 τ2 => InR r3 ∧ (r3 = 0 → Q (some (vI (-1))) τ2) ∧ (¬ r3 = 0 → CI X 197 [vR (some 170), vI (iShl 1 a2)] τ2 (fun r5 τ3 => Q (some (vI r5)) τ3)))))) : Cl X 222 [vR (some 170), vI a1, vI a2] σ Q := by
  have hcd : cds 222 = cd_222 := rfl
  refine c_in (Nat.le_of_ble_eq_true rfl) rfl rfl ?_
  show Ev X 222 0 [some (vR (some 170)), some (vI a1), some (vI a2)] [] σ Q
  iterate 2 (refine e_nx hcd rfl rfl ?_)
  refine r_cv hcd rfl (by omega) rfl rfl rfl (Nat.le_of_ble_eq_true rfl) ?_
  refine Cl.mono H (fun v τ1 hq => ?_)
  obtain ⟨r1, rfl, H⟩ := hq
  show Ev X 222 3 _ [vI r1] τ1 Q
  obtain ⟨h2, H⟩ := H
  refine r_if hcd rfl h2 (fun hc => ?_) (fun hc => ?_)
  · replace H := H.1 hc
    refine e_nx hcd rfl rfl ?_
    exact r_iret hcd rfl rfl rfl H
  · replace H := H.2 hc
    iterate 2 (refine e_nx hcd rfl rfl ?_)
    refine r_cv hcd rfl (by omega) rfl rfl rfl (Nat.le_of_ble_eq_true rfl) ?_
    refine Cl.mono H (fun v τ2 hq => ?_)
    obtain ⟨r3, rfl, H⟩ := hq
    show Ev X 222 7 _ [vI r3] τ2 Q
    obtain ⟨h4, H⟩ := H
    refine r_if hcd rfl h4 (fun hc => ?_) (fun hc => ?_)
    · replace H := H.1 hc
      refine e_nx hcd rfl rfl ?_
      exact r_iret hcd rfl rfl rfl H
    · replace H := H.2 hc
      iterate 4 (refine e_nx hcd rfl rfl ?_)
      refine r_cv hcd rfl (by omega) rfl rfl rfl (Nat.le_of_ble_eq_true rfl) ?_
      refine Cl.mono H (fun v τ3 hq => ?_)
      obtain ⟨r5, rfl, H⟩ := hq
      show Ev X 222 13 _ [vI r5] τ3 Q
      refine e_nx hcd rfl rfl ?_
      exact r_iret hcd rfl rfl rfl H
/-! X12_chiefOf -/
theorem v_223 {X : PX} {σ : Sg} {Q : Option PV → Sg → Prop}   (H : InR (σ.1 170 12) ∧ (σ.1 170 12 ≠ 0 → Ev X 223 9 [some (vR (some 170)), some (vI 0), some (vI 1)] [] σ Q) ∧ (¬ σ.1 170 12 ≠ 0 → Ev X 223 9 [some (vR (some 170)), some (vI (-1)), some (vI 1)] [] σ Q)) : Cl X 223 [vR (some 170)] σ Q := by
  have hcd : cds 223 = cd_223 := rfl
  refine c_in (Nat.le_of_ble_eq_true rfl) rfl rfl ?_
  show Ev X 223 0 [some (vR (some 170)), none, none] [] σ Q
  refine e_nx hcd rfl rfl ?_
  refine r_getI hcd rfl rfl rfl ?_
  obtain ⟨h1, H⟩ := H
  refine r_if hcd rfl h1 (fun hc => ?_) (fun hc => ?_)
  · replace H := H.1 hc
    iterate 2 (refine e_nx hcd rfl rfl ?_)
    show Ev X 223 7 [some (vR (some 170)), some (vI 0), none] [] _ Q
    iterate 2 (refine e_nx hcd rfl rfl ?_)
    show Ev X 223 9 [some (vR (some 170)), some (vI 0), some (vI 1)] [] _ Q
    exact H
  · replace H := H.2 hc
    iterate 3 (refine e_nx hcd rfl rfl ?_)
    show Ev X 223 7 [some (vR (some 170)), some (vI (-1)), none] [] _ Q
    iterate 2 (refine e_nx hcd rfl rfl ?_)
    show Ev X 223 9 [some (vR (some 170)), some (vI (-1)), some (vI 1)] [] _ Q
    exact H
set_option maxRecDepth 20000 in
set_option maxHeartbeats 8000000 in
theorem v_223_9 {X : PX} {σ : Sg} {Q : Option PV → Sg → Prop} {x1 : Int} {x2 : Int}  (H : InR x2 ∧ InR (σ.1 170 12) ∧ (σ.1 170 12 ≤ x2 → Q (some (vI x1)) σ) ∧ (¬ σ.1 170 12 ≤ x2 → CI X 197 [vR (some 170), vI (iShl 1 x2)] σ (fun r3 τ1 => CI X 195 [vI r3] τ1 (fun r4 τ2 => CI X 197 [vR (some 170), vI (iShl 1 x1)] τ2 (fun r5 τ3 => CI X 195 [vI r5] τ3 (fun r6 τ4 => InR r4 ∧ InR r6 ∧ (r4 ≤ r6 → Ev X 223 9 [some (vR (some 170)), some (vI x1), some (vI (x2 + 1))] [] τ4 Q) ∧ (¬ r4 ≤ r6 → Ev X 223 9 [some (vR (some 170)), some (vI x2), some (vI (x2 + 1))] [] τ4 Q))))))) : Ev X 223 9 [some (vR (some 170)), some (vI x1), some (vI x2)] [] σ Q := by
  have hcd : cds 223 = cd_223 := rfl
  iterate 2 (refine e_nx hcd rfl rfl ?_)
  refine r_getI hcd rfl rfl rfl ?_
  obtain ⟨h1, H⟩ := H
  obtain ⟨h2, H⟩ := H
  refine r_icmp hcd rfl h1 h2 (fun hc => ?_) (fun hc => ?_)
  · replace H := H.1 hc
    refine e_nx hcd rfl rfl ?_
    exact r_iret hcd rfl rfl rfl H
  · replace H := H.2 hc
    iterate 4 (refine e_nx hcd rfl rfl ?_)
    refine r_cv hcd rfl (by omega) rfl rfl rfl (Nat.le_of_ble_eq_true rfl) ?_
    refine Cl.mono H (fun v τ1 hq => ?_)
    obtain ⟨r3, rfl, H⟩ := hq
    show Ev X 223 18 _ [vI r3] τ1 Q
    refine r_cs hcd rfl (by omega) (Nat.le_of_ble_eq_true rfl) rfl rfl (Nat.le_of_ble_eq_true rfl) ?_
    refine Cl.mono H (fun v τ2 hq => ?_)
    obtain ⟨r4, rfl, H⟩ := hq
    show Ev X 223 19 _ [vI r4] τ2 Q
    iterate 4 (refine e_nx hcd rfl rfl ?_)
    refine r_cv hcd rfl (by omega) rfl rfl rfl (Nat.le_of_ble_eq_true rfl) ?_
    refine Cl.mono H (fun v τ3 hq => ?_)
    obtain ⟨r5, rfl, H⟩ := hq
    show Ev X 223 24 _ [vI r5, vI r4] τ3 Q
    refine r_cs hcd rfl (by omega) (Nat.le_of_ble_eq_true rfl) rfl rfl (Nat.le_of_ble_eq_true rfl) ?_
    refine Cl.mono H (fun v τ4 hq => ?_)
    obtain ⟨r6, rfl, H⟩ := hq
    show Ev X 223 25 _ [vI r6, vI r4] τ4 Q
    obtain ⟨h7, H⟩ := H
    obtain ⟨h8, H⟩ := H
    refine r_icmp hcd rfl h7 h8 (fun hc => ?_) (fun hc => ?_)
    · replace H := H.1 hc
      refine e_nx hcd rfl rfl ?_
      show Ev X 223 29 [some (vR (some 170)), some (vI x1), some (vI (x2 + 1))] [] _ Q
      refine e_nx hcd rfl rfl ?_
      exact H
    · replace H := H.2 hc
      iterate 2 (refine e_nx hcd rfl rfl ?_)
      show Ev X 223 28 [some (vR (some 170)), some (vI x2), some (vI x2)] [] _ Q
      refine e_nx hcd rfl rfl ?_
      show Ev X 223 29 [some (vR (some 170)), some (vI x2), some (vI (x2 + 1))] [] _ Q
      refine e_nx hcd rfl rfl ?_
      exact H
/-! X12_keysOf -/
theorem v_224 {X : PX} {σ : Sg} {Q : Option PV → Sg → Prop}   (H : Ev X 224 4 [some (vR (some 170)), some (vI 0), some (vI 0)] [] σ Q) : Cl X 224 [vR (some 170)] σ Q := by
  have hcd : cds 224 = cd_224 := rfl
  refine c_in (Nat.le_of_ble_eq_true rfl) rfl rfl ?_
  show Ev X 224 0 [some (vR (some 170)), none, none] [] σ Q
  iterate 2 (refine e_nx hcd rfl rfl ?_)
  show Ev X 224 2 [some (vR (some 170)), some (vI 0), none] [] _ Q
  iterate 2 (refine e_nx hcd rfl rfl ?_)
  show Ev X 224 4 [some (vR (some 170)), some (vI 0), some (vI 0)] [] _ Q
  exact H
set_option maxRecDepth 20000 in
set_option maxHeartbeats 8000000 in
theorem v_224_4 {X : PX} {σ : Sg} {Q : Option PV → Sg → Prop} {x1 : Int} {x2 : Int}  (H : InR x2 ∧ InR (σ.1 170 13) ∧ (σ.1 170 13 ≤ x2 → Q (some (vI x1)) σ) ∧ (¬ σ.1 170 13 ≤ x2 → CI X 197 [vR (some 170), vI (σ.1 170 16)] (up2 σ.1 170 17 (iShl 1 x2), σ.2) (fun r3 τ1 => CI X 195 [vI r3] τ1 (fun r4 τ2 => CI X 195 [vI (τ2.1 170 18)] τ2 (fun r5 τ3 => InR r4 ∧ InR r5 ∧ (r5 ≤ r4 → Ev X 224 4 [some (vR (some 170)), some (vI (iOr x1 0)), some (vI (x2 + 1))] [] τ3 Q) ∧ (¬ r5 ≤ r4 → Ev X 224 4 [some (vR (some 170)), some (vI (iOr x1 (iShl 1 x2))), some (vI (x2 + 1))] [] τ3 Q)))))) : Ev X 224 4 [some (vR (some 170)), some (vI x1), some (vI x2)] [] σ Q := by
  have hcd : cds 224 = cd_224 := rfl
  iterate 2 (refine e_nx hcd rfl rfl ?_)
  refine r_getI hcd rfl rfl rfl ?_
  obtain ⟨h1, H⟩ := H
  obtain ⟨h2, H⟩ := H
  refine r_icmp hcd rfl h1 h2 (fun hc => ?_) (fun hc => ?_)
  · replace H := H.1 hc
    refine e_nx hcd rfl rfl ?_
    exact r_iret hcd rfl rfl rfl H
  · replace H := H.2 hc
    iterate 4 (refine e_nx hcd rfl rfl ?_)
    refine r_putI hcd rfl rfl rfl rfl ?_
    iterate 3 (refine e_nx hcd rfl rfl ?_)
    refine r_getI hcd rfl rfl rfl ?_
    show Ev X 224 17 _ [vI (σ.1 170 16), vR (some 170), vI x1] _ Q
    refine r_cv hcd rfl (by omega) rfl rfl rfl (Nat.le_of_ble_eq_true rfl) ?_
    refine Cl.mono H (fun v τ1 hq => ?_)
    obtain ⟨r3, rfl, H⟩ := hq
    show Ev X 224 18 _ [vI r3, vI x1] τ1 Q
    refine r_cs hcd rfl (by omega) (Nat.le_of_ble_eq_true rfl) rfl rfl (Nat.le_of_ble_eq_true rfl) ?_
    refine Cl.mono H (fun v τ2 hq => ?_)
    obtain ⟨r4, rfl, H⟩ := hq
    show Ev X 224 19 _ [vI r4, vI x1] τ2 Q
    refine e_nx hcd rfl rfl ?_
    refine r_getI hcd rfl rfl rfl ?_
    refine r_cs hcd rfl (by omega) (Nat.le_of_ble_eq_true rfl) rfl rfl (Nat.le_of_ble_eq_true rfl) ?_
    refine Cl.mono H (fun v τ3 hq => ?_)
    obtain ⟨r5, rfl, H⟩ := hq
    show Ev X 224 22 _ [vI r5, vI r4, vI x1] τ3 Q
    obtain ⟨h6, H⟩ := H
    obtain ⟨h7, H⟩ := H
    refine r_icmp hcd rfl h6 h7 (fun hc => ?_) (fun hc => ?_)
    · replace H := H.1 hc
      iterate 3 (refine e_nx hcd rfl rfl ?_)
      show Ev X 224 30 [some (vR (some 170)), some (vI (iOr x1 0)), some (vI x2)] [] _ Q
      refine e_nx hcd rfl rfl ?_
      show Ev X 224 31 [some (vR (some 170)), some (vI (iOr x1 0)), some (vI (x2 + 1))] [] _ Q
      refine e_nx hcd rfl rfl ?_
      exact H
    · replace H := H.2 hc
      iterate 6 (refine e_nx hcd rfl rfl ?_)
      show Ev X 224 30 [some (vR (some 170)), some (vI (iOr x1 (iShl 1 x2))), some (vI x2)] [] _ Q
      refine e_nx hcd rfl rfl ?_
      show Ev X 224 31 [some (vR (some 170)), some (vI (iOr x1 (iShl 1 x2))), some (vI (x2 + 1))] [] _ Q
      refine e_nx hcd rfl rfl ?_
      exact H
/-! X12_isIdle -/
theorem v_225 {X : PX} {σ : Sg} {Q : Option PV → Sg → Prop} {a1 : Int}  (H : Ev X 225 4 [some (vR (some 170)), some (vI a1), some (vI 1), some (vI 0), none] [] σ Q) : Cl X 225 [vR (some 170), vI a1] σ Q := by
  have hcd : cds 225 = cd_225 := rfl
  refine c_in (Nat.le_of_ble_eq_true rfl) rfl rfl ?_
  show Ev X 225 0 [some (vR (some 170)), some (vI a1), none, none, none] [] σ Q
  iterate 2 (refine e_nx hcd rfl rfl ?_)
  show Ev X 225 2 [some (vR (some 170)), some (vI a1), some (vI 1), none, none] [] _ Q
  iterate 2 (refine e_nx hcd rfl rfl ?_)
  show Ev X 225 4 [some (vR (some 170)), some (vI a1), some (vI 1), some (vI 0), none] [] _ Q
  exact H
set_option maxRecDepth 20000 in
set_option maxHeartbeats 8000000 in
theorem v_225_4 {X : PX} {σ : Sg} {Q : Option PV → Sg → Prop} {x1 : Int} {x2 : Int} {x3 : Int}  (H : CI X 191 [vR (some 170)] σ (fun r1 τ1 => InR x3 ∧ InR r1 ∧ (r1 < x3 → (x2 = 0 ∨ x2 = 1) ∧ Q (some (vI x2)) τ1) ∧ (¬ r1 < x3 → InR x2 ∧ (x2 = 0 → (x2 = 0 ∨ x2 = 1) ∧ Q (some (vI x2)) τ1) ∧ (¬ x2 = 0 → CI X 197 [vR (some 170), vI x3] (up2 τ1.1 170 17 0, τ1.2) (fun r7 τ2 => CI X 197 [vR (some 170), vI x3] (up2 τ2.1 170 17 (iShl 1 x1), τ2.2) (fun r8 τ3 => InR r8 ∧ InR r7 ∧ (r8 ≠ r7 → Ev X 225 4 [some (vR (some 170)), some (vI x1), some (vI 0), some (vI (x3 + 1)), none] [] τ3 Q) ∧ (¬ r8 ≠ r7 → Ev X 225 4 [some (vR (some 170)), some (vI x1), some (vI 1), some (vI (x3 + 1)), none] [] τ3 Q))))))) : Ev X 225 4 [some (vR (some 170)), some (vI x1), some (vI x2), some (vI x3), none] [] σ Q := by
  have hcd : cds 225 = cd_225 := rfl
  iterate 2 (refine e_nx hcd rfl rfl ?_)
  refine r_cv hcd rfl (by omega) rfl rfl rfl (Nat.le_of_ble_eq_true rfl) ?_
  refine Cl.mono H (fun v τ1 hq => ?_)
  obtain ⟨r1, rfl, H⟩ := hq
  show Ev X 225 7 _ [vI r1, vI x3] τ1 Q
  obtain ⟨h2, H⟩ := H
  obtain ⟨h3, H⟩ := H
  refine r_icmp hcd rfl h2 h3 (fun hc => ?_) (fun hc => ?_)
  · replace H := H.1 hc
    refine e_nx hcd rfl rfl ?_
    obtain ⟨h4, H⟩ := H
    exact r_zret hcd rfl rfl rfl h4 H
  · replace H := H.2 hc
    refine e_nx hcd rfl rfl ?_
    obtain ⟨h5, H⟩ := H
    refine r_if hcd rfl h5 (fun hc => ?_) (fun hc => ?_)
    · replace H := H.1 hc
      refine e_nx hcd rfl rfl ?_
      obtain ⟨h6, H⟩ := H
      exact r_zret hcd rfl rfl rfl h6 H
    · replace H := H.2 hc
      iterate 2 (refine e_nx hcd rfl rfl ?_)
      refine r_putI hcd rfl rfl rfl rfl ?_
      iterate 2 (refine e_nx hcd rfl rfl ?_)
      refine r_cv hcd rfl (by omega) rfl rfl rfl (Nat.le_of_ble_eq_true rfl) ?_
      refine Cl.mono H (fun v τ2 hq => ?_)
      obtain ⟨r7, rfl, H⟩ := hq
      show Ev X 225 16 _ [vI r7] τ2 Q
      refine e_nx hcd rfl rfl ?_
      show Ev X 225 17 [some (vR (some 170)), some (vI x1), some (vI x2), some (vI x3), some (vI r7)] [] _ Q
      iterate 4 (refine e_nx hcd rfl rfl ?_)
      refine r_putI hcd rfl rfl rfl rfl ?_
      iterate 2 (refine e_nx hcd rfl rfl ?_)
      refine r_cv hcd rfl (by omega) rfl rfl rfl (Nat.le_of_ble_eq_true rfl) ?_
      refine Cl.mono H (fun v τ3 hq => ?_)
      obtain ⟨r8, rfl, H⟩ := hq
      show Ev X 225 25 _ [vI r8] τ3 Q
      refine e_nx hcd rfl rfl ?_
      obtain ⟨h9, H⟩ := H
      obtain ⟨h10, H⟩ := H
      refine r_icmp hcd rfl h9 h10 (fun hc => ?_) (fun hc => ?_)
      · replace H := H.1 hc
        iterate 2 (refine e_nx hcd rfl rfl ?_)
        show Ev X 225 31 [some (vR (some 170)), some (vI x1), some (vI 0), some (vI x3), some (vI r7)] [] _ Q
        refine e_nx hcd rfl rfl ?_
        show Ev X 225 32 [some (vR (some 170)), some (vI x1), some (vI 0), some (vI (x3 + 1)), some (vI r7)] [] _ Q
        refine e_nx hcd rfl rfl ?_
        refine e_fg [4] ?_
        exact H
      · replace H := H.2 hc
        iterate 3 (refine e_nx hcd rfl rfl ?_)
        show Ev X 225 31 [some (vR (some 170)), some (vI x1), some (vI 1), some (vI x3), some (vI r7)] [] _ Q
        refine e_nx hcd rfl rfl ?_
        show Ev X 225 32 [some (vR (some 170)), some (vI x1), some (vI 1), some (vI (x3 + 1)), some (vI r7)] [] _ Q
        refine e_nx hcd rfl rfl ?_
        refine e_fg [4] ?_
        exact H
/-! X12_idleOf -/
theorem v_226 {X : PX} {σ : Sg} {Q : Option PV → Sg → Prop}   (H : Ev X 226 4 [some (vR (some 170)), some (vI 0), some (vI 0)] [] σ Q) : Cl X 226 [vR (some 170)] σ Q := by
  have hcd : cds 226 = cd_226 := rfl
  refine c_in (Nat.le_of_ble_eq_true rfl) rfl rfl ?_
  show Ev X 226 0 [some (vR (some 170)), none, none] [] σ Q
  iterate 2 (refine e_nx hcd rfl rfl ?_)
  show Ev X 226 2 [some (vR (some 170)), some (vI 0), none] [] _ Q
  iterate 2 (refine e_nx hcd rfl rfl ?_)
  show Ev X 226 4 [some (vR (some 170)), some (vI 0), some (vI 0)] [] _ Q
  exact H
theorem v_226_4 {X : PX} {σ : Sg} {Q : Option PV → Sg → Prop} {x1 : Int} {x2 : Int}  (H : InR x2 ∧ InR (σ.1 170 13) ∧ (σ.1 170 13 ≤ x2 → Q (some (vI x1)) σ) ∧ (¬ σ.1 170 13 ≤ x2 → CI X 225 [vR (some 170), vI x2] σ (fun r3 τ1 => InR r3 ∧ (r3 = 0 → Ev X 226 4 [some (vR (some 170)), some (vI (iOr x1 0)), some (vI (x2 + 1))] [] τ1 Q) ∧ (¬ r3 = 0 → Ev X 226 4 [some (vR (some 170)), some (vI (iOr x1 (iShl 1 x2))), some (vI (x2 + 1))] [] τ1 Q)))) : Ev X 226 4 [some (vR (some 170)), some (vI x1), some (vI x2)] [] σ Q := by
  have hcd : cds 226 = cd_226 := rfl
  iterate 2 (refine e_nx hcd rfl rfl ?_)
  refine r_getI hcd rfl rfl rfl ?_
  obtain ⟨h1, H⟩ := H
  obtain ⟨h2, H⟩ := H
  refine r_icmp hcd rfl h1 h2 (fun hc => ?_) (fun hc => ?_)
  · replace H := H.1 hc
    refine e_nx hcd rfl rfl ?_
    exact r_iret hcd rfl rfl rfl H
  · replace H := H.2 hc
    iterate 3 (refine e_nx hcd rfl rfl ?_)
    refine r_cv hcd rfl (by omega) rfl rfl rfl (Nat.le_of_ble_eq_true rfl) ?_
    refine Cl.mono H (fun v τ1 hq => ?_)
    obtain ⟨r3, rfl, H⟩ := hq
    show Ev X 226 12 _ [vI r3, vI x1] τ1 Q
    obtain ⟨h4, H⟩ := H
    refine r_if hcd rfl h4 (fun hc => ?_) (fun hc => ?_)
    · replace H := H.1 hc
      iterate 3 (refine e_nx hcd rfl rfl ?_)
      show Ev X 226 20 [some (vR (some 170)), some (vI (iOr x1 0)), some (vI x2)] [] _ Q
      refine e_nx hcd rfl rfl ?_
      show Ev X 226 21 [some (vR (some 170)), some (vI (iOr x1 0)), some (vI (x2 + 1))] [] _ Q
      refine e_nx hcd rfl rfl ?_
      exact H
    · replace H := H.2 hc
      iterate 6 (refine e_nx hcd rfl rfl ?_)
      show Ev X 226 20 [some (vR (some 170)), some (vI (iOr x1 (iShl 1 x2))), some (vI x2)] [] _ Q
      refine e_nx hcd rfl rfl ?_
      show Ev X 226 21 [some (vR (some 170)), some (vI (iOr x1 (iShl 1 x2))), some (vI (x2 + 1))] [] _ Q
      refine e_nx hcd rfl rfl ?_
      exact H
/-! X12_comesTo -/
theorem v_227 {X : PX} {σ : Sg} {Q : Option PV → Sg → Prop} {a1 : Int}  (H : Ev X 227 4 [some (vR (some 170)), some (vI a1), some (vI 0), some (vI (-1)), none] [] σ Q) : Cl X 227 [vR (some 170), vI a1] σ Q := by
  have hcd : cds 227 = cd_227 := rfl
  refine c_in (Nat.le_of_ble_eq_true rfl) rfl rfl ?_
  show Ev X 227 0 [some (vR (some 170)), some (vI a1), none, none, none] [] σ Q
  iterate 2 (refine e_nx hcd rfl rfl ?_)
  show Ev X 227 2 [some (vR (some 170)), some (vI a1), some (vI 0), none, none] [] _ Q
  iterate 2 (refine e_nx hcd rfl rfl ?_)
  show Ev X 227 4 [some (vR (some 170)), some (vI a1), some (vI 0), some (vI (-1)), none] [] _ Q
  exact H
theorem v_227_4 {X : PX} {σ : Sg} {Q : Option PV → Sg → Prop} {x1 : Int} {x2 : Int} {x3 : Int}  (H : InR x3 ∧ InR x2 ∧ (x3 = x2 → Q (some (vI x2)) σ) ∧ (¬ x3 = x2 → Ev X 227 11 [some (vR (some 170)), some (vI x1), some (vI x2), some (vI x2), some (vI 0)] [] σ Q)) : Ev X 227 4 [some (vR (some 170)), some (vI x1), some (vI x2), some (vI x3), none] [] σ Q := by
  have hcd : cds 227 = cd_227 := rfl
  iterate 2 (refine e_nx hcd rfl rfl ?_)
  obtain ⟨h1, H⟩ := H
  obtain ⟨h2, H⟩ := H
  refine r_icmp hcd rfl h1 h2 (fun hc => ?_) (fun hc => ?_)
  · replace H := H.1 hc
    refine e_nx hcd rfl rfl ?_
    exact r_iret hcd rfl rfl rfl H
  · replace H := H.2 hc
    iterate 2 (refine e_nx hcd rfl rfl ?_)
    show Ev X 227 9 [some (vR (some 170)), some (vI x1), some (vI x2), some (vI x2), none] [] _ Q
    iterate 2 (refine e_nx hcd rfl rfl ?_)
    show Ev X 227 11 [some (vR (some 170)), some (vI x1), some (vI x2), some (vI x2), some (vI 0)] [] _ Q
    exact H
set_option maxRecDepth 20000 in
set_option maxHeartbeats 8000000 in
theorem v_227_11 {X : PX} {σ : Sg} {Q : Option PV → Sg → Prop} {x1 : Int} {x2 : Int} {x3 : Int} {x4 : Int}  (H : InR x4 ∧ InR (σ.1 170 13) ∧ (σ.1 170 13 ≤ x4 → Ev X 227 4 [some (vR (some 170)), some (vI x1), some (vI x2), some (vI x3), none] [] σ Q) ∧ (¬ σ.1 170 13 ≤ x4 → CI X 194 [vR (some 170), vI x4, vI 2] σ (fun r3 τ1 => InR r3 ∧ (r3 ≠ (-1) → Ev X 227 11 [some (vR (some 170)), some (vI x1), some (vI x2), some (vI x3), some (vI (x4 + 1))] [] τ1 Q) ∧ (¬ r3 ≠ (-1) → CI X 194 [vR (some 170), vI x4, vI 0] τ1 (fun r5 τ2 => InR (iAnd (iShr (iOr x3 (iShl 1 x1)) r5) 1) ∧ (iAnd (iShr (iOr x3 (iShl 1 x1)) r5) 1 ≠ 1 → Ev X 227 11 [some (vR (some 170)), some (vI x1), some (vI x2), some (vI x3), some (vI (x4 + 1))] [] τ2 Q) ∧ (¬ iAnd (iShr (iOr x3 (iShl 1 x1)) r5) 1 ≠ 1 → CI X 194 [vR (some 170), vI x4, vI 1] τ2 (fun r7 τ3 => Ev X 227 11 [some (vR (some 170)), some (vI x1), some (vI (iOr x2 (iShl 1 r7))), some (vI x3), some (vI (x4 + 1))] [] τ3 Q))))))) : Ev X 227 11 [some (vR (some 170)), some (vI x1), some (vI x2), some (vI x3), some (vI x4)] [] σ Q := by
  have hcd : cds 227 = cd_227 := rfl
  iterate 2 (refine e_nx hcd rfl rfl ?_)
  refine r_getI hcd rfl rfl rfl ?_
  obtain ⟨h1, H⟩ := H
  obtain ⟨h2, H⟩ := H
  refine r_icmp hcd rfl h1 h2 (fun hc => ?_) (fun hc => ?_)
  · replace H := H.1 hc
    refine e_nx hcd rfl rfl ?_
    refine e_fg [4] ?_
    exact H
  · replace H := H.2 hc
    iterate 3 (refine e_nx hcd rfl rfl ?_)
    refine r_cv hcd rfl (by omega) rfl rfl rfl (Nat.le_of_ble_eq_true rfl) ?_
    refine Cl.mono H (fun v τ1 hq => ?_)
    obtain ⟨r3, rfl, H⟩ := hq
    show Ev X 227 19 _ [vI r3] τ1 Q
    refine e_nx hcd rfl rfl ?_
    obtain ⟨h4, H⟩ := H
    refine r_icmp hcd rfl h4 (by omega) (fun hc => ?_) (fun hc => ?_)
    · replace H := H.1 hc
      refine e_nx hcd rfl rfl ?_
      show Ev X 227 45 [some (vR (some 170)), some (vI x1), some (vI x2), some (vI x3), some (vI (x4 + 1))] [] _ Q
      refine e_nx hcd rfl rfl ?_
      exact H
    · replace H := H.2 hc
      iterate 8 (refine e_nx hcd rfl rfl ?_)
      refine r_cv hcd rfl (by omega) rfl rfl rfl (Nat.le_of_ble_eq_true rfl) ?_
      refine Cl.mono H (fun v τ2 hq => ?_)
      obtain ⟨r5, rfl, H⟩ := hq
      show Ev X 227 30 _ [vI r5, vI (iOr x3 (iShl 1 x1))] τ2 Q
      iterate 4 (refine e_nx hcd rfl rfl ?_)
      obtain ⟨h6, H⟩ := H
      refine r_icmp hcd rfl h6 (by omega) (fun hc => ?_) (fun hc => ?_)
      · replace H := H.1 hc
        refine e_nx hcd rfl rfl ?_
        show Ev X 227 45 [some (vR (some 170)), some (vI x1), some (vI x2), some (vI x3), some (vI (x4 + 1))] [] _ Q
        refine e_nx hcd rfl rfl ?_
        exact H
      · replace H := H.2 hc
        iterate 5 (refine e_nx hcd rfl rfl ?_)
        refine r_cv hcd rfl (by omega) rfl rfl rfl (Nat.le_of_ble_eq_true rfl) ?_
        refine Cl.mono H (fun v τ3 hq => ?_)
        obtain ⟨r7, rfl, H⟩ := hq
        show Ev X 227 41 _ [vI r7, vI 1, vI x2] τ3 Q
        iterate 3 (refine e_nx hcd rfl rfl ?_)
        show Ev X 227 44 [some (vR (some 170)), some (vI x1), some (vI (iOr x2 (iShl 1 r7))), some (vI x3), some (vI x4)] [] _ Q
        refine e_nx hcd rfl rfl ?_
        show Ev X 227 45 [some (vR (some 170)), some (vI x1), some (vI (iOr x2 (iShl 1 r7))), some (vI x3), some (vI (x4 + 1))] [] _ Q
        refine e_nx hcd rfl rfl ?_
        exact H
/-! X12_housesBy -/
theorem v_228 {X : PX} {σ : Sg} {Q : Option PV → Sg → Prop} {a1 : Int}  (H : Ev X 228 4 [some (vR (some 170)), some (vI a1), some (vI 0), some (vI 0), none, none] [] σ Q) : Cl X 228 [vR (some 170), vI a1] σ Q := by
  have hcd : cds 228 = cd_228 := rfl
  refine c_in (Nat.le_of_ble_eq_true rfl) rfl rfl ?_
  show Ev X 228 0 [some (vR (some 170)), some (vI a1), none, none, none, none] [] σ Q
  iterate 2 (refine e_nx hcd rfl rfl ?_)
  show Ev X 228 2 [some (vR (some 170)), some (vI a1), some (vI 0), none, none, none] [] _ Q
  iterate 2 (refine e_nx hcd rfl rfl ?_)
  show Ev X 228 4 [some (vR (some 170)), some (vI a1), some (vI 0), some (vI 0), none, none] [] _ Q
  exact H
theorem v_228_4 {X : PX} {σ : Sg} {Q : Option PV → Sg → Prop} {x1 : Int} {x2 : Int} {x3 : Int}  (H : InR x3 ∧ InR (σ.1 170 12) ∧ (σ.1 170 12 ≤ x3 → Q (some (vI x2)) σ) ∧ (¬ σ.1 170 12 ≤ x3 → Ev X 228 12 [some (vR (some 170)), some (vI x1), some (vI x2), some (vI x3), some (vI 1), some (vI 0)] [] σ Q)) : Ev X 228 4 [some (vR (some 170)), some (vI x1), some (vI x2), some (vI x3), none, none] [] σ Q := by
  have hcd : cds 228 = cd_228 := rfl
  iterate 2 (refine e_nx hcd rfl rfl ?_)
  refine r_getI hcd rfl rfl rfl ?_
  obtain ⟨h1, H⟩ := H
  obtain ⟨h2, H⟩ := H
  refine r_icmp hcd rfl h1 h2 (fun hc => ?_) (fun hc => ?_)
  · replace H := H.1 hc
    refine e_nx hcd rfl rfl ?_
    exact r_iret hcd rfl rfl rfl H
  · replace H := H.2 hc
    iterate 2 (refine e_nx hcd rfl rfl ?_)
    show Ev X 228 10 [some (vR (some 170)), some (vI x1), some (vI x2), some (vI x3), some (vI 1), none] [] _ Q
    iterate 2 (refine e_nx hcd rfl rfl ?_)
    show Ev X 228 12 [some (vR (some 170)), some (vI x1), some (vI x2), some (vI x3), some (vI 1), some (vI 0)] [] _ Q
    exact H
set_option maxRecDepth 20000 in
set_option maxHeartbeats 8000000 in
theorem v_228_12 {X : PX} {σ : Sg} {Q : Option PV → Sg → Prop} {x1 : Int} {x2 : Int} {x3 : Int} {x4 : Int} {x5 : Int}  (H : InR x5 ∧ InR (σ.1 170 13) ∧ (σ.1 170 13 ≤ x5 → InR x1 ∧ (x1 = 0 → InR x4 ∧ (x4 = 0 → Ev X 228 4 [some (vR (some 170)), some (vI x1), some (vI (iOr x2 0)), some (vI (x3 + 1)), none, none] [] σ Q) ∧ (¬ x4 = 0 → Ev X 228 4 [some (vR (some 170)), some (vI x1), some (vI (iOr x2 (iShl 1 x3))), some (vI (x3 + 1)), none, none] [] σ Q)) ∧ (¬ x1 = 0 → CI X 227 [vR (some 170), vI x3] σ (fun r5 τ1 => InR (iAnd (iShr r5 x3) 1) ∧ (iAnd (iShr r5 x3) 1 ≠ 1 → Ev X 228 4 [some (vR (some 170)), some (vI x1), some (vI (iOr x2 0)), some (vI (x3 + 1)), none, none] [] τ1 Q) ∧ (¬ iAnd (iShr r5 x3) 1 ≠ 1 → Ev X 228 4 [some (vR (some 170)), some (vI x1), some (vI (iOr x2 (iShl 1 x3))), some (vI (x3 + 1)), none, none] [] τ1 Q)))) ∧ (¬ σ.1 170 13 ≤ x5 → InR x4 ∧ (x4 = 0 → Ev X 228 12 [some (vR (some 170)), some (vI x1), some (vI x2), some (vI x3), some (vI 0), some (vI (x5 + 1))] [] σ Q) ∧ (¬ x4 = 0 → CI X 194 [vR (some 170), vI x5, vI 0] σ (fun r8 τ2 => InR r8 ∧ InR x3 ∧ (r8 = x3 → Ev X 228 12 [some (vR (some 170)), some (vI x1), some (vI x2), some (vI x3), some (vI 0), some (vI (x5 + 1))] [] τ2 Q) ∧ (¬ r8 = x3 → Ev X 228 12 [some (vR (some 170)), some (vI x1), some (vI x2), some (vI x3), some (vI 1), some (vI (x5 + 1))] [] τ2 Q))))) : Ev X 228 12 [some (vR (some 170)), some (vI x1), some (vI x2), some (vI x3), some (vI x4), some (vI x5)] [] σ Q := by
  have hcd : cds 228 = cd_228 := rfl
  iterate 2 (refine e_nx hcd rfl rfl ?_)
  refine r_getI hcd rfl rfl rfl ?_
  obtain ⟨h1, H⟩ := H
  obtain ⟨h2, H⟩ := H
  refine r_icmp hcd rfl h1 h2 (fun hc => ?_) (fun hc => ?_)
  · replace H := H.1 hc
    iterate 2 (refine e_nx hcd rfl rfl ?_)
    obtain ⟨h3, H⟩ := H
    refine r_if hcd rfl h3 (fun hc => ?_) (fun hc => ?_)
    · replace H := H.1 hc
      refine e_nx hcd rfl rfl ?_
      obtain ⟨h4, H⟩ := H
      refine r_if hcd rfl h4 (fun hc => ?_) (fun hc => ?_)
      · replace H := H.1 hc
        iterate 3 (refine e_nx hcd rfl rfl ?_)
        show Ev X 228 52 [some (vR (some 170)), some (vI x1), some (vI (iOr x2 0)), some (vI x3), some (vI x4), some (vI x5)] [] _ Q
        refine e_nx hcd rfl rfl ?_
        show Ev X 228 53 [some (vR (some 170)), some (vI x1), some (vI (iOr x2 0)), some (vI (x3 + 1)), some (vI x4), some (vI x5)] [] _ Q
        refine e_nx hcd rfl rfl ?_
        refine e_fg [4, 5] ?_
        exact H
      · replace H := H.2 hc
        iterate 6 (refine e_nx hcd rfl rfl ?_)
        show Ev X 228 52 [some (vR (some 170)), some (vI x1), some (vI (iOr x2 (iShl 1 x3))), some (vI x3), some (vI x4), some (vI x5)] [] _ Q
        refine e_nx hcd rfl rfl ?_
        show Ev X 228 53 [some (vR (some 170)), some (vI x1), some (vI (iOr x2 (iShl 1 x3))), some (vI (x3 + 1)), some (vI x4), some (vI x5)] [] _ Q
        refine e_nx hcd rfl rfl ?_
        refine e_fg [4, 5] ?_
        exact H
    · replace H := H.2 hc
      iterate 2 (refine e_nx hcd rfl rfl ?_)
      refine r_cv hcd rfl (by omega) rfl rfl rfl (Nat.le_of_ble_eq_true rfl) ?_
      refine Cl.mono H (fun v τ1 hq => ?_)
      obtain ⟨r5, rfl, H⟩ := hq
      show Ev X 228 36 _ [vI r5, vI x2] τ1 Q
      iterate 5 (refine e_nx hcd rfl rfl ?_)
      obtain ⟨h6, H⟩ := H
      refine r_icmp hcd rfl h6 (by omega) (fun hc => ?_) (fun hc => ?_)
      · replace H := H.1 hc
        iterate 3 (refine e_nx hcd rfl rfl ?_)
        show Ev X 228 52 [some (vR (some 170)), some (vI x1), some (vI (iOr x2 0)), some (vI x3), some (vI x4), some (vI x5)] [] _ Q
        refine e_nx hcd rfl rfl ?_
        show Ev X 228 53 [some (vR (some 170)), some (vI x1), some (vI (iOr x2 0)), some (vI (x3 + 1)), some (vI x4), some (vI x5)] [] _ Q
        refine e_nx hcd rfl rfl ?_
        refine e_fg [4, 5] ?_
        exact H
      · replace H := H.2 hc
        iterate 7 (refine e_nx hcd rfl rfl ?_)
        show Ev X 228 52 [some (vR (some 170)), some (vI x1), some (vI (iOr x2 (iShl 1 x3))), some (vI x3), some (vI x4), some (vI x5)] [] _ Q
        refine e_nx hcd rfl rfl ?_
        show Ev X 228 53 [some (vR (some 170)), some (vI x1), some (vI (iOr x2 (iShl 1 x3))), some (vI (x3 + 1)), some (vI x4), some (vI x5)] [] _ Q
        refine e_nx hcd rfl rfl ?_
        refine e_fg [4, 5] ?_
        exact H
  · replace H := H.2 hc
    refine e_nx hcd rfl rfl ?_
    obtain ⟨h7, H⟩ := H
    refine r_if hcd rfl h7 (fun hc => ?_) (fun hc => ?_)
    · replace H := H.1 hc
      iterate 2 (refine e_nx hcd rfl rfl ?_)
      show Ev X 228 28 [some (vR (some 170)), some (vI x1), some (vI x2), some (vI x3), some (vI 0), some (vI x5)] [] _ Q
      refine e_nx hcd rfl rfl ?_
      show Ev X 228 29 [some (vR (some 170)), some (vI x1), some (vI x2), some (vI x3), some (vI 0), some (vI (x5 + 1))] [] _ Q
      refine e_nx hcd rfl rfl ?_
      exact H
    · replace H := H.2 hc
      iterate 3 (refine e_nx hcd rfl rfl ?_)
      refine r_cv hcd rfl (by omega) rfl rfl rfl (Nat.le_of_ble_eq_true rfl) ?_
      refine Cl.mono H (fun v τ2 hq => ?_)
      obtain ⟨r8, rfl, H⟩ := hq
      show Ev X 228 22 _ [vI r8] τ2 Q
      refine e_nx hcd rfl rfl ?_
      obtain ⟨h9, H⟩ := H
      obtain ⟨h10, H⟩ := H
      refine r_icmp hcd rfl h9 h10 (fun hc => ?_) (fun hc => ?_)
      · replace H := H.1 hc
        iterate 2 (refine e_nx hcd rfl rfl ?_)
        show Ev X 228 28 [some (vR (some 170)), some (vI x1), some (vI x2), some (vI x3), some (vI 0), some (vI x5)] [] _ Q
        refine e_nx hcd rfl rfl ?_
        show Ev X 228 29 [some (vR (some 170)), some (vI x1), some (vI x2), some (vI x3), some (vI 0), some (vI (x5 + 1))] [] _ Q
        refine e_nx hcd rfl rfl ?_
        exact H
      · replace H := H.2 hc
        iterate 3 (refine e_nx hcd rfl rfl ?_)
        show Ev X 228 28 [some (vR (some 170)), some (vI x1), some (vI x2), some (vI x3), some (vI 1), some (vI x5)] [] _ Q
        refine e_nx hcd rfl rfl ?_
        show Ev X 228 29 [some (vR (some 170)), some (vI x1), some (vI x2), some (vI x3), some (vI 1), some (vI (x5 + 1))] [] _ Q
        refine e_nx hcd rfl rfl ?_
        exact H
/-! X12_rankBy -/
set_option maxRecDepth 20000 in
set_option maxHeartbeats 8000000 in
theorem v_229 {X : PX} {σ : Sg} {Q : Option PV → Sg → Prop} {a1 : Int}  (H : CI X 194 [vR (some 170), vI a1, vI 1] σ (fun r1 τ1 => (0 ≤ r1 ∧ r1 < 7) ∧ CI X 194 [vR (some 170), vI a1, vI 2] τ1 (fun r3 τ2 => InR r3 ∧ (r3 ≠ (-1) → CI X 194 [vR (some 170), vI a1, vI 2] τ2 (fun r5 τ3 => (0 ≤ r5 ∧ r5 < 7) ∧ InR (τ1.2 179 r1.toNat) ∧ (τ1.2 179 r1.toNat = (-1) → Q (some (vI 99999999)) τ3) ∧ (¬ τ1.2 179 r1.toNat = (-1) → InR (τ3.2 179 r5.toNat) ∧ (τ3.2 179 r5.toNat ≠ (-1) → (τ1.2 179 r1.toNat ≤ τ3.2 179 r5.toNat → Q (some (vI (1 + (τ3.2 179 r5.toNat)))) τ3) ∧ (¬ τ1.2 179 r1.toNat ≤ τ3.2 179 r5.toNat → Q (some (vI (1 + (τ1.2 179 r1.toNat)))) τ3)) ∧ (¬ τ3.2 179 r5.toNat ≠ (-1) → Q (some (vI 99999999)) τ3)))) ∧ (¬ r3 ≠ (-1) → InR (τ1.2 179 r1.toNat) ∧ (τ1.2 179 r1.toNat = (-1) → Q (some (vI 99999999)) τ2) ∧ (¬ τ1.2 179 r1.toNat = (-1) → (τ1.2 179 r1.toNat ≠ (-1) → (τ1.2 179 r1.toNat ≤ τ1.2 179 r1.toNat → Q (some (vI (1 + (τ1.2 179 r1.toNat)))) τ2) ∧ (¬ τ1.2 179 r1.toNat ≤ τ1.2 179 r1.toNat → Q (some (vI (1 + (τ1.2 179 r1.toNat)))) τ2)) ∧ (¬ τ1.2 179 r1.toNat ≠ (-1) → Q (some (vI 99999999)) τ2)))))) : Cl X 229 [vR (some 170), vI a1] σ Q := by
  have hcd : cds 229 = cd_229 := rfl
  refine c_in (Nat.le_of_ble_eq_true rfl) rfl rfl ?_
  show Ev X 229 0 [some (vR (some 170)), some (vI a1), none, none] [] σ Q
  refine e_nx hcd rfl rfl ?_
  refine r_getR hcd rfl rfl rfl ?_
  iterate 3 (refine e_nx hcd rfl rfl ?_)
  refine r_cv hcd rfl (by omega) rfl rfl rfl (Nat.le_of_ble_eq_true rfl) ?_
  refine Cl.mono H (fun v τ1 hq => ?_)
  obtain ⟨r1, rfl, H⟩ := hq
  show Ev X 229 6 _ [vI r1, vR (some 179)] τ1 Q
  obtain ⟨h2, H⟩ := H
  refine r_ild hcd rfl rfl (by omega) h2 ?_
  refine e_nx hcd rfl rfl ?_
  show Ev X 229 8 [some (vR (some 170)), some (vI a1), some (vI (τ1.2 179 r1.toNat)), none] [] _ Q
  iterate 3 (refine e_nx hcd rfl rfl ?_)
  refine r_cv hcd rfl (by omega) rfl rfl rfl (Nat.le_of_ble_eq_true rfl) ?_
  refine Cl.mono H (fun v τ2 hq => ?_)
  obtain ⟨r3, rfl, H⟩ := hq
  show Ev X 229 12 _ [vI r3] τ2 Q
  refine e_nx hcd rfl rfl ?_
  obtain ⟨h4, H⟩ := H
  refine r_icmp hcd rfl h4 (by omega) (fun hc => ?_) (fun hc => ?_)
  · replace H := H.1 hc
    refine e_nx hcd rfl rfl ?_
    refine r_getR hcd rfl rfl rfl ?_
    iterate 3 (refine e_nx hcd rfl rfl ?_)
    refine r_cv hcd rfl (by omega) rfl rfl rfl (Nat.le_of_ble_eq_true rfl) ?_
    refine Cl.mono H (fun v τ3 hq => ?_)
    obtain ⟨r5, rfl, H⟩ := hq
    show Ev X 229 22 _ [vI r5, vR (some 179)] τ3 Q
    obtain ⟨h6, H⟩ := H
    refine r_ild hcd rfl rfl (by omega) h6 ?_
    refine e_nx hcd rfl rfl ?_
    show Ev X 229 24 [some (vR (some 170)), some (vI a1), some (vI (τ1.2 179 r1.toNat)), some (vI (τ3.2 179 r5.toNat))] [] _ Q
    iterate 2 (refine e_nx hcd rfl rfl ?_)
    obtain ⟨h7, H⟩ := H
    refine r_icmp hcd rfl h7 (by omega) (fun hc => ?_) (fun hc => ?_)
    · replace H := H.1 hc
      refine e_nx hcd rfl rfl ?_
      exact r_iret hcd rfl rfl rfl H
    · replace H := H.2 hc
      iterate 2 (refine e_nx hcd rfl rfl ?_)
      obtain ⟨h8, H⟩ := H
      refine r_icmp hcd rfl h8 (by omega) (fun hc => ?_) (fun hc => ?_)
      · replace H := H.1 hc
        iterate 3 (refine e_nx hcd rfl rfl ?_)
        refine r_icmp hcd rfl h7 h8 (fun hc => ?_) (fun hc => ?_)
        · replace H := H.1 hc
          iterate 2 (refine e_nx hcd rfl rfl ?_)
          exact r_iret hcd rfl rfl rfl H
        · replace H := H.2 hc
          iterate 3 (refine e_nx hcd rfl rfl ?_)
          exact r_iret hcd rfl rfl rfl H
      · replace H := H.2 hc
        refine e_nx hcd rfl rfl ?_
        exact r_iret hcd rfl rfl rfl H
  · replace H := H.2 hc
    iterate 3 (refine e_nx hcd rfl rfl ?_)
    show Ev X 229 24 [some (vR (some 170)), some (vI a1), some (vI (τ1.2 179 r1.toNat)), some (vI (τ1.2 179 r1.toNat))] [] _ Q
    iterate 2 (refine e_nx hcd rfl rfl ?_)
    obtain ⟨h9, H⟩ := H
    refine r_icmp hcd rfl h9 (by omega) (fun hc => ?_) (fun hc => ?_)
    · replace H := H.1 hc
      refine e_nx hcd rfl rfl ?_
      exact r_iret hcd rfl rfl rfl H
    · replace H := H.2 hc
      iterate 2 (refine e_nx hcd rfl rfl ?_)
      refine r_icmp hcd rfl h9 (by omega) (fun hc => ?_) (fun hc => ?_)
      · replace H := H.1 hc
        iterate 3 (refine e_nx hcd rfl rfl ?_)
        refine r_icmp hcd rfl h9 h9 (fun hc => ?_) (fun hc => ?_)
        · replace H := H.1 hc
          iterate 2 (refine e_nx hcd rfl rfl ?_)
          exact r_iret hcd rfl rfl rfl H
        · replace H := H.2 hc
          iterate 3 (refine e_nx hcd rfl rfl ?_)
          exact r_iret hcd rfl rfl rfl H
      · replace H := H.2 hc
        refine e_nx hcd rfl rfl ?_
        exact r_iret hcd rfl rfl rfl H
/-! X12_laysRanks -/
theorem v_230 {X : PX} {σ : Sg} {Q : Option PV → Sg → Prop}   (H : Ev X 230 2 [some (vR (some 170)), some (vI 0), none, none, none] [] σ Q) : Cl X 230 [vR (some 170)] σ Q := by
  have hcd : cds 230 = cd_230 := rfl
  refine c_in (Nat.le_of_ble_eq_true rfl) rfl rfl ?_
  show Ev X 230 0 [some (vR (some 170)), none, none, none, none] [] σ Q
  iterate 2 (refine e_nx hcd rfl rfl ?_)
  show Ev X 230 2 [some (vR (some 170)), some (vI 0), none, none, none] [] _ Q
  exact H
theorem v_230_2 {X : PX} {σ : Sg} {Q : Option PV → Sg → Prop} {x1 : Int}  (H : InR x1 ∧ (7 ≤ x1 → Ev X 230 24 [some (vR (some 170)), some (vI 1), none, none, none] [] σ Q) ∧ (¬ 7 ≤ x1 → InR (iAnd (iShr (σ.1 170 16) x1) 1) ∧ (iAnd (iShr (σ.1 170 16) x1) 1 ≠ 1 → (0 ≤ x1 ∧ x1 < 7) ∧ Ev X 230 2 [some (vR (some 170)), some (vI (x1 + 1)), none, none, none] [] (σ.1, up2 σ.2 179 x1.toNat (-1)) Q) ∧ (¬ iAnd (iShr (σ.1 170 16) x1) 1 ≠ 1 → (0 ≤ x1 ∧ x1 < 7) ∧ Ev X 230 2 [some (vR (some 170)), some (vI (x1 + 1)), none, none, none] [] (σ.1, up2 σ.2 179 x1.toNat 0) Q))) : Ev X 230 2 [some (vR (some 170)), some (vI x1), none, none, none] [] σ Q := by
  have hcd : cds 230 = cd_230 := rfl
  iterate 2 (refine e_nx hcd rfl rfl ?_)
  obtain ⟨h1, H⟩ := H
  refine r_icmp hcd rfl h1 (by omega) (fun hc => ?_) (fun hc => ?_)
  · replace H := H.1 hc
    iterate 2 (refine e_nx hcd rfl rfl ?_)
    show Ev X 230 24 [some (vR (some 170)), some (vI 1), none, none, none] [] _ Q
    exact H
  · replace H := H.2 hc
    refine e_nx hcd rfl rfl ?_
    refine r_getR hcd rfl rfl rfl ?_
    iterate 2 (refine e_nx hcd rfl rfl ?_)
    refine r_getI hcd rfl rfl rfl ?_
    iterate 5 (refine e_nx hcd rfl rfl ?_)
    obtain ⟨h2, H⟩ := H
    refine r_icmp hcd rfl h2 (by omega) (fun hc => ?_) (fun hc => ?_)
    · replace H := H.1 hc
      refine e_nx hcd rfl rfl ?_
      obtain ⟨h3, H⟩ := H
      refine r_ist hcd rfl rfl (by omega) h3 ?_
      refine e_nx hcd rfl rfl ?_
      show Ev X 230 21 [some (vR (some 170)), some (vI (x1 + 1)), none, none, none] [] _ Q
      refine e_nx hcd rfl rfl ?_
      exact H
    · replace H := H.2 hc
      iterate 2 (refine e_nx hcd rfl rfl ?_)
      obtain ⟨h4, H⟩ := H
      refine r_ist hcd rfl rfl (by omega) h4 ?_
      refine e_nx hcd rfl rfl ?_
      show Ev X 230 21 [some (vR (some 170)), some (vI (x1 + 1)), none, none, none] [] _ Q
      refine e_nx hcd rfl rfl ?_
      exact H
theorem v_230_24 {X : PX} {σ : Sg} {Q : Option PV → Sg → Prop} {x1 : Int}  (H : InR x1 ∧ (x1 = 0 → Q none σ) ∧ (¬ x1 = 0 → Ev X 230 30 [some (vR (some 170)), some (vI 0), some (vI 0), none, none] [] σ Q)) : Ev X 230 24 [some (vR (some 170)), some (vI x1), none, none, none] [] σ Q := by
  have hcd : cds 230 = cd_230 := rfl
  refine e_nx hcd rfl rfl ?_
  obtain ⟨h1, H⟩ := H
  refine r_if hcd rfl h1 (fun hc => ?_) (fun hc => ?_)
  · replace H := H.1 hc
    exact r_vret hcd rfl rfl rfl H
  · replace H := H.2 hc
    iterate 2 (refine e_nx hcd rfl rfl ?_)
    show Ev X 230 28 [some (vR (some 170)), some (vI 0), none, none, none] [] _ Q
    iterate 2 (refine e_nx hcd rfl rfl ?_)
    show Ev X 230 30 [some (vR (some 170)), some (vI 0), some (vI 0), none, none] [] _ Q
    exact H
set_option maxRecDepth 20000 in
set_option maxHeartbeats 8000000 in
theorem v_230_30 {X : PX} {σ : Sg} {Q : Option PV → Sg → Prop} {x1 : Int} {x2 : Int}  (H : InR x2 ∧ InR (σ.1 170 13) ∧ (σ.1 170 13 ≤ x2 → Ev X 230 24 [some (vR (some 170)), some (vI x1), none, none, none] [] σ Q) ∧ (¬ σ.1 170 13 ≤ x2 → CI X 194 [vR (some 170), vI x2, vI 0] σ (fun r3 τ1 => CI X 229 [vR (some 170), vI x2] τ1 (fun r4 τ2 => InR r4 ∧ (r4 = 99999999 → Ev X 230 30 [some (vR (some 170)), some (vI x1), some (vI (x2 + 1)), none, none] [] τ2 Q) ∧ (¬ r4 = 99999999 → (0 ≤ r3 ∧ r3 < 7) ∧ InR (τ2.2 179 r3.toNat) ∧ (τ2.2 179 r3.toNat = (-1) → Ev X 230 30 [some (vR (some 170)), some (vI 1), some (vI (x2 + 1)), none, none] [] (τ2.1, up2 τ2.2 179 r3.toNat r4) Q) ∧ (¬ τ2.2 179 r3.toNat = (-1) → (r4 < τ2.2 179 r3.toNat → Ev X 230 30 [some (vR (some 170)), some (vI 1), some (vI (x2 + 1)), none, none] [] (τ2.1, up2 τ2.2 179 r3.toNat r4) Q) ∧ (¬ r4 < τ2.2 179 r3.toNat → Ev X 230 30 [some (vR (some 170)), some (vI x1), some (vI (x2 + 1)), none, none] [] τ2 Q))))))) : Ev X 230 30 [some (vR (some 170)), some (vI x1), some (vI x2), none, none] [] σ Q := by
  have hcd : cds 230 = cd_230 := rfl
  iterate 2 (refine e_nx hcd rfl rfl ?_)
  refine r_getI hcd rfl rfl rfl ?_
  obtain ⟨h1, H⟩ := H
  obtain ⟨h2, H⟩ := H
  refine r_icmp hcd rfl h1 h2 (fun hc => ?_) (fun hc => ?_)
  · replace H := H.1 hc
    refine e_nx hcd rfl rfl ?_
    refine e_fg [2] ?_
    exact H
  · replace H := H.2 hc
    iterate 3 (refine e_nx hcd rfl rfl ?_)
    refine r_cv hcd rfl (by omega) rfl rfl rfl (Nat.le_of_ble_eq_true rfl) ?_
    refine Cl.mono H (fun v τ1 hq => ?_)
    obtain ⟨r3, rfl, H⟩ := hq
    show Ev X 230 38 _ [vI r3] τ1 Q
    refine e_nx hcd rfl rfl ?_
    show Ev X 230 39 [some (vR (some 170)), some (vI x1), some (vI x2), some (vI r3), none] [] _ Q
    iterate 2 (refine e_nx hcd rfl rfl ?_)
    refine r_cv hcd rfl (by omega) rfl rfl rfl (Nat.le_of_ble_eq_true rfl) ?_
    refine Cl.mono H (fun v τ2 hq => ?_)
    obtain ⟨r4, rfl, H⟩ := hq
    show Ev X 230 42 _ [vI r4] τ2 Q
    refine e_nx hcd rfl rfl ?_
    show Ev X 230 43 [some (vR (some 170)), some (vI x1), some (vI x2), some (vI r3), some (vI r4)] [] _ Q
    iterate 2 (refine e_nx hcd rfl rfl ?_)
    obtain ⟨h5, H⟩ := H
    refine r_icmp hcd rfl h5 (by omega) (fun hc => ?_) (fun hc => ?_)
    · replace H := H.1 hc
      refine e_nx hcd rfl rfl ?_
      show Ev X 230 67 [some (vR (some 170)), some (vI x1), some (vI (x2 + 1)), some (vI r3), some (vI r4)] [] _ Q
      refine e_nx hcd rfl rfl ?_
      refine e_fg [3, 4] ?_
      exact H
    · replace H := H.2 hc
      refine e_nx hcd rfl rfl ?_
      refine r_getR hcd rfl rfl rfl ?_
      refine e_nx hcd rfl rfl ?_
      obtain ⟨h6, H⟩ := H
      refine r_ild hcd rfl rfl (by omega) h6 ?_
      refine e_nx hcd rfl rfl ?_
      obtain ⟨h7, H⟩ := H
      refine r_icmp hcd rfl h7 (by omega) (fun hc => ?_) (fun hc => ?_)
      · replace H := H.1 hc
        refine e_nx hcd rfl rfl ?_
        refine r_getR hcd rfl rfl rfl ?_
        iterate 2 (refine e_nx hcd rfl rfl ?_)
        refine r_ist hcd rfl rfl (by omega) h6 ?_
        iterate 2 (refine e_nx hcd rfl rfl ?_)
        show Ev X 230 66 [some (vR (some 170)), some (vI 1), some (vI x2), some (vI r3), some (vI r4)] [] _ Q
        refine e_nx hcd rfl rfl ?_
        show Ev X 230 67 [some (vR (some 170)), some (vI 1), some (vI (x2 + 1)), some (vI r3), some (vI r4)] [] _ Q
        refine e_nx hcd rfl rfl ?_
        refine e_fg [3, 4] ?_
        exact H
      · replace H := H.2 hc
        refine e_nx hcd rfl rfl ?_
        refine r_getR hcd rfl rfl rfl ?_
        refine e_nx hcd rfl rfl ?_
        refine r_ild hcd rfl rfl (by omega) h6 ?_
        refine e_nx hcd rfl rfl ?_
        refine r_icmp hcd rfl h7 h5 (fun hc => ?_) (fun hc => ?_)
        · replace H := H.1 hc
          refine e_nx hcd rfl rfl ?_
          refine r_getR hcd rfl rfl rfl ?_
          iterate 2 (refine e_nx hcd rfl rfl ?_)
          refine r_ist hcd rfl rfl (by omega) h6 ?_
          iterate 2 (refine e_nx hcd rfl rfl ?_)
          show Ev X 230 66 [some (vR (some 170)), some (vI 1), some (vI x2), some (vI r3), some (vI r4)] [] _ Q
          refine e_nx hcd rfl rfl ?_
          show Ev X 230 67 [some (vR (some 170)), some (vI 1), some (vI (x2 + 1)), some (vI r3), some (vI r4)] [] _ Q
          refine e_nx hcd rfl rfl ?_
          refine e_fg [3, 4] ?_
          exact H
        · replace H := H.2 hc
          iterate 2 (refine e_nx hcd rfl rfl ?_)
          show Ev X 230 67 [some (vR (some 170)), some (vI x1), some (vI (x2 + 1)), some (vI r3), some (vI r4)] [] _ Q
          refine e_nx hcd rfl rfl ?_
          refine e_fg [3, 4] ?_
          exact H
/-! X12_chief -/
set_option maxRecDepth 20000 in
set_option maxHeartbeats 8000000 in
theorem v_231 {X : PX} {σ : Sg} {Q : Option PV → Sg → Prop} {a1 : Int} {a2 : Int}  (H : CI X 189 [vR (some 170), vI a1] σ (fun r1 τ1 => InR r1 ∧ (r1 ≠ 0 → InR a2 ∧ (a2 = 0 → CI X 223 [vR (some 170)] τ1 (fun r4 τ2 => Q (some (vI r4)) τ2)) ∧ (a2 = 1 → InR (τ1.1 170 12) ∧ (τ1.1 170 12 ≠ 0 → CI X 223 [vR (some 170)] τ1 (fun r6 τ3 => CI X 197 [vR (some 170), vI (iShl 1 r6)] τ3 (fun r7 τ4 => CI X 195 [vI r7] τ4 (fun r8 τ5 => Q (some (vI r8)) τ5)))) ∧ (¬ τ1.1 170 12 ≠ 0 → Q (some (vI 0)) τ1)) ∧ (a2 = 2 → CI X 224 [vR (some 170)] τ1 (fun r9 τ6 => Q (some (vI r9)) τ6)) ∧ (a2 = 3 → CI X 226 [vR (some 170)] τ1 (fun r10 τ7 => Q (some (vI r10)) τ7)) ∧ (a2 = 4 → (a2 ≠ 4 → CI X 228 [vR (some 170), vI 0] τ1 (fun r11 τ8 => Q (some (vI r11)) τ8)) ∧ (¬ a2 ≠ 4 → CI X 228 [vR (some 170), vI 1] τ1 (fun r12 τ9 => Q (some (vI r12)) τ9))) ∧ (a2 = 5 → (a2 ≠ 4 → CI X 228 [vR (some 170), vI 0] τ1 (fun r13 τ10 => Q (some (vI r13)) τ10)) ∧ (¬ a2 ≠ 4 → CI X 228 [vR (some 170), vI 1] τ1 (fun r14 τ11 => Q (some (vI r14)) τ11))) ∧ (a2 = 6 → CV X 230 [vR (some 170)] τ1 (fun τ12 => Ev X 231 48 [some (vR (some 170)), none, none, some (vI (-1)), some (vI 0)] [] τ12 Q)) ∧ (a2 ≠ 0 ∧ a2 ≠ 1 ∧ a2 ≠ 2 ∧ a2 ≠ 3 ∧ a2 ≠ 4 ∧ a2 ≠ 5 ∧ a2 ≠ 6 → Q (some (vI (-2))) τ1)) ∧ (¬ r1 ≠ 0 → Q (some (vI (-2))) τ1))) : Cl X 231 [vR (some 170), vI a1, vI a2] σ Q := by
  have hcd : cds 231 = cd_231 := rfl
  refine c_in (Nat.le_of_ble_eq_true rfl) rfl rfl ?_
  show Ev X 231 0 [some (vR (some 170)), some (vI a1), some (vI a2), none, none] [] σ Q
  iterate 2 (refine e_nx hcd rfl rfl ?_)
  refine r_cv hcd rfl (by omega) rfl rfl rfl (Nat.le_of_ble_eq_true rfl) ?_
  refine Cl.mono H (fun v τ1 hq => ?_)
  obtain ⟨r1, rfl, H⟩ := hq
  show Ev X 231 3 _ [vI r1] τ1 Q
  obtain ⟨h2, H⟩ := H
  refine r_if hcd rfl h2 (fun hc => ?_) (fun hc => ?_)
  · replace H := H.1 hc
    refine e_nx hcd rfl rfl ?_
    obtain ⟨h3, H⟩ := H
    refine r_tab hcd rfl h3 ?_
    by_cases hs15 : a2 = 0
    · replace H := H.1 hs15
      refine e_pc (i2 := 8) (by rw [hs15]; rfl) ?_
      refine e_nx hcd rfl rfl ?_
      refine r_cv hcd rfl (by omega) rfl rfl rfl (Nat.le_of_ble_eq_true rfl) ?_
      refine Cl.mono H (fun v τ2 hq => ?_)
      obtain ⟨r4, rfl, H⟩ := hq
      show Ev X 231 10 _ [vI r4] τ2 Q
      exact r_iret hcd rfl rfl rfl H
    by_cases hs16 : a2 = 1
    · replace H := H.2.1 hs16
      refine e_pc (i2 := 11) (by rw [hs16]; rfl) ?_
      refine e_nx hcd rfl rfl ?_
      refine r_getI hcd rfl rfl rfl ?_
      obtain ⟨h5, H⟩ := H
      refine r_if hcd rfl h5 (fun hc => ?_) (fun hc => ?_)
      · replace H := H.1 hc
        iterate 3 (refine e_nx hcd rfl rfl ?_)
        refine r_cv hcd rfl (by omega) rfl rfl rfl (Nat.le_of_ble_eq_true rfl) ?_
        refine Cl.mono H (fun v τ3 hq => ?_)
        obtain ⟨r6, rfl, H⟩ := hq
        show Ev X 231 20 _ [vI r6, vI 1, vR (some 170)] τ3 Q
        refine e_nx hcd rfl rfl ?_
        refine r_cv hcd rfl (by omega) rfl rfl rfl (Nat.le_of_ble_eq_true rfl) ?_
        refine Cl.mono H (fun v τ4 hq => ?_)
        obtain ⟨r7, rfl, H⟩ := hq
        show Ev X 231 22 _ [vI r7] τ4 Q
        refine r_cs hcd rfl (by omega) (Nat.le_of_ble_eq_true rfl) rfl rfl (Nat.le_of_ble_eq_true rfl) ?_
        refine Cl.mono H (fun v τ5 hq => ?_)
        obtain ⟨r8, rfl, H⟩ := hq
        show Ev X 231 23 _ [vI r8] τ5 Q
        exact r_iret hcd rfl rfl rfl H
      · replace H := H.2 hc
        iterate 2 (refine e_nx hcd rfl rfl ?_)
        exact r_iret hcd rfl rfl rfl H
    by_cases hs17 : a2 = 2
    · replace H := H.2.2.1 hs17
      refine e_pc (i2 := 24) (by rw [hs17]; rfl) ?_
      refine e_nx hcd rfl rfl ?_
      refine r_cv hcd rfl (by omega) rfl rfl rfl (Nat.le_of_ble_eq_true rfl) ?_
      refine Cl.mono H (fun v τ6 hq => ?_)
      obtain ⟨r9, rfl, H⟩ := hq
      show Ev X 231 26 _ [vI r9] τ6 Q
      exact r_iret hcd rfl rfl rfl H
    by_cases hs18 : a2 = 3
    · replace H := H.2.2.2.1 hs18
      refine e_pc (i2 := 27) (by rw [hs18]; rfl) ?_
      refine e_nx hcd rfl rfl ?_
      refine r_cv hcd rfl (by omega) rfl rfl rfl (Nat.le_of_ble_eq_true rfl) ?_
      refine Cl.mono H (fun v τ7 hq => ?_)
      obtain ⟨r10, rfl, H⟩ := hq
      show Ev X 231 29 _ [vI r10] τ7 Q
      exact r_iret hcd rfl rfl rfl H
    by_cases hs19 : a2 = 4
    · replace H := H.2.2.2.2.1 hs19
      refine e_pc (i2 := 30) (by rw [hs19]; rfl) ?_
      iterate 3 (refine e_nx hcd rfl rfl ?_)
      refine r_icmp hcd rfl h3 (by omega) (fun hc => ?_) (fun hc => ?_)
      · replace H := H.1 hc
        refine e_nx hcd rfl rfl ?_
        refine r_cv hcd rfl (by omega) rfl rfl rfl (Nat.le_of_ble_eq_true rfl) ?_
        refine Cl.mono H (fun v τ8 hq => ?_)
        obtain ⟨r11, rfl, H⟩ := hq
        show Ev X 231 38 _ [vI r11] τ8 Q
        exact r_iret hcd rfl rfl rfl H
      · replace H := H.2 hc
        iterate 2 (refine e_nx hcd rfl rfl ?_)
        refine r_cv hcd rfl (by omega) rfl rfl rfl (Nat.le_of_ble_eq_true rfl) ?_
        refine Cl.mono H (fun v τ9 hq => ?_)
        obtain ⟨r12, rfl, H⟩ := hq
        show Ev X 231 38 _ [vI r12] τ9 Q
        exact r_iret hcd rfl rfl rfl H
    by_cases hs20 : a2 = 5
    · replace H := H.2.2.2.2.2.1 hs20
      refine e_pc (i2 := 30) (by rw [hs20]; rfl) ?_
      iterate 3 (refine e_nx hcd rfl rfl ?_)
      refine r_icmp hcd rfl h3 (by omega) (fun hc => ?_) (fun hc => ?_)
      · replace H := H.1 hc
        refine e_nx hcd rfl rfl ?_
        refine r_cv hcd rfl (by omega) rfl rfl rfl (Nat.le_of_ble_eq_true rfl) ?_
        refine Cl.mono H (fun v τ10 hq => ?_)
        obtain ⟨r13, rfl, H⟩ := hq
        show Ev X 231 38 _ [vI r13] τ10 Q
        exact r_iret hcd rfl rfl rfl H
      · replace H := H.2 hc
        iterate 2 (refine e_nx hcd rfl rfl ?_)
        refine r_cv hcd rfl (by omega) rfl rfl rfl (Nat.le_of_ble_eq_true rfl) ?_
        refine Cl.mono H (fun v τ11 hq => ?_)
        obtain ⟨r14, rfl, H⟩ := hq
        show Ev X 231 38 _ [vI r14] τ11 Q
        exact r_iret hcd rfl rfl rfl H
    by_cases hs21 : a2 = 6
    · replace H := H.2.2.2.2.2.2.1 hs21
      refine e_pc (i2 := 39) (by rw [hs21]; rfl) ?_
      iterate 2 (refine e_nx hcd rfl rfl ?_)
      refine r_cv hcd rfl (by omega) rfl rfl rfl (Nat.le_of_ble_eq_true rfl) ?_
      refine Cl.mono H (fun v τ12 hq => ?_)
      obtain ⟨rfl, H⟩ := hq
      show Ev X 231 44 _ [] τ12 Q
      iterate 2 (refine e_nx hcd rfl rfl ?_)
      show Ev X 231 46 [some (vR (some 170)), some (vI a1), some (vI a2), some (vI (-1)), none] [] _ Q
      iterate 2 (refine e_nx hcd rfl rfl ?_)
      show Ev X 231 48 [some (vR (some 170)), some (vI a1), some (vI a2), some (vI (-1)), some (vI 0)] [] _ Q
      refine e_fg [1, 2] ?_
      exact H
    replace H := H.2.2.2.2.2.2.2 ⟨hs15, hs16, hs17, hs18, hs19, hs20, hs21⟩
    refine e_pc (i2 := 40) (tab_def (lo := 0) (hi := 6) (fun h1 h2 => ?_)) ?_
    · omega
    · refine e_nx hcd rfl rfl ?_
      exact r_iret hcd rfl rfl rfl H
  · replace H := H.2 hc
    refine e_nx hcd rfl rfl ?_
    exact r_iret hcd rfl rfl rfl H
theorem v_231_48 {X : PX} {σ : Sg} {Q : Option PV → Sg → Prop} {x3 : Int} {x4 : Int}  (H : InR x4 ∧ InR (σ.1 170 12) ∧ (σ.1 170 12 ≤ x4 → Q (some (vI x3)) σ) ∧ (¬ σ.1 170 12 ≤ x4 → (0 ≤ x4 ∧ x4 < 7) ∧ InR (σ.2 179 x4.toNat) ∧ InR x3 ∧ (σ.2 179 x4.toNat ≤ x3 → Ev X 231 48 [some (vR (some 170)), none, none, some (vI x3), some (vI (x4 + 1))] [] σ Q) ∧ (¬ σ.2 179 x4.toNat ≤ x3 → Ev X 231 48 [some (vR (some 170)), none, none, some (vI (σ.2 179 x4.toNat)), some (vI (x4 + 1))] [] σ Q))) : Ev X 231 48 [some (vR (some 170)), none, none, some (vI x3), some (vI x4)] [] σ Q := by
  have hcd : cds 231 = cd_231 := rfl
  iterate 2 (refine e_nx hcd rfl rfl ?_)
  refine r_getI hcd rfl rfl rfl ?_
  obtain ⟨h1, H⟩ := H
  obtain ⟨h2, H⟩ := H
  refine r_icmp hcd rfl h1 h2 (fun hc => ?_) (fun hc => ?_)
  · replace H := H.1 hc
    refine e_nx hcd rfl rfl ?_
    exact r_iret hcd rfl rfl rfl H
  · replace H := H.2 hc
    refine e_nx hcd rfl rfl ?_
    refine r_getR hcd rfl rfl rfl ?_
    refine e_nx hcd rfl rfl ?_
    obtain ⟨h3, H⟩ := H
    refine r_ild hcd rfl rfl (by omega) h3 ?_
    refine e_nx hcd rfl rfl ?_
    obtain ⟨h4, H⟩ := H
    obtain ⟨h5, H⟩ := H
    refine r_icmp hcd rfl h4 h5 (fun hc => ?_) (fun hc => ?_)
    · replace H := H.1 hc
      iterate 2 (refine e_nx hcd rfl rfl ?_)
      show Ev X 231 65 [some (vR (some 170)), none, none, some (vI x3), some (vI x4)] [] _ Q
      refine e_nx hcd rfl rfl ?_
      show Ev X 231 66 [some (vR (some 170)), none, none, some (vI x3), some (vI (x4 + 1))] [] _ Q
      refine e_nx hcd rfl rfl ?_
      exact H
    · replace H := H.2 hc
      refine e_nx hcd rfl rfl ?_
      refine r_getR hcd rfl rfl rfl ?_
      refine e_nx hcd rfl rfl ?_
      refine r_ild hcd rfl rfl (by omega) h3 ?_
      iterate 2 (refine e_nx hcd rfl rfl ?_)
      show Ev X 231 65 [some (vR (some 170)), none, none, some (vI (σ.2 179 x4.toNat)), some (vI x4)] [] _ Q
      refine e_nx hcd rfl rfl ?_
      show Ev X 231 66 [some (vR (some 170)), none, none, some (vI (σ.2 179 x4.toNat)), some (vI (x4 + 1))] [] _ Q
      refine e_nx hcd rfl rfl ?_
      exact H
/-! X12_rank -/
theorem v_232 {X : PX} {σ : Sg} {Q : Option PV → Sg → Prop} {a1 : Int} {a2 : Int}  (H : CI X 189 [vR (some 170), vI a1] σ (fun r1 τ1 => InR r1 ∧ (r1 = 0 → Q (some (vI (-1))) τ1) ∧ (¬ r1 = 0 → CI X 190 [vR (some 170), vI a2] τ1 (fun r3 τ2 => InR r3 ∧ (r3 ≠ 0 → CV X 230 [vR (some 170)] τ2 (fun τ3 => (0 ≤ a2 ∧ a2 < 7) ∧ Q (some (vI (τ3.2 179 a2.toNat))) τ3)) ∧ (¬ r3 ≠ 0 → Q (some (vI (-1))) τ2))))) : Cl X 232 [vR (some 170), vI a1, vI a2] σ Q := by
  have hcd : cds 232 = cd_232 := rfl
  refine c_in (Nat.le_of_ble_eq_true rfl) rfl rfl ?_
  show Ev X 232 0 [some (vR (some 170)), some (vI a1), some (vI a2)] [] σ Q
  iterate 2 (refine e_nx hcd rfl rfl ?_)
  refine r_cv hcd rfl (by omega) rfl rfl rfl (Nat.le_of_ble_eq_true rfl) ?_
  refine Cl.mono H (fun v τ1 hq => ?_)
  obtain ⟨r1, rfl, H⟩ := hq
  show Ev X 232 3 _ [vI r1] τ1 Q
  obtain ⟨h2, H⟩ := H
  refine r_if hcd rfl h2 (fun hc => ?_) (fun hc => ?_)
  · replace H := H.1 hc
    refine e_nx hcd rfl rfl ?_
    exact r_iret hcd rfl rfl rfl H
  · replace H := H.2 hc
    iterate 2 (refine e_nx hcd rfl rfl ?_)
    refine r_cv hcd rfl (by omega) rfl rfl rfl (Nat.le_of_ble_eq_true rfl) ?_
    refine Cl.mono H (fun v τ2 hq => ?_)
    obtain ⟨r3, rfl, H⟩ := hq
    show Ev X 232 7 _ [vI r3] τ2 Q
    obtain ⟨h4, H⟩ := H
    refine r_if hcd rfl h4 (fun hc => ?_) (fun hc => ?_)
    · replace H := H.1 hc
      refine e_nx hcd rfl rfl ?_
      refine r_cv hcd rfl (by omega) rfl rfl rfl (Nat.le_of_ble_eq_true rfl) ?_
      refine Cl.mono H (fun v τ3 hq => ?_)
      obtain ⟨rfl, H⟩ := hq
      show Ev X 232 12 _ [] τ3 Q
      refine e_nx hcd rfl rfl ?_
      refine r_getR hcd rfl rfl rfl ?_
      refine e_nx hcd rfl rfl ?_
      obtain ⟨h5, H⟩ := H
      refine r_ild hcd rfl rfl (by omega) h5 ?_
      exact r_iret hcd rfl rfl rfl H
    · replace H := H.2 hc
      refine e_nx hcd rfl rfl ?_
      exact r_iret hcd rfl rfl rfl H
/-! X12_harmOf -/
theorem v_233 {X : PX} {σ : Sg} {Q : Option PV → Sg → Prop} {a1 : Int} {a2 : Int}  (H : CV X 201 [vR (some 170)] σ (fun τ1 => (0 ≤ a2 ∧ a2 < 7) ∧ CV X 199 [vR (some 170)] (up2 τ1.1 170 16 (iOr (τ1.1 170 16) (iShl 1 a1)), τ1.2) (fun τ2 => Q (some (vI ((τ2.2 175 a2.toNat) - (τ1.2 175 a2.toNat)))) τ2))) : Cl X 233 [vR (some 170), vI a1, vI a2] σ Q := by
  have hcd : cds 233 = cd_233 := rfl
  refine c_in (Nat.le_of_ble_eq_true rfl) rfl rfl ?_
  show Ev X 233 0 [some (vR (some 170)), some (vI a1), some (vI a2), none] [] σ Q
  refine e_nx hcd rfl rfl ?_
  refine r_cv hcd rfl (by omega) rfl rfl rfl (Nat.le_of_ble_eq_true rfl) ?_
  refine Cl.mono H (fun v τ1 hq => ?_)
  obtain ⟨rfl, H⟩ := hq
  show Ev X 233 2 _ [] τ1 Q
  refine e_nx hcd rfl rfl ?_
  refine r_getR hcd rfl rfl rfl ?_
  refine e_nx hcd rfl rfl ?_
  obtain ⟨h1, H⟩ := H
  refine r_ild hcd rfl rfl (by omega) h1 ?_
  refine e_nx hcd rfl rfl ?_
  show Ev X 233 7 [some (vR (some 170)), some (vI a1), some (vI a2), some (vI (τ1.2 175 a2.toNat))] [] _ Q
  iterate 2 (refine e_nx hcd rfl rfl ?_)
  refine r_getI hcd rfl rfl rfl ?_
  iterate 4 (refine e_nx hcd rfl rfl ?_)
  refine r_putI hcd rfl rfl rfl rfl ?_
  refine e_nx hcd rfl rfl ?_
  refine r_cv hcd rfl (by omega) rfl rfl rfl (Nat.le_of_ble_eq_true rfl) ?_
  refine Cl.mono H (fun v τ2 hq => ?_)
  obtain ⟨rfl, H⟩ := hq
  show Ev X 233 17 _ [] τ2 Q
  refine e_nx hcd rfl rfl ?_
  refine r_getR hcd rfl rfl rfl ?_
  refine e_nx hcd rfl rfl ?_
  refine r_ild hcd rfl rfl (by omega) h1 ?_
  iterate 2 (refine e_nx hcd rfl rfl ?_)
  exact r_iret hcd rfl rfl rfl H
/-! X12_harm -/
set_option maxRecDepth 20000 in
set_option maxHeartbeats 8000000 in
theorem v_234 {X : PX} {σ : Sg} {Q : Option PV → Sg → Prop} {a1 : Int} {a2 : Int} {a3 : Int}  (H : CI X 189 [vR (some 170), vI a1] σ (fun r1 τ1 => InR r1 ∧ (r1 = 0 → Q (some (vI (-999))) τ1) ∧ (¬ r1 = 0 → CI X 190 [vR (some 170), vI a2] τ1 (fun r3 τ2 => InR r3 ∧ (r3 = 0 → Q (some (vI (-999))) τ2) ∧ (¬ r3 = 0 → CI X 190 [vR (some 170), vI a3] τ2 (fun r5 τ3 => InR r5 ∧ (r5 = 0 → Q (some (vI (-999))) τ3) ∧ (¬ r5 = 0 → InR a2 ∧ InR a3 ∧ (a2 = a3 → Q (some (vI (-999))) τ3) ∧ (¬ a2 = a3 → CI X 233 [vR (some 170), vI a2, vI a3] τ3 (fun r9 τ4 => Q (some (vI r9)) τ4))))))))) : Cl X 234 [vR (some 170), vI a1, vI a2, vI a3] σ Q := by
  have hcd : cds 234 = cd_234 := rfl
  refine c_in (Nat.le_of_ble_eq_true rfl) rfl rfl ?_
  show Ev X 234 0 [some (vR (some 170)), some (vI a1), some (vI a2), some (vI a3)] [] σ Q
  iterate 2 (refine e_nx hcd rfl rfl ?_)
  refine r_cv hcd rfl (by omega) rfl rfl rfl (Nat.le_of_ble_eq_true rfl) ?_
  refine Cl.mono H (fun v τ1 hq => ?_)
  obtain ⟨r1, rfl, H⟩ := hq
  show Ev X 234 3 _ [vI r1] τ1 Q
  obtain ⟨h2, H⟩ := H
  refine r_if hcd rfl h2 (fun hc => ?_) (fun hc => ?_)
  · replace H := H.1 hc
    refine e_nx hcd rfl rfl ?_
    exact r_iret hcd rfl rfl rfl H
  · replace H := H.2 hc
    iterate 2 (refine e_nx hcd rfl rfl ?_)
    refine r_cv hcd rfl (by omega) rfl rfl rfl (Nat.le_of_ble_eq_true rfl) ?_
    refine Cl.mono H (fun v τ2 hq => ?_)
    obtain ⟨r3, rfl, H⟩ := hq
    show Ev X 234 7 _ [vI r3] τ2 Q
    obtain ⟨h4, H⟩ := H
    refine r_if hcd rfl h4 (fun hc => ?_) (fun hc => ?_)
    · replace H := H.1 hc
      refine e_nx hcd rfl rfl ?_
      exact r_iret hcd rfl rfl rfl H
    · replace H := H.2 hc
      iterate 2 (refine e_nx hcd rfl rfl ?_)
      refine r_cv hcd rfl (by omega) rfl rfl rfl (Nat.le_of_ble_eq_true rfl) ?_
      refine Cl.mono H (fun v τ3 hq => ?_)
      obtain ⟨r5, rfl, H⟩ := hq
      show Ev X 234 11 _ [vI r5] τ3 Q
      obtain ⟨h6, H⟩ := H
      refine r_if hcd rfl h6 (fun hc => ?_) (fun hc => ?_)
      · replace H := H.1 hc
        refine e_nx hcd rfl rfl ?_
        exact r_iret hcd rfl rfl rfl H
      · replace H := H.2 hc
        iterate 2 (refine e_nx hcd rfl rfl ?_)
        obtain ⟨h7, H⟩ := H
        obtain ⟨h8, H⟩ := H
        refine r_icmp hcd rfl h7 h8 (fun hc => ?_) (fun hc => ?_)
        · replace H := H.1 hc
          refine e_nx hcd rfl rfl ?_
          exact r_iret hcd rfl rfl rfl H
        · replace H := H.2 hc
          iterate 3 (refine e_nx hcd rfl rfl ?_)
          refine r_cv hcd rfl (by omega) rfl rfl rfl (Nat.le_of_ble_eq_true rfl) ?_
          refine Cl.mono H (fun v τ4 hq => ?_)
          obtain ⟨r9, rfl, H⟩ := hq
          show Ev X 234 19 _ [vI r9] τ4 Q
          refine e_nx hcd rfl rfl ?_
          exact r_iret hcd rfl rfl rfl H
/-! X12_foe -/
set_option maxRecDepth 20000 in
set_option maxHeartbeats 8000000 in
theorem v_235 {X : PX} {σ : Sg} {Q : Option PV → Sg → Prop} {a1 : Int} {a2 : Int} {a3 : Int}  (H : CI X 189 [vR (some 170), vI a1] σ (fun r1 τ1 => InR r1 ∧ (r1 = 0 → Q (some (vI (-2))) τ1) ∧ (¬ r1 = 0 → CI X 190 [vR (some 170), vI a2] τ1 (fun r3 τ2 => InR r3 ∧ (r3 = 0 → Q (some (vI (-2))) τ2) ∧ (¬ r3 = 0 → CI X 161 [vI a3, vI 0, vI 3] τ2 (fun r5 τ3 => InR r5 ∧ (r5 ≠ 0 → Ev X 235 21 [some (vR (some 170)), none, some (vI a2), some (vI a3), some (vI (-1)), some (vI 0), some (vI 0), none] [] τ3 Q) ∧ (¬ r5 ≠ 0 → Q (some (vI (-2))) τ3))))))) : Cl X 235 [vR (some 170), vI a1, vI a2, vI a3] σ Q := by
  have hcd : cds 235 = cd_235 := rfl
  refine c_in (Nat.le_of_ble_eq_true rfl) rfl rfl ?_
  show Ev X 235 0 [some (vR (some 170)), some (vI a1), some (vI a2), some (vI a3), none, none, none, none] [] σ Q
  iterate 2 (refine e_nx hcd rfl rfl ?_)
  refine r_cv hcd rfl (by omega) rfl rfl rfl (Nat.le_of_ble_eq_true rfl) ?_
  refine Cl.mono H (fun v τ1 hq => ?_)
  obtain ⟨r1, rfl, H⟩ := hq
  show Ev X 235 3 _ [vI r1] τ1 Q
  obtain ⟨h2, H⟩ := H
  refine r_if hcd rfl h2 (fun hc => ?_) (fun hc => ?_)
  · replace H := H.1 hc
    refine e_nx hcd rfl rfl ?_
    exact r_iret hcd rfl rfl rfl H
  · replace H := H.2 hc
    iterate 2 (refine e_nx hcd rfl rfl ?_)
    refine r_cv hcd rfl (by omega) rfl rfl rfl (Nat.le_of_ble_eq_true rfl) ?_
    refine Cl.mono H (fun v τ2 hq => ?_)
    obtain ⟨r3, rfl, H⟩ := hq
    show Ev X 235 7 _ [vI r3] τ2 Q
    obtain ⟨h4, H⟩ := H
    refine r_if hcd rfl h4 (fun hc => ?_) (fun hc => ?_)
    · replace H := H.1 hc
      refine e_nx hcd rfl rfl ?_
      exact r_iret hcd rfl rfl rfl H
    · replace H := H.2 hc
      iterate 3 (refine e_nx hcd rfl rfl ?_)
      refine r_cs hcd rfl (by omega) (Nat.le_of_ble_eq_true rfl) rfl rfl (Nat.le_of_ble_eq_true rfl) ?_
      refine Cl.mono H (fun v τ3 hq => ?_)
      obtain ⟨r5, rfl, H⟩ := hq
      show Ev X 235 12 _ [vI r5] τ3 Q
      obtain ⟨h6, H⟩ := H
      refine r_if hcd rfl h6 (fun hc => ?_) (fun hc => ?_)
      · replace H := H.1 hc
        iterate 2 (refine e_nx hcd rfl rfl ?_)
        show Ev X 235 17 [some (vR (some 170)), some (vI a1), some (vI a2), some (vI a3), some (vI (-1)), none, none, none] [] _ Q
        iterate 2 (refine e_nx hcd rfl rfl ?_)
        show Ev X 235 19 [some (vR (some 170)), some (vI a1), some (vI a2), some (vI a3), some (vI (-1)), some (vI 0), none, none] [] _ Q
        iterate 2 (refine e_nx hcd rfl rfl ?_)
        show Ev X 235 21 [some (vR (some 170)), some (vI a1), some (vI a2), some (vI a3), some (vI (-1)), some (vI 0), some (vI 0), none] [] _ Q
        refine e_fg [1] ?_
        exact H
      · replace H := H.2 hc
        refine e_nx hcd rfl rfl ?_
        exact r_iret hcd rfl rfl rfl H
set_option maxRecDepth 20000 in
set_option maxHeartbeats 8000000 in
theorem v_235_21 {X : PX} {σ : Sg} {Q : Option PV → Sg → Prop} {x2 : Int} {x3 : Int} {x4 : Int} {x5 : Int} {x6 : Int}  (H : InR x6 ∧ InR (σ.1 170 12) ∧ (σ.1 170 12 ≤ x6 → InR (iRem x3 2) ∧ (iRem x3 2 ≠ 0 → Q (some (vI x5)) σ) ∧ (¬ iRem x3 2 ≠ 0 → Q (some (vI x4)) σ)) ∧ (¬ σ.1 170 12 ≤ x6 → InR x2 ∧ (x6 ≠ x2 → InR x3 ∧ (2 ≤ x3 → CI X 233 [vR (some 170), vI x6, vI x2] σ (fun r6 τ1 => InR (-r6) ∧ InR x5 ∧ (x5 < -r6 → Ev X 235 21 [some (vR (some 170)), none, some (vI x2), some (vI x3), some (vI x6), some (vI (-r6)), some (vI (x6 + 1)), none] [] τ1 Q) ∧ (¬ x5 < -r6 → Ev X 235 21 [some (vR (some 170)), none, some (vI x2), some (vI x3), some (vI x4), some (vI x5), some (vI (x6 + 1)), none] [] τ1 Q))) ∧ (¬ 2 ≤ x3 → CI X 233 [vR (some 170), vI x6, vI x2] σ (fun r9 τ2 => InR r9 ∧ InR x5 ∧ (x5 < r9 → Ev X 235 21 [some (vR (some 170)), none, some (vI x2), some (vI x3), some (vI x6), some (vI r9), some (vI (x6 + 1)), none] [] τ2 Q) ∧ (¬ x5 < r9 → Ev X 235 21 [some (vR (some 170)), none, some (vI x2), some (vI x3), some (vI x4), some (vI x5), some (vI (x6 + 1)), none] [] τ2 Q)))) ∧ (¬ x6 ≠ x2 → Ev X 235 21 [some (vR (some 170)), none, some (vI x2), some (vI x3), some (vI x4), some (vI x5), some (vI (x6 + 1)), none] [] σ Q))) : Ev X 235 21 [some (vR (some 170)), none, some (vI x2), some (vI x3), some (vI x4), some (vI x5), some (vI x6), none] [] σ Q := by
  have hcd : cds 235 = cd_235 := rfl
  iterate 2 (refine e_nx hcd rfl rfl ?_)
  refine r_getI hcd rfl rfl rfl ?_
  obtain ⟨h1, H⟩ := H
  obtain ⟨h2, H⟩ := H
  refine r_icmp hcd rfl h1 h2 (fun hc => ?_) (fun hc => ?_)
  · replace H := H.1 hc
    iterate 2 (refine e_nx hcd rfl rfl ?_)
    refine r_rem hcd rfl (by omega) (by omega) ?_
    obtain ⟨h3, H⟩ := H
    refine r_if hcd rfl h3 (fun hc => ?_) (fun hc => ?_)
    · replace H := H.1 hc
      refine e_nx hcd rfl rfl ?_
      exact r_iret hcd rfl rfl rfl H
    · replace H := H.2 hc
      iterate 2 (refine e_nx hcd rfl rfl ?_)
      exact r_iret hcd rfl rfl rfl H
  · replace H := H.2 hc
    iterate 2 (refine e_nx hcd rfl rfl ?_)
    obtain ⟨h4, H⟩ := H
    refine r_icmp hcd rfl h1 h4 (fun hc => ?_) (fun hc => ?_)
    · replace H := H.1 hc
      iterate 2 (refine e_nx hcd rfl rfl ?_)
      obtain ⟨h5, H⟩ := H
      refine r_icmp hcd rfl h5 (by omega) (fun hc => ?_) (fun hc => ?_)
      · replace H := H.1 hc
        iterate 3 (refine e_nx hcd rfl rfl ?_)
        refine r_cv hcd rfl (by omega) rfl rfl rfl (Nat.le_of_ble_eq_true rfl) ?_
        refine Cl.mono H (fun v τ1 hq => ?_)
        obtain ⟨r6, rfl, H⟩ := hq
        show Ev X 235 41 _ [vI r6] τ1 Q
        iterate 2 (refine e_nx hcd rfl rfl ?_)
        show Ev X 235 43 [some (vR (some 170)), none, some (vI x2), some (vI x3), some (vI x4), some (vI x5), some (vI x6), some (vI (-r6))] [] _ Q
        iterate 2 (refine e_nx hcd rfl rfl ?_)
        obtain ⟨h7, H⟩ := H
        obtain ⟨h8, H⟩ := H
        refine r_icmp hcd rfl h7 h8 (fun hc => ?_) (fun hc => ?_)
        · replace H := H.1 hc
          iterate 2 (refine e_nx hcd rfl rfl ?_)
          show Ev X 235 49 [some (vR (some 170)), none, some (vI x2), some (vI x3), some (vI x6), some (vI x5), some (vI x6), some (vI (-r6))] [] _ Q
          iterate 2 (refine e_nx hcd rfl rfl ?_)
          show Ev X 235 51 [some (vR (some 170)), none, some (vI x2), some (vI x3), some (vI x6), some (vI (-r6)), some (vI x6), some (vI (-r6))] [] _ Q
          refine e_nx hcd rfl rfl ?_
          show Ev X 235 52 [some (vR (some 170)), none, some (vI x2), some (vI x3), some (vI x6), some (vI (-r6)), some (vI (x6 + 1)), some (vI (-r6))] [] _ Q
          refine e_nx hcd rfl rfl ?_
          refine e_fg [7] ?_
          exact H
        · replace H := H.2 hc
          iterate 2 (refine e_nx hcd rfl rfl ?_)
          show Ev X 235 52 [some (vR (some 170)), none, some (vI x2), some (vI x3), some (vI x4), some (vI x5), some (vI (x6 + 1)), some (vI (-r6))] [] _ Q
          refine e_nx hcd rfl rfl ?_
          refine e_fg [7] ?_
          exact H
      · replace H := H.2 hc
        iterate 3 (refine e_nx hcd rfl rfl ?_)
        refine r_cv hcd rfl (by omega) rfl rfl rfl (Nat.le_of_ble_eq_true rfl) ?_
        refine Cl.mono H (fun v τ2 hq => ?_)
        obtain ⟨r9, rfl, H⟩ := hq
        show Ev X 235 36 _ [vI r9] τ2 Q
        iterate 2 (refine e_nx hcd rfl rfl ?_)
        show Ev X 235 43 [some (vR (some 170)), none, some (vI x2), some (vI x3), some (vI x4), some (vI x5), some (vI x6), some (vI r9)] [] _ Q
        iterate 2 (refine e_nx hcd rfl rfl ?_)
        obtain ⟨h10, H⟩ := H
        obtain ⟨h11, H⟩ := H
        refine r_icmp hcd rfl h10 h11 (fun hc => ?_) (fun hc => ?_)
        · replace H := H.1 hc
          iterate 2 (refine e_nx hcd rfl rfl ?_)
          show Ev X 235 49 [some (vR (some 170)), none, some (vI x2), some (vI x3), some (vI x6), some (vI x5), some (vI x6), some (vI r9)] [] _ Q
          iterate 2 (refine e_nx hcd rfl rfl ?_)
          show Ev X 235 51 [some (vR (some 170)), none, some (vI x2), some (vI x3), some (vI x6), some (vI r9), some (vI x6), some (vI r9)] [] _ Q
          refine e_nx hcd rfl rfl ?_
          show Ev X 235 52 [some (vR (some 170)), none, some (vI x2), some (vI x3), some (vI x6), some (vI r9), some (vI (x6 + 1)), some (vI r9)] [] _ Q
          refine e_nx hcd rfl rfl ?_
          refine e_fg [7] ?_
          exact H
        · replace H := H.2 hc
          iterate 2 (refine e_nx hcd rfl rfl ?_)
          show Ev X 235 52 [some (vR (some 170)), none, some (vI x2), some (vI x3), some (vI x4), some (vI x5), some (vI (x6 + 1)), some (vI r9)] [] _ Q
          refine e_nx hcd rfl rfl ?_
          refine e_fg [7] ?_
          exact H
    · replace H := H.2 hc
      iterate 2 (refine e_nx hcd rfl rfl ?_)
      show Ev X 235 52 [some (vR (some 170)), none, some (vI x2), some (vI x3), some (vI x4), some (vI x5), some (vI (x6 + 1)), none] [] _ Q
      refine e_nx hcd rfl rfl ?_
      exact H
/-! X12_buyersBy -/
theorem v_236 {X : PX} {σ : Sg} {Q : Option PV → Sg → Prop} {a1 : Int} {a2 : Int}  (H : CV X 201 [vR (some 170)] σ (fun τ1 => CV X 206 [vR (some 170), vI a1] (up2 τ1.1 170 15 a2, τ1.2) (fun τ2 => Q (some (vI (τ2.1 170 29))) τ2))) : Cl X 236 [vR (some 170), vI a1, vI a2] σ Q := by
  have hcd : cds 236 = cd_236 := rfl
  refine c_in (Nat.le_of_ble_eq_true rfl) rfl rfl ?_
  show Ev X 236 0 [some (vR (some 170)), some (vI a1), some (vI a2)] [] σ Q
  refine e_nx hcd rfl rfl ?_
  refine r_cv hcd rfl (by omega) rfl rfl rfl (Nat.le_of_ble_eq_true rfl) ?_
  refine Cl.mono H (fun v τ1 hq => ?_)
  obtain ⟨rfl, H⟩ := hq
  show Ev X 236 2 _ [] τ1 Q
  iterate 2 (refine e_nx hcd rfl rfl ?_)
  refine r_putI hcd rfl rfl rfl rfl ?_
  iterate 2 (refine e_nx hcd rfl rfl ?_)
  refine r_cv hcd rfl (by omega) rfl rfl rfl (Nat.le_of_ble_eq_true rfl) ?_
  refine Cl.mono H (fun v τ2 hq => ?_)
  obtain ⟨rfl, H⟩ := hq
  show Ev X 236 8 _ [] τ2 Q
  refine e_nx hcd rfl rfl ?_
  refine r_getI hcd rfl rfl rfl ?_
  exact r_iret hcd rfl rfl rfl H
/-! X12_sale -/
set_option maxRecDepth 20000 in
set_option maxHeartbeats 8000000 in
theorem v_237 {X : PX} {σ : Sg} {Q : Option PV → Sg → Prop} {a1 : Int} {a2 : Int} {a3 : Int}  (H : CI X 189 [vR (some 170), vI a1] σ (fun r1 τ1 => InR r1 ∧ (r1 = 0 → Q (some (vI (-1))) τ1) ∧ (¬ r1 = 0 → CI X 161 [vI a2, vI 1, vI 9] τ1 (fun r3 τ2 => InR r3 ∧ (r3 = 0 → Q (some (vI (-1))) τ2) ∧ (¬ r3 = 0 → CI X 161 [vI a3, vI 0, vI 2] τ2 (fun r5 τ3 => InR r5 ∧ (r5 ≠ 0 → CI X 236 [vR (some 170), vI a2, vI 0] τ3 (fun r7 τ4 => Ev X 237 27 [some (vR (some 170)), none, some (vI a2), some (vI a3), some (vI 0), some (vI 0), some (vI r7), some (vI 1), none] [] τ4 Q)) ∧ (¬ r5 ≠ 0 → Q (some (vI (-1))) τ3))))))) : Cl X 237 [vR (some 170), vI a1, vI a2, vI a3] σ Q := by
  have hcd : cds 237 = cd_237 := rfl
  refine c_in (Nat.le_of_ble_eq_true rfl) rfl rfl ?_
  show Ev X 237 0 [some (vR (some 170)), some (vI a1), some (vI a2), some (vI a3), none, none, none, none, none] [] σ Q
  iterate 2 (refine e_nx hcd rfl rfl ?_)
  refine r_cv hcd rfl (by omega) rfl rfl rfl (Nat.le_of_ble_eq_true rfl) ?_
  refine Cl.mono H (fun v τ1 hq => ?_)
  obtain ⟨r1, rfl, H⟩ := hq
  show Ev X 237 3 _ [vI r1] τ1 Q
  obtain ⟨h2, H⟩ := H
  refine r_if hcd rfl h2 (fun hc => ?_) (fun hc => ?_)
  · replace H := H.1 hc
    refine e_nx hcd rfl rfl ?_
    exact r_iret hcd rfl rfl rfl H
  · replace H := H.2 hc
    iterate 3 (refine e_nx hcd rfl rfl ?_)
    refine r_cs hcd rfl (by omega) (Nat.le_of_ble_eq_true rfl) rfl rfl (Nat.le_of_ble_eq_true rfl) ?_
    refine Cl.mono H (fun v τ2 hq => ?_)
    obtain ⟨r3, rfl, H⟩ := hq
    show Ev X 237 8 _ [vI r3] τ2 Q
    obtain ⟨h4, H⟩ := H
    refine r_if hcd rfl h4 (fun hc => ?_) (fun hc => ?_)
    · replace H := H.1 hc
      refine e_nx hcd rfl rfl ?_
      exact r_iret hcd rfl rfl rfl H
    · replace H := H.2 hc
      iterate 3 (refine e_nx hcd rfl rfl ?_)
      refine r_cs hcd rfl (by omega) (Nat.le_of_ble_eq_true rfl) rfl rfl (Nat.le_of_ble_eq_true rfl) ?_
      refine Cl.mono H (fun v τ3 hq => ?_)
      obtain ⟨r5, rfl, H⟩ := hq
      show Ev X 237 13 _ [vI r5] τ3 Q
      obtain ⟨h6, H⟩ := H
      refine r_if hcd rfl h6 (fun hc => ?_) (fun hc => ?_)
      · replace H := H.1 hc
        iterate 2 (refine e_nx hcd rfl rfl ?_)
        show Ev X 237 18 [some (vR (some 170)), some (vI a1), some (vI a2), some (vI a3), some (vI 0), none, none, none, none] [] _ Q
        iterate 2 (refine e_nx hcd rfl rfl ?_)
        show Ev X 237 20 [some (vR (some 170)), some (vI a1), some (vI a2), some (vI a3), some (vI 0), some (vI 0), none, none, none] [] _ Q
        iterate 3 (refine e_nx hcd rfl rfl ?_)
        refine r_cv hcd rfl (by omega) rfl rfl rfl (Nat.le_of_ble_eq_true rfl) ?_
        refine Cl.mono H (fun v τ4 hq => ?_)
        obtain ⟨r7, rfl, H⟩ := hq
        show Ev X 237 24 _ [vI r7] τ4 Q
        refine e_nx hcd rfl rfl ?_
        show Ev X 237 25 [some (vR (some 170)), some (vI a1), some (vI a2), some (vI a3), some (vI 0), some (vI 0), some (vI r7), none, none] [] _ Q
        iterate 2 (refine e_nx hcd rfl rfl ?_)
        show Ev X 237 27 [some (vR (some 170)), some (vI a1), some (vI a2), some (vI a3), some (vI 0), some (vI 0), some (vI r7), some (vI 1), none] [] _ Q
        refine e_fg [1] ?_
        exact H
      · replace H := H.2 hc
        refine e_nx hcd rfl rfl ?_
        exact r_iret hcd rfl rfl rfl H
set_option maxRecDepth 20000 in
set_option maxHeartbeats 8000000 in
theorem v_237_27 {X : PX} {σ : Sg} {Q : Option PV → Sg → Prop} {x2 : Int} {x3 : Int} {x4 : Int} {x5 : Int} {x6 : Int} {x7 : Int}  (H : InR x7 ∧ (100 ≤ x7 → InR x3 ∧ (x3 ≠ 0 → (x3 ≠ 1 → Q (some (vI x6)) σ) ∧ (¬ x3 ≠ 1 → Q (some (vI x5)) σ)) ∧ (¬ x3 ≠ 0 → Q (some (vI x4)) σ)) ∧ (¬ 100 ≤ x7 → CI X 236 [vR (some 170), vI x2, vI x7] σ (fun r3 τ1 => InR (x7 * r3) ∧ InR x5 ∧ (x5 < x7 * r3 → Ev X 237 27 [some (vR (some 170)), none, some (vI x2), some (vI x3), some (vI x7), some (vI (x7 * r3)), some (vI r3), some (vI (x7 + 1)), none] [] τ1 Q) ∧ (¬ x5 < x7 * r3 → Ev X 237 27 [some (vR (some 170)), none, some (vI x2), some (vI x3), some (vI x4), some (vI x5), some (vI x6), some (vI (x7 + 1)), none] [] τ1 Q)))) : Ev X 237 27 [some (vR (some 170)), none, some (vI x2), some (vI x3), some (vI x4), some (vI x5), some (vI x6), some (vI x7), none] [] σ Q := by
  have hcd : cds 237 = cd_237 := rfl
  iterate 2 (refine e_nx hcd rfl rfl ?_)
  obtain ⟨h1, H⟩ := H
  refine r_icmp hcd rfl h1 (by omega) (fun hc => ?_) (fun hc => ?_)
  · replace H := H.1 hc
    refine e_nx hcd rfl rfl ?_
    obtain ⟨h2, H⟩ := H
    refine r_if hcd rfl h2 (fun hc => ?_) (fun hc => ?_)
    · replace H := H.1 hc
      iterate 2 (refine e_nx hcd rfl rfl ?_)
      refine r_icmp hcd rfl h2 (by omega) (fun hc => ?_) (fun hc => ?_)
      · replace H := H.1 hc
        refine e_nx hcd rfl rfl ?_
        exact r_iret hcd rfl rfl rfl H
      · replace H := H.2 hc
        iterate 2 (refine e_nx hcd rfl rfl ?_)
        exact r_iret hcd rfl rfl rfl H
    · replace H := H.2 hc
      iterate 2 (refine e_nx hcd rfl rfl ?_)
      exact r_iret hcd rfl rfl rfl H
  · replace H := H.2 hc
    iterate 3 (refine e_nx hcd rfl rfl ?_)
    refine r_cv hcd rfl (by omega) rfl rfl rfl (Nat.le_of_ble_eq_true rfl) ?_
    refine Cl.mono H (fun v τ1 hq => ?_)
    obtain ⟨r3, rfl, H⟩ := hq
    show Ev X 237 34 _ [vI r3] τ1 Q
    refine e_nx hcd rfl rfl ?_
    show Ev X 237 35 [some (vR (some 170)), none, some (vI x2), some (vI x3), some (vI x4), some (vI x5), some (vI x6), some (vI x7), some (vI r3)] [] _ Q
    iterate 4 (refine e_nx hcd rfl rfl ?_)
    obtain ⟨h4, H⟩ := H
    obtain ⟨h5, H⟩ := H
    refine r_icmp hcd rfl h4 h5 (fun hc => ?_) (fun hc => ?_)
    · replace H := H.1 hc
      iterate 2 (refine e_nx hcd rfl rfl ?_)
      show Ev X 237 43 [some (vR (some 170)), none, some (vI x2), some (vI x3), some (vI x7), some (vI x5), some (vI x6), some (vI x7), some (vI r3)] [] _ Q
      iterate 4 (refine e_nx hcd rfl rfl ?_)
      show Ev X 237 47 [some (vR (some 170)), none, some (vI x2), some (vI x3), some (vI x7), some (vI (x7 * r3)), some (vI x6), some (vI x7), some (vI r3)] [] _ Q
      iterate 2 (refine e_nx hcd rfl rfl ?_)
      show Ev X 237 49 [some (vR (some 170)), none, some (vI x2), some (vI x3), some (vI x7), some (vI (x7 * r3)), some (vI r3), some (vI x7), some (vI r3)] [] _ Q
      refine e_nx hcd rfl rfl ?_
      show Ev X 237 50 [some (vR (some 170)), none, some (vI x2), some (vI x3), some (vI x7), some (vI (x7 * r3)), some (vI r3), some (vI (x7 + 1)), some (vI r3)] [] _ Q
      refine e_nx hcd rfl rfl ?_
      refine e_fg [8] ?_
      exact H
    · replace H := H.2 hc
      iterate 2 (refine e_nx hcd rfl rfl ?_)
      show Ev X 237 50 [some (vR (some 170)), none, some (vI x2), some (vI x3), some (vI x4), some (vI x5), some (vI x6), some (vI (x7 + 1)), some (vI r3)] [] _ Q
      refine e_nx hcd rfl rfl ?_
      refine e_fg [8] ?_
      exact H
/-! X12_isRuinedBy -/
theorem v_238 {X : PX} {σ : Sg} {Q : Option PV → Sg → Prop} {a1 : Int} {a2 : Int}  (H : CV X 201 [vR (some 170)] σ (fun τ1 => CV X 199 [vR (some 170)] (up2 τ1.1 170 14 a1, τ1.2) (fun τ2 => Ev X 238 9 [some (vR (some 170)), none, some (vI a2), some (vI 0)] [] τ2 Q))) : Cl X 238 [vR (some 170), vI a1, vI a2] σ Q := by
  have hcd : cds 238 = cd_238 := rfl
  refine c_in (Nat.le_of_ble_eq_true rfl) rfl rfl ?_
  show Ev X 238 0 [some (vR (some 170)), some (vI a1), some (vI a2), none] [] σ Q
  refine e_nx hcd rfl rfl ?_
  refine r_cv hcd rfl (by omega) rfl rfl rfl (Nat.le_of_ble_eq_true rfl) ?_
  refine Cl.mono H (fun v τ1 hq => ?_)
  obtain ⟨rfl, H⟩ := hq
  show Ev X 238 2 _ [] τ1 Q
  iterate 2 (refine e_nx hcd rfl rfl ?_)
  refine r_putI hcd rfl rfl rfl rfl ?_
  refine e_nx hcd rfl rfl ?_
  refine r_cv hcd rfl (by omega) rfl rfl rfl (Nat.le_of_ble_eq_true rfl) ?_
  refine Cl.mono H (fun v τ2 hq => ?_)
  obtain ⟨rfl, H⟩ := hq
  show Ev X 238 7 _ [] τ2 Q
  iterate 2 (refine e_nx hcd rfl rfl ?_)
  show Ev X 238 9 [some (vR (some 170)), some (vI a1), some (vI a2), some (vI 0)] [] _ Q
  refine e_fg [1] ?_
  exact H
theorem v_238_9 {X : PX} {σ : Sg} {Q : Option PV → Sg → Prop} {x2 : Int} {x3 : Int}  (H : InR (σ.1 170 19) ∧ InR x2 ∧ (x2 ≤ σ.1 170 19 → (x3 = 0 ∨ x3 = 1) ∧ Q (some (vI x3)) σ) ∧ (¬ x2 ≤ σ.1 170 19 → InR x3 ∧ (x3 ≠ 0 → (x3 = 0 ∨ x3 = 1) ∧ Q (some (vI x3)) σ) ∧ (¬ x3 ≠ 0 → CV X 202 [vR (some 170)] σ (fun τ1 => InR (τ1.1 170 24) ∧ (τ1.1 170 24 = (-1) → Ev X 238 9 [some (vR (some 170)), none, some (vI x2), some (vI 0)] [] τ1 Q) ∧ (¬ τ1.1 170 24 = (-1) → Ev X 238 9 [some (vR (some 170)), none, some (vI x2), some (vI 1)] [] τ1 Q))))) : Ev X 238 9 [some (vR (some 170)), none, some (vI x2), some (vI x3)] [] σ Q := by
  have hcd : cds 238 = cd_238 := rfl
  refine e_nx hcd rfl rfl ?_
  refine r_getI hcd rfl rfl rfl ?_
  refine e_nx hcd rfl rfl ?_
  obtain ⟨h1, H⟩ := H
  obtain ⟨h2, H⟩ := H
  refine r_icmp hcd rfl h1 h2 (fun hc => ?_) (fun hc => ?_)
  · replace H := H.1 hc
    refine e_nx hcd rfl rfl ?_
    obtain ⟨h3, H⟩ := H
    exact r_zret hcd rfl rfl rfl h3 H
  · replace H := H.2 hc
    refine e_nx hcd rfl rfl ?_
    obtain ⟨h4, H⟩ := H
    refine r_if hcd rfl h4 (fun hc => ?_) (fun hc => ?_)
    · replace H := H.1 hc
      refine e_nx hcd rfl rfl ?_
      obtain ⟨h5, H⟩ := H
      exact r_zret hcd rfl rfl rfl h5 H
    · replace H := H.2 hc
      refine e_nx hcd rfl rfl ?_
      refine r_cv hcd rfl (by omega) rfl rfl rfl (Nat.le_of_ble_eq_true rfl) ?_
      refine Cl.mono H (fun v τ1 hq => ?_)
      obtain ⟨rfl, H⟩ := hq
      show Ev X 238 17 _ [] τ1 Q
      refine e_nx hcd rfl rfl ?_
      refine r_getI hcd rfl rfl rfl ?_
      refine e_nx hcd rfl rfl ?_
      obtain ⟨h6, H⟩ := H
      refine r_icmp hcd rfl h6 (by omega) (fun hc => ?_) (fun hc => ?_)
      · replace H := H.1 hc
        iterate 2 (refine e_nx hcd rfl rfl ?_)
        show Ev X 238 25 [some (vR (some 170)), none, some (vI x2), some (vI 0)] [] _ Q
        refine e_nx hcd rfl rfl ?_
        exact H
      · replace H := H.2 hc
        iterate 3 (refine e_nx hcd rfl rfl ?_)
        show Ev X 238 25 [some (vR (some 170)), none, some (vI x2), some (vI 1)] [] _ Q
        refine e_nx hcd rfl rfl ?_
        exact H
/-! X12_top -/
theorem v_239 {X : PX} {σ : Sg} {Q : Option PV → Sg → Prop} {a1 : Int} {a2 : Int}  (H : CI X 189 [vR (some 170), vI a1] σ (fun r1 τ1 => InR r1 ∧ (r1 = 0 → Q (some (vI (-1))) τ1) ∧ (¬ r1 = 0 → CI X 161 [vI a2, vI 1, vI 50] τ1 (fun r3 τ2 => InR r3 ∧ (r3 ≠ 0 → Ev X 239 13 [some (vR (some 170)), none, some (vI a2), some (vI 99)] [] τ2 Q) ∧ (¬ r3 ≠ 0 → Q (some (vI (-1))) τ2))))) : Cl X 239 [vR (some 170), vI a1, vI a2] σ Q := by
  have hcd : cds 239 = cd_239 := rfl
  refine c_in (Nat.le_of_ble_eq_true rfl) rfl rfl ?_
  show Ev X 239 0 [some (vR (some 170)), some (vI a1), some (vI a2), none] [] σ Q
  iterate 2 (refine e_nx hcd rfl rfl ?_)
  refine r_cv hcd rfl (by omega) rfl rfl rfl (Nat.le_of_ble_eq_true rfl) ?_
  refine Cl.mono H (fun v τ1 hq => ?_)
  obtain ⟨r1, rfl, H⟩ := hq
  show Ev X 239 3 _ [vI r1] τ1 Q
  obtain ⟨h2, H⟩ := H
  refine r_if hcd rfl h2 (fun hc => ?_) (fun hc => ?_)
  · replace H := H.1 hc
    refine e_nx hcd rfl rfl ?_
    exact r_iret hcd rfl rfl rfl H
  · replace H := H.2 hc
    iterate 3 (refine e_nx hcd rfl rfl ?_)
    refine r_cs hcd rfl (by omega) (Nat.le_of_ble_eq_true rfl) rfl rfl (Nat.le_of_ble_eq_true rfl) ?_
    refine Cl.mono H (fun v τ2 hq => ?_)
    obtain ⟨r3, rfl, H⟩ := hq
    show Ev X 239 8 _ [vI r3] τ2 Q
    obtain ⟨h4, H⟩ := H
    refine r_if hcd rfl h4 (fun hc => ?_) (fun hc => ?_)
    · replace H := H.1 hc
      iterate 2 (refine e_nx hcd rfl rfl ?_)
      show Ev X 239 13 [some (vR (some 170)), some (vI a1), some (vI a2), some (vI 99)] [] _ Q
      refine e_fg [1] ?_
      exact H
    · replace H := H.2 hc
      refine e_nx hcd rfl rfl ?_
      exact r_iret hcd rfl rfl rfl H
theorem v_239_13 {X : PX} {σ : Sg} {Q : Option PV → Sg → Prop} {x2 : Int} {x3 : Int}  (H : CI X 238 [vR (some 170), vI x3, vI x2] σ (fun r1 τ1 => InR r1 ∧ (r1 = 0 → Q (some (vI x3)) τ1) ∧ (¬ r1 = 0 → Ev X 239 13 [some (vR (some 170)), none, some (vI x2), some (vI (x3 + (-1)))] [] τ1 Q))) : Ev X 239 13 [some (vR (some 170)), none, some (vI x2), some (vI x3)] [] σ Q := by
  have hcd : cds 239 = cd_239 := rfl
  iterate 3 (refine e_nx hcd rfl rfl ?_)
  refine r_cv hcd rfl (by omega) rfl rfl rfl (Nat.le_of_ble_eq_true rfl) ?_
  refine Cl.mono H (fun v τ1 hq => ?_)
  obtain ⟨r1, rfl, H⟩ := hq
  show Ev X 239 17 _ [vI r1] τ1 Q
  obtain ⟨h2, H⟩ := H
  refine r_if hcd rfl h2 (fun hc => ?_) (fun hc => ?_)
  · replace H := H.1 hc
    refine e_nx hcd rfl rfl ?_
    exact r_iret hcd rfl rfl rfl H
  · replace H := H.2 hc
    refine e_nx hcd rfl rfl ?_
    show Ev X 239 19 [some (vR (some 170)), none, some (vI x2), some (vI (x3 + (-1)))] [] _ Q
    refine e_nx hcd rfl rfl ?_
    exact H
/-! X12_richestOf -/
theorem v_240 {X : PX} {σ : Sg} {Q : Option PV → Sg → Prop}   (H : InR (σ.1 170 12) ∧ (σ.1 170 12 ≠ 0 → Ev X 240 9 [some (vR (some 170)), some (vI 0), some (vI 1)] [] σ Q) ∧ (¬ σ.1 170 12 ≠ 0 → Ev X 240 9 [some (vR (some 170)), some (vI (-1)), some (vI 1)] [] σ Q)) : Cl X 240 [vR (some 170)] σ Q := by
  have hcd : cds 240 = cd_240 := rfl
  refine c_in (Nat.le_of_ble_eq_true rfl) rfl rfl ?_
  show Ev X 240 0 [some (vR (some 170)), none, none] [] σ Q
  refine e_nx hcd rfl rfl ?_
  refine r_getI hcd rfl rfl rfl ?_
  obtain ⟨h1, H⟩ := H
  refine r_if hcd rfl h1 (fun hc => ?_) (fun hc => ?_)
  · replace H := H.1 hc
    iterate 2 (refine e_nx hcd rfl rfl ?_)
    show Ev X 240 7 [some (vR (some 170)), some (vI 0), none] [] _ Q
    iterate 2 (refine e_nx hcd rfl rfl ?_)
    show Ev X 240 9 [some (vR (some 170)), some (vI 0), some (vI 1)] [] _ Q
    exact H
  · replace H := H.2 hc
    iterate 3 (refine e_nx hcd rfl rfl ?_)
    show Ev X 240 7 [some (vR (some 170)), some (vI (-1)), none] [] _ Q
    iterate 2 (refine e_nx hcd rfl rfl ?_)
    show Ev X 240 9 [some (vR (some 170)), some (vI (-1)), some (vI 1)] [] _ Q
    exact H
theorem v_240_9 {X : PX} {σ : Sg} {Q : Option PV → Sg → Prop} {x1 : Int} {x2 : Int}  (H : InR x2 ∧ InR (σ.1 170 12) ∧ (σ.1 170 12 ≤ x2 → Q (some (vI x1)) σ) ∧ (¬ σ.1 170 12 ≤ x2 → (0 ≤ x2 ∧ x2 < 7) ∧ (0 ≤ x1 ∧ x1 < 7) ∧ InR (σ.2 174 x2.toNat) ∧ InR (σ.2 174 x1.toNat) ∧ (σ.2 174 x2.toNat ≤ σ.2 174 x1.toNat → Ev X 240 9 [some (vR (some 170)), some (vI x1), some (vI (x2 + 1))] [] σ Q) ∧ (¬ σ.2 174 x2.toNat ≤ σ.2 174 x1.toNat → Ev X 240 9 [some (vR (some 170)), some (vI x2), some (vI (x2 + 1))] [] σ Q))) : Ev X 240 9 [some (vR (some 170)), some (vI x1), some (vI x2)] [] σ Q := by
  have hcd : cds 240 = cd_240 := rfl
  iterate 2 (refine e_nx hcd rfl rfl ?_)
  refine r_getI hcd rfl rfl rfl ?_
  obtain ⟨h1, H⟩ := H
  obtain ⟨h2, H⟩ := H
  refine r_icmp hcd rfl h1 h2 (fun hc => ?_) (fun hc => ?_)
  · replace H := H.1 hc
    refine e_nx hcd rfl rfl ?_
    exact r_iret hcd rfl rfl rfl H
  · replace H := H.2 hc
    refine e_nx hcd rfl rfl ?_
    refine r_getR hcd rfl rfl rfl ?_
    refine e_nx hcd rfl rfl ?_
    obtain ⟨h3, H⟩ := H
    refine r_ild hcd rfl rfl (by omega) h3 ?_
    refine e_nx hcd rfl rfl ?_
    refine r_getR hcd rfl rfl rfl ?_
    refine e_nx hcd rfl rfl ?_
    obtain ⟨h4, H⟩ := H
    refine r_ild hcd rfl rfl (by omega) h4 ?_
    obtain ⟨h5, H⟩ := H
    obtain ⟨h6, H⟩ := H
    refine r_icmp hcd rfl h5 h6 (fun hc => ?_) (fun hc => ?_)
    · replace H := H.1 hc
      iterate 2 (refine e_nx hcd rfl rfl ?_)
      show Ev X 240 26 [some (vR (some 170)), some (vI x1), some (vI x2)] [] _ Q
      refine e_nx hcd rfl rfl ?_
      show Ev X 240 27 [some (vR (some 170)), some (vI x1), some (vI (x2 + 1))] [] _ Q
      refine e_nx hcd rfl rfl ?_
      exact H
    · replace H := H.2 hc
      iterate 3 (refine e_nx hcd rfl rfl ?_)
      show Ev X 240 26 [some (vR (some 170)), some (vI x2), some (vI x2)] [] _ Q
      refine e_nx hcd rfl rfl ?_
      show Ev X 240 27 [some (vR (some 170)), some (vI x2), some (vI (x2 + 1))] [] _ Q
      refine e_nx hcd rfl rfl ?_
      exact H
/-! X12_poorestOf -/
theorem v_241 {X : PX} {σ : Sg} {Q : Option PV → Sg → Prop}   (H : InR (σ.1 170 12) ∧ (σ.1 170 12 ≠ 0 → Ev X 241 9 [some (vR (some 170)), some (vI 0), some (vI 1)] [] σ Q) ∧ (¬ σ.1 170 12 ≠ 0 → Ev X 241 9 [some (vR (some 170)), some (vI (-1)), some (vI 1)] [] σ Q)) : Cl X 241 [vR (some 170)] σ Q := by
  have hcd : cds 241 = cd_241 := rfl
  refine c_in (Nat.le_of_ble_eq_true rfl) rfl rfl ?_
  show Ev X 241 0 [some (vR (some 170)), none, none] [] σ Q
  refine e_nx hcd rfl rfl ?_
  refine r_getI hcd rfl rfl rfl ?_
  obtain ⟨h1, H⟩ := H
  refine r_if hcd rfl h1 (fun hc => ?_) (fun hc => ?_)
  · replace H := H.1 hc
    iterate 2 (refine e_nx hcd rfl rfl ?_)
    show Ev X 241 7 [some (vR (some 170)), some (vI 0), none] [] _ Q
    iterate 2 (refine e_nx hcd rfl rfl ?_)
    show Ev X 241 9 [some (vR (some 170)), some (vI 0), some (vI 1)] [] _ Q
    exact H
  · replace H := H.2 hc
    iterate 3 (refine e_nx hcd rfl rfl ?_)
    show Ev X 241 7 [some (vR (some 170)), some (vI (-1)), none] [] _ Q
    iterate 2 (refine e_nx hcd rfl rfl ?_)
    show Ev X 241 9 [some (vR (some 170)), some (vI (-1)), some (vI 1)] [] _ Q
    exact H
theorem v_241_9 {X : PX} {σ : Sg} {Q : Option PV → Sg → Prop} {x1 : Int} {x2 : Int}  (H : InR x2 ∧ InR (σ.1 170 12) ∧ (σ.1 170 12 ≤ x2 → Q (some (vI x1)) σ) ∧ (¬ σ.1 170 12 ≤ x2 → (0 ≤ x2 ∧ x2 < 7) ∧ (0 ≤ x1 ∧ x1 < 7) ∧ InR (σ.2 174 x2.toNat) ∧ InR (σ.2 174 x1.toNat) ∧ (σ.2 174 x1.toNat ≤ σ.2 174 x2.toNat → Ev X 241 9 [some (vR (some 170)), some (vI x1), some (vI (x2 + 1))] [] σ Q) ∧ (¬ σ.2 174 x1.toNat ≤ σ.2 174 x2.toNat → Ev X 241 9 [some (vR (some 170)), some (vI x2), some (vI (x2 + 1))] [] σ Q))) : Ev X 241 9 [some (vR (some 170)), some (vI x1), some (vI x2)] [] σ Q := by
  have hcd : cds 241 = cd_241 := rfl
  iterate 2 (refine e_nx hcd rfl rfl ?_)
  refine r_getI hcd rfl rfl rfl ?_
  obtain ⟨h1, H⟩ := H
  obtain ⟨h2, H⟩ := H
  refine r_icmp hcd rfl h1 h2 (fun hc => ?_) (fun hc => ?_)
  · replace H := H.1 hc
    refine e_nx hcd rfl rfl ?_
    exact r_iret hcd rfl rfl rfl H
  · replace H := H.2 hc
    refine e_nx hcd rfl rfl ?_
    refine r_getR hcd rfl rfl rfl ?_
    refine e_nx hcd rfl rfl ?_
    obtain ⟨h3, H⟩ := H
    refine r_ild hcd rfl rfl (by omega) h3 ?_
    refine e_nx hcd rfl rfl ?_
    refine r_getR hcd rfl rfl rfl ?_
    refine e_nx hcd rfl rfl ?_
    obtain ⟨h4, H⟩ := H
    refine r_ild hcd rfl rfl (by omega) h4 ?_
    obtain ⟨h5, H⟩ := H
    obtain ⟨h6, H⟩ := H
    refine r_icmp hcd rfl h5 h6 (fun hc => ?_) (fun hc => ?_)
    · replace H := H.1 hc
      iterate 2 (refine e_nx hcd rfl rfl ?_)
      show Ev X 241 26 [some (vR (some 170)), some (vI x1), some (vI x2)] [] _ Q
      refine e_nx hcd rfl rfl ?_
      show Ev X 241 27 [some (vR (some 170)), some (vI x1), some (vI (x2 + 1))] [] _ Q
      refine e_nx hcd rfl rfl ?_
      exact H
    · replace H := H.2 hc
      iterate 3 (refine e_nx hcd rfl rfl ?_)
      show Ev X 241 26 [some (vR (some 170)), some (vI x2), some (vI x2)] [] _ Q
      refine e_nx hcd rfl rfl ?_
      show Ev X 241 27 [some (vR (some 170)), some (vI x2), some (vI (x2 + 1))] [] _ Q
      refine e_nx hcd rfl rfl ?_
      exact H
/-! X12_goodsTogether -/
theorem v_242 {X : PX} {σ : Sg} {Q : Option PV → Sg → Prop}   (H : Ev X 242 4 [some (vR (some 170)), some (vI 0), some (vI 0)] [] σ Q) : Cl X 242 [vR (some 170)] σ Q := by
  have hcd : cds 242 = cd_242 := rfl
  refine c_in (Nat.le_of_ble_eq_true rfl) rfl rfl ?_
  show Ev X 242 0 [some (vR (some 170)), none, none] [] σ Q
  iterate 2 (refine e_nx hcd rfl rfl ?_)
  show Ev X 242 2 [some (vR (some 170)), some (vI 0), none] [] _ Q
  iterate 2 (refine e_nx hcd rfl rfl ?_)
  show Ev X 242 4 [some (vR (some 170)), some (vI 0), some (vI 0)] [] _ Q
  exact H
theorem v_242_4 {X : PX} {σ : Sg} {Q : Option PV → Sg → Prop} {x1 : Int} {x2 : Int}  (H : InR x2 ∧ InR (σ.1 170 12) ∧ (σ.1 170 12 ≤ x2 → Q (some (vI x1)) σ) ∧ (¬ σ.1 170 12 ≤ x2 → (0 ≤ x2 ∧ x2 < 7) ∧ Ev X 242 4 [some (vR (some 170)), some (vI (x1 + (σ.2 174 x2.toNat))), some (vI (x2 + 1))] [] σ Q)) : Ev X 242 4 [some (vR (some 170)), some (vI x1), some (vI x2)] [] σ Q := by
  have hcd : cds 242 = cd_242 := rfl
  iterate 2 (refine e_nx hcd rfl rfl ?_)
  refine r_getI hcd rfl rfl rfl ?_
  obtain ⟨h1, H⟩ := H
  obtain ⟨h2, H⟩ := H
  refine r_icmp hcd rfl h1 h2 (fun hc => ?_) (fun hc => ?_)
  · replace H := H.1 hc
    refine e_nx hcd rfl rfl ?_
    exact r_iret hcd rfl rfl rfl H
  · replace H := H.2 hc
    iterate 2 (refine e_nx hcd rfl rfl ?_)
    refine r_getR hcd rfl rfl rfl ?_
    refine e_nx hcd rfl rfl ?_
    obtain ⟨h3, H⟩ := H
    refine r_ild hcd rfl rfl (by omega) h3 ?_
    iterate 2 (refine e_nx hcd rfl rfl ?_)
    show Ev X 242 15 [some (vR (some 170)), some (vI (x1 + (σ.2 174 x2.toNat))), some (vI x2)] [] _ Q
    refine e_nx hcd rfl rfl ?_
    show Ev X 242 16 [some (vR (some 170)), some (vI (x1 + (σ.2 174 x2.toNat))), some (vI (x2 + 1))] [] _ Q
    refine e_nx hcd rfl rfl ?_
    exact H
/-! X12_behind -/
theorem v_243 {X : PX} {σ : Sg} {Q : Option PV → Sg → Prop} {a1 : Int} {a2 : Int} {a3 : Int}  (H : CI X 189 [vR (some 170), vI a1] σ (fun r1 τ1 => InR r1 ∧ (r1 = 0 → Q (some (vI (-2))) τ1) ∧ (¬ r1 = 0 → CI X 161 [vI a2, vI 0, vI 50] τ1 (fun r3 τ2 => InR r3 ∧ (r3 ≠ 0 → Ev X 243 11 [some (vR (some 170)), none, some (vI a2), some (vI a3)] [] τ2 Q) ∧ (¬ r3 ≠ 0 → Q (some (vI (-2))) τ2))))) : Cl X 243 [vR (some 170), vI a1, vI a2, vI a3] σ Q := by
  have hcd : cds 243 = cd_243 := rfl
  refine c_in (Nat.le_of_ble_eq_true rfl) rfl rfl ?_
  show Ev X 243 0 [some (vR (some 170)), some (vI a1), some (vI a2), some (vI a3)] [] σ Q
  iterate 2 (refine e_nx hcd rfl rfl ?_)
  refine r_cv hcd rfl (by omega) rfl rfl rfl (Nat.le_of_ble_eq_true rfl) ?_
  refine Cl.mono H (fun v τ1 hq => ?_)
  obtain ⟨r1, rfl, H⟩ := hq
  show Ev X 243 3 _ [vI r1] τ1 Q
  obtain ⟨h2, H⟩ := H
  refine r_if hcd rfl h2 (fun hc => ?_) (fun hc => ?_)
  · replace H := H.1 hc
    refine e_nx hcd rfl rfl ?_
    exact r_iret hcd rfl rfl rfl H
  · replace H := H.2 hc
    iterate 3 (refine e_nx hcd rfl rfl ?_)
    refine r_cs hcd rfl (by omega) (Nat.le_of_ble_eq_true rfl) rfl rfl (Nat.le_of_ble_eq_true rfl) ?_
    refine Cl.mono H (fun v τ2 hq => ?_)
    obtain ⟨r3, rfl, H⟩ := hq
    show Ev X 243 8 _ [vI r3] τ2 Q
    obtain ⟨h4, H⟩ := H
    refine r_if hcd rfl h4 (fun hc => ?_) (fun hc => ?_)
    · replace H := H.1 hc
      refine e_fg [1] ?_
      exact H
    · replace H := H.2 hc
      refine e_nx hcd rfl rfl ?_
      exact r_iret hcd rfl rfl rfl H
set_option maxRecDepth 20000 in
set_option maxHeartbeats 8000000 in
theorem v_243_11 {X : PX} {σ : Sg} {Q : Option PV → Sg → Prop} {x2 : Int} {x3 : Int}  (H : InR (σ.1 170 19) ∧ InR x2 ∧ (x2 ≤ σ.1 170 19 → InR x3 ∧ (x3 = 0 → CI X 242 [vR (some 170)] σ (fun r4 τ1 => Q (some (vI r4)) τ1)) ∧ (x3 = 1 → CI X 240 [vR (some 170)] σ (fun r5 τ2 => Q (some (vI r5)) τ2)) ∧ (x3 = 2 → CI X 241 [vR (some 170)] σ (fun r6 τ3 => Q (some (vI r6)) τ3)) ∧ (x3 = 3 → Q (some (vI (σ.1 170 21))) σ) ∧ (x3 ≠ 0 ∧ x3 ≠ 1 ∧ x3 ≠ 2 ∧ x3 ≠ 3 → CI X 161 [vI x3, vI 10, vI 16] σ (fun r7 τ4 => InR r7 ∧ (r7 = 0 → Q (some (vI (-2))) τ4) ∧ (¬ r7 = 0 → CI X 190 [vR (some 170), vI (x3 - 10)] τ4 (fun r9 τ5 => InR r9 ∧ (r9 = 0 → Q (some (vI (-2))) τ5) ∧ (¬ r9 = 0 → (0 ≤ x3 - 10 ∧ x3 - 10 < 7) ∧ Q (some (vI (τ5.2 174 (x3 - 10).toNat))) τ5)))))) ∧ (¬ x2 ≤ σ.1 170 19 → CV X 202 [vR (some 170)] σ (fun τ6 => Ev X 243 11 [some (vR (some 170)), none, some (vI x2), some (vI x3)] [] τ6 Q))) : Ev X 243 11 [some (vR (some 170)), none, some (vI x2), some (vI x3)] [] σ Q := by
  have hcd : cds 243 = cd_243 := rfl
  refine e_nx hcd rfl rfl ?_
  refine r_getI hcd rfl rfl rfl ?_
  refine e_nx hcd rfl rfl ?_
  obtain ⟨h1, H⟩ := H
  obtain ⟨h2, H⟩ := H
  refine r_icmp hcd rfl h1 h2 (fun hc => ?_) (fun hc => ?_)
  · replace H := H.1 hc
    refine e_nx hcd rfl rfl ?_
    obtain ⟨h3, H⟩ := H
    refine r_tab hcd rfl h3 ?_
    by_cases hs12 : x3 = 0
    · replace H := H.1 hs12
      refine e_pc (i2 := 20) (by rw [hs12]; rfl) ?_
      refine e_nx hcd rfl rfl ?_
      refine r_cv hcd rfl (by omega) rfl rfl rfl (Nat.le_of_ble_eq_true rfl) ?_
      refine Cl.mono H (fun v τ1 hq => ?_)
      obtain ⟨r4, rfl, H⟩ := hq
      show Ev X 243 22 _ [vI r4] τ1 Q
      exact r_iret hcd rfl rfl rfl H
    by_cases hs13 : x3 = 1
    · replace H := H.2.1 hs13
      refine e_pc (i2 := 23) (by rw [hs13]; rfl) ?_
      refine e_nx hcd rfl rfl ?_
      refine r_cv hcd rfl (by omega) rfl rfl rfl (Nat.le_of_ble_eq_true rfl) ?_
      refine Cl.mono H (fun v τ2 hq => ?_)
      obtain ⟨r5, rfl, H⟩ := hq
      show Ev X 243 25 _ [vI r5] τ2 Q
      exact r_iret hcd rfl rfl rfl H
    by_cases hs14 : x3 = 2
    · replace H := H.2.2.1 hs14
      refine e_pc (i2 := 26) (by rw [hs14]; rfl) ?_
      refine e_nx hcd rfl rfl ?_
      refine r_cv hcd rfl (by omega) rfl rfl rfl (Nat.le_of_ble_eq_true rfl) ?_
      refine Cl.mono H (fun v τ3 hq => ?_)
      obtain ⟨r6, rfl, H⟩ := hq
      show Ev X 243 28 _ [vI r6] τ3 Q
      exact r_iret hcd rfl rfl rfl H
    by_cases hs15 : x3 = 3
    · replace H := H.2.2.2.1 hs15
      refine e_pc (i2 := 29) (by rw [hs15]; rfl) ?_
      refine e_nx hcd rfl rfl ?_
      refine r_getI hcd rfl rfl rfl ?_
      exact r_iret hcd rfl rfl rfl H
    replace H := H.2.2.2.2 ⟨hs12, hs13, hs14, hs15⟩
    refine e_pc (i2 := 32) (tab_def (lo := 0) (hi := 3) (fun h1 h2 => ?_)) ?_
    · omega
    · refine e_nx hcd rfl rfl ?_
      iterate 2 (refine e_nx hcd rfl rfl ?_)
      refine r_cs hcd rfl (by omega) (Nat.le_of_ble_eq_true rfl) rfl rfl (Nat.le_of_ble_eq_true rfl) ?_
      refine Cl.mono H (fun v τ4 hq => ?_)
      obtain ⟨r7, rfl, H⟩ := hq
      show Ev X 243 36 _ [vI r7] τ4 Q
      obtain ⟨h8, H⟩ := H
      refine r_if hcd rfl h8 (fun hc => ?_) (fun hc => ?_)
      · replace H := H.1 hc
        refine e_nx hcd rfl rfl ?_
        exact r_iret hcd rfl rfl rfl H
      · replace H := H.2 hc
        iterate 4 (refine e_nx hcd rfl rfl ?_)
        refine r_cv hcd rfl (by omega) rfl rfl rfl (Nat.le_of_ble_eq_true rfl) ?_
        refine Cl.mono H (fun v τ5 hq => ?_)
        obtain ⟨r9, rfl, H⟩ := hq
        show Ev X 243 42 _ [vI r9] τ5 Q
        obtain ⟨h10, H⟩ := H
        refine r_if hcd rfl h10 (fun hc => ?_) (fun hc => ?_)
        · replace H := H.1 hc
          refine e_nx hcd rfl rfl ?_
          exact r_iret hcd rfl rfl rfl H
        · replace H := H.2 hc
          refine e_nx hcd rfl rfl ?_
          refine r_getR hcd rfl rfl rfl ?_
          iterate 3 (refine e_nx hcd rfl rfl ?_)
          obtain ⟨h11, H⟩ := H
          refine r_ild hcd rfl rfl (by omega) h11 ?_
          refine e_nx hcd rfl rfl ?_
          exact r_iret hcd rfl rfl rfl H
  · replace H := H.2 hc
    refine e_nx hcd rfl rfl ?_
    refine r_cv hcd rfl (by omega) rfl rfl rfl (Nat.le_of_ble_eq_true rfl) ?_
    refine Cl.mono H (fun v τ6 hq => ?_)
    obtain ⟨rfl, H⟩ := hq
    show Ev X 243 17 _ [] τ6 Q
    refine e_nx hcd rfl rfl ?_
    exact H
/-! X12_passedOf -/
theorem v_244 {X : PX} {σ : Sg} {Q : Option PV → Sg → Prop}   (H : CI X 240 [vR (some 170)] σ (fun r1 τ1 => Ev X 244 3 [some (vR (some 170)), some (vI r1)] [] τ1 Q)) : Cl X 244 [vR (some 170)] σ Q := by
  have hcd : cds 244 = cd_244 := rfl
  refine c_in (Nat.le_of_ble_eq_true rfl) rfl rfl ?_
  show Ev X 244 0 [some (vR (some 170)), none] [] σ Q
  refine e_nx hcd rfl rfl ?_
  refine r_cv hcd rfl (by omega) rfl rfl rfl (Nat.le_of_ble_eq_true rfl) ?_
  refine Cl.mono H (fun v τ1 hq => ?_)
  obtain ⟨r1, rfl, H⟩ := hq
  show Ev X 244 2 _ [vI r1] τ1 Q
  refine e_nx hcd rfl rfl ?_
  show Ev X 244 3 [some (vR (some 170)), some (vI r1)] [] _ Q
  exact H
theorem v_244_3 {X : PX} {σ : Sg} {Q : Option PV → Sg → Prop} {x1 : Int}  (H : InR (σ.1 170 19) ∧ (50 ≤ σ.1 170 19 → Q (some (vI (-1))) σ) ∧ (¬ 50 ≤ σ.1 170 19 → CV X 202 [vR (some 170)] σ (fun τ1 => CI X 240 [vR (some 170)] τ1 (fun r2 τ2 => InR r2 ∧ InR x1 ∧ (r2 = x1 → Ev X 244 3 [some (vR (some 170)), some (vI x1)] [] τ2 Q) ∧ (¬ r2 = x1 → Q (some (vI (τ2.1 170 19))) τ2))))) : Ev X 244 3 [some (vR (some 170)), some (vI x1)] [] σ Q := by
  have hcd : cds 244 = cd_244 := rfl
  refine e_nx hcd rfl rfl ?_
  refine r_getI hcd rfl rfl rfl ?_
  refine e_nx hcd rfl rfl ?_
  obtain ⟨h1, H⟩ := H
  refine r_icmp hcd rfl h1 (by omega) (fun hc => ?_) (fun hc => ?_)
  · replace H := H.1 hc
    refine e_nx hcd rfl rfl ?_
    exact r_iret hcd rfl rfl rfl H
  · replace H := H.2 hc
    refine e_nx hcd rfl rfl ?_
    refine r_cv hcd rfl (by omega) rfl rfl rfl (Nat.le_of_ble_eq_true rfl) ?_
    refine Cl.mono H (fun v τ1 hq => ?_)
    obtain ⟨rfl, H⟩ := hq
    show Ev X 244 9 _ [] τ1 Q
    refine e_nx hcd rfl rfl ?_
    refine r_cv hcd rfl (by omega) rfl rfl rfl (Nat.le_of_ble_eq_true rfl) ?_
    refine Cl.mono H (fun v τ2 hq => ?_)
    obtain ⟨r2, rfl, H⟩ := hq
    show Ev X 244 11 _ [vI r2] τ2 Q
    refine e_nx hcd rfl rfl ?_
    obtain ⟨h3, H⟩ := H
    obtain ⟨h4, H⟩ := H
    refine r_icmp hcd rfl h3 h4 (fun hc => ?_) (fun hc => ?_)
    · replace H := H.1 hc
      exact H
    · replace H := H.2 hc
      refine e_nx hcd rfl rfl ?_
      refine r_getI hcd rfl rfl rfl ?_
      exact r_iret hcd rfl rfl rfl H
