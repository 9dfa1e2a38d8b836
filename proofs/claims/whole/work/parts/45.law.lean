/-! THE LAW'S LOOP, stretch by stretch (printed by wip/whole/emit_law.py) -/
set_option maxRecDepth 20000 in
theorem v_284_10 {X : PX} {σ : Sg} {Q : Option PV → Sg → Prop} {x3 : Int} (H : InR x3 ∧ InR (((X 14).1 : Int) - 6) ∧ (((X 14).1 : Int) - 6 < x3 → Q (some (vI 1)) σ) ∧ (¬ ((X 14).1 : Int) - 6 < x3 → (0 ≤ x3 ∧ x3 < (X 14).1) ∧ InR (iAnd ((X 14).2 x3.toNat) 63) ∧ (iAnd ((X 14).2 x3.toNat) 63 = 0 → Ev X 284 22 [some (vR (some (PK + 14))), some (vR (some 0)), some (vR (some 170)), some (vI x3)] [] σ Q) ∧ (iAnd ((X 14).2 x3.toNat) 63 = 1 → Ev X 284 79 [some (vR (some (PK + 14))), some (vR (some 0)), some (vR (some 170)), some (vI x3)] [] σ Q) ∧ (iAnd ((X 14).2 x3.toNat) 63 = 2 → Ev X 284 96 [some (vR (some (PK + 14))), some (vR (some 0)), some (vR (some 170)), some (vI x3)] [] σ Q) ∧ (iAnd ((X 14).2 x3.toNat) 63 = 3 → Ev X 284 123 [some (vR (some (PK + 14))), some (vR (some 0)), some (vR (some 170)), some (vI x3)] [] σ Q) ∧ (iAnd ((X 14).2 x3.toNat) 63 = 4 → Ev X 284 140 [some (vR (some (PK + 14))), some (vR (some 0)), some (vR (some 170)), some (vI x3)] [] σ Q) ∧ (iAnd ((X 14).2 x3.toNat) 63 = 5 → Ev X 284 167 [some (vR (some (PK + 14))), some (vR (some 0)), some (vR (some 170)), some (vI x3)] [] σ Q) ∧ (iAnd ((X 14).2 x3.toNat) 63 = 6 → Ev X 284 204 [some (vR (some (PK + 14))), some (vR (some 0)), some (vR (some 170)), some (vI x3)] [] σ Q) ∧ (iAnd ((X 14).2 x3.toNat) 63 = 7 → Ev X 284 231 [some (vR (some (PK + 14))), some (vR (some 0)), some (vR (some 170)), some (vI x3)] [] σ Q) ∧ (iAnd ((X 14).2 x3.toNat) 63 = 8 → Ev X 284 278 [some (vR (some (PK + 14))), some (vR (some 0)), some (vR (some 170)), some (vI x3)] [] σ Q) ∧ (iAnd ((X 14).2 x3.toNat) 63 = 9 → Ev X 284 315 [some (vR (some (PK + 14))), some (vR (some 0)), some (vR (some 170)), some (vI x3)] [] σ Q) ∧ (iAnd ((X 14).2 x3.toNat) 63 = 10 → Ev X 284 350 [some (vR (some (PK + 14))), some (vR (some 0)), some (vR (some 170)), some (vI x3)] [] σ Q) ∧ (iAnd ((X 14).2 x3.toNat) 63 = 11 → Ev X 284 395 [some (vR (some (PK + 14))), some (vR (some 0)), some (vR (some 170)), some (vI x3)] [] σ Q) ∧ (iAnd ((X 14).2 x3.toNat) 63 = 12 → Ev X 284 430 [some (vR (some (PK + 14))), some (vR (some 0)), some (vR (some 170)), some (vI x3)] [] σ Q) ∧ (iAnd ((X 14).2 x3.toNat) 63 = 13 → Ev X 284 457 [some (vR (some (PK + 14))), some (vR (some 0)), some (vR (some 170)), some (vI x3)] [] σ Q) ∧ (iAnd ((X 14).2 x3.toNat) 63 = 14 → Ev X 284 484 [some (vR (some (PK + 14))), some (vR (some 0)), some (vR (some 170)), some (vI x3)] [] σ Q) ∧ (iAnd ((X 14).2 x3.toNat) 63 = 15 → Ev X 284 521 [some (vR (some (PK + 14))), some (vR (some 0)), some (vR (some 170)), some (vI x3)] [] σ Q) ∧ (iAnd ((X 14).2 x3.toNat) 63 = 16 → Ev X 284 586 [some (vR (some (PK + 14))), some (vR (some 0)), some (vR (some 170)), some (vI x3)] [] σ Q) ∧ (iAnd ((X 14).2 x3.toNat) 63 = 17 → Ev X 284 641 [some (vR (some (PK + 14))), some (vR (some 0)), some (vR (some 170)), some (vI x3)] [] σ Q) ∧ (iAnd ((X 14).2 x3.toNat) 63 = 18 → Ev X 284 686 [some (vR (some (PK + 14))), some (vR (some 0)), some (vR (some 170)), some (vI x3)] [] σ Q) ∧ (iAnd ((X 14).2 x3.toNat) 63 = 19 → Ev X 284 723 [some (vR (some (PK + 14))), some (vR (some 0)), some (vR (some 170)), some (vI x3)] [] σ Q) ∧ (iAnd ((X 14).2 x3.toNat) 63 = 20 → Ev X 284 760 [some (vR (some (PK + 14))), some (vR (some 0)), some (vR (some 170)), some (vI x3)] [] σ Q) ∧ (iAnd ((X 14).2 x3.toNat) 63 = 21 → Ev X 284 807 [some (vR (some (PK + 14))), some (vR (some 0)), some (vR (some 170)), some (vI x3)] [] σ Q) ∧ (iAnd ((X 14).2 x3.toNat) 63 = 22 → Ev X 284 834 [some (vR (some (PK + 14))), some (vR (some 0)), some (vR (some 170)), some (vI x3)] [] σ Q) ∧ (iAnd ((X 14).2 x3.toNat) 63 = 23 → Ev X 284 861 [some (vR (some (PK + 14))), some (vR (some 0)), some (vR (some 170)), some (vI x3)] [] σ Q) ∧ (iAnd ((X 14).2 x3.toNat) 63 = 24 → Ev X 284 888 [some (vR (some (PK + 14))), some (vR (some 0)), some (vR (some 170)), some (vI x3)] [] σ Q) ∧ (iAnd ((X 14).2 x3.toNat) 63 = 25 → Ev X 284 925 [some (vR (some (PK + 14))), some (vR (some 0)), some (vR (some 170)), some (vI x3)] [] σ Q) ∧ (iAnd ((X 14).2 x3.toNat) 63 = 26 → Ev X 284 962 [some (vR (some (PK + 14))), some (vR (some 0)), some (vR (some 170)), some (vI x3)] [] σ Q) ∧ (iAnd ((X 14).2 x3.toNat) 63 = 27 → Ev X 284 999 [some (vR (some (PK + 14))), some (vR (some 0)), some (vR (some 170)), some (vI x3)] [] σ Q) ∧ (iAnd ((X 14).2 x3.toNat) 63 = 28 → Ev X 284 1026 [some (vR (some (PK + 14))), some (vR (some 0)), some (vR (some 170)), some (vI x3)] [] σ Q) ∧ (iAnd ((X 14).2 x3.toNat) 63 = 29 → Ev X 284 1063 [some (vR (some (PK + 14))), some (vR (some 0)), some (vR (some 170)), some (vI x3)] [] σ Q) ∧ (iAnd ((X 14).2 x3.toNat) 63 = 30 → Ev X 284 1090 [some (vR (some (PK + 14))), some (vR (some 0)), some (vR (some 170)), some (vI x3)] [] σ Q) ∧ (iAnd ((X 14).2 x3.toNat) 63 = 31 → Ev X 284 1127 [some (vR (some (PK + 14))), some (vR (some 0)), some (vR (some 170)), some (vI x3)] [] σ Q) ∧ (iAnd ((X 14).2 x3.toNat) 63 = 32 → Ev X 284 1182 [some (vR (some (PK + 14))), some (vR (some 0)), some (vR (some 170)), some (vI x3)] [] σ Q) ∧ (iAnd ((X 14).2 x3.toNat) 63 = 33 → Ev X 284 1219 [some (vR (some (PK + 14))), some (vR (some 0)), some (vR (some 170)), some (vI x3)] [] σ Q) ∧ (iAnd ((X 14).2 x3.toNat) 63 = 34 → Ev X 284 1236 [some (vR (some (PK + 14))), some (vR (some 0)), some (vR (some 170)), some (vI x3)] [] σ Q) ∧ (iAnd ((X 14).2 x3.toNat) 63 = 35 → Ev X 284 1253 [some (vR (some (PK + 14))), some (vR (some 0)), some (vR (some 170)), some (vI x3)] [] σ Q) ∧ (iAnd ((X 14).2 x3.toNat) 63 ≠ 0 ∧ iAnd ((X 14).2 x3.toNat) 63 ≠ 1 ∧ iAnd ((X 14).2 x3.toNat) 63 ≠ 2 ∧ iAnd ((X 14).2 x3.toNat) 63 ≠ 3 ∧ iAnd ((X 14).2 x3.toNat) 63 ≠ 4 ∧ iAnd ((X 14).2 x3.toNat) 63 ≠ 5 ∧ iAnd ((X 14).2 x3.toNat) 63 ≠ 6 ∧ iAnd ((X 14).2 x3.toNat) 63 ≠ 7 ∧ iAnd ((X 14).2 x3.toNat) 63 ≠ 8 ∧ iAnd ((X 14).2 x3.toNat) 63 ≠ 9 ∧ iAnd ((X 14).2 x3.toNat) 63 ≠ 10 ∧ iAnd ((X 14).2 x3.toNat) 63 ≠ 11 ∧ iAnd ((X 14).2 x3.toNat) 63 ≠ 12 ∧ iAnd ((X 14).2 x3.toNat) 63 ≠ 13 ∧ iAnd ((X 14).2 x3.toNat) 63 ≠ 14 ∧ iAnd ((X 14).2 x3.toNat) 63 ≠ 15 ∧ iAnd ((X 14).2 x3.toNat) 63 ≠ 16 ∧ iAnd ((X 14).2 x3.toNat) 63 ≠ 17 ∧ iAnd ((X 14).2 x3.toNat) 63 ≠ 18 ∧ iAnd ((X 14).2 x3.toNat) 63 ≠ 19 ∧ iAnd ((X 14).2 x3.toNat) 63 ≠ 20 ∧ iAnd ((X 14).2 x3.toNat) 63 ≠ 21 ∧ iAnd ((X 14).2 x3.toNat) 63 ≠ 22 ∧ iAnd ((X 14).2 x3.toNat) 63 ≠ 23 ∧ iAnd ((X 14).2 x3.toNat) 63 ≠ 24 ∧ iAnd ((X 14).2 x3.toNat) 63 ≠ 25 ∧ iAnd ((X 14).2 x3.toNat) 63 ≠ 26 ∧ iAnd ((X 14).2 x3.toNat) 63 ≠ 27 ∧ iAnd ((X 14).2 x3.toNat) 63 ≠ 28 ∧ iAnd ((X 14).2 x3.toNat) 63 ≠ 29 ∧ iAnd ((X 14).2 x3.toNat) 63 ≠ 30 ∧ iAnd ((X 14).2 x3.toNat) 63 ≠ 31 ∧ iAnd ((X 14).2 x3.toNat) 63 ≠ 32 ∧ iAnd ((X 14).2 x3.toNat) 63 ≠ 33 ∧ iAnd ((X 14).2 x3.toNat) 63 ≠ 34 ∧ iAnd ((X 14).2 x3.toNat) 63 ≠ 35 → Ev X 284 1270 [some (vR (some (PK + 14))), some (vR (some 0)), some (vR (some 170)), some (vI x3)] [] σ Q))) : Ev X 284 10 [some (vR (some (PK + 14))), some (vR (some 0)), some (vR (some 170)), some (vI x3)] [] σ Q := by
  have hcd : cds 284 = cd_284 := rfl
  iterate 2 (refine e_nx hcd rfl rfl ?_)
  refine r_xln hcd rfl (Nat.le_of_ble_eq_true rfl) (Nat.le_of_ble_eq_true rfl) ?_
  show Ev X 284 13 [some (vR (some (PK + 14))), some (vR (some 0)), some (vR (some 170)), some (vI x3)] [vI ((X 14).1 : Int), vI x3] _ Q
  iterate 2 (refine e_nx hcd rfl rfl ?_)
  obtain ⟨h1, H⟩ := H
  obtain ⟨h2, H⟩ := H
  refine r_icmp hcd rfl h1 h2 (fun hc => ?_) (fun hc => ?_)
  · replace H := H.1 hc
    refine e_nx hcd rfl rfl ?_
    exact r_zret hcd rfl rfl rfl (by omega) H
  · replace H := H.2 hc
    iterate 2 (refine e_nx hcd rfl rfl ?_)
    obtain ⟨h3, H⟩ := H
    refine r_xld hcd rfl (Nat.le_of_ble_eq_true rfl) (Nat.le_of_ble_eq_true rfl) h3 ?_
    show Ev X 284 19 [some (vR (some (PK + 14))), some (vR (some 0)), some (vR (some 170)), some (vI x3)] [vI ((X 14).2 x3.toNat)] _ Q
    iterate 2 (refine e_nx hcd rfl rfl ?_)
    obtain ⟨h4, H⟩ := H
    refine r_tab hcd rfl h4 ?_
    by_cases hs5 : iAnd ((X 14).2 x3.toNat) 63 = 0
    · replace H := H.1 hs5
      refine e_pc (i2 := 22) (by rw [hs5]; rfl) ?_
      exact H
    by_cases hs6 : iAnd ((X 14).2 x3.toNat) 63 = 1
    · replace H := H.2.1 hs6
      refine e_pc (i2 := 79) (by rw [hs6]; rfl) ?_
      exact H
    by_cases hs7 : iAnd ((X 14).2 x3.toNat) 63 = 2
    · replace H := H.2.2.1 hs7
      refine e_pc (i2 := 96) (by rw [hs7]; rfl) ?_
      exact H
    by_cases hs8 : iAnd ((X 14).2 x3.toNat) 63 = 3
    · replace H := H.2.2.2.1 hs8
      refine e_pc (i2 := 123) (by rw [hs8]; rfl) ?_
      exact H
    by_cases hs9 : iAnd ((X 14).2 x3.toNat) 63 = 4
    · replace H := H.2.2.2.2.1 hs9
      refine e_pc (i2 := 140) (by rw [hs9]; rfl) ?_
      exact H
    by_cases hs10 : iAnd ((X 14).2 x3.toNat) 63 = 5
    · replace H := H.2.2.2.2.2.1 hs10
      refine e_pc (i2 := 167) (by rw [hs10]; rfl) ?_
      exact H
    by_cases hs11 : iAnd ((X 14).2 x3.toNat) 63 = 6
    · replace H := H.2.2.2.2.2.2.1 hs11
      refine e_pc (i2 := 204) (by rw [hs11]; rfl) ?_
      exact H
    by_cases hs12 : iAnd ((X 14).2 x3.toNat) 63 = 7
    · replace H := H.2.2.2.2.2.2.2.1 hs12
      refine e_pc (i2 := 231) (by rw [hs12]; rfl) ?_
      exact H
    by_cases hs13 : iAnd ((X 14).2 x3.toNat) 63 = 8
    · replace H := H.2.2.2.2.2.2.2.2.1 hs13
      refine e_pc (i2 := 278) (by rw [hs13]; rfl) ?_
      exact H
    by_cases hs14 : iAnd ((X 14).2 x3.toNat) 63 = 9
    · replace H := H.2.2.2.2.2.2.2.2.2.1 hs14
      refine e_pc (i2 := 315) (by rw [hs14]; rfl) ?_
      exact H
    by_cases hs15 : iAnd ((X 14).2 x3.toNat) 63 = 10
    · replace H := H.2.2.2.2.2.2.2.2.2.2.1 hs15
      refine e_pc (i2 := 350) (by rw [hs15]; rfl) ?_
      exact H
    by_cases hs16 : iAnd ((X 14).2 x3.toNat) 63 = 11
    · replace H := H.2.2.2.2.2.2.2.2.2.2.2.1 hs16
      refine e_pc (i2 := 395) (by rw [hs16]; rfl) ?_
      exact H
    by_cases hs17 : iAnd ((X 14).2 x3.toNat) 63 = 12
    · replace H := H.2.2.2.2.2.2.2.2.2.2.2.2.1 hs17
      refine e_pc (i2 := 430) (by rw [hs17]; rfl) ?_
      exact H
    by_cases hs18 : iAnd ((X 14).2 x3.toNat) 63 = 13
    · replace H := H.2.2.2.2.2.2.2.2.2.2.2.2.2.1 hs18
      refine e_pc (i2 := 457) (by rw [hs18]; rfl) ?_
      exact H
    by_cases hs19 : iAnd ((X 14).2 x3.toNat) 63 = 14
    · replace H := H.2.2.2.2.2.2.2.2.2.2.2.2.2.2.1 hs19
      refine e_pc (i2 := 484) (by rw [hs19]; rfl) ?_
      exact H
    by_cases hs20 : iAnd ((X 14).2 x3.toNat) 63 = 15
    · replace H := H.2.2.2.2.2.2.2.2.2.2.2.2.2.2.2.1 hs20
      refine e_pc (i2 := 521) (by rw [hs20]; rfl) ?_
      exact H
    by_cases hs21 : iAnd ((X 14).2 x3.toNat) 63 = 16
    · replace H := H.2.2.2.2.2.2.2.2.2.2.2.2.2.2.2.2.1 hs21
      refine e_pc (i2 := 586) (by rw [hs21]; rfl) ?_
      exact H
    by_cases hs22 : iAnd ((X 14).2 x3.toNat) 63 = 17
    · replace H := H.2.2.2.2.2.2.2.2.2.2.2.2.2.2.2.2.2.1 hs22
      refine e_pc (i2 := 641) (by rw [hs22]; rfl) ?_
      exact H
    by_cases hs23 : iAnd ((X 14).2 x3.toNat) 63 = 18
    · replace H := H.2.2.2.2.2.2.2.2.2.2.2.2.2.2.2.2.2.2.1 hs23
      refine e_pc (i2 := 686) (by rw [hs23]; rfl) ?_
      exact H
    by_cases hs24 : iAnd ((X 14).2 x3.toNat) 63 = 19
    · replace H := H.2.2.2.2.2.2.2.2.2.2.2.2.2.2.2.2.2.2.2.1 hs24
      refine e_pc (i2 := 723) (by rw [hs24]; rfl) ?_
      exact H
    by_cases hs25 : iAnd ((X 14).2 x3.toNat) 63 = 20
    · replace H := H.2.2.2.2.2.2.2.2.2.2.2.2.2.2.2.2.2.2.2.2.1 hs25
      refine e_pc (i2 := 760) (by rw [hs25]; rfl) ?_
      exact H
    by_cases hs26 : iAnd ((X 14).2 x3.toNat) 63 = 21
    · replace H := H.2.2.2.2.2.2.2.2.2.2.2.2.2.2.2.2.2.2.2.2.2.1 hs26
      refine e_pc (i2 := 807) (by rw [hs26]; rfl) ?_
      exact H
    by_cases hs27 : iAnd ((X 14).2 x3.toNat) 63 = 22
    · replace H := H.2.2.2.2.2.2.2.2.2.2.2.2.2.2.2.2.2.2.2.2.2.2.1 hs27
      refine e_pc (i2 := 834) (by rw [hs27]; rfl) ?_
      exact H
    by_cases hs28 : iAnd ((X 14).2 x3.toNat) 63 = 23
    · replace H := H.2.2.2.2.2.2.2.2.2.2.2.2.2.2.2.2.2.2.2.2.2.2.2.1 hs28
      refine e_pc (i2 := 861) (by rw [hs28]; rfl) ?_
      exact H
    by_cases hs29 : iAnd ((X 14).2 x3.toNat) 63 = 24
    · replace H := H.2.2.2.2.2.2.2.2.2.2.2.2.2.2.2.2.2.2.2.2.2.2.2.2.1 hs29
      refine e_pc (i2 := 888) (by rw [hs29]; rfl) ?_
      exact H
    by_cases hs30 : iAnd ((X 14).2 x3.toNat) 63 = 25
    · replace H := H.2.2.2.2.2.2.2.2.2.2.2.2.2.2.2.2.2.2.2.2.2.2.2.2.2.1 hs30
      refine e_pc (i2 := 925) (by rw [hs30]; rfl) ?_
      exact H
    by_cases hs31 : iAnd ((X 14).2 x3.toNat) 63 = 26
    · replace H := H.2.2.2.2.2.2.2.2.2.2.2.2.2.2.2.2.2.2.2.2.2.2.2.2.2.2.1 hs31
      refine e_pc (i2 := 962) (by rw [hs31]; rfl) ?_
      exact H
    by_cases hs32 : iAnd ((X 14).2 x3.toNat) 63 = 27
    · replace H := H.2.2.2.2.2.2.2.2.2.2.2.2.2.2.2.2.2.2.2.2.2.2.2.2.2.2.2.1 hs32
      refine e_pc (i2 := 999) (by rw [hs32]; rfl) ?_
      exact H
    by_cases hs33 : iAnd ((X 14).2 x3.toNat) 63 = 28
    · replace H := H.2.2.2.2.2.2.2.2.2.2.2.2.2.2.2.2.2.2.2.2.2.2.2.2.2.2.2.2.1 hs33
      refine e_pc (i2 := 1026) (by rw [hs33]; rfl) ?_
      exact H
    by_cases hs34 : iAnd ((X 14).2 x3.toNat) 63 = 29
    · replace H := H.2.2.2.2.2.2.2.2.2.2.2.2.2.2.2.2.2.2.2.2.2.2.2.2.2.2.2.2.2.1 hs34
      refine e_pc (i2 := 1063) (by rw [hs34]; rfl) ?_
      exact H
    by_cases hs35 : iAnd ((X 14).2 x3.toNat) 63 = 30
    · replace H := H.2.2.2.2.2.2.2.2.2.2.2.2.2.2.2.2.2.2.2.2.2.2.2.2.2.2.2.2.2.2.1 hs35
      refine e_pc (i2 := 1090) (by rw [hs35]; rfl) ?_
      exact H
    by_cases hs36 : iAnd ((X 14).2 x3.toNat) 63 = 31
    · replace H := H.2.2.2.2.2.2.2.2.2.2.2.2.2.2.2.2.2.2.2.2.2.2.2.2.2.2.2.2.2.2.2.1 hs36
      refine e_pc (i2 := 1127) (by rw [hs36]; rfl) ?_
      exact H
    by_cases hs37 : iAnd ((X 14).2 x3.toNat) 63 = 32
    · replace H := H.2.2.2.2.2.2.2.2.2.2.2.2.2.2.2.2.2.2.2.2.2.2.2.2.2.2.2.2.2.2.2.2.1 hs37
      refine e_pc (i2 := 1182) (by rw [hs37]; rfl) ?_
      exact H
    by_cases hs38 : iAnd ((X 14).2 x3.toNat) 63 = 33
    · replace H := H.2.2.2.2.2.2.2.2.2.2.2.2.2.2.2.2.2.2.2.2.2.2.2.2.2.2.2.2.2.2.2.2.2.1 hs38
      refine e_pc (i2 := 1219) (by rw [hs38]; rfl) ?_
      exact H
    by_cases hs39 : iAnd ((X 14).2 x3.toNat) 63 = 34
    · replace H := H.2.2.2.2.2.2.2.2.2.2.2.2.2.2.2.2.2.2.2.2.2.2.2.2.2.2.2.2.2.2.2.2.2.2.1 hs39
      refine e_pc (i2 := 1236) (by rw [hs39]; rfl) ?_
      exact H
    by_cases hs40 : iAnd ((X 14).2 x3.toNat) 63 = 35
    · replace H := H.2.2.2.2.2.2.2.2.2.2.2.2.2.2.2.2.2.2.2.2.2.2.2.2.2.2.2.2.2.2.2.2.2.2.2.1 hs40
      refine e_pc (i2 := 1253) (by rw [hs40]; rfl) ?_
      exact H
    replace H := H.2.2.2.2.2.2.2.2.2.2.2.2.2.2.2.2.2.2.2.2.2.2.2.2.2.2.2.2.2.2.2.2.2.2.2.2 ⟨hs5, hs6, hs7, hs8, hs9, hs10, hs11, hs12, hs13, hs14, hs15, hs16, hs17, hs18, hs19, hs20, hs21, hs22, hs23, hs24, hs25, hs26, hs27, hs28, hs29, hs30, hs31, hs32, hs33, hs34, hs35, hs36, hs37, hs38, hs39, hs40⟩
    refine e_pc (i2 := 1270) (tab_def (lo := 0) (hi := 35) (fun h1 h2 => ?_)) ?_
    · omega
    · exact H
set_option maxRecDepth 20000 in
theorem v_284_22 {X : PX} {σ : Sg} {Q : Option PV → Sg → Prop} {x3 : Int} (H : (0 ≤ x3 + 1 ∧ x3 + 1 < (X 14).1) ∧ (0 ≤ x3 + 2 ∧ x3 + 2 < (X 14).1) ∧ (0 ≤ x3 + 3 ∧ x3 + 3 < (X 14).1) ∧ (0 ≤ x3 + 4 ∧ x3 + 4 < (X 14).1) ∧ (0 ≤ x3 + 5 ∧ x3 + 5 < (X 14).1) ∧ CI X 120 [vR (some 0), vI ((X 14).2 (x3 + 1).toNat), vI ((X 14).2 (x3 + 2).toNat), vI ((X 14).2 (x3 + 3).toNat), vI ((X 14).2 (x3 + 4).toNat), vI ((X 14).2 (x3 + 5).toNat)] σ (fun r6 τ1 => CI X 162 [vR (some 170), vI ((X 14).2 (x3 + 1).toNat), vI ((X 14).2 (x3 + 2).toNat), vI ((X 14).2 (x3 + 3).toNat), vI ((X 14).2 (x3 + 4).toNat), vI ((X 14).2 (x3 + 5).toNat)] τ1 (fun r7 τ2 => InR r6 ∧ InR r7 ∧ (r6 = r7 → Ev X 284 1270 [some (vR (some (PK + 14))), some (vR (some 0)), some (vR (some 170)), some (vI x3)] [] τ2 Q) ∧ (¬ r6 = r7 → Q (some (vI 0)) τ2)))) : Ev X 284 22 [some (vR (some (PK + 14))), some (vR (some 0)), some (vR (some 170)), some (vI x3)] [] σ Q := by
  have hcd : cds 284 = cd_284 := rfl
  iterate 5 (refine e_nx hcd rfl rfl ?_)
  obtain ⟨h1, H⟩ := H
  refine r_xld hcd rfl (Nat.le_of_ble_eq_true rfl) (Nat.le_of_ble_eq_true rfl) h1 ?_
  show Ev X 284 28 [some (vR (some (PK + 14))), some (vR (some 0)), some (vR (some 170)), some (vI x3)] [vI ((X 14).2 (x3 + 1).toNat), vR (some 0)] _ Q
  iterate 4 (refine e_nx hcd rfl rfl ?_)
  obtain ⟨h2, H⟩ := H
  refine r_xld hcd rfl (Nat.le_of_ble_eq_true rfl) (Nat.le_of_ble_eq_true rfl) h2 ?_
  show Ev X 284 33 [some (vR (some (PK + 14))), some (vR (some 0)), some (vR (some 170)), some (vI x3)] [vI ((X 14).2 (x3 + 2).toNat), vI ((X 14).2 (x3 + 1).toNat), vR (some 0)] _ Q
  iterate 4 (refine e_nx hcd rfl rfl ?_)
  obtain ⟨h3, H⟩ := H
  refine r_xld hcd rfl (Nat.le_of_ble_eq_true rfl) (Nat.le_of_ble_eq_true rfl) h3 ?_
  show Ev X 284 38 [some (vR (some (PK + 14))), some (vR (some 0)), some (vR (some 170)), some (vI x3)] [vI ((X 14).2 (x3 + 3).toNat), vI ((X 14).2 (x3 + 2).toNat), vI ((X 14).2 (x3 + 1).toNat), vR (some 0)] _ Q
  iterate 4 (refine e_nx hcd rfl rfl ?_)
  obtain ⟨h4, H⟩ := H
  refine r_xld hcd rfl (Nat.le_of_ble_eq_true rfl) (Nat.le_of_ble_eq_true rfl) h4 ?_
  show Ev X 284 43 [some (vR (some (PK + 14))), some (vR (some 0)), some (vR (some 170)), some (vI x3)] [vI ((X 14).2 (x3 + 4).toNat), vI ((X 14).2 (x3 + 3).toNat), vI ((X 14).2 (x3 + 2).toNat), vI ((X 14).2 (x3 + 1).toNat), vR (some 0)] _ Q
  iterate 4 (refine e_nx hcd rfl rfl ?_)
  obtain ⟨h5, H⟩ := H
  refine r_xld hcd rfl (Nat.le_of_ble_eq_true rfl) (Nat.le_of_ble_eq_true rfl) h5 ?_
  show Ev X 284 48 [some (vR (some (PK + 14))), some (vR (some 0)), some (vR (some 170)), some (vI x3)] [vI ((X 14).2 (x3 + 5).toNat), vI ((X 14).2 (x3 + 4).toNat), vI ((X 14).2 (x3 + 3).toNat), vI ((X 14).2 (x3 + 2).toNat), vI ((X 14).2 (x3 + 1).toNat), vR (some 0)] _ Q
  refine r_cv hcd rfl (by omega) rfl rfl rfl (Nat.le_of_ble_eq_true rfl) ?_
  refine Cl.mono H (fun v τ1 hq => ?_)
  obtain ⟨r6, rfl, H⟩ := hq
  show Ev X 284 49 _ [vI r6] τ1 Q
  iterate 5 (refine e_nx hcd rfl rfl ?_)
  refine r_xld hcd rfl (Nat.le_of_ble_eq_true rfl) (Nat.le_of_ble_eq_true rfl) h1 ?_
  show Ev X 284 55 [some (vR (some (PK + 14))), some (vR (some 0)), some (vR (some 170)), some (vI x3)] [vI ((X 14).2 (x3 + 1).toNat), vR (some 170), vI r6] _ Q
  iterate 4 (refine e_nx hcd rfl rfl ?_)
  refine r_xld hcd rfl (Nat.le_of_ble_eq_true rfl) (Nat.le_of_ble_eq_true rfl) h2 ?_
  show Ev X 284 60 [some (vR (some (PK + 14))), some (vR (some 0)), some (vR (some 170)), some (vI x3)] [vI ((X 14).2 (x3 + 2).toNat), vI ((X 14).2 (x3 + 1).toNat), vR (some 170), vI r6] _ Q
  iterate 4 (refine e_nx hcd rfl rfl ?_)
  refine r_xld hcd rfl (Nat.le_of_ble_eq_true rfl) (Nat.le_of_ble_eq_true rfl) h3 ?_
  show Ev X 284 65 [some (vR (some (PK + 14))), some (vR (some 0)), some (vR (some 170)), some (vI x3)] [vI ((X 14).2 (x3 + 3).toNat), vI ((X 14).2 (x3 + 2).toNat), vI ((X 14).2 (x3 + 1).toNat), vR (some 170), vI r6] _ Q
  iterate 4 (refine e_nx hcd rfl rfl ?_)
  refine r_xld hcd rfl (Nat.le_of_ble_eq_true rfl) (Nat.le_of_ble_eq_true rfl) h4 ?_
  show Ev X 284 70 [some (vR (some (PK + 14))), some (vR (some 0)), some (vR (some 170)), some (vI x3)] [vI ((X 14).2 (x3 + 4).toNat), vI ((X 14).2 (x3 + 3).toNat), vI ((X 14).2 (x3 + 2).toNat), vI ((X 14).2 (x3 + 1).toNat), vR (some 170), vI r6] _ Q
  iterate 4 (refine e_nx hcd rfl rfl ?_)
  refine r_xld hcd rfl (Nat.le_of_ble_eq_true rfl) (Nat.le_of_ble_eq_true rfl) h5 ?_
  show Ev X 284 75 [some (vR (some (PK + 14))), some (vR (some 0)), some (vR (some 170)), some (vI x3)] [vI ((X 14).2 (x3 + 5).toNat), vI ((X 14).2 (x3 + 4).toNat), vI ((X 14).2 (x3 + 3).toNat), vI ((X 14).2 (x3 + 2).toNat), vI ((X 14).2 (x3 + 1).toNat), vR (some 170), vI r6] _ Q
  refine r_cv hcd rfl (by omega) rfl rfl rfl (Nat.le_of_ble_eq_true rfl) ?_
  refine Cl.mono H (fun v τ2 hq => ?_)
  obtain ⟨r7, rfl, H⟩ := hq
  show Ev X 284 76 _ [vI r7, vI r6] τ2 Q
  obtain ⟨h8, H⟩ := H
  obtain ⟨h9, H⟩ := H
  refine r_icmp hcd rfl h8 h9 (fun hc => ?_) (fun hc => ?_)
  · replace H := H.1 hc
    exact H
  · replace H := H.2 hc
    refine e_nx hcd rfl rfl ?_
    exact r_zret hcd rfl rfl rfl (by omega) H
set_option maxRecDepth 20000 in
theorem v_284_79 {X : PX} {σ : Sg} {Q : Option PV → Sg → Prop} {x3 : Int} (H : (0 ≤ x3 + 1 ∧ x3 + 1 < (X 14).1) ∧ CI X 121 [vR (some 0), vI ((X 14).2 (x3 + 1).toNat)] σ (fun r2 τ1 => CI X 163 [vR (some 170), vI ((X 14).2 (x3 + 1).toNat)] τ1 (fun r3 τ2 => InR r2 ∧ InR r3 ∧ (r2 = r3 → Ev X 284 1270 [some (vR (some (PK + 14))), some (vR (some 0)), some (vR (some 170)), some (vI x3)] [] τ2 Q) ∧ (¬ r2 = r3 → Q (some (vI 0)) τ2)))) : Ev X 284 79 [some (vR (some (PK + 14))), some (vR (some 0)), some (vR (some 170)), some (vI x3)] [] σ Q := by
  have hcd : cds 284 = cd_284 := rfl
  iterate 5 (refine e_nx hcd rfl rfl ?_)
  obtain ⟨h1, H⟩ := H
  refine r_xld hcd rfl (Nat.le_of_ble_eq_true rfl) (Nat.le_of_ble_eq_true rfl) h1 ?_
  show Ev X 284 85 [some (vR (some (PK + 14))), some (vR (some 0)), some (vR (some 170)), some (vI x3)] [vI ((X 14).2 (x3 + 1).toNat), vR (some 0)] _ Q
  refine r_cv hcd rfl (by omega) rfl rfl rfl (Nat.le_of_ble_eq_true rfl) ?_
  refine Cl.mono H (fun v τ1 hq => ?_)
  obtain ⟨r2, rfl, H⟩ := hq
  show Ev X 284 86 _ [vI r2] τ1 Q
  iterate 5 (refine e_nx hcd rfl rfl ?_)
  refine r_xld hcd rfl (Nat.le_of_ble_eq_true rfl) (Nat.le_of_ble_eq_true rfl) h1 ?_
  show Ev X 284 92 [some (vR (some (PK + 14))), some (vR (some 0)), some (vR (some 170)), some (vI x3)] [vI ((X 14).2 (x3 + 1).toNat), vR (some 170), vI r2] _ Q
  refine r_cv hcd rfl (by omega) rfl rfl rfl (Nat.le_of_ble_eq_true rfl) ?_
  refine Cl.mono H (fun v τ2 hq => ?_)
  obtain ⟨r3, rfl, H⟩ := hq
  show Ev X 284 93 _ [vI r3, vI r2] τ2 Q
  obtain ⟨h4, H⟩ := H
  obtain ⟨h5, H⟩ := H
  refine r_icmp hcd rfl h4 h5 (fun hc => ?_) (fun hc => ?_)
  · replace H := H.1 hc
    exact H
  · replace H := H.2 hc
    refine e_nx hcd rfl rfl ?_
    exact r_zret hcd rfl rfl rfl (by omega) H
set_option maxRecDepth 20000 in
theorem v_284_96 {X : PX} {σ : Sg} {Q : Option PV → Sg → Prop} {x3 : Int} (H : (0 ≤ x3 + 1 ∧ x3 + 1 < (X 14).1) ∧ (0 ≤ x3 + 2 ∧ x3 + 2 < (X 14).1) ∧ CI X 122 [vR (some 0), vI ((X 14).2 (x3 + 1).toNat), vI ((X 14).2 (x3 + 2).toNat)] σ (fun r3 τ1 => CI X 187 [vR (some 170), vI ((X 14).2 (x3 + 1).toNat), vI ((X 14).2 (x3 + 2).toNat)] τ1 (fun r4 τ2 => InR r3 ∧ InR r4 ∧ (r3 = r4 → Ev X 284 1270 [some (vR (some (PK + 14))), some (vR (some 0)), some (vR (some 170)), some (vI x3)] [] τ2 Q) ∧ (¬ r3 = r4 → Q (some (vI 0)) τ2)))) : Ev X 284 96 [some (vR (some (PK + 14))), some (vR (some 0)), some (vR (some 170)), some (vI x3)] [] σ Q := by
  have hcd : cds 284 = cd_284 := rfl
  iterate 5 (refine e_nx hcd rfl rfl ?_)
  obtain ⟨h1, H⟩ := H
  refine r_xld hcd rfl (Nat.le_of_ble_eq_true rfl) (Nat.le_of_ble_eq_true rfl) h1 ?_
  show Ev X 284 102 [some (vR (some (PK + 14))), some (vR (some 0)), some (vR (some 170)), some (vI x3)] [vI ((X 14).2 (x3 + 1).toNat), vR (some 0)] _ Q
  iterate 4 (refine e_nx hcd rfl rfl ?_)
  obtain ⟨h2, H⟩ := H
  refine r_xld hcd rfl (Nat.le_of_ble_eq_true rfl) (Nat.le_of_ble_eq_true rfl) h2 ?_
  show Ev X 284 107 [some (vR (some (PK + 14))), some (vR (some 0)), some (vR (some 170)), some (vI x3)] [vI ((X 14).2 (x3 + 2).toNat), vI ((X 14).2 (x3 + 1).toNat), vR (some 0)] _ Q
  refine r_cv hcd rfl (by omega) rfl rfl rfl (Nat.le_of_ble_eq_true rfl) ?_
  refine Cl.mono H (fun v τ1 hq => ?_)
  obtain ⟨r3, rfl, H⟩ := hq
  show Ev X 284 108 _ [vI r3] τ1 Q
  iterate 5 (refine e_nx hcd rfl rfl ?_)
  refine r_xld hcd rfl (Nat.le_of_ble_eq_true rfl) (Nat.le_of_ble_eq_true rfl) h1 ?_
  show Ev X 284 114 [some (vR (some (PK + 14))), some (vR (some 0)), some (vR (some 170)), some (vI x3)] [vI ((X 14).2 (x3 + 1).toNat), vR (some 170), vI r3] _ Q
  iterate 4 (refine e_nx hcd rfl rfl ?_)
  refine r_xld hcd rfl (Nat.le_of_ble_eq_true rfl) (Nat.le_of_ble_eq_true rfl) h2 ?_
  show Ev X 284 119 [some (vR (some (PK + 14))), some (vR (some 0)), some (vR (some 170)), some (vI x3)] [vI ((X 14).2 (x3 + 2).toNat), vI ((X 14).2 (x3 + 1).toNat), vR (some 170), vI r3] _ Q
  refine r_cv hcd rfl (by omega) rfl rfl rfl (Nat.le_of_ble_eq_true rfl) ?_
  refine Cl.mono H (fun v τ2 hq => ?_)
  obtain ⟨r4, rfl, H⟩ := hq
  show Ev X 284 120 _ [vI r4, vI r3] τ2 Q
  obtain ⟨h5, H⟩ := H
  obtain ⟨h6, H⟩ := H
  refine r_icmp hcd rfl h5 h6 (fun hc => ?_) (fun hc => ?_)
  · replace H := H.1 hc
    exact H
  · replace H := H.2 hc
    refine e_nx hcd rfl rfl ?_
    exact r_zret hcd rfl rfl rfl (by omega) H
set_option maxRecDepth 20000 in
theorem v_284_123 {X : PX} {σ : Sg} {Q : Option PV → Sg → Prop} {x3 : Int} (H : (0 ≤ x3 + 1 ∧ x3 + 1 < (X 14).1) ∧ CI X 124 [vR (some 0), vI ((X 14).2 (x3 + 1).toNat)] σ (fun r2 τ1 => CI X 188 [vR (some 170), vI ((X 14).2 (x3 + 1).toNat)] τ1 (fun r3 τ2 => InR r2 ∧ InR r3 ∧ (r2 = r3 → Ev X 284 1270 [some (vR (some (PK + 14))), some (vR (some 0)), some (vR (some 170)), some (vI x3)] [] τ2 Q) ∧ (¬ r2 = r3 → Q (some (vI 0)) τ2)))) : Ev X 284 123 [some (vR (some (PK + 14))), some (vR (some 0)), some (vR (some 170)), some (vI x3)] [] σ Q := by
  have hcd : cds 284 = cd_284 := rfl
  iterate 5 (refine e_nx hcd rfl rfl ?_)
  obtain ⟨h1, H⟩ := H
  refine r_xld hcd rfl (Nat.le_of_ble_eq_true rfl) (Nat.le_of_ble_eq_true rfl) h1 ?_
  show Ev X 284 129 [some (vR (some (PK + 14))), some (vR (some 0)), some (vR (some 170)), some (vI x3)] [vI ((X 14).2 (x3 + 1).toNat), vR (some 0)] _ Q
  refine r_cv hcd rfl (by omega) rfl rfl rfl (Nat.le_of_ble_eq_true rfl) ?_
  refine Cl.mono H (fun v τ1 hq => ?_)
  obtain ⟨r2, rfl, H⟩ := hq
  show Ev X 284 130 _ [vI r2] τ1 Q
  iterate 5 (refine e_nx hcd rfl rfl ?_)
  refine r_xld hcd rfl (Nat.le_of_ble_eq_true rfl) (Nat.le_of_ble_eq_true rfl) h1 ?_
  show Ev X 284 136 [some (vR (some (PK + 14))), some (vR (some 0)), some (vR (some 170)), some (vI x3)] [vI ((X 14).2 (x3 + 1).toNat), vR (some 170), vI r2] _ Q
  refine r_cv hcd rfl (by omega) rfl rfl rfl (Nat.le_of_ble_eq_true rfl) ?_
  refine Cl.mono H (fun v τ2 hq => ?_)
  obtain ⟨r3, rfl, H⟩ := hq
  show Ev X 284 137 _ [vI r3, vI r2] τ2 Q
  obtain ⟨h4, H⟩ := H
  obtain ⟨h5, H⟩ := H
  refine r_icmp hcd rfl h4 h5 (fun hc => ?_) (fun hc => ?_)
  · replace H := H.1 hc
    exact H
  · replace H := H.2 hc
    refine e_nx hcd rfl rfl ?_
    exact r_zret hcd rfl rfl rfl (by omega) H
set_option maxRecDepth 20000 in
theorem v_284_140 {X : PX} {σ : Sg} {Q : Option PV → Sg → Prop} {x3 : Int} (H : (0 ≤ x3 + 1 ∧ x3 + 1 < (X 14).1) ∧ (0 ≤ x3 + 2 ∧ x3 + 2 < (X 14).1) ∧ CI X 128 [vR (some 0), vI ((X 14).2 (x3 + 1).toNat), vI ((X 14).2 (x3 + 2).toNat)] σ (fun r3 τ1 => CI X 205 [vR (some 170), vI ((X 14).2 (x3 + 1).toNat), vI ((X 14).2 (x3 + 2).toNat)] τ1 (fun r4 τ2 => InR r3 ∧ InR r4 ∧ (r3 = r4 → Ev X 284 1270 [some (vR (some (PK + 14))), some (vR (some 0)), some (vR (some 170)), some (vI x3)] [] τ2 Q) ∧ (¬ r3 = r4 → Q (some (vI 0)) τ2)))) : Ev X 284 140 [some (vR (some (PK + 14))), some (vR (some 0)), some (vR (some 170)), some (vI x3)] [] σ Q := by
  have hcd : cds 284 = cd_284 := rfl
  iterate 5 (refine e_nx hcd rfl rfl ?_)
  obtain ⟨h1, H⟩ := H
  refine r_xld hcd rfl (Nat.le_of_ble_eq_true rfl) (Nat.le_of_ble_eq_true rfl) h1 ?_
  show Ev X 284 146 [some (vR (some (PK + 14))), some (vR (some 0)), some (vR (some 170)), some (vI x3)] [vI ((X 14).2 (x3 + 1).toNat), vR (some 0)] _ Q
  iterate 4 (refine e_nx hcd rfl rfl ?_)
  obtain ⟨h2, H⟩ := H
  refine r_xld hcd rfl (Nat.le_of_ble_eq_true rfl) (Nat.le_of_ble_eq_true rfl) h2 ?_
  show Ev X 284 151 [some (vR (some (PK + 14))), some (vR (some 0)), some (vR (some 170)), some (vI x3)] [vI ((X 14).2 (x3 + 2).toNat), vI ((X 14).2 (x3 + 1).toNat), vR (some 0)] _ Q
  refine r_cv hcd rfl (by omega) rfl rfl rfl (Nat.le_of_ble_eq_true rfl) ?_
  refine Cl.mono H (fun v τ1 hq => ?_)
  obtain ⟨r3, rfl, H⟩ := hq
  show Ev X 284 152 _ [vI r3] τ1 Q
  iterate 5 (refine e_nx hcd rfl rfl ?_)
  refine r_xld hcd rfl (Nat.le_of_ble_eq_true rfl) (Nat.le_of_ble_eq_true rfl) h1 ?_
  show Ev X 284 158 [some (vR (some (PK + 14))), some (vR (some 0)), some (vR (some 170)), some (vI x3)] [vI ((X 14).2 (x3 + 1).toNat), vR (some 170), vI r3] _ Q
  iterate 4 (refine e_nx hcd rfl rfl ?_)
  refine r_xld hcd rfl (Nat.le_of_ble_eq_true rfl) (Nat.le_of_ble_eq_true rfl) h2 ?_
  show Ev X 284 163 [some (vR (some (PK + 14))), some (vR (some 0)), some (vR (some 170)), some (vI x3)] [vI ((X 14).2 (x3 + 2).toNat), vI ((X 14).2 (x3 + 1).toNat), vR (some 170), vI r3] _ Q
  refine r_cv hcd rfl (by omega) rfl rfl rfl (Nat.le_of_ble_eq_true rfl) ?_
  refine Cl.mono H (fun v τ2 hq => ?_)
  obtain ⟨r4, rfl, H⟩ := hq
  show Ev X 284 164 _ [vI r4, vI r3] τ2 Q
  obtain ⟨h5, H⟩ := H
  obtain ⟨h6, H⟩ := H
  refine r_icmp hcd rfl h5 h6 (fun hc => ?_) (fun hc => ?_)
  · replace H := H.1 hc
    exact H
  · replace H := H.2 hc
    refine e_nx hcd rfl rfl ?_
    exact r_zret hcd rfl rfl rfl (by omega) H
set_option maxRecDepth 20000 in
theorem v_284_167 {X : PX} {σ : Sg} {Q : Option PV → Sg → Prop} {x3 : Int} (H : (0 ≤ x3 + 1 ∧ x3 + 1 < (X 14).1) ∧ (0 ≤ x3 + 2 ∧ x3 + 2 < (X 14).1) ∧ (0 ≤ x3 + 3 ∧ x3 + 3 < (X 14).1) ∧ CI X 130 [vR (some 0), vI ((X 14).2 (x3 + 1).toNat), vI ((X 14).2 (x3 + 2).toNat), vI ((X 14).2 (x3 + 3).toNat)] σ (fun r4 τ1 => CI X 250 [vR (some 170), vI ((X 14).2 (x3 + 1).toNat), vI ((X 14).2 (x3 + 2).toNat), vI ((X 14).2 (x3 + 3).toNat)] τ1 (fun r5 τ2 => InR r4 ∧ InR r5 ∧ (r4 = r5 → Ev X 284 1270 [some (vR (some (PK + 14))), some (vR (some 0)), some (vR (some 170)), some (vI x3)] [] τ2 Q) ∧ (¬ r4 = r5 → Q (some (vI 0)) τ2)))) : Ev X 284 167 [some (vR (some (PK + 14))), some (vR (some 0)), some (vR (some 170)), some (vI x3)] [] σ Q := by
  have hcd : cds 284 = cd_284 := rfl
  iterate 5 (refine e_nx hcd rfl rfl ?_)
  obtain ⟨h1, H⟩ := H
  refine r_xld hcd rfl (Nat.le_of_ble_eq_true rfl) (Nat.le_of_ble_eq_true rfl) h1 ?_
  show Ev X 284 173 [some (vR (some (PK + 14))), some (vR (some 0)), some (vR (some 170)), some (vI x3)] [vI ((X 14).2 (x3 + 1).toNat), vR (some 0)] _ Q
  iterate 4 (refine e_nx hcd rfl rfl ?_)
  obtain ⟨h2, H⟩ := H
  refine r_xld hcd rfl (Nat.le_of_ble_eq_true rfl) (Nat.le_of_ble_eq_true rfl) h2 ?_
  show Ev X 284 178 [some (vR (some (PK + 14))), some (vR (some 0)), some (vR (some 170)), some (vI x3)] [vI ((X 14).2 (x3 + 2).toNat), vI ((X 14).2 (x3 + 1).toNat), vR (some 0)] _ Q
  iterate 4 (refine e_nx hcd rfl rfl ?_)
  obtain ⟨h3, H⟩ := H
  refine r_xld hcd rfl (Nat.le_of_ble_eq_true rfl) (Nat.le_of_ble_eq_true rfl) h3 ?_
  show Ev X 284 183 [some (vR (some (PK + 14))), some (vR (some 0)), some (vR (some 170)), some (vI x3)] [vI ((X 14).2 (x3 + 3).toNat), vI ((X 14).2 (x3 + 2).toNat), vI ((X 14).2 (x3 + 1).toNat), vR (some 0)] _ Q
  refine r_cv hcd rfl (by omega) rfl rfl rfl (Nat.le_of_ble_eq_true rfl) ?_
  refine Cl.mono H (fun v τ1 hq => ?_)
  obtain ⟨r4, rfl, H⟩ := hq
  show Ev X 284 184 _ [vI r4] τ1 Q
  iterate 5 (refine e_nx hcd rfl rfl ?_)
  refine r_xld hcd rfl (Nat.le_of_ble_eq_true rfl) (Nat.le_of_ble_eq_true rfl) h1 ?_
  show Ev X 284 190 [some (vR (some (PK + 14))), some (vR (some 0)), some (vR (some 170)), some (vI x3)] [vI ((X 14).2 (x3 + 1).toNat), vR (some 170), vI r4] _ Q
  iterate 4 (refine e_nx hcd rfl rfl ?_)
  refine r_xld hcd rfl (Nat.le_of_ble_eq_true rfl) (Nat.le_of_ble_eq_true rfl) h2 ?_
  show Ev X 284 195 [some (vR (some (PK + 14))), some (vR (some 0)), some (vR (some 170)), some (vI x3)] [vI ((X 14).2 (x3 + 2).toNat), vI ((X 14).2 (x3 + 1).toNat), vR (some 170), vI r4] _ Q
  iterate 4 (refine e_nx hcd rfl rfl ?_)
  refine r_xld hcd rfl (Nat.le_of_ble_eq_true rfl) (Nat.le_of_ble_eq_true rfl) h3 ?_
  show Ev X 284 200 [some (vR (some (PK + 14))), some (vR (some 0)), some (vR (some 170)), some (vI x3)] [vI ((X 14).2 (x3 + 3).toNat), vI ((X 14).2 (x3 + 2).toNat), vI ((X 14).2 (x3 + 1).toNat), vR (some 170), vI r4] _ Q
  refine r_cv hcd rfl (by omega) rfl rfl rfl (Nat.le_of_ble_eq_true rfl) ?_
  refine Cl.mono H (fun v τ2 hq => ?_)
  obtain ⟨r5, rfl, H⟩ := hq
  show Ev X 284 201 _ [vI r5, vI r4] τ2 Q
  obtain ⟨h6, H⟩ := H
  obtain ⟨h7, H⟩ := H
  refine r_icmp hcd rfl h6 h7 (fun hc => ?_) (fun hc => ?_)
  · replace H := H.1 hc
    exact H
  · replace H := H.2 hc
    refine e_nx hcd rfl rfl ?_
    exact r_zret hcd rfl rfl rfl (by omega) H
set_option maxRecDepth 20000 in
theorem v_284_204 {X : PX} {σ : Sg} {Q : Option PV → Sg → Prop} {x3 : Int} (H : (0 ≤ x3 + 1 ∧ x3 + 1 < (X 14).1) ∧ (0 ≤ x3 + 2 ∧ x3 + 2 < (X 14).1) ∧ CI X 132 [vR (some 0), vI ((X 14).2 (x3 + 1).toNat), vI ((X 14).2 (x3 + 2).toNat)] σ (fun r3 τ1 => CI X 260 [vR (some 170), vI ((X 14).2 (x3 + 1).toNat), vI ((X 14).2 (x3 + 2).toNat)] τ1 (fun r4 τ2 => InR r3 ∧ InR r4 ∧ (r3 = r4 → Ev X 284 1270 [some (vR (some (PK + 14))), some (vR (some 0)), some (vR (some 170)), some (vI x3)] [] τ2 Q) ∧ (¬ r3 = r4 → Q (some (vI 0)) τ2)))) : Ev X 284 204 [some (vR (some (PK + 14))), some (vR (some 0)), some (vR (some 170)), some (vI x3)] [] σ Q := by
  have hcd : cds 284 = cd_284 := rfl
  iterate 5 (refine e_nx hcd rfl rfl ?_)
  obtain ⟨h1, H⟩ := H
  refine r_xld hcd rfl (Nat.le_of_ble_eq_true rfl) (Nat.le_of_ble_eq_true rfl) h1 ?_
  show Ev X 284 210 [some (vR (some (PK + 14))), some (vR (some 0)), some (vR (some 170)), some (vI x3)] [vI ((X 14).2 (x3 + 1).toNat), vR (some 0)] _ Q
  iterate 4 (refine e_nx hcd rfl rfl ?_)
  obtain ⟨h2, H⟩ := H
  refine r_xld hcd rfl (Nat.le_of_ble_eq_true rfl) (Nat.le_of_ble_eq_true rfl) h2 ?_
  show Ev X 284 215 [some (vR (some (PK + 14))), some (vR (some 0)), some (vR (some 170)), some (vI x3)] [vI ((X 14).2 (x3 + 2).toNat), vI ((X 14).2 (x3 + 1).toNat), vR (some 0)] _ Q
  refine r_cv hcd rfl (by omega) rfl rfl rfl (Nat.le_of_ble_eq_true rfl) ?_
  refine Cl.mono H (fun v τ1 hq => ?_)
  obtain ⟨r3, rfl, H⟩ := hq
  show Ev X 284 216 _ [vI r3] τ1 Q
  iterate 5 (refine e_nx hcd rfl rfl ?_)
  refine r_xld hcd rfl (Nat.le_of_ble_eq_true rfl) (Nat.le_of_ble_eq_true rfl) h1 ?_
  show Ev X 284 222 [some (vR (some (PK + 14))), some (vR (some 0)), some (vR (some 170)), some (vI x3)] [vI ((X 14).2 (x3 + 1).toNat), vR (some 170), vI r3] _ Q
  iterate 4 (refine e_nx hcd rfl rfl ?_)
  refine r_xld hcd rfl (Nat.le_of_ble_eq_true rfl) (Nat.le_of_ble_eq_true rfl) h2 ?_
  show Ev X 284 227 [some (vR (some (PK + 14))), some (vR (some 0)), some (vR (some 170)), some (vI x3)] [vI ((X 14).2 (x3 + 2).toNat), vI ((X 14).2 (x3 + 1).toNat), vR (some 170), vI r3] _ Q
  refine r_cv hcd rfl (by omega) rfl rfl rfl (Nat.le_of_ble_eq_true rfl) ?_
  refine Cl.mono H (fun v τ2 hq => ?_)
  obtain ⟨r4, rfl, H⟩ := hq
  show Ev X 284 228 _ [vI r4, vI r3] τ2 Q
  obtain ⟨h5, H⟩ := H
  obtain ⟨h6, H⟩ := H
  refine r_icmp hcd rfl h5 h6 (fun hc => ?_) (fun hc => ?_)
  · replace H := H.1 hc
    exact H
  · replace H := H.2 hc
    refine e_nx hcd rfl rfl ?_
    exact r_zret hcd rfl rfl rfl (by omega) H
set_option maxRecDepth 20000 in
theorem v_284_231 {X : PX} {σ : Sg} {Q : Option PV → Sg → Prop} {x3 : Int} (H : (0 ≤ x3 + 1 ∧ x3 + 1 < (X 14).1) ∧ (0 ≤ x3 + 2 ∧ x3 + 2 < (X 14).1) ∧ (0 ≤ x3 + 3 ∧ x3 + 3 < (X 14).1) ∧ (0 ≤ x3 + 4 ∧ x3 + 4 < (X 14).1) ∧ CI X 133 [vR (some 0), vI ((X 14).2 (x3 + 1).toNat), vI ((X 14).2 (x3 + 2).toNat), vI ((X 14).2 (x3 + 3).toNat), vI ((X 14).2 (x3 + 4).toNat)] σ (fun r5 τ1 => CI X 262 [vR (some 170), vI ((X 14).2 (x3 + 1).toNat), vI ((X 14).2 (x3 + 2).toNat), vI ((X 14).2 (x3 + 3).toNat), vI ((X 14).2 (x3 + 4).toNat)] τ1 (fun r6 τ2 => InR r5 ∧ InR r6 ∧ (r5 = r6 → Ev X 284 1270 [some (vR (some (PK + 14))), some (vR (some 0)), some (vR (some 170)), some (vI x3)] [] τ2 Q) ∧ (¬ r5 = r6 → Q (some (vI 0)) τ2)))) : Ev X 284 231 [some (vR (some (PK + 14))), some (vR (some 0)), some (vR (some 170)), some (vI x3)] [] σ Q := by
  have hcd : cds 284 = cd_284 := rfl
  iterate 5 (refine e_nx hcd rfl rfl ?_)
  obtain ⟨h1, H⟩ := H
  refine r_xld hcd rfl (Nat.le_of_ble_eq_true rfl) (Nat.le_of_ble_eq_true rfl) h1 ?_
  show Ev X 284 237 [some (vR (some (PK + 14))), some (vR (some 0)), some (vR (some 170)), some (vI x3)] [vI ((X 14).2 (x3 + 1).toNat), vR (some 0)] _ Q
  iterate 4 (refine e_nx hcd rfl rfl ?_)
  obtain ⟨h2, H⟩ := H
  refine r_xld hcd rfl (Nat.le_of_ble_eq_true rfl) (Nat.le_of_ble_eq_true rfl) h2 ?_
  show Ev X 284 242 [some (vR (some (PK + 14))), some (vR (some 0)), some (vR (some 170)), some (vI x3)] [vI ((X 14).2 (x3 + 2).toNat), vI ((X 14).2 (x3 + 1).toNat), vR (some 0)] _ Q
  iterate 4 (refine e_nx hcd rfl rfl ?_)
  obtain ⟨h3, H⟩ := H
  refine r_xld hcd rfl (Nat.le_of_ble_eq_true rfl) (Nat.le_of_ble_eq_true rfl) h3 ?_
  show Ev X 284 247 [some (vR (some (PK + 14))), some (vR (some 0)), some (vR (some 170)), some (vI x3)] [vI ((X 14).2 (x3 + 3).toNat), vI ((X 14).2 (x3 + 2).toNat), vI ((X 14).2 (x3 + 1).toNat), vR (some 0)] _ Q
  iterate 4 (refine e_nx hcd rfl rfl ?_)
  obtain ⟨h4, H⟩ := H
  refine r_xld hcd rfl (Nat.le_of_ble_eq_true rfl) (Nat.le_of_ble_eq_true rfl) h4 ?_
  show Ev X 284 252 [some (vR (some (PK + 14))), some (vR (some 0)), some (vR (some 170)), some (vI x3)] [vI ((X 14).2 (x3 + 4).toNat), vI ((X 14).2 (x3 + 3).toNat), vI ((X 14).2 (x3 + 2).toNat), vI ((X 14).2 (x3 + 1).toNat), vR (some 0)] _ Q
  refine r_cv hcd rfl (by omega) rfl rfl rfl (Nat.le_of_ble_eq_true rfl) ?_
  refine Cl.mono H (fun v τ1 hq => ?_)
  obtain ⟨r5, rfl, H⟩ := hq
  show Ev X 284 253 _ [vI r5] τ1 Q
  iterate 5 (refine e_nx hcd rfl rfl ?_)
  refine r_xld hcd rfl (Nat.le_of_ble_eq_true rfl) (Nat.le_of_ble_eq_true rfl) h1 ?_
  show Ev X 284 259 [some (vR (some (PK + 14))), some (vR (some 0)), some (vR (some 170)), some (vI x3)] [vI ((X 14).2 (x3 + 1).toNat), vR (some 170), vI r5] _ Q
  iterate 4 (refine e_nx hcd rfl rfl ?_)
  refine r_xld hcd rfl (Nat.le_of_ble_eq_true rfl) (Nat.le_of_ble_eq_true rfl) h2 ?_
  show Ev X 284 264 [some (vR (some (PK + 14))), some (vR (some 0)), some (vR (some 170)), some (vI x3)] [vI ((X 14).2 (x3 + 2).toNat), vI ((X 14).2 (x3 + 1).toNat), vR (some 170), vI r5] _ Q
  iterate 4 (refine e_nx hcd rfl rfl ?_)
  refine r_xld hcd rfl (Nat.le_of_ble_eq_true rfl) (Nat.le_of_ble_eq_true rfl) h3 ?_
  show Ev X 284 269 [some (vR (some (PK + 14))), some (vR (some 0)), some (vR (some 170)), some (vI x3)] [vI ((X 14).2 (x3 + 3).toNat), vI ((X 14).2 (x3 + 2).toNat), vI ((X 14).2 (x3 + 1).toNat), vR (some 170), vI r5] _ Q
  iterate 4 (refine e_nx hcd rfl rfl ?_)
  refine r_xld hcd rfl (Nat.le_of_ble_eq_true rfl) (Nat.le_of_ble_eq_true rfl) h4 ?_
  show Ev X 284 274 [some (vR (some (PK + 14))), some (vR (some 0)), some (vR (some 170)), some (vI x3)] [vI ((X 14).2 (x3 + 4).toNat), vI ((X 14).2 (x3 + 3).toNat), vI ((X 14).2 (x3 + 2).toNat), vI ((X 14).2 (x3 + 1).toNat), vR (some 170), vI r5] _ Q
  refine r_cv hcd rfl (by omega) rfl rfl rfl (Nat.le_of_ble_eq_true rfl) ?_
  refine Cl.mono H (fun v τ2 hq => ?_)
  obtain ⟨r6, rfl, H⟩ := hq
  show Ev X 284 275 _ [vI r6, vI r5] τ2 Q
  obtain ⟨h7, H⟩ := H
  obtain ⟨h8, H⟩ := H
  refine r_icmp hcd rfl h7 h8 (fun hc => ?_) (fun hc => ?_)
  · replace H := H.1 hc
    exact H
  · replace H := H.2 hc
    refine e_nx hcd rfl rfl ?_
    exact r_zret hcd rfl rfl rfl (by omega) H
set_option maxRecDepth 20000 in
theorem v_284_278 {X : PX} {σ : Sg} {Q : Option PV → Sg → Prop} {x3 : Int} (H : (0 ≤ x3 + 1 ∧ x3 + 1 < (X 14).1) ∧ (0 ≤ x3 + 2 ∧ x3 + 2 < (X 14).1) ∧ (0 ≤ x3 + 3 ∧ x3 + 3 < (X 14).1) ∧ CI X 136 [vR (some 0), vI ((X 14).2 (x3 + 1).toNat), vI ((X 14).2 (x3 + 2).toNat), vI ((X 14).2 (x3 + 3).toNat)] σ (fun r4 τ1 => CI X 207 [vR (some 170), vI ((X 14).2 (x3 + 1).toNat), vI ((X 14).2 (x3 + 2).toNat), vI ((X 14).2 (x3 + 3).toNat)] τ1 (fun r5 τ2 => InR r4 ∧ InR r5 ∧ (r4 = r5 → Ev X 284 1270 [some (vR (some (PK + 14))), some (vR (some 0)), some (vR (some 170)), some (vI x3)] [] τ2 Q) ∧ (¬ r4 = r5 → Q (some (vI 0)) τ2)))) : Ev X 284 278 [some (vR (some (PK + 14))), some (vR (some 0)), some (vR (some 170)), some (vI x3)] [] σ Q := by
  have hcd : cds 284 = cd_284 := rfl
  iterate 5 (refine e_nx hcd rfl rfl ?_)
  obtain ⟨h1, H⟩ := H
  refine r_xld hcd rfl (Nat.le_of_ble_eq_true rfl) (Nat.le_of_ble_eq_true rfl) h1 ?_
  show Ev X 284 284 [some (vR (some (PK + 14))), some (vR (some 0)), some (vR (some 170)), some (vI x3)] [vI ((X 14).2 (x3 + 1).toNat), vR (some 0)] _ Q
  iterate 4 (refine e_nx hcd rfl rfl ?_)
  obtain ⟨h2, H⟩ := H
  refine r_xld hcd rfl (Nat.le_of_ble_eq_true rfl) (Nat.le_of_ble_eq_true rfl) h2 ?_
  show Ev X 284 289 [some (vR (some (PK + 14))), some (vR (some 0)), some (vR (some 170)), some (vI x3)] [vI ((X 14).2 (x3 + 2).toNat), vI ((X 14).2 (x3 + 1).toNat), vR (some 0)] _ Q
  iterate 4 (refine e_nx hcd rfl rfl ?_)
  obtain ⟨h3, H⟩ := H
  refine r_xld hcd rfl (Nat.le_of_ble_eq_true rfl) (Nat.le_of_ble_eq_true rfl) h3 ?_
  show Ev X 284 294 [some (vR (some (PK + 14))), some (vR (some 0)), some (vR (some 170)), some (vI x3)] [vI ((X 14).2 (x3 + 3).toNat), vI ((X 14).2 (x3 + 2).toNat), vI ((X 14).2 (x3 + 1).toNat), vR (some 0)] _ Q
  refine r_cv hcd rfl (by omega) rfl rfl rfl (Nat.le_of_ble_eq_true rfl) ?_
  refine Cl.mono H (fun v τ1 hq => ?_)
  obtain ⟨r4, rfl, H⟩ := hq
  show Ev X 284 295 _ [vI r4] τ1 Q
  iterate 5 (refine e_nx hcd rfl rfl ?_)
  refine r_xld hcd rfl (Nat.le_of_ble_eq_true rfl) (Nat.le_of_ble_eq_true rfl) h1 ?_
  show Ev X 284 301 [some (vR (some (PK + 14))), some (vR (some 0)), some (vR (some 170)), some (vI x3)] [vI ((X 14).2 (x3 + 1).toNat), vR (some 170), vI r4] _ Q
  iterate 4 (refine e_nx hcd rfl rfl ?_)
  refine r_xld hcd rfl (Nat.le_of_ble_eq_true rfl) (Nat.le_of_ble_eq_true rfl) h2 ?_
  show Ev X 284 306 [some (vR (some (PK + 14))), some (vR (some 0)), some (vR (some 170)), some (vI x3)] [vI ((X 14).2 (x3 + 2).toNat), vI ((X 14).2 (x3 + 1).toNat), vR (some 170), vI r4] _ Q
  iterate 4 (refine e_nx hcd rfl rfl ?_)
  refine r_xld hcd rfl (Nat.le_of_ble_eq_true rfl) (Nat.le_of_ble_eq_true rfl) h3 ?_
  show Ev X 284 311 [some (vR (some (PK + 14))), some (vR (some 0)), some (vR (some 170)), some (vI x3)] [vI ((X 14).2 (x3 + 3).toNat), vI ((X 14).2 (x3 + 2).toNat), vI ((X 14).2 (x3 + 1).toNat), vR (some 170), vI r4] _ Q
  refine r_cv hcd rfl (by omega) rfl rfl rfl (Nat.le_of_ble_eq_true rfl) ?_
  refine Cl.mono H (fun v τ2 hq => ?_)
  obtain ⟨r5, rfl, H⟩ := hq
  show Ev X 284 312 _ [vI r5, vI r4] τ2 Q
  obtain ⟨h6, H⟩ := H
  obtain ⟨h7, H⟩ := H
  refine r_icmp hcd rfl h6 h7 (fun hc => ?_) (fun hc => ?_)
  · replace H := H.1 hc
    exact H
  · replace H := H.2 hc
    refine e_nx hcd rfl rfl ?_
    exact r_zret hcd rfl rfl rfl (by omega) H
set_option maxRecDepth 20000 in
theorem v_284_315 {X : PX} {σ : Sg} {Q : Option PV → Sg → Prop} {x3 : Int} (H : (0 ≤ x3 + 1 ∧ x3 + 1 < (X 14).1) ∧ (0 ≤ x3 + 2 ∧ x3 + 2 < (X 14).1) ∧ InR ((X 14).2 (x3 + 2).toNat) ∧ ((X 14).2 (x3 + 2).toNat = 0 → CI X 139 [vR (some 0), vI ((X 14).2 (x3 + 1).toNat), vI 0] σ (fun r4 τ1 => ((X 14).2 (x3 + 2).toNat = 0 → CI X 208 [vR (some 170), vI ((X 14).2 (x3 + 1).toNat), vI 0] τ1 (fun r5 τ2 => InR r4 ∧ InR r5 ∧ (r4 = r5 → Ev X 284 1270 [some (vR (some (PK + 14))), some (vR (some 0)), some (vR (some 170)), some (vI x3)] [] τ2 Q) ∧ (¬ r4 = r5 → Q (some (vI 0)) τ2))) ∧ (¬ (X 14).2 (x3 + 2).toNat = 0 → CI X 208 [vR (some 170), vI ((X 14).2 (x3 + 1).toNat), vI 1] τ1 (fun r8 τ3 => InR r4 ∧ InR r8 ∧ (r4 = r8 → Ev X 284 1270 [some (vR (some (PK + 14))), some (vR (some 0)), some (vR (some 170)), some (vI x3)] [] τ3 Q) ∧ (¬ r4 = r8 → Q (some (vI 0)) τ3))))) ∧ (¬ (X 14).2 (x3 + 2).toNat = 0 → CI X 139 [vR (some 0), vI ((X 14).2 (x3 + 1).toNat), vI 1] σ (fun r11 τ4 => ((X 14).2 (x3 + 2).toNat = 0 → CI X 208 [vR (some 170), vI ((X 14).2 (x3 + 1).toNat), vI 0] τ4 (fun r12 τ5 => InR r11 ∧ InR r12 ∧ (r11 = r12 → Ev X 284 1270 [some (vR (some (PK + 14))), some (vR (some 0)), some (vR (some 170)), some (vI x3)] [] τ5 Q) ∧ (¬ r11 = r12 → Q (some (vI 0)) τ5))) ∧ (¬ (X 14).2 (x3 + 2).toNat = 0 → CI X 208 [vR (some 170), vI ((X 14).2 (x3 + 1).toNat), vI 1] τ4 (fun r15 τ6 => InR r11 ∧ InR r15 ∧ (r11 = r15 → Ev X 284 1270 [some (vR (some (PK + 14))), some (vR (some 0)), some (vR (some 170)), some (vI x3)] [] τ6 Q) ∧ (¬ r11 = r15 → Q (some (vI 0)) τ6)))))) : Ev X 284 315 [some (vR (some (PK + 14))), some (vR (some 0)), some (vR (some 170)), some (vI x3)] [] σ Q := by
  have hcd : cds 284 = cd_284 := rfl
  iterate 5 (refine e_nx hcd rfl rfl ?_)
  obtain ⟨h1, H⟩ := H
  refine r_xld hcd rfl (Nat.le_of_ble_eq_true rfl) (Nat.le_of_ble_eq_true rfl) h1 ?_
  show Ev X 284 321 [some (vR (some (PK + 14))), some (vR (some 0)), some (vR (some 170)), some (vI x3)] [vI ((X 14).2 (x3 + 1).toNat), vR (some 0)] _ Q
  iterate 4 (refine e_nx hcd rfl rfl ?_)
  obtain ⟨h2, H⟩ := H
  refine r_xld hcd rfl (Nat.le_of_ble_eq_true rfl) (Nat.le_of_ble_eq_true rfl) h2 ?_
  show Ev X 284 326 [some (vR (some (PK + 14))), some (vR (some 0)), some (vR (some 170)), some (vI x3)] [vI ((X 14).2 (x3 + 2).toNat), vI ((X 14).2 (x3 + 1).toNat), vR (some 0)] _ Q
  obtain ⟨h3, H⟩ := H
  refine r_if hcd rfl h3 (fun hc => ?_) (fun hc => ?_)
  · replace H := H.1 hc
    refine e_nx hcd rfl rfl ?_
    refine r_cv hcd rfl (by omega) rfl rfl rfl (Nat.le_of_ble_eq_true rfl) ?_
    refine Cl.mono H (fun v τ1 hq => ?_)
    obtain ⟨r4, rfl, H⟩ := hq
    show Ev X 284 331 _ [vI r4] τ1 Q
    iterate 5 (refine e_nx hcd rfl rfl ?_)
    refine r_xld hcd rfl (Nat.le_of_ble_eq_true rfl) (Nat.le_of_ble_eq_true rfl) h1 ?_
    show Ev X 284 337 [some (vR (some (PK + 14))), some (vR (some 0)), some (vR (some 170)), some (vI x3)] [vI ((X 14).2 (x3 + 1).toNat), vR (some 170), vI r4] _ Q
    iterate 4 (refine e_nx hcd rfl rfl ?_)
    refine r_xld hcd rfl (Nat.le_of_ble_eq_true rfl) (Nat.le_of_ble_eq_true rfl) h2 ?_
    show Ev X 284 342 [some (vR (some (PK + 14))), some (vR (some 0)), some (vR (some 170)), some (vI x3)] [vI ((X 14).2 (x3 + 2).toNat), vI ((X 14).2 (x3 + 1).toNat), vR (some 170), vI r4] _ Q
    refine r_if hcd rfl h3 (fun hc => ?_) (fun hc => ?_)
    · replace H := H.1 hc
      refine e_nx hcd rfl rfl ?_
      refine r_cv hcd rfl (by omega) rfl rfl rfl (Nat.le_of_ble_eq_true rfl) ?_
      refine Cl.mono H (fun v τ2 hq => ?_)
      obtain ⟨r5, rfl, H⟩ := hq
      show Ev X 284 347 _ [vI r5, vI r4] τ2 Q
      obtain ⟨h6, H⟩ := H
      obtain ⟨h7, H⟩ := H
      refine r_icmp hcd rfl h6 h7 (fun hc => ?_) (fun hc => ?_)
      · replace H := H.1 hc
        exact H
      · replace H := H.2 hc
        refine e_nx hcd rfl rfl ?_
        exact r_zret hcd rfl rfl rfl (by omega) H
    · replace H := H.2 hc
      iterate 2 (refine e_nx hcd rfl rfl ?_)
      refine r_cv hcd rfl (by omega) rfl rfl rfl (Nat.le_of_ble_eq_true rfl) ?_
      refine Cl.mono H (fun v τ3 hq => ?_)
      obtain ⟨r8, rfl, H⟩ := hq
      show Ev X 284 347 _ [vI r8, vI r4] τ3 Q
      obtain ⟨h9, H⟩ := H
      obtain ⟨h10, H⟩ := H
      refine r_icmp hcd rfl h9 h10 (fun hc => ?_) (fun hc => ?_)
      · replace H := H.1 hc
        exact H
      · replace H := H.2 hc
        refine e_nx hcd rfl rfl ?_
        exact r_zret hcd rfl rfl rfl (by omega) H
  · replace H := H.2 hc
    iterate 2 (refine e_nx hcd rfl rfl ?_)
    refine r_cv hcd rfl (by omega) rfl rfl rfl (Nat.le_of_ble_eq_true rfl) ?_
    refine Cl.mono H (fun v τ4 hq => ?_)
    obtain ⟨r11, rfl, H⟩ := hq
    show Ev X 284 331 _ [vI r11] τ4 Q
    iterate 5 (refine e_nx hcd rfl rfl ?_)
    refine r_xld hcd rfl (Nat.le_of_ble_eq_true rfl) (Nat.le_of_ble_eq_true rfl) h1 ?_
    show Ev X 284 337 [some (vR (some (PK + 14))), some (vR (some 0)), some (vR (some 170)), some (vI x3)] [vI ((X 14).2 (x3 + 1).toNat), vR (some 170), vI r11] _ Q
    iterate 4 (refine e_nx hcd rfl rfl ?_)
    refine r_xld hcd rfl (Nat.le_of_ble_eq_true rfl) (Nat.le_of_ble_eq_true rfl) h2 ?_
    show Ev X 284 342 [some (vR (some (PK + 14))), some (vR (some 0)), some (vR (some 170)), some (vI x3)] [vI ((X 14).2 (x3 + 2).toNat), vI ((X 14).2 (x3 + 1).toNat), vR (some 170), vI r11] _ Q
    refine r_if hcd rfl h3 (fun hc => ?_) (fun hc => ?_)
    · replace H := H.1 hc
      refine e_nx hcd rfl rfl ?_
      refine r_cv hcd rfl (by omega) rfl rfl rfl (Nat.le_of_ble_eq_true rfl) ?_
      refine Cl.mono H (fun v τ5 hq => ?_)
      obtain ⟨r12, rfl, H⟩ := hq
      show Ev X 284 347 _ [vI r12, vI r11] τ5 Q
      obtain ⟨h13, H⟩ := H
      obtain ⟨h14, H⟩ := H
      refine r_icmp hcd rfl h13 h14 (fun hc => ?_) (fun hc => ?_)
      · replace H := H.1 hc
        exact H
      · replace H := H.2 hc
        refine e_nx hcd rfl rfl ?_
        exact r_zret hcd rfl rfl rfl (by omega) H
    · replace H := H.2 hc
      iterate 2 (refine e_nx hcd rfl rfl ?_)
      refine r_cv hcd rfl (by omega) rfl rfl rfl (Nat.le_of_ble_eq_true rfl) ?_
      refine Cl.mono H (fun v τ6 hq => ?_)
      obtain ⟨r15, rfl, H⟩ := hq
      show Ev X 284 347 _ [vI r15, vI r11] τ6 Q
      obtain ⟨h16, H⟩ := H
      obtain ⟨h17, H⟩ := H
      refine r_icmp hcd rfl h16 h17 (fun hc => ?_) (fun hc => ?_)
      · replace H := H.1 hc
        exact H
      · replace H := H.2 hc
        refine e_nx hcd rfl rfl ?_
        exact r_zret hcd rfl rfl rfl (by omega) H
set_option maxRecDepth 20000 in
theorem v_284_350 {X : PX} {σ : Sg} {Q : Option PV → Sg → Prop} {x3 : Int} (H : (0 ≤ x3 + 1 ∧ x3 + 1 < (X 14).1) ∧ (0 ≤ x3 + 2 ∧ x3 + 2 < (X 14).1) ∧ (0 ≤ x3 + 3 ∧ x3 + 3 < (X 14).1) ∧ InR ((X 14).2 (x3 + 3).toNat) ∧ ((X 14).2 (x3 + 3).toNat = 0 → CI X 140 [vR (some 0), vI ((X 14).2 (x3 + 1).toNat), vI ((X 14).2 (x3 + 2).toNat), vI 0] σ (fun r5 τ1 => ((X 14).2 (x3 + 3).toNat = 0 → CI X 210 [vR (some 170), vI ((X 14).2 (x3 + 1).toNat), vI ((X 14).2 (x3 + 2).toNat), vI 0] τ1 (fun r6 τ2 => InR r5 ∧ InR r6 ∧ (r5 = r6 → Ev X 284 1270 [some (vR (some (PK + 14))), some (vR (some 0)), some (vR (some 170)), some (vI x3)] [] τ2 Q) ∧ (¬ r5 = r6 → Q (some (vI 0)) τ2))) ∧ (¬ (X 14).2 (x3 + 3).toNat = 0 → CI X 210 [vR (some 170), vI ((X 14).2 (x3 + 1).toNat), vI ((X 14).2 (x3 + 2).toNat), vI 1] τ1 (fun r9 τ3 => InR r5 ∧ InR r9 ∧ (r5 = r9 → Ev X 284 1270 [some (vR (some (PK + 14))), some (vR (some 0)), some (vR (some 170)), some (vI x3)] [] τ3 Q) ∧ (¬ r5 = r9 → Q (some (vI 0)) τ3))))) ∧ (¬ (X 14).2 (x3 + 3).toNat = 0 → CI X 140 [vR (some 0), vI ((X 14).2 (x3 + 1).toNat), vI ((X 14).2 (x3 + 2).toNat), vI 1] σ (fun r12 τ4 => ((X 14).2 (x3 + 3).toNat = 0 → CI X 210 [vR (some 170), vI ((X 14).2 (x3 + 1).toNat), vI ((X 14).2 (x3 + 2).toNat), vI 0] τ4 (fun r13 τ5 => InR r12 ∧ InR r13 ∧ (r12 = r13 → Ev X 284 1270 [some (vR (some (PK + 14))), some (vR (some 0)), some (vR (some 170)), some (vI x3)] [] τ5 Q) ∧ (¬ r12 = r13 → Q (some (vI 0)) τ5))) ∧ (¬ (X 14).2 (x3 + 3).toNat = 0 → CI X 210 [vR (some 170), vI ((X 14).2 (x3 + 1).toNat), vI ((X 14).2 (x3 + 2).toNat), vI 1] τ4 (fun r16 τ6 => InR r12 ∧ InR r16 ∧ (r12 = r16 → Ev X 284 1270 [some (vR (some (PK + 14))), some (vR (some 0)), some (vR (some 170)), some (vI x3)] [] τ6 Q) ∧ (¬ r12 = r16 → Q (some (vI 0)) τ6)))))) : Ev X 284 350 [some (vR (some (PK + 14))), some (vR (some 0)), some (vR (some 170)), some (vI x3)] [] σ Q := by
  have hcd : cds 284 = cd_284 := rfl
  iterate 5 (refine e_nx hcd rfl rfl ?_)
  obtain ⟨h1, H⟩ := H
  refine r_xld hcd rfl (Nat.le_of_ble_eq_true rfl) (Nat.le_of_ble_eq_true rfl) h1 ?_
  show Ev X 284 356 [some (vR (some (PK + 14))), some (vR (some 0)), some (vR (some 170)), some (vI x3)] [vI ((X 14).2 (x3 + 1).toNat), vR (some 0)] _ Q
  iterate 4 (refine e_nx hcd rfl rfl ?_)
  obtain ⟨h2, H⟩ := H
  refine r_xld hcd rfl (Nat.le_of_ble_eq_true rfl) (Nat.le_of_ble_eq_true rfl) h2 ?_
  show Ev X 284 361 [some (vR (some (PK + 14))), some (vR (some 0)), some (vR (some 170)), some (vI x3)] [vI ((X 14).2 (x3 + 2).toNat), vI ((X 14).2 (x3 + 1).toNat), vR (some 0)] _ Q
  iterate 4 (refine e_nx hcd rfl rfl ?_)
  obtain ⟨h3, H⟩ := H
  refine r_xld hcd rfl (Nat.le_of_ble_eq_true rfl) (Nat.le_of_ble_eq_true rfl) h3 ?_
  show Ev X 284 366 [some (vR (some (PK + 14))), some (vR (some 0)), some (vR (some 170)), some (vI x3)] [vI ((X 14).2 (x3 + 3).toNat), vI ((X 14).2 (x3 + 2).toNat), vI ((X 14).2 (x3 + 1).toNat), vR (some 0)] _ Q
  obtain ⟨h4, H⟩ := H
  refine r_if hcd rfl h4 (fun hc => ?_) (fun hc => ?_)
  · replace H := H.1 hc
    refine e_nx hcd rfl rfl ?_
    refine r_cv hcd rfl (by omega) rfl rfl rfl (Nat.le_of_ble_eq_true rfl) ?_
    refine Cl.mono H (fun v τ1 hq => ?_)
    obtain ⟨r5, rfl, H⟩ := hq
    show Ev X 284 371 _ [vI r5] τ1 Q
    iterate 5 (refine e_nx hcd rfl rfl ?_)
    refine r_xld hcd rfl (Nat.le_of_ble_eq_true rfl) (Nat.le_of_ble_eq_true rfl) h1 ?_
    show Ev X 284 377 [some (vR (some (PK + 14))), some (vR (some 0)), some (vR (some 170)), some (vI x3)] [vI ((X 14).2 (x3 + 1).toNat), vR (some 170), vI r5] _ Q
    iterate 4 (refine e_nx hcd rfl rfl ?_)
    refine r_xld hcd rfl (Nat.le_of_ble_eq_true rfl) (Nat.le_of_ble_eq_true rfl) h2 ?_
    show Ev X 284 382 [some (vR (some (PK + 14))), some (vR (some 0)), some (vR (some 170)), some (vI x3)] [vI ((X 14).2 (x3 + 2).toNat), vI ((X 14).2 (x3 + 1).toNat), vR (some 170), vI r5] _ Q
    iterate 4 (refine e_nx hcd rfl rfl ?_)
    refine r_xld hcd rfl (Nat.le_of_ble_eq_true rfl) (Nat.le_of_ble_eq_true rfl) h3 ?_
    show Ev X 284 387 [some (vR (some (PK + 14))), some (vR (some 0)), some (vR (some 170)), some (vI x3)] [vI ((X 14).2 (x3 + 3).toNat), vI ((X 14).2 (x3 + 2).toNat), vI ((X 14).2 (x3 + 1).toNat), vR (some 170), vI r5] _ Q
    refine r_if hcd rfl h4 (fun hc => ?_) (fun hc => ?_)
    · replace H := H.1 hc
      refine e_nx hcd rfl rfl ?_
      refine r_cv hcd rfl (by omega) rfl rfl rfl (Nat.le_of_ble_eq_true rfl) ?_
      refine Cl.mono H (fun v τ2 hq => ?_)
      obtain ⟨r6, rfl, H⟩ := hq
      show Ev X 284 392 _ [vI r6, vI r5] τ2 Q
      obtain ⟨h7, H⟩ := H
      obtain ⟨h8, H⟩ := H
      refine r_icmp hcd rfl h7 h8 (fun hc => ?_) (fun hc => ?_)
      · replace H := H.1 hc
        exact H
      · replace H := H.2 hc
        refine e_nx hcd rfl rfl ?_
        exact r_zret hcd rfl rfl rfl (by omega) H
    · replace H := H.2 hc
      iterate 2 (refine e_nx hcd rfl rfl ?_)
      refine r_cv hcd rfl (by omega) rfl rfl rfl (Nat.le_of_ble_eq_true rfl) ?_
      refine Cl.mono H (fun v τ3 hq => ?_)
      obtain ⟨r9, rfl, H⟩ := hq
      show Ev X 284 392 _ [vI r9, vI r5] τ3 Q
      obtain ⟨h10, H⟩ := H
      obtain ⟨h11, H⟩ := H
      refine r_icmp hcd rfl h10 h11 (fun hc => ?_) (fun hc => ?_)
      · replace H := H.1 hc
        exact H
      · replace H := H.2 hc
        refine e_nx hcd rfl rfl ?_
        exact r_zret hcd rfl rfl rfl (by omega) H
  · replace H := H.2 hc
    iterate 2 (refine e_nx hcd rfl rfl ?_)
    refine r_cv hcd rfl (by omega) rfl rfl rfl (Nat.le_of_ble_eq_true rfl) ?_
    refine Cl.mono H (fun v τ4 hq => ?_)
    obtain ⟨r12, rfl, H⟩ := hq
    show Ev X 284 371 _ [vI r12] τ4 Q
    iterate 5 (refine e_nx hcd rfl rfl ?_)
    refine r_xld hcd rfl (Nat.le_of_ble_eq_true rfl) (Nat.le_of_ble_eq_true rfl) h1 ?_
    show Ev X 284 377 [some (vR (some (PK + 14))), some (vR (some 0)), some (vR (some 170)), some (vI x3)] [vI ((X 14).2 (x3 + 1).toNat), vR (some 170), vI r12] _ Q
    iterate 4 (refine e_nx hcd rfl rfl ?_)
    refine r_xld hcd rfl (Nat.le_of_ble_eq_true rfl) (Nat.le_of_ble_eq_true rfl) h2 ?_
    show Ev X 284 382 [some (vR (some (PK + 14))), some (vR (some 0)), some (vR (some 170)), some (vI x3)] [vI ((X 14).2 (x3 + 2).toNat), vI ((X 14).2 (x3 + 1).toNat), vR (some 170), vI r12] _ Q
    iterate 4 (refine e_nx hcd rfl rfl ?_)
    refine r_xld hcd rfl (Nat.le_of_ble_eq_true rfl) (Nat.le_of_ble_eq_true rfl) h3 ?_
    show Ev X 284 387 [some (vR (some (PK + 14))), some (vR (some 0)), some (vR (some 170)), some (vI x3)] [vI ((X 14).2 (x3 + 3).toNat), vI ((X 14).2 (x3 + 2).toNat), vI ((X 14).2 (x3 + 1).toNat), vR (some 170), vI r12] _ Q
    refine r_if hcd rfl h4 (fun hc => ?_) (fun hc => ?_)
    · replace H := H.1 hc
      refine e_nx hcd rfl rfl ?_
      refine r_cv hcd rfl (by omega) rfl rfl rfl (Nat.le_of_ble_eq_true rfl) ?_
      refine Cl.mono H (fun v τ5 hq => ?_)
      obtain ⟨r13, rfl, H⟩ := hq
      show Ev X 284 392 _ [vI r13, vI r12] τ5 Q
      obtain ⟨h14, H⟩ := H
      obtain ⟨h15, H⟩ := H
      refine r_icmp hcd rfl h14 h15 (fun hc => ?_) (fun hc => ?_)
      · replace H := H.1 hc
        exact H
      · replace H := H.2 hc
        refine e_nx hcd rfl rfl ?_
        exact r_zret hcd rfl rfl rfl (by omega) H
    · replace H := H.2 hc
      iterate 2 (refine e_nx hcd rfl rfl ?_)
      refine r_cv hcd rfl (by omega) rfl rfl rfl (Nat.le_of_ble_eq_true rfl) ?_
      refine Cl.mono H (fun v τ6 hq => ?_)
      obtain ⟨r16, rfl, H⟩ := hq
      show Ev X 284 392 _ [vI r16, vI r12] τ6 Q
      obtain ⟨h17, H⟩ := H
      obtain ⟨h18, H⟩ := H
      refine r_icmp hcd rfl h17 h18 (fun hc => ?_) (fun hc => ?_)
      · replace H := H.1 hc
        exact H
      · replace H := H.2 hc
        refine e_nx hcd rfl rfl ?_
        exact r_zret hcd rfl rfl rfl (by omega) H
set_option maxRecDepth 20000 in
theorem v_284_395 {X : PX} {σ : Sg} {Q : Option PV → Sg → Prop} {x3 : Int} (H : (0 ≤ x3 + 1 ∧ x3 + 1 < (X 14).1) ∧ (0 ≤ x3 + 2 ∧ x3 + 2 < (X 14).1) ∧ InR ((X 14).2 (x3 + 2).toNat) ∧ ((X 14).2 (x3 + 2).toNat = 0 → CI X 150 [vR (some 0), vI ((X 14).2 (x3 + 1).toNat), vI 0] σ (fun r4 τ1 => ((X 14).2 (x3 + 2).toNat = 0 → CI X 211 [vR (some 170), vI ((X 14).2 (x3 + 1).toNat), vI 0] τ1 (fun r5 τ2 => InR r4 ∧ InR r5 ∧ (r4 = r5 → Ev X 284 1270 [some (vR (some (PK + 14))), some (vR (some 0)), some (vR (some 170)), some (vI x3)] [] τ2 Q) ∧ (¬ r4 = r5 → Q (some (vI 0)) τ2))) ∧ (¬ (X 14).2 (x3 + 2).toNat = 0 → CI X 211 [vR (some 170), vI ((X 14).2 (x3 + 1).toNat), vI 1] τ1 (fun r8 τ3 => InR r4 ∧ InR r8 ∧ (r4 = r8 → Ev X 284 1270 [some (vR (some (PK + 14))), some (vR (some 0)), some (vR (some 170)), some (vI x3)] [] τ3 Q) ∧ (¬ r4 = r8 → Q (some (vI 0)) τ3))))) ∧ (¬ (X 14).2 (x3 + 2).toNat = 0 → CI X 150 [vR (some 0), vI ((X 14).2 (x3 + 1).toNat), vI 1] σ (fun r11 τ4 => ((X 14).2 (x3 + 2).toNat = 0 → CI X 211 [vR (some 170), vI ((X 14).2 (x3 + 1).toNat), vI 0] τ4 (fun r12 τ5 => InR r11 ∧ InR r12 ∧ (r11 = r12 → Ev X 284 1270 [some (vR (some (PK + 14))), some (vR (some 0)), some (vR (some 170)), some (vI x3)] [] τ5 Q) ∧ (¬ r11 = r12 → Q (some (vI 0)) τ5))) ∧ (¬ (X 14).2 (x3 + 2).toNat = 0 → CI X 211 [vR (some 170), vI ((X 14).2 (x3 + 1).toNat), vI 1] τ4 (fun r15 τ6 => InR r11 ∧ InR r15 ∧ (r11 = r15 → Ev X 284 1270 [some (vR (some (PK + 14))), some (vR (some 0)), some (vR (some 170)), some (vI x3)] [] τ6 Q) ∧ (¬ r11 = r15 → Q (some (vI 0)) τ6)))))) : Ev X 284 395 [some (vR (some (PK + 14))), some (vR (some 0)), some (vR (some 170)), some (vI x3)] [] σ Q := by
  have hcd : cds 284 = cd_284 := rfl
  iterate 5 (refine e_nx hcd rfl rfl ?_)
  obtain ⟨h1, H⟩ := H
  refine r_xld hcd rfl (Nat.le_of_ble_eq_true rfl) (Nat.le_of_ble_eq_true rfl) h1 ?_
  show Ev X 284 401 [some (vR (some (PK + 14))), some (vR (some 0)), some (vR (some 170)), some (vI x3)] [vI ((X 14).2 (x3 + 1).toNat), vR (some 0)] _ Q
  iterate 4 (refine e_nx hcd rfl rfl ?_)
  obtain ⟨h2, H⟩ := H
  refine r_xld hcd rfl (Nat.le_of_ble_eq_true rfl) (Nat.le_of_ble_eq_true rfl) h2 ?_
  show Ev X 284 406 [some (vR (some (PK + 14))), some (vR (some 0)), some (vR (some 170)), some (vI x3)] [vI ((X 14).2 (x3 + 2).toNat), vI ((X 14).2 (x3 + 1).toNat), vR (some 0)] _ Q
  obtain ⟨h3, H⟩ := H
  refine r_if hcd rfl h3 (fun hc => ?_) (fun hc => ?_)
  · replace H := H.1 hc
    refine e_nx hcd rfl rfl ?_
    refine r_cv hcd rfl (by omega) rfl rfl rfl (Nat.le_of_ble_eq_true rfl) ?_
    refine Cl.mono H (fun v τ1 hq => ?_)
    obtain ⟨r4, rfl, H⟩ := hq
    show Ev X 284 411 _ [vI r4] τ1 Q
    iterate 5 (refine e_nx hcd rfl rfl ?_)
    refine r_xld hcd rfl (Nat.le_of_ble_eq_true rfl) (Nat.le_of_ble_eq_true rfl) h1 ?_
    show Ev X 284 417 [some (vR (some (PK + 14))), some (vR (some 0)), some (vR (some 170)), some (vI x3)] [vI ((X 14).2 (x3 + 1).toNat), vR (some 170), vI r4] _ Q
    iterate 4 (refine e_nx hcd rfl rfl ?_)
    refine r_xld hcd rfl (Nat.le_of_ble_eq_true rfl) (Nat.le_of_ble_eq_true rfl) h2 ?_
    show Ev X 284 422 [some (vR (some (PK + 14))), some (vR (some 0)), some (vR (some 170)), some (vI x3)] [vI ((X 14).2 (x3 + 2).toNat), vI ((X 14).2 (x3 + 1).toNat), vR (some 170), vI r4] _ Q
    refine r_if hcd rfl h3 (fun hc => ?_) (fun hc => ?_)
    · replace H := H.1 hc
      refine e_nx hcd rfl rfl ?_
      refine r_cv hcd rfl (by omega) rfl rfl rfl (Nat.le_of_ble_eq_true rfl) ?_
      refine Cl.mono H (fun v τ2 hq => ?_)
      obtain ⟨r5, rfl, H⟩ := hq
      show Ev X 284 427 _ [vI r5, vI r4] τ2 Q
      obtain ⟨h6, H⟩ := H
      obtain ⟨h7, H⟩ := H
      refine r_icmp hcd rfl h6 h7 (fun hc => ?_) (fun hc => ?_)
      · replace H := H.1 hc
        exact H
      · replace H := H.2 hc
        refine e_nx hcd rfl rfl ?_
        exact r_zret hcd rfl rfl rfl (by omega) H
    · replace H := H.2 hc
      iterate 2 (refine e_nx hcd rfl rfl ?_)
      refine r_cv hcd rfl (by omega) rfl rfl rfl (Nat.le_of_ble_eq_true rfl) ?_
      refine Cl.mono H (fun v τ3 hq => ?_)
      obtain ⟨r8, rfl, H⟩ := hq
      show Ev X 284 427 _ [vI r8, vI r4] τ3 Q
      obtain ⟨h9, H⟩ := H
      obtain ⟨h10, H⟩ := H
      refine r_icmp hcd rfl h9 h10 (fun hc => ?_) (fun hc => ?_)
      · replace H := H.1 hc
        exact H
      · replace H := H.2 hc
        refine e_nx hcd rfl rfl ?_
        exact r_zret hcd rfl rfl rfl (by omega) H
  · replace H := H.2 hc
    iterate 2 (refine e_nx hcd rfl rfl ?_)
    refine r_cv hcd rfl (by omega) rfl rfl rfl (Nat.le_of_ble_eq_true rfl) ?_
    refine Cl.mono H (fun v τ4 hq => ?_)
    obtain ⟨r11, rfl, H⟩ := hq
    show Ev X 284 411 _ [vI r11] τ4 Q
    iterate 5 (refine e_nx hcd rfl rfl ?_)
    refine r_xld hcd rfl (Nat.le_of_ble_eq_true rfl) (Nat.le_of_ble_eq_true rfl) h1 ?_
    show Ev X 284 417 [some (vR (some (PK + 14))), some (vR (some 0)), some (vR (some 170)), some (vI x3)] [vI ((X 14).2 (x3 + 1).toNat), vR (some 170), vI r11] _ Q
    iterate 4 (refine e_nx hcd rfl rfl ?_)
    refine r_xld hcd rfl (Nat.le_of_ble_eq_true rfl) (Nat.le_of_ble_eq_true rfl) h2 ?_
    show Ev X 284 422 [some (vR (some (PK + 14))), some (vR (some 0)), some (vR (some 170)), some (vI x3)] [vI ((X 14).2 (x3 + 2).toNat), vI ((X 14).2 (x3 + 1).toNat), vR (some 170), vI r11] _ Q
    refine r_if hcd rfl h3 (fun hc => ?_) (fun hc => ?_)
    · replace H := H.1 hc
      refine e_nx hcd rfl rfl ?_
      refine r_cv hcd rfl (by omega) rfl rfl rfl (Nat.le_of_ble_eq_true rfl) ?_
      refine Cl.mono H (fun v τ5 hq => ?_)
      obtain ⟨r12, rfl, H⟩ := hq
      show Ev X 284 427 _ [vI r12, vI r11] τ5 Q
      obtain ⟨h13, H⟩ := H
      obtain ⟨h14, H⟩ := H
      refine r_icmp hcd rfl h13 h14 (fun hc => ?_) (fun hc => ?_)
      · replace H := H.1 hc
        exact H
      · replace H := H.2 hc
        refine e_nx hcd rfl rfl ?_
        exact r_zret hcd rfl rfl rfl (by omega) H
    · replace H := H.2 hc
      iterate 2 (refine e_nx hcd rfl rfl ?_)
      refine r_cv hcd rfl (by omega) rfl rfl rfl (Nat.le_of_ble_eq_true rfl) ?_
      refine Cl.mono H (fun v τ6 hq => ?_)
      obtain ⟨r15, rfl, H⟩ := hq
      show Ev X 284 427 _ [vI r15, vI r11] τ6 Q
      obtain ⟨h16, H⟩ := H
      obtain ⟨h17, H⟩ := H
      refine r_icmp hcd rfl h16 h17 (fun hc => ?_) (fun hc => ?_)
      · replace H := H.1 hc
        exact H
      · replace H := H.2 hc
        refine e_nx hcd rfl rfl ?_
        exact r_zret hcd rfl rfl rfl (by omega) H
set_option maxRecDepth 20000 in
theorem v_284_430 {X : PX} {σ : Sg} {Q : Option PV → Sg → Prop} {x3 : Int} (H : (0 ≤ x3 + 1 ∧ x3 + 1 < (X 14).1) ∧ (0 ≤ x3 + 2 ∧ x3 + 2 < (X 14).1) ∧ CI X 151 [vR (some 0), vI ((X 14).2 (x3 + 1).toNat), vI ((X 14).2 (x3 + 2).toNat)] σ (fun r3 τ1 => CI X 212 [vR (some 170), vI ((X 14).2 (x3 + 1).toNat), vI ((X 14).2 (x3 + 2).toNat)] τ1 (fun r4 τ2 => InR r3 ∧ InR r4 ∧ (r3 = r4 → Ev X 284 1270 [some (vR (some (PK + 14))), some (vR (some 0)), some (vR (some 170)), some (vI x3)] [] τ2 Q) ∧ (¬ r3 = r4 → Q (some (vI 0)) τ2)))) : Ev X 284 430 [some (vR (some (PK + 14))), some (vR (some 0)), some (vR (some 170)), some (vI x3)] [] σ Q := by
  have hcd : cds 284 = cd_284 := rfl
  iterate 5 (refine e_nx hcd rfl rfl ?_)
  obtain ⟨h1, H⟩ := H
  refine r_xld hcd rfl (Nat.le_of_ble_eq_true rfl) (Nat.le_of_ble_eq_true rfl) h1 ?_
  show Ev X 284 436 [some (vR (some (PK + 14))), some (vR (some 0)), some (vR (some 170)), some (vI x3)] [vI ((X 14).2 (x3 + 1).toNat), vR (some 0)] _ Q
  iterate 4 (refine e_nx hcd rfl rfl ?_)
  obtain ⟨h2, H⟩ := H
  refine r_xld hcd rfl (Nat.le_of_ble_eq_true rfl) (Nat.le_of_ble_eq_true rfl) h2 ?_
  show Ev X 284 441 [some (vR (some (PK + 14))), some (vR (some 0)), some (vR (some 170)), some (vI x3)] [vI ((X 14).2 (x3 + 2).toNat), vI ((X 14).2 (x3 + 1).toNat), vR (some 0)] _ Q
  refine r_cv hcd rfl (by omega) rfl rfl rfl (Nat.le_of_ble_eq_true rfl) ?_
  refine Cl.mono H (fun v τ1 hq => ?_)
  obtain ⟨r3, rfl, H⟩ := hq
  show Ev X 284 442 _ [vI r3] τ1 Q
  iterate 5 (refine e_nx hcd rfl rfl ?_)
  refine r_xld hcd rfl (Nat.le_of_ble_eq_true rfl) (Nat.le_of_ble_eq_true rfl) h1 ?_
  show Ev X 284 448 [some (vR (some (PK + 14))), some (vR (some 0)), some (vR (some 170)), some (vI x3)] [vI ((X 14).2 (x3 + 1).toNat), vR (some 170), vI r3] _ Q
  iterate 4 (refine e_nx hcd rfl rfl ?_)
  refine r_xld hcd rfl (Nat.le_of_ble_eq_true rfl) (Nat.le_of_ble_eq_true rfl) h2 ?_
  show Ev X 284 453 [some (vR (some (PK + 14))), some (vR (some 0)), some (vR (some 170)), some (vI x3)] [vI ((X 14).2 (x3 + 2).toNat), vI ((X 14).2 (x3 + 1).toNat), vR (some 170), vI r3] _ Q
  refine r_cv hcd rfl (by omega) rfl rfl rfl (Nat.le_of_ble_eq_true rfl) ?_
  refine Cl.mono H (fun v τ2 hq => ?_)
  obtain ⟨r4, rfl, H⟩ := hq
  show Ev X 284 454 _ [vI r4, vI r3] τ2 Q
  obtain ⟨h5, H⟩ := H
  obtain ⟨h6, H⟩ := H
  refine r_icmp hcd rfl h5 h6 (fun hc => ?_) (fun hc => ?_)
  · replace H := H.1 hc
    exact H
  · replace H := H.2 hc
    refine e_nx hcd rfl rfl ?_
    exact r_zret hcd rfl rfl rfl (by omega) H
set_option maxRecDepth 20000 in
theorem v_284_457 {X : PX} {σ : Sg} {Q : Option PV → Sg → Prop} {x3 : Int} (H : (0 ≤ x3 + 1 ∧ x3 + 1 < (X 14).1) ∧ (0 ≤ x3 + 2 ∧ x3 + 2 < (X 14).1) ∧ CI X 146 [vR (some 0), vI ((X 14).2 (x3 + 1).toNat), vI ((X 14).2 (x3 + 2).toNat)] σ (fun r3 τ1 => CI X 215 [vR (some 170), vI ((X 14).2 (x3 + 1).toNat), vI ((X 14).2 (x3 + 2).toNat)] τ1 (fun r4 τ2 => InR r3 ∧ InR r4 ∧ (r3 = r4 → Ev X 284 1270 [some (vR (some (PK + 14))), some (vR (some 0)), some (vR (some 170)), some (vI x3)] [] τ2 Q) ∧ (¬ r3 = r4 → Q (some (vI 0)) τ2)))) : Ev X 284 457 [some (vR (some (PK + 14))), some (vR (some 0)), some (vR (some 170)), some (vI x3)] [] σ Q := by
  have hcd : cds 284 = cd_284 := rfl
  iterate 5 (refine e_nx hcd rfl rfl ?_)
  obtain ⟨h1, H⟩ := H
  refine r_xld hcd rfl (Nat.le_of_ble_eq_true rfl) (Nat.le_of_ble_eq_true rfl) h1 ?_
  show Ev X 284 463 [some (vR (some (PK + 14))), some (vR (some 0)), some (vR (some 170)), some (vI x3)] [vI ((X 14).2 (x3 + 1).toNat), vR (some 0)] _ Q
  iterate 4 (refine e_nx hcd rfl rfl ?_)
  obtain ⟨h2, H⟩ := H
  refine r_xld hcd rfl (Nat.le_of_ble_eq_true rfl) (Nat.le_of_ble_eq_true rfl) h2 ?_
  show Ev X 284 468 [some (vR (some (PK + 14))), some (vR (some 0)), some (vR (some 170)), some (vI x3)] [vI ((X 14).2 (x3 + 2).toNat), vI ((X 14).2 (x3 + 1).toNat), vR (some 0)] _ Q
  refine r_cv hcd rfl (by omega) rfl rfl rfl (Nat.le_of_ble_eq_true rfl) ?_
  refine Cl.mono H (fun v τ1 hq => ?_)
  obtain ⟨r3, rfl, H⟩ := hq
  show Ev X 284 469 _ [vI r3] τ1 Q
  iterate 5 (refine e_nx hcd rfl rfl ?_)
  refine r_xld hcd rfl (Nat.le_of_ble_eq_true rfl) (Nat.le_of_ble_eq_true rfl) h1 ?_
  show Ev X 284 475 [some (vR (some (PK + 14))), some (vR (some 0)), some (vR (some 170)), some (vI x3)] [vI ((X 14).2 (x3 + 1).toNat), vR (some 170), vI r3] _ Q
  iterate 4 (refine e_nx hcd rfl rfl ?_)
  refine r_xld hcd rfl (Nat.le_of_ble_eq_true rfl) (Nat.le_of_ble_eq_true rfl) h2 ?_
  show Ev X 284 480 [some (vR (some (PK + 14))), some (vR (some 0)), some (vR (some 170)), some (vI x3)] [vI ((X 14).2 (x3 + 2).toNat), vI ((X 14).2 (x3 + 1).toNat), vR (some 170), vI r3] _ Q
  refine r_cv hcd rfl (by omega) rfl rfl rfl (Nat.le_of_ble_eq_true rfl) ?_
  refine Cl.mono H (fun v τ2 hq => ?_)
  obtain ⟨r4, rfl, H⟩ := hq
  show Ev X 284 481 _ [vI r4, vI r3] τ2 Q
  obtain ⟨h5, H⟩ := H
  obtain ⟨h6, H⟩ := H
  refine r_icmp hcd rfl h5 h6 (fun hc => ?_) (fun hc => ?_)
  · replace H := H.1 hc
    exact H
  · replace H := H.2 hc
    refine e_nx hcd rfl rfl ?_
    exact r_zret hcd rfl rfl rfl (by omega) H
set_option maxRecDepth 20000 in
theorem v_284_484 {X : PX} {σ : Sg} {Q : Option PV → Sg → Prop} {x3 : Int} (H : (0 ≤ x3 + 1 ∧ x3 + 1 < (X 14).1) ∧ (0 ≤ x3 + 2 ∧ x3 + 2 < (X 14).1) ∧ (0 ≤ x3 + 3 ∧ x3 + 3 < (X 14).1) ∧ CI X 147 [vR (some 0), vI ((X 14).2 (x3 + 1).toNat), vI ((X 14).2 (x3 + 2).toNat), vI ((X 14).2 (x3 + 3).toNat)] σ (fun r4 τ1 => CI X 217 [vR (some 170), vI ((X 14).2 (x3 + 1).toNat), vI ((X 14).2 (x3 + 2).toNat), vI ((X 14).2 (x3 + 3).toNat)] τ1 (fun r5 τ2 => InR r4 ∧ InR r5 ∧ (r4 = r5 → Ev X 284 1270 [some (vR (some (PK + 14))), some (vR (some 0)), some (vR (some 170)), some (vI x3)] [] τ2 Q) ∧ (¬ r4 = r5 → Q (some (vI 0)) τ2)))) : Ev X 284 484 [some (vR (some (PK + 14))), some (vR (some 0)), some (vR (some 170)), some (vI x3)] [] σ Q := by
  have hcd : cds 284 = cd_284 := rfl
  iterate 5 (refine e_nx hcd rfl rfl ?_)
  obtain ⟨h1, H⟩ := H
  refine r_xld hcd rfl (Nat.le_of_ble_eq_true rfl) (Nat.le_of_ble_eq_true rfl) h1 ?_
  show Ev X 284 490 [some (vR (some (PK + 14))), some (vR (some 0)), some (vR (some 170)), some (vI x3)] [vI ((X 14).2 (x3 + 1).toNat), vR (some 0)] _ Q
  iterate 4 (refine e_nx hcd rfl rfl ?_)
  obtain ⟨h2, H⟩ := H
  refine r_xld hcd rfl (Nat.le_of_ble_eq_true rfl) (Nat.le_of_ble_eq_true rfl) h2 ?_
  show Ev X 284 495 [some (vR (some (PK + 14))), some (vR (some 0)), some (vR (some 170)), some (vI x3)] [vI ((X 14).2 (x3 + 2).toNat), vI ((X 14).2 (x3 + 1).toNat), vR (some 0)] _ Q
  iterate 4 (refine e_nx hcd rfl rfl ?_)
  obtain ⟨h3, H⟩ := H
  refine r_xld hcd rfl (Nat.le_of_ble_eq_true rfl) (Nat.le_of_ble_eq_true rfl) h3 ?_
  show Ev X 284 500 [some (vR (some (PK + 14))), some (vR (some 0)), some (vR (some 170)), some (vI x3)] [vI ((X 14).2 (x3 + 3).toNat), vI ((X 14).2 (x3 + 2).toNat), vI ((X 14).2 (x3 + 1).toNat), vR (some 0)] _ Q
  refine r_cv hcd rfl (by omega) rfl rfl rfl (Nat.le_of_ble_eq_true rfl) ?_
  refine Cl.mono H (fun v τ1 hq => ?_)
  obtain ⟨r4, rfl, H⟩ := hq
  show Ev X 284 501 _ [vI r4] τ1 Q
  iterate 5 (refine e_nx hcd rfl rfl ?_)
  refine r_xld hcd rfl (Nat.le_of_ble_eq_true rfl) (Nat.le_of_ble_eq_true rfl) h1 ?_
  show Ev X 284 507 [some (vR (some (PK + 14))), some (vR (some 0)), some (vR (some 170)), some (vI x3)] [vI ((X 14).2 (x3 + 1).toNat), vR (some 170), vI r4] _ Q
  iterate 4 (refine e_nx hcd rfl rfl ?_)
  refine r_xld hcd rfl (Nat.le_of_ble_eq_true rfl) (Nat.le_of_ble_eq_true rfl) h2 ?_
  show Ev X 284 512 [some (vR (some (PK + 14))), some (vR (some 0)), some (vR (some 170)), some (vI x3)] [vI ((X 14).2 (x3 + 2).toNat), vI ((X 14).2 (x3 + 1).toNat), vR (some 170), vI r4] _ Q
  iterate 4 (refine e_nx hcd rfl rfl ?_)
  refine r_xld hcd rfl (Nat.le_of_ble_eq_true rfl) (Nat.le_of_ble_eq_true rfl) h3 ?_
  show Ev X 284 517 [some (vR (some (PK + 14))), some (vR (some 0)), some (vR (some 170)), some (vI x3)] [vI ((X 14).2 (x3 + 3).toNat), vI ((X 14).2 (x3 + 2).toNat), vI ((X 14).2 (x3 + 1).toNat), vR (some 170), vI r4] _ Q
  refine r_cv hcd rfl (by omega) rfl rfl rfl (Nat.le_of_ble_eq_true rfl) ?_
  refine Cl.mono H (fun v τ2 hq => ?_)
  obtain ⟨r5, rfl, H⟩ := hq
  show Ev X 284 518 _ [vI r5, vI r4] τ2 Q
  obtain ⟨h6, H⟩ := H
  obtain ⟨h7, H⟩ := H
  refine r_icmp hcd rfl h6 h7 (fun hc => ?_) (fun hc => ?_)
  · replace H := H.1 hc
    exact H
  · replace H := H.2 hc
    refine e_nx hcd rfl rfl ?_
    exact r_zret hcd rfl rfl rfl (by omega) H
set_option maxRecDepth 20000 in
theorem v_284_521 {X : PX} {σ : Sg} {Q : Option PV → Sg → Prop} {x3 : Int} (H : (0 ≤ x3 + 1 ∧ x3 + 1 < (X 14).1) ∧ (0 ≤ x3 + 2 ∧ x3 + 2 < (X 14).1) ∧ (0 ≤ x3 + 3 ∧ x3 + 3 < (X 14).1) ∧ (0 ≤ x3 + 4 ∧ x3 + 4 < (X 14).1) ∧ (0 ≤ x3 + 5 ∧ x3 + 5 < (X 14).1) ∧ InR ((X 14).2 (x3 + 5).toNat) ∧ ((X 14).2 (x3 + 5).toNat = 0 → CI X 138 [vR (some 0), vI ((X 14).2 (x3 + 1).toNat), vI ((X 14).2 (x3 + 2).toNat), vI ((X 14).2 (x3 + 3).toNat), vI ((X 14).2 (x3 + 4).toNat), vI 0] σ (fun r7 τ1 => ((X 14).2 (x3 + 5).toNat = 0 → CI X 219 [vR (some 170), vI ((X 14).2 (x3 + 1).toNat), vI ((X 14).2 (x3 + 2).toNat), vI ((X 14).2 (x3 + 3).toNat), vI ((X 14).2 (x3 + 4).toNat), vI 0] τ1 (fun r8 τ2 => InR r7 ∧ InR r8 ∧ (r7 = r8 → Ev X 284 1270 [some (vR (some (PK + 14))), some (vR (some 0)), some (vR (some 170)), some (vI x3)] [] τ2 Q) ∧ (¬ r7 = r8 → Q (some (vI 0)) τ2))) ∧ (¬ (X 14).2 (x3 + 5).toNat = 0 → CI X 219 [vR (some 170), vI ((X 14).2 (x3 + 1).toNat), vI ((X 14).2 (x3 + 2).toNat), vI ((X 14).2 (x3 + 3).toNat), vI ((X 14).2 (x3 + 4).toNat), vI 1] τ1 (fun r11 τ3 => InR r7 ∧ InR r11 ∧ (r7 = r11 → Ev X 284 1270 [some (vR (some (PK + 14))), some (vR (some 0)), some (vR (some 170)), some (vI x3)] [] τ3 Q) ∧ (¬ r7 = r11 → Q (some (vI 0)) τ3))))) ∧ (¬ (X 14).2 (x3 + 5).toNat = 0 → CI X 138 [vR (some 0), vI ((X 14).2 (x3 + 1).toNat), vI ((X 14).2 (x3 + 2).toNat), vI ((X 14).2 (x3 + 3).toNat), vI ((X 14).2 (x3 + 4).toNat), vI 1] σ (fun r14 τ4 => ((X 14).2 (x3 + 5).toNat = 0 → CI X 219 [vR (some 170), vI ((X 14).2 (x3 + 1).toNat), vI ((X 14).2 (x3 + 2).toNat), vI ((X 14).2 (x3 + 3).toNat), vI ((X 14).2 (x3 + 4).toNat), vI 0] τ4 (fun r15 τ5 => InR r14 ∧ InR r15 ∧ (r14 = r15 → Ev X 284 1270 [some (vR (some (PK + 14))), some (vR (some 0)), some (vR (some 170)), some (vI x3)] [] τ5 Q) ∧ (¬ r14 = r15 → Q (some (vI 0)) τ5))) ∧ (¬ (X 14).2 (x3 + 5).toNat = 0 → CI X 219 [vR (some 170), vI ((X 14).2 (x3 + 1).toNat), vI ((X 14).2 (x3 + 2).toNat), vI ((X 14).2 (x3 + 3).toNat), vI ((X 14).2 (x3 + 4).toNat), vI 1] τ4 (fun r18 τ6 => InR r14 ∧ InR r18 ∧ (r14 = r18 → Ev X 284 1270 [some (vR (some (PK + 14))), some (vR (some 0)), some (vR (some 170)), some (vI x3)] [] τ6 Q) ∧ (¬ r14 = r18 → Q (some (vI 0)) τ6)))))) : Ev X 284 521 [some (vR (some (PK + 14))), some (vR (some 0)), some (vR (some 170)), some (vI x3)] [] σ Q := by
  have hcd : cds 284 = cd_284 := rfl
  iterate 5 (refine e_nx hcd rfl rfl ?_)
  obtain ⟨h1, H⟩ := H
  refine r_xld hcd rfl (Nat.le_of_ble_eq_true rfl) (Nat.le_of_ble_eq_true rfl) h1 ?_
  show Ev X 284 527 [some (vR (some (PK + 14))), some (vR (some 0)), some (vR (some 170)), some (vI x3)] [vI ((X 14).2 (x3 + 1).toNat), vR (some 0)] _ Q
  iterate 4 (refine e_nx hcd rfl rfl ?_)
  obtain ⟨h2, H⟩ := H
  refine r_xld hcd rfl (Nat.le_of_ble_eq_true rfl) (Nat.le_of_ble_eq_true rfl) h2 ?_
  show Ev X 284 532 [some (vR (some (PK + 14))), some (vR (some 0)), some (vR (some 170)), some (vI x3)] [vI ((X 14).2 (x3 + 2).toNat), vI ((X 14).2 (x3 + 1).toNat), vR (some 0)] _ Q
  iterate 4 (refine e_nx hcd rfl rfl ?_)
  obtain ⟨h3, H⟩ := H
  refine r_xld hcd rfl (Nat.le_of_ble_eq_true rfl) (Nat.le_of_ble_eq_true rfl) h3 ?_
  show Ev X 284 537 [some (vR (some (PK + 14))), some (vR (some 0)), some (vR (some 170)), some (vI x3)] [vI ((X 14).2 (x3 + 3).toNat), vI ((X 14).2 (x3 + 2).toNat), vI ((X 14).2 (x3 + 1).toNat), vR (some 0)] _ Q
  iterate 4 (refine e_nx hcd rfl rfl ?_)
  obtain ⟨h4, H⟩ := H
  refine r_xld hcd rfl (Nat.le_of_ble_eq_true rfl) (Nat.le_of_ble_eq_true rfl) h4 ?_
  show Ev X 284 542 [some (vR (some (PK + 14))), some (vR (some 0)), some (vR (some 170)), some (vI x3)] [vI ((X 14).2 (x3 + 4).toNat), vI ((X 14).2 (x3 + 3).toNat), vI ((X 14).2 (x3 + 2).toNat), vI ((X 14).2 (x3 + 1).toNat), vR (some 0)] _ Q
  iterate 4 (refine e_nx hcd rfl rfl ?_)
  obtain ⟨h5, H⟩ := H
  refine r_xld hcd rfl (Nat.le_of_ble_eq_true rfl) (Nat.le_of_ble_eq_true rfl) h5 ?_
  show Ev X 284 547 [some (vR (some (PK + 14))), some (vR (some 0)), some (vR (some 170)), some (vI x3)] [vI ((X 14).2 (x3 + 5).toNat), vI ((X 14).2 (x3 + 4).toNat), vI ((X 14).2 (x3 + 3).toNat), vI ((X 14).2 (x3 + 2).toNat), vI ((X 14).2 (x3 + 1).toNat), vR (some 0)] _ Q
  obtain ⟨h6, H⟩ := H
  refine r_if hcd rfl h6 (fun hc => ?_) (fun hc => ?_)
  · replace H := H.1 hc
    refine e_nx hcd rfl rfl ?_
    refine r_cv hcd rfl (by omega) rfl rfl rfl (Nat.le_of_ble_eq_true rfl) ?_
    refine Cl.mono H (fun v τ1 hq => ?_)
    obtain ⟨r7, rfl, H⟩ := hq
    show Ev X 284 552 _ [vI r7] τ1 Q
    iterate 5 (refine e_nx hcd rfl rfl ?_)
    refine r_xld hcd rfl (Nat.le_of_ble_eq_true rfl) (Nat.le_of_ble_eq_true rfl) h1 ?_
    show Ev X 284 558 [some (vR (some (PK + 14))), some (vR (some 0)), some (vR (some 170)), some (vI x3)] [vI ((X 14).2 (x3 + 1).toNat), vR (some 170), vI r7] _ Q
    iterate 4 (refine e_nx hcd rfl rfl ?_)
    refine r_xld hcd rfl (Nat.le_of_ble_eq_true rfl) (Nat.le_of_ble_eq_true rfl) h2 ?_
    show Ev X 284 563 [some (vR (some (PK + 14))), some (vR (some 0)), some (vR (some 170)), some (vI x3)] [vI ((X 14).2 (x3 + 2).toNat), vI ((X 14).2 (x3 + 1).toNat), vR (some 170), vI r7] _ Q
    iterate 4 (refine e_nx hcd rfl rfl ?_)
    refine r_xld hcd rfl (Nat.le_of_ble_eq_true rfl) (Nat.le_of_ble_eq_true rfl) h3 ?_
    show Ev X 284 568 [some (vR (some (PK + 14))), some (vR (some 0)), some (vR (some 170)), some (vI x3)] [vI ((X 14).2 (x3 + 3).toNat), vI ((X 14).2 (x3 + 2).toNat), vI ((X 14).2 (x3 + 1).toNat), vR (some 170), vI r7] _ Q
    iterate 4 (refine e_nx hcd rfl rfl ?_)
    refine r_xld hcd rfl (Nat.le_of_ble_eq_true rfl) (Nat.le_of_ble_eq_true rfl) h4 ?_
    show Ev X 284 573 [some (vR (some (PK + 14))), some (vR (some 0)), some (vR (some 170)), some (vI x3)] [vI ((X 14).2 (x3 + 4).toNat), vI ((X 14).2 (x3 + 3).toNat), vI ((X 14).2 (x3 + 2).toNat), vI ((X 14).2 (x3 + 1).toNat), vR (some 170), vI r7] _ Q
    iterate 4 (refine e_nx hcd rfl rfl ?_)
    refine r_xld hcd rfl (Nat.le_of_ble_eq_true rfl) (Nat.le_of_ble_eq_true rfl) h5 ?_
    show Ev X 284 578 [some (vR (some (PK + 14))), some (vR (some 0)), some (vR (some 170)), some (vI x3)] [vI ((X 14).2 (x3 + 5).toNat), vI ((X 14).2 (x3 + 4).toNat), vI ((X 14).2 (x3 + 3).toNat), vI ((X 14).2 (x3 + 2).toNat), vI ((X 14).2 (x3 + 1).toNat), vR (some 170), vI r7] _ Q
    refine r_if hcd rfl h6 (fun hc => ?_) (fun hc => ?_)
    · replace H := H.1 hc
      refine e_nx hcd rfl rfl ?_
      refine r_cv hcd rfl (by omega) rfl rfl rfl (Nat.le_of_ble_eq_true rfl) ?_
      refine Cl.mono H (fun v τ2 hq => ?_)
      obtain ⟨r8, rfl, H⟩ := hq
      show Ev X 284 583 _ [vI r8, vI r7] τ2 Q
      obtain ⟨h9, H⟩ := H
      obtain ⟨h10, H⟩ := H
      refine r_icmp hcd rfl h9 h10 (fun hc => ?_) (fun hc => ?_)
      · replace H := H.1 hc
        exact H
      · replace H := H.2 hc
        refine e_nx hcd rfl rfl ?_
        exact r_zret hcd rfl rfl rfl (by omega) H
    · replace H := H.2 hc
      iterate 2 (refine e_nx hcd rfl rfl ?_)
      refine r_cv hcd rfl (by omega) rfl rfl rfl (Nat.le_of_ble_eq_true rfl) ?_
      refine Cl.mono H (fun v τ3 hq => ?_)
      obtain ⟨r11, rfl, H⟩ := hq
      show Ev X 284 583 _ [vI r11, vI r7] τ3 Q
      obtain ⟨h12, H⟩ := H
      obtain ⟨h13, H⟩ := H
      refine r_icmp hcd rfl h12 h13 (fun hc => ?_) (fun hc => ?_)
      · replace H := H.1 hc
        exact H
      · replace H := H.2 hc
        refine e_nx hcd rfl rfl ?_
        exact r_zret hcd rfl rfl rfl (by omega) H
  · replace H := H.2 hc
    iterate 2 (refine e_nx hcd rfl rfl ?_)
    refine r_cv hcd rfl (by omega) rfl rfl rfl (Nat.le_of_ble_eq_true rfl) ?_
    refine Cl.mono H (fun v τ4 hq => ?_)
    obtain ⟨r14, rfl, H⟩ := hq
    show Ev X 284 552 _ [vI r14] τ4 Q
    iterate 5 (refine e_nx hcd rfl rfl ?_)
    refine r_xld hcd rfl (Nat.le_of_ble_eq_true rfl) (Nat.le_of_ble_eq_true rfl) h1 ?_
    show Ev X 284 558 [some (vR (some (PK + 14))), some (vR (some 0)), some (vR (some 170)), some (vI x3)] [vI ((X 14).2 (x3 + 1).toNat), vR (some 170), vI r14] _ Q
    iterate 4 (refine e_nx hcd rfl rfl ?_)
    refine r_xld hcd rfl (Nat.le_of_ble_eq_true rfl) (Nat.le_of_ble_eq_true rfl) h2 ?_
    show Ev X 284 563 [some (vR (some (PK + 14))), some (vR (some 0)), some (vR (some 170)), some (vI x3)] [vI ((X 14).2 (x3 + 2).toNat), vI ((X 14).2 (x3 + 1).toNat), vR (some 170), vI r14] _ Q
    iterate 4 (refine e_nx hcd rfl rfl ?_)
    refine r_xld hcd rfl (Nat.le_of_ble_eq_true rfl) (Nat.le_of_ble_eq_true rfl) h3 ?_
    show Ev X 284 568 [some (vR (some (PK + 14))), some (vR (some 0)), some (vR (some 170)), some (vI x3)] [vI ((X 14).2 (x3 + 3).toNat), vI ((X 14).2 (x3 + 2).toNat), vI ((X 14).2 (x3 + 1).toNat), vR (some 170), vI r14] _ Q
    iterate 4 (refine e_nx hcd rfl rfl ?_)
    refine r_xld hcd rfl (Nat.le_of_ble_eq_true rfl) (Nat.le_of_ble_eq_true rfl) h4 ?_
    show Ev X 284 573 [some (vR (some (PK + 14))), some (vR (some 0)), some (vR (some 170)), some (vI x3)] [vI ((X 14).2 (x3 + 4).toNat), vI ((X 14).2 (x3 + 3).toNat), vI ((X 14).2 (x3 + 2).toNat), vI ((X 14).2 (x3 + 1).toNat), vR (some 170), vI r14] _ Q
    iterate 4 (refine e_nx hcd rfl rfl ?_)
    refine r_xld hcd rfl (Nat.le_of_ble_eq_true rfl) (Nat.le_of_ble_eq_true rfl) h5 ?_
    show Ev X 284 578 [some (vR (some (PK + 14))), some (vR (some 0)), some (vR (some 170)), some (vI x3)] [vI ((X 14).2 (x3 + 5).toNat), vI ((X 14).2 (x3 + 4).toNat), vI ((X 14).2 (x3 + 3).toNat), vI ((X 14).2 (x3 + 2).toNat), vI ((X 14).2 (x3 + 1).toNat), vR (some 170), vI r14] _ Q
    refine r_if hcd rfl h6 (fun hc => ?_) (fun hc => ?_)
    · replace H := H.1 hc
      refine e_nx hcd rfl rfl ?_
      refine r_cv hcd rfl (by omega) rfl rfl rfl (Nat.le_of_ble_eq_true rfl) ?_
      refine Cl.mono H (fun v τ5 hq => ?_)
      obtain ⟨r15, rfl, H⟩ := hq
      show Ev X 284 583 _ [vI r15, vI r14] τ5 Q
      obtain ⟨h16, H⟩ := H
      obtain ⟨h17, H⟩ := H
      refine r_icmp hcd rfl h16 h17 (fun hc => ?_) (fun hc => ?_)
      · replace H := H.1 hc
        exact H
      · replace H := H.2 hc
        refine e_nx hcd rfl rfl ?_
        exact r_zret hcd rfl rfl rfl (by omega) H
    · replace H := H.2 hc
      iterate 2 (refine e_nx hcd rfl rfl ?_)
      refine r_cv hcd rfl (by omega) rfl rfl rfl (Nat.le_of_ble_eq_true rfl) ?_
      refine Cl.mono H (fun v τ6 hq => ?_)
      obtain ⟨r18, rfl, H⟩ := hq
      show Ev X 284 583 _ [vI r18, vI r14] τ6 Q
      obtain ⟨h19, H⟩ := H
      obtain ⟨h20, H⟩ := H
      refine r_icmp hcd rfl h19 h20 (fun hc => ?_) (fun hc => ?_)
      · replace H := H.1 hc
        exact H
      · replace H := H.2 hc
        refine e_nx hcd rfl rfl ?_
        exact r_zret hcd rfl rfl rfl (by omega) H
set_option maxRecDepth 20000 in
theorem v_284_586 {X : PX} {σ : Sg} {Q : Option PV → Sg → Prop} {x3 : Int} (H : (0 ≤ x3 + 1 ∧ x3 + 1 < (X 14).1) ∧ (0 ≤ x3 + 2 ∧ x3 + 2 < (X 14).1) ∧ (0 ≤ x3 + 3 ∧ x3 + 3 < (X 14).1) ∧ (0 ≤ x3 + 4 ∧ x3 + 4 < (X 14).1) ∧ InR ((X 14).2 (x3 + 4).toNat) ∧ ((X 14).2 (x3 + 4).toNat = 0 → CI X 141 [vR (some 0), vI ((X 14).2 (x3 + 1).toNat), vI ((X 14).2 (x3 + 2).toNat), vI ((X 14).2 (x3 + 3).toNat), vI 0] σ (fun r6 τ1 => ((X 14).2 (x3 + 4).toNat = 0 → CI X 220 [vR (some 170), vI ((X 14).2 (x3 + 1).toNat), vI ((X 14).2 (x3 + 2).toNat), vI ((X 14).2 (x3 + 3).toNat), vI 0] τ1 (fun r7 τ2 => InR r6 ∧ InR r7 ∧ (r6 = r7 → Ev X 284 1270 [some (vR (some (PK + 14))), some (vR (some 0)), some (vR (some 170)), some (vI x3)] [] τ2 Q) ∧ (¬ r6 = r7 → Q (some (vI 0)) τ2))) ∧ (¬ (X 14).2 (x3 + 4).toNat = 0 → CI X 220 [vR (some 170), vI ((X 14).2 (x3 + 1).toNat), vI ((X 14).2 (x3 + 2).toNat), vI ((X 14).2 (x3 + 3).toNat), vI 1] τ1 (fun r10 τ3 => InR r6 ∧ InR r10 ∧ (r6 = r10 → Ev X 284 1270 [some (vR (some (PK + 14))), some (vR (some 0)), some (vR (some 170)), some (vI x3)] [] τ3 Q) ∧ (¬ r6 = r10 → Q (some (vI 0)) τ3))))) ∧ (¬ (X 14).2 (x3 + 4).toNat = 0 → CI X 141 [vR (some 0), vI ((X 14).2 (x3 + 1).toNat), vI ((X 14).2 (x3 + 2).toNat), vI ((X 14).2 (x3 + 3).toNat), vI 1] σ (fun r13 τ4 => ((X 14).2 (x3 + 4).toNat = 0 → CI X 220 [vR (some 170), vI ((X 14).2 (x3 + 1).toNat), vI ((X 14).2 (x3 + 2).toNat), vI ((X 14).2 (x3 + 3).toNat), vI 0] τ4 (fun r14 τ5 => InR r13 ∧ InR r14 ∧ (r13 = r14 → Ev X 284 1270 [some (vR (some (PK + 14))), some (vR (some 0)), some (vR (some 170)), some (vI x3)] [] τ5 Q) ∧ (¬ r13 = r14 → Q (some (vI 0)) τ5))) ∧ (¬ (X 14).2 (x3 + 4).toNat = 0 → CI X 220 [vR (some 170), vI ((X 14).2 (x3 + 1).toNat), vI ((X 14).2 (x3 + 2).toNat), vI ((X 14).2 (x3 + 3).toNat), vI 1] τ4 (fun r17 τ6 => InR r13 ∧ InR r17 ∧ (r13 = r17 → Ev X 284 1270 [some (vR (some (PK + 14))), some (vR (some 0)), some (vR (some 170)), some (vI x3)] [] τ6 Q) ∧ (¬ r13 = r17 → Q (some (vI 0)) τ6)))))) : Ev X 284 586 [some (vR (some (PK + 14))), some (vR (some 0)), some (vR (some 170)), some (vI x3)] [] σ Q := by
  have hcd : cds 284 = cd_284 := rfl
  iterate 5 (refine e_nx hcd rfl rfl ?_)
  obtain ⟨h1, H⟩ := H
  refine r_xld hcd rfl (Nat.le_of_ble_eq_true rfl) (Nat.le_of_ble_eq_true rfl) h1 ?_
  show Ev X 284 592 [some (vR (some (PK + 14))), some (vR (some 0)), some (vR (some 170)), some (vI x3)] [vI ((X 14).2 (x3 + 1).toNat), vR (some 0)] _ Q
  iterate 4 (refine e_nx hcd rfl rfl ?_)
  obtain ⟨h2, H⟩ := H
  refine r_xld hcd rfl (Nat.le_of_ble_eq_true rfl) (Nat.le_of_ble_eq_true rfl) h2 ?_
  show Ev X 284 597 [some (vR (some (PK + 14))), some (vR (some 0)), some (vR (some 170)), some (vI x3)] [vI ((X 14).2 (x3 + 2).toNat), vI ((X 14).2 (x3 + 1).toNat), vR (some 0)] _ Q
  iterate 4 (refine e_nx hcd rfl rfl ?_)
  obtain ⟨h3, H⟩ := H
  refine r_xld hcd rfl (Nat.le_of_ble_eq_true rfl) (Nat.le_of_ble_eq_true rfl) h3 ?_
  show Ev X 284 602 [some (vR (some (PK + 14))), some (vR (some 0)), some (vR (some 170)), some (vI x3)] [vI ((X 14).2 (x3 + 3).toNat), vI ((X 14).2 (x3 + 2).toNat), vI ((X 14).2 (x3 + 1).toNat), vR (some 0)] _ Q
  iterate 4 (refine e_nx hcd rfl rfl ?_)
  obtain ⟨h4, H⟩ := H
  refine r_xld hcd rfl (Nat.le_of_ble_eq_true rfl) (Nat.le_of_ble_eq_true rfl) h4 ?_
  show Ev X 284 607 [some (vR (some (PK + 14))), some (vR (some 0)), some (vR (some 170)), some (vI x3)] [vI ((X 14).2 (x3 + 4).toNat), vI ((X 14).2 (x3 + 3).toNat), vI ((X 14).2 (x3 + 2).toNat), vI ((X 14).2 (x3 + 1).toNat), vR (some 0)] _ Q
  obtain ⟨h5, H⟩ := H
  refine r_if hcd rfl h5 (fun hc => ?_) (fun hc => ?_)
  · replace H := H.1 hc
    refine e_nx hcd rfl rfl ?_
    refine r_cv hcd rfl (by omega) rfl rfl rfl (Nat.le_of_ble_eq_true rfl) ?_
    refine Cl.mono H (fun v τ1 hq => ?_)
    obtain ⟨r6, rfl, H⟩ := hq
    show Ev X 284 612 _ [vI r6] τ1 Q
    iterate 5 (refine e_nx hcd rfl rfl ?_)
    refine r_xld hcd rfl (Nat.le_of_ble_eq_true rfl) (Nat.le_of_ble_eq_true rfl) h1 ?_
    show Ev X 284 618 [some (vR (some (PK + 14))), some (vR (some 0)), some (vR (some 170)), some (vI x3)] [vI ((X 14).2 (x3 + 1).toNat), vR (some 170), vI r6] _ Q
    iterate 4 (refine e_nx hcd rfl rfl ?_)
    refine r_xld hcd rfl (Nat.le_of_ble_eq_true rfl) (Nat.le_of_ble_eq_true rfl) h2 ?_
    show Ev X 284 623 [some (vR (some (PK + 14))), some (vR (some 0)), some (vR (some 170)), some (vI x3)] [vI ((X 14).2 (x3 + 2).toNat), vI ((X 14).2 (x3 + 1).toNat), vR (some 170), vI r6] _ Q
    iterate 4 (refine e_nx hcd rfl rfl ?_)
    refine r_xld hcd rfl (Nat.le_of_ble_eq_true rfl) (Nat.le_of_ble_eq_true rfl) h3 ?_
    show Ev X 284 628 [some (vR (some (PK + 14))), some (vR (some 0)), some (vR (some 170)), some (vI x3)] [vI ((X 14).2 (x3 + 3).toNat), vI ((X 14).2 (x3 + 2).toNat), vI ((X 14).2 (x3 + 1).toNat), vR (some 170), vI r6] _ Q
    iterate 4 (refine e_nx hcd rfl rfl ?_)
    refine r_xld hcd rfl (Nat.le_of_ble_eq_true rfl) (Nat.le_of_ble_eq_true rfl) h4 ?_
    show Ev X 284 633 [some (vR (some (PK + 14))), some (vR (some 0)), some (vR (some 170)), some (vI x3)] [vI ((X 14).2 (x3 + 4).toNat), vI ((X 14).2 (x3 + 3).toNat), vI ((X 14).2 (x3 + 2).toNat), vI ((X 14).2 (x3 + 1).toNat), vR (some 170), vI r6] _ Q
    refine r_if hcd rfl h5 (fun hc => ?_) (fun hc => ?_)
    · replace H := H.1 hc
      refine e_nx hcd rfl rfl ?_
      refine r_cv hcd rfl (by omega) rfl rfl rfl (Nat.le_of_ble_eq_true rfl) ?_
      refine Cl.mono H (fun v τ2 hq => ?_)
      obtain ⟨r7, rfl, H⟩ := hq
      show Ev X 284 638 _ [vI r7, vI r6] τ2 Q
      obtain ⟨h8, H⟩ := H
      obtain ⟨h9, H⟩ := H
      refine r_icmp hcd rfl h8 h9 (fun hc => ?_) (fun hc => ?_)
      · replace H := H.1 hc
        exact H
      · replace H := H.2 hc
        refine e_nx hcd rfl rfl ?_
        exact r_zret hcd rfl rfl rfl (by omega) H
    · replace H := H.2 hc
      iterate 2 (refine e_nx hcd rfl rfl ?_)
      refine r_cv hcd rfl (by omega) rfl rfl rfl (Nat.le_of_ble_eq_true rfl) ?_
      refine Cl.mono H (fun v τ3 hq => ?_)
      obtain ⟨r10, rfl, H⟩ := hq
      show Ev X 284 638 _ [vI r10, vI r6] τ3 Q
      obtain ⟨h11, H⟩ := H
      obtain ⟨h12, H⟩ := H
      refine r_icmp hcd rfl h11 h12 (fun hc => ?_) (fun hc => ?_)
      · replace H := H.1 hc
        exact H
      · replace H := H.2 hc
        refine e_nx hcd rfl rfl ?_
        exact r_zret hcd rfl rfl rfl (by omega) H
  · replace H := H.2 hc
    iterate 2 (refine e_nx hcd rfl rfl ?_)
    refine r_cv hcd rfl (by omega) rfl rfl rfl (Nat.le_of_ble_eq_true rfl) ?_
    refine Cl.mono H (fun v τ4 hq => ?_)
    obtain ⟨r13, rfl, H⟩ := hq
    show Ev X 284 612 _ [vI r13] τ4 Q
    iterate 5 (refine e_nx hcd rfl rfl ?_)
    refine r_xld hcd rfl (Nat.le_of_ble_eq_true rfl) (Nat.le_of_ble_eq_true rfl) h1 ?_
    show Ev X 284 618 [some (vR (some (PK + 14))), some (vR (some 0)), some (vR (some 170)), some (vI x3)] [vI ((X 14).2 (x3 + 1).toNat), vR (some 170), vI r13] _ Q
    iterate 4 (refine e_nx hcd rfl rfl ?_)
    refine r_xld hcd rfl (Nat.le_of_ble_eq_true rfl) (Nat.le_of_ble_eq_true rfl) h2 ?_
    show Ev X 284 623 [some (vR (some (PK + 14))), some (vR (some 0)), some (vR (some 170)), some (vI x3)] [vI ((X 14).2 (x3 + 2).toNat), vI ((X 14).2 (x3 + 1).toNat), vR (some 170), vI r13] _ Q
    iterate 4 (refine e_nx hcd rfl rfl ?_)
    refine r_xld hcd rfl (Nat.le_of_ble_eq_true rfl) (Nat.le_of_ble_eq_true rfl) h3 ?_
    show Ev X 284 628 [some (vR (some (PK + 14))), some (vR (some 0)), some (vR (some 170)), some (vI x3)] [vI ((X 14).2 (x3 + 3).toNat), vI ((X 14).2 (x3 + 2).toNat), vI ((X 14).2 (x3 + 1).toNat), vR (some 170), vI r13] _ Q
    iterate 4 (refine e_nx hcd rfl rfl ?_)
    refine r_xld hcd rfl (Nat.le_of_ble_eq_true rfl) (Nat.le_of_ble_eq_true rfl) h4 ?_
    show Ev X 284 633 [some (vR (some (PK + 14))), some (vR (some 0)), some (vR (some 170)), some (vI x3)] [vI ((X 14).2 (x3 + 4).toNat), vI ((X 14).2 (x3 + 3).toNat), vI ((X 14).2 (x3 + 2).toNat), vI ((X 14).2 (x3 + 1).toNat), vR (some 170), vI r13] _ Q
    refine r_if hcd rfl h5 (fun hc => ?_) (fun hc => ?_)
    · replace H := H.1 hc
      refine e_nx hcd rfl rfl ?_
      refine r_cv hcd rfl (by omega) rfl rfl rfl (Nat.le_of_ble_eq_true rfl) ?_
      refine Cl.mono H (fun v τ5 hq => ?_)
      obtain ⟨r14, rfl, H⟩ := hq
      show Ev X 284 638 _ [vI r14, vI r13] τ5 Q
      obtain ⟨h15, H⟩ := H
      obtain ⟨h16, H⟩ := H
      refine r_icmp hcd rfl h15 h16 (fun hc => ?_) (fun hc => ?_)
      · replace H := H.1 hc
        exact H
      · replace H := H.2 hc
        refine e_nx hcd rfl rfl ?_
        exact r_zret hcd rfl rfl rfl (by omega) H
    · replace H := H.2 hc
      iterate 2 (refine e_nx hcd rfl rfl ?_)
      refine r_cv hcd rfl (by omega) rfl rfl rfl (Nat.le_of_ble_eq_true rfl) ?_
      refine Cl.mono H (fun v τ6 hq => ?_)
      obtain ⟨r17, rfl, H⟩ := hq
      show Ev X 284 638 _ [vI r17, vI r13] τ6 Q
      obtain ⟨h18, H⟩ := H
      obtain ⟨h19, H⟩ := H
      refine r_icmp hcd rfl h18 h19 (fun hc => ?_) (fun hc => ?_)
      · replace H := H.1 hc
        exact H
      · replace H := H.2 hc
        refine e_nx hcd rfl rfl ?_
        exact r_zret hcd rfl rfl rfl (by omega) H
set_option maxRecDepth 20000 in
theorem v_284_641 {X : PX} {σ : Sg} {Q : Option PV → Sg → Prop} {x3 : Int} (H : (0 ≤ x3 + 1 ∧ x3 + 1 < (X 14).1) ∧ (0 ≤ x3 + 2 ∧ x3 + 2 < (X 14).1) ∧ (0 ≤ x3 + 3 ∧ x3 + 3 < (X 14).1) ∧ InR ((X 14).2 (x3 + 3).toNat) ∧ ((X 14).2 (x3 + 3).toNat = 0 → CI X 142 [vR (some 0), vI ((X 14).2 (x3 + 1).toNat), vI ((X 14).2 (x3 + 2).toNat), vI 0] σ (fun r5 τ1 => ((X 14).2 (x3 + 3).toNat = 0 → CI X 221 [vR (some 170), vI ((X 14).2 (x3 + 1).toNat), vI ((X 14).2 (x3 + 2).toNat), vI 0] τ1 (fun r6 τ2 => InR r5 ∧ InR r6 ∧ (r5 = r6 → Ev X 284 1270 [some (vR (some (PK + 14))), some (vR (some 0)), some (vR (some 170)), some (vI x3)] [] τ2 Q) ∧ (¬ r5 = r6 → Q (some (vI 0)) τ2))) ∧ (¬ (X 14).2 (x3 + 3).toNat = 0 → CI X 221 [vR (some 170), vI ((X 14).2 (x3 + 1).toNat), vI ((X 14).2 (x3 + 2).toNat), vI 1] τ1 (fun r9 τ3 => InR r5 ∧ InR r9 ∧ (r5 = r9 → Ev X 284 1270 [some (vR (some (PK + 14))), some (vR (some 0)), some (vR (some 170)), some (vI x3)] [] τ3 Q) ∧ (¬ r5 = r9 → Q (some (vI 0)) τ3))))) ∧ (¬ (X 14).2 (x3 + 3).toNat = 0 → CI X 142 [vR (some 0), vI ((X 14).2 (x3 + 1).toNat), vI ((X 14).2 (x3 + 2).toNat), vI 1] σ (fun r12 τ4 => ((X 14).2 (x3 + 3).toNat = 0 → CI X 221 [vR (some 170), vI ((X 14).2 (x3 + 1).toNat), vI ((X 14).2 (x3 + 2).toNat), vI 0] τ4 (fun r13 τ5 => InR r12 ∧ InR r13 ∧ (r12 = r13 → Ev X 284 1270 [some (vR (some (PK + 14))), some (vR (some 0)), some (vR (some 170)), some (vI x3)] [] τ5 Q) ∧ (¬ r12 = r13 → Q (some (vI 0)) τ5))) ∧ (¬ (X 14).2 (x3 + 3).toNat = 0 → CI X 221 [vR (some 170), vI ((X 14).2 (x3 + 1).toNat), vI ((X 14).2 (x3 + 2).toNat), vI 1] τ4 (fun r16 τ6 => InR r12 ∧ InR r16 ∧ (r12 = r16 → Ev X 284 1270 [some (vR (some (PK + 14))), some (vR (some 0)), some (vR (some 170)), some (vI x3)] [] τ6 Q) ∧ (¬ r12 = r16 → Q (some (vI 0)) τ6)))))) : Ev X 284 641 [some (vR (some (PK + 14))), some (vR (some 0)), some (vR (some 170)), some (vI x3)] [] σ Q := by
  have hcd : cds 284 = cd_284 := rfl
  iterate 5 (refine e_nx hcd rfl rfl ?_)
  obtain ⟨h1, H⟩ := H
  refine r_xld hcd rfl (Nat.le_of_ble_eq_true rfl) (Nat.le_of_ble_eq_true rfl) h1 ?_
  show Ev X 284 647 [some (vR (some (PK + 14))), some (vR (some 0)), some (vR (some 170)), some (vI x3)] [vI ((X 14).2 (x3 + 1).toNat), vR (some 0)] _ Q
  iterate 4 (refine e_nx hcd rfl rfl ?_)
  obtain ⟨h2, H⟩ := H
  refine r_xld hcd rfl (Nat.le_of_ble_eq_true rfl) (Nat.le_of_ble_eq_true rfl) h2 ?_
  show Ev X 284 652 [some (vR (some (PK + 14))), some (vR (some 0)), some (vR (some 170)), some (vI x3)] [vI ((X 14).2 (x3 + 2).toNat), vI ((X 14).2 (x3 + 1).toNat), vR (some 0)] _ Q
  iterate 4 (refine e_nx hcd rfl rfl ?_)
  obtain ⟨h3, H⟩ := H
  refine r_xld hcd rfl (Nat.le_of_ble_eq_true rfl) (Nat.le_of_ble_eq_true rfl) h3 ?_
  show Ev X 284 657 [some (vR (some (PK + 14))), some (vR (some 0)), some (vR (some 170)), some (vI x3)] [vI ((X 14).2 (x3 + 3).toNat), vI ((X 14).2 (x3 + 2).toNat), vI ((X 14).2 (x3 + 1).toNat), vR (some 0)] _ Q
  obtain ⟨h4, H⟩ := H
  refine r_if hcd rfl h4 (fun hc => ?_) (fun hc => ?_)
  · replace H := H.1 hc
    refine e_nx hcd rfl rfl ?_
    refine r_cv hcd rfl (by omega) rfl rfl rfl (Nat.le_of_ble_eq_true rfl) ?_
    refine Cl.mono H (fun v τ1 hq => ?_)
    obtain ⟨r5, rfl, H⟩ := hq
    show Ev X 284 662 _ [vI r5] τ1 Q
    iterate 5 (refine e_nx hcd rfl rfl ?_)
    refine r_xld hcd rfl (Nat.le_of_ble_eq_true rfl) (Nat.le_of_ble_eq_true rfl) h1 ?_
    show Ev X 284 668 [some (vR (some (PK + 14))), some (vR (some 0)), some (vR (some 170)), some (vI x3)] [vI ((X 14).2 (x3 + 1).toNat), vR (some 170), vI r5] _ Q
    iterate 4 (refine e_nx hcd rfl rfl ?_)
    refine r_xld hcd rfl (Nat.le_of_ble_eq_true rfl) (Nat.le_of_ble_eq_true rfl) h2 ?_
    show Ev X 284 673 [some (vR (some (PK + 14))), some (vR (some 0)), some (vR (some 170)), some (vI x3)] [vI ((X 14).2 (x3 + 2).toNat), vI ((X 14).2 (x3 + 1).toNat), vR (some 170), vI r5] _ Q
    iterate 4 (refine e_nx hcd rfl rfl ?_)
    refine r_xld hcd rfl (Nat.le_of_ble_eq_true rfl) (Nat.le_of_ble_eq_true rfl) h3 ?_
    show Ev X 284 678 [some (vR (some (PK + 14))), some (vR (some 0)), some (vR (some 170)), some (vI x3)] [vI ((X 14).2 (x3 + 3).toNat), vI ((X 14).2 (x3 + 2).toNat), vI ((X 14).2 (x3 + 1).toNat), vR (some 170), vI r5] _ Q
    refine r_if hcd rfl h4 (fun hc => ?_) (fun hc => ?_)
    · replace H := H.1 hc
      refine e_nx hcd rfl rfl ?_
      refine r_cv hcd rfl (by omega) rfl rfl rfl (Nat.le_of_ble_eq_true rfl) ?_
      refine Cl.mono H (fun v τ2 hq => ?_)
      obtain ⟨r6, rfl, H⟩ := hq
      show Ev X 284 683 _ [vI r6, vI r5] τ2 Q
      obtain ⟨h7, H⟩ := H
      obtain ⟨h8, H⟩ := H
      refine r_icmp hcd rfl h7 h8 (fun hc => ?_) (fun hc => ?_)
      · replace H := H.1 hc
        exact H
      · replace H := H.2 hc
        refine e_nx hcd rfl rfl ?_
        exact r_zret hcd rfl rfl rfl (by omega) H
    · replace H := H.2 hc
      iterate 2 (refine e_nx hcd rfl rfl ?_)
      refine r_cv hcd rfl (by omega) rfl rfl rfl (Nat.le_of_ble_eq_true rfl) ?_
      refine Cl.mono H (fun v τ3 hq => ?_)
      obtain ⟨r9, rfl, H⟩ := hq
      show Ev X 284 683 _ [vI r9, vI r5] τ3 Q
      obtain ⟨h10, H⟩ := H
      obtain ⟨h11, H⟩ := H
      refine r_icmp hcd rfl h10 h11 (fun hc => ?_) (fun hc => ?_)
      · replace H := H.1 hc
        exact H
      · replace H := H.2 hc
        refine e_nx hcd rfl rfl ?_
        exact r_zret hcd rfl rfl rfl (by omega) H
  · replace H := H.2 hc
    iterate 2 (refine e_nx hcd rfl rfl ?_)
    refine r_cv hcd rfl (by omega) rfl rfl rfl (Nat.le_of_ble_eq_true rfl) ?_
    refine Cl.mono H (fun v τ4 hq => ?_)
    obtain ⟨r12, rfl, H⟩ := hq
    show Ev X 284 662 _ [vI r12] τ4 Q
    iterate 5 (refine e_nx hcd rfl rfl ?_)
    refine r_xld hcd rfl (Nat.le_of_ble_eq_true rfl) (Nat.le_of_ble_eq_true rfl) h1 ?_
    show Ev X 284 668 [some (vR (some (PK + 14))), some (vR (some 0)), some (vR (some 170)), some (vI x3)] [vI ((X 14).2 (x3 + 1).toNat), vR (some 170), vI r12] _ Q
    iterate 4 (refine e_nx hcd rfl rfl ?_)
    refine r_xld hcd rfl (Nat.le_of_ble_eq_true rfl) (Nat.le_of_ble_eq_true rfl) h2 ?_
    show Ev X 284 673 [some (vR (some (PK + 14))), some (vR (some 0)), some (vR (some 170)), some (vI x3)] [vI ((X 14).2 (x3 + 2).toNat), vI ((X 14).2 (x3 + 1).toNat), vR (some 170), vI r12] _ Q
    iterate 4 (refine e_nx hcd rfl rfl ?_)
    refine r_xld hcd rfl (Nat.le_of_ble_eq_true rfl) (Nat.le_of_ble_eq_true rfl) h3 ?_
    show Ev X 284 678 [some (vR (some (PK + 14))), some (vR (some 0)), some (vR (some 170)), some (vI x3)] [vI ((X 14).2 (x3 + 3).toNat), vI ((X 14).2 (x3 + 2).toNat), vI ((X 14).2 (x3 + 1).toNat), vR (some 170), vI r12] _ Q
    refine r_if hcd rfl h4 (fun hc => ?_) (fun hc => ?_)
    · replace H := H.1 hc
      refine e_nx hcd rfl rfl ?_
      refine r_cv hcd rfl (by omega) rfl rfl rfl (Nat.le_of_ble_eq_true rfl) ?_
      refine Cl.mono H (fun v τ5 hq => ?_)
      obtain ⟨r13, rfl, H⟩ := hq
      show Ev X 284 683 _ [vI r13, vI r12] τ5 Q
      obtain ⟨h14, H⟩ := H
      obtain ⟨h15, H⟩ := H
      refine r_icmp hcd rfl h14 h15 (fun hc => ?_) (fun hc => ?_)
      · replace H := H.1 hc
        exact H
      · replace H := H.2 hc
        refine e_nx hcd rfl rfl ?_
        exact r_zret hcd rfl rfl rfl (by omega) H
    · replace H := H.2 hc
      iterate 2 (refine e_nx hcd rfl rfl ?_)
      refine r_cv hcd rfl (by omega) rfl rfl rfl (Nat.le_of_ble_eq_true rfl) ?_
      refine Cl.mono H (fun v τ6 hq => ?_)
      obtain ⟨r16, rfl, H⟩ := hq
      show Ev X 284 683 _ [vI r16, vI r12] τ6 Q
      obtain ⟨h17, H⟩ := H
      obtain ⟨h18, H⟩ := H
      refine r_icmp hcd rfl h17 h18 (fun hc => ?_) (fun hc => ?_)
      · replace H := H.1 hc
        exact H
      · replace H := H.2 hc
        refine e_nx hcd rfl rfl ?_
        exact r_zret hcd rfl rfl rfl (by omega) H
set_option maxRecDepth 20000 in
theorem v_284_686 {X : PX} {σ : Sg} {Q : Option PV → Sg → Prop} {x3 : Int} (H : (0 ≤ x3 + 1 ∧ x3 + 1 < (X 14).1) ∧ (0 ≤ x3 + 2 ∧ x3 + 2 < (X 14).1) ∧ (0 ≤ x3 + 3 ∧ x3 + 3 < (X 14).1) ∧ CI X 131 [vR (some 0), vI ((X 14).2 (x3 + 1).toNat), vI ((X 14).2 (x3 + 2).toNat), vI ((X 14).2 (x3 + 3).toNat)] σ (fun r4 τ1 => CI X 266 [vR (some 170), vI ((X 14).2 (x3 + 1).toNat), vI ((X 14).2 (x3 + 2).toNat), vI ((X 14).2 (x3 + 3).toNat)] τ1 (fun r5 τ2 => InR r4 ∧ InR r5 ∧ (r4 = r5 → Ev X 284 1270 [some (vR (some (PK + 14))), some (vR (some 0)), some (vR (some 170)), some (vI x3)] [] τ2 Q) ∧ (¬ r4 = r5 → Q (some (vI 0)) τ2)))) : Ev X 284 686 [some (vR (some (PK + 14))), some (vR (some 0)), some (vR (some 170)), some (vI x3)] [] σ Q := by
  have hcd : cds 284 = cd_284 := rfl
  iterate 5 (refine e_nx hcd rfl rfl ?_)
  obtain ⟨h1, H⟩ := H
  refine r_xld hcd rfl (Nat.le_of_ble_eq_true rfl) (Nat.le_of_ble_eq_true rfl) h1 ?_
  show Ev X 284 692 [some (vR (some (PK + 14))), some (vR (some 0)), some (vR (some 170)), some (vI x3)] [vI ((X 14).2 (x3 + 1).toNat), vR (some 0)] _ Q
  iterate 4 (refine e_nx hcd rfl rfl ?_)
  obtain ⟨h2, H⟩ := H
  refine r_xld hcd rfl (Nat.le_of_ble_eq_true rfl) (Nat.le_of_ble_eq_true rfl) h2 ?_
  show Ev X 284 697 [some (vR (some (PK + 14))), some (vR (some 0)), some (vR (some 170)), some (vI x3)] [vI ((X 14).2 (x3 + 2).toNat), vI ((X 14).2 (x3 + 1).toNat), vR (some 0)] _ Q
  iterate 4 (refine e_nx hcd rfl rfl ?_)
  obtain ⟨h3, H⟩ := H
  refine r_xld hcd rfl (Nat.le_of_ble_eq_true rfl) (Nat.le_of_ble_eq_true rfl) h3 ?_
  show Ev X 284 702 [some (vR (some (PK + 14))), some (vR (some 0)), some (vR (some 170)), some (vI x3)] [vI ((X 14).2 (x3 + 3).toNat), vI ((X 14).2 (x3 + 2).toNat), vI ((X 14).2 (x3 + 1).toNat), vR (some 0)] _ Q
  refine r_cv hcd rfl (by omega) rfl rfl rfl (Nat.le_of_ble_eq_true rfl) ?_
  refine Cl.mono H (fun v τ1 hq => ?_)
  obtain ⟨r4, rfl, H⟩ := hq
  show Ev X 284 703 _ [vI r4] τ1 Q
  iterate 5 (refine e_nx hcd rfl rfl ?_)
  refine r_xld hcd rfl (Nat.le_of_ble_eq_true rfl) (Nat.le_of_ble_eq_true rfl) h1 ?_
  show Ev X 284 709 [some (vR (some (PK + 14))), some (vR (some 0)), some (vR (some 170)), some (vI x3)] [vI ((X 14).2 (x3 + 1).toNat), vR (some 170), vI r4] _ Q
  iterate 4 (refine e_nx hcd rfl rfl ?_)
  refine r_xld hcd rfl (Nat.le_of_ble_eq_true rfl) (Nat.le_of_ble_eq_true rfl) h2 ?_
  show Ev X 284 714 [some (vR (some (PK + 14))), some (vR (some 0)), some (vR (some 170)), some (vI x3)] [vI ((X 14).2 (x3 + 2).toNat), vI ((X 14).2 (x3 + 1).toNat), vR (some 170), vI r4] _ Q
  iterate 4 (refine e_nx hcd rfl rfl ?_)
  refine r_xld hcd rfl (Nat.le_of_ble_eq_true rfl) (Nat.le_of_ble_eq_true rfl) h3 ?_
  show Ev X 284 719 [some (vR (some (PK + 14))), some (vR (some 0)), some (vR (some 170)), some (vI x3)] [vI ((X 14).2 (x3 + 3).toNat), vI ((X 14).2 (x3 + 2).toNat), vI ((X 14).2 (x3 + 1).toNat), vR (some 170), vI r4] _ Q
  refine r_cv hcd rfl (by omega) rfl rfl rfl (Nat.le_of_ble_eq_true rfl) ?_
  refine Cl.mono H (fun v τ2 hq => ?_)
  obtain ⟨r5, rfl, H⟩ := hq
  show Ev X 284 720 _ [vI r5, vI r4] τ2 Q
  obtain ⟨h6, H⟩ := H
  obtain ⟨h7, H⟩ := H
  refine r_icmp hcd rfl h6 h7 (fun hc => ?_) (fun hc => ?_)
  · replace H := H.1 hc
    exact H
  · replace H := H.2 hc
    refine e_nx hcd rfl rfl ?_
    exact r_zret hcd rfl rfl rfl (by omega) H
set_option maxRecDepth 20000 in
theorem v_284_723 {X : PX} {σ : Sg} {Q : Option PV → Sg → Prop} {x3 : Int} (H : (0 ≤ x3 + 1 ∧ x3 + 1 < (X 14).1) ∧ (0 ≤ x3 + 2 ∧ x3 + 2 < (X 14).1) ∧ (0 ≤ x3 + 3 ∧ x3 + 3 < (X 14).1) ∧ CI X 155 [vR (some 0), vI ((X 14).2 (x3 + 1).toNat), vI ((X 14).2 (x3 + 2).toNat), vI ((X 14).2 (x3 + 3).toNat)] σ (fun r4 τ1 => CI X 272 [vR (some 170), vI ((X 14).2 (x3 + 1).toNat), vI ((X 14).2 (x3 + 2).toNat), vI ((X 14).2 (x3 + 3).toNat)] τ1 (fun r5 τ2 => InR r4 ∧ InR r5 ∧ (r4 = r5 → Ev X 284 1270 [some (vR (some (PK + 14))), some (vR (some 0)), some (vR (some 170)), some (vI x3)] [] τ2 Q) ∧ (¬ r4 = r5 → Q (some (vI 0)) τ2)))) : Ev X 284 723 [some (vR (some (PK + 14))), some (vR (some 0)), some (vR (some 170)), some (vI x3)] [] σ Q := by
  have hcd : cds 284 = cd_284 := rfl
  iterate 5 (refine e_nx hcd rfl rfl ?_)
  obtain ⟨h1, H⟩ := H
  refine r_xld hcd rfl (Nat.le_of_ble_eq_true rfl) (Nat.le_of_ble_eq_true rfl) h1 ?_
  show Ev X 284 729 [some (vR (some (PK + 14))), some (vR (some 0)), some (vR (some 170)), some (vI x3)] [vI ((X 14).2 (x3 + 1).toNat), vR (some 0)] _ Q
  iterate 4 (refine e_nx hcd rfl rfl ?_)
  obtain ⟨h2, H⟩ := H
  refine r_xld hcd rfl (Nat.le_of_ble_eq_true rfl) (Nat.le_of_ble_eq_true rfl) h2 ?_
  show Ev X 284 734 [some (vR (some (PK + 14))), some (vR (some 0)), some (vR (some 170)), some (vI x3)] [vI ((X 14).2 (x3 + 2).toNat), vI ((X 14).2 (x3 + 1).toNat), vR (some 0)] _ Q
  iterate 4 (refine e_nx hcd rfl rfl ?_)
  obtain ⟨h3, H⟩ := H
  refine r_xld hcd rfl (Nat.le_of_ble_eq_true rfl) (Nat.le_of_ble_eq_true rfl) h3 ?_
  show Ev X 284 739 [some (vR (some (PK + 14))), some (vR (some 0)), some (vR (some 170)), some (vI x3)] [vI ((X 14).2 (x3 + 3).toNat), vI ((X 14).2 (x3 + 2).toNat), vI ((X 14).2 (x3 + 1).toNat), vR (some 0)] _ Q
  refine r_cv hcd rfl (by omega) rfl rfl rfl (Nat.le_of_ble_eq_true rfl) ?_
  refine Cl.mono H (fun v τ1 hq => ?_)
  obtain ⟨r4, rfl, H⟩ := hq
  show Ev X 284 740 _ [vI r4] τ1 Q
  iterate 5 (refine e_nx hcd rfl rfl ?_)
  refine r_xld hcd rfl (Nat.le_of_ble_eq_true rfl) (Nat.le_of_ble_eq_true rfl) h1 ?_
  show Ev X 284 746 [some (vR (some (PK + 14))), some (vR (some 0)), some (vR (some 170)), some (vI x3)] [vI ((X 14).2 (x3 + 1).toNat), vR (some 170), vI r4] _ Q
  iterate 4 (refine e_nx hcd rfl rfl ?_)
  refine r_xld hcd rfl (Nat.le_of_ble_eq_true rfl) (Nat.le_of_ble_eq_true rfl) h2 ?_
  show Ev X 284 751 [some (vR (some (PK + 14))), some (vR (some 0)), some (vR (some 170)), some (vI x3)] [vI ((X 14).2 (x3 + 2).toNat), vI ((X 14).2 (x3 + 1).toNat), vR (some 170), vI r4] _ Q
  iterate 4 (refine e_nx hcd rfl rfl ?_)
  refine r_xld hcd rfl (Nat.le_of_ble_eq_true rfl) (Nat.le_of_ble_eq_true rfl) h3 ?_
  show Ev X 284 756 [some (vR (some (PK + 14))), some (vR (some 0)), some (vR (some 170)), some (vI x3)] [vI ((X 14).2 (x3 + 3).toNat), vI ((X 14).2 (x3 + 2).toNat), vI ((X 14).2 (x3 + 1).toNat), vR (some 170), vI r4] _ Q
  refine r_cv hcd rfl (by omega) rfl rfl rfl (Nat.le_of_ble_eq_true rfl) ?_
  refine Cl.mono H (fun v τ2 hq => ?_)
  obtain ⟨r5, rfl, H⟩ := hq
  show Ev X 284 757 _ [vI r5, vI r4] τ2 Q
  obtain ⟨h6, H⟩ := H
  obtain ⟨h7, H⟩ := H
  refine r_icmp hcd rfl h6 h7 (fun hc => ?_) (fun hc => ?_)
  · replace H := H.1 hc
    exact H
  · replace H := H.2 hc
    refine e_nx hcd rfl rfl ?_
    exact r_zret hcd rfl rfl rfl (by omega) H
set_option maxRecDepth 20000 in
theorem v_284_760 {X : PX} {σ : Sg} {Q : Option PV → Sg → Prop} {x3 : Int} (H : (0 ≤ x3 + 1 ∧ x3 + 1 < (X 14).1) ∧ (0 ≤ x3 + 2 ∧ x3 + 2 < (X 14).1) ∧ (0 ≤ x3 + 3 ∧ x3 + 3 < (X 14).1) ∧ (0 ≤ x3 + 4 ∧ x3 + 4 < (X 14).1) ∧ CI X 135 [vR (some 0), vI ((X 14).2 (x3 + 1).toNat), vI ((X 14).2 (x3 + 2).toNat), vI ((X 14).2 (x3 + 3).toNat), vI ((X 14).2 (x3 + 4).toNat)] σ (fun r5 τ1 => CI X 279 [vR (some 170), vI ((X 14).2 (x3 + 1).toNat), vI ((X 14).2 (x3 + 2).toNat), vI ((X 14).2 (x3 + 3).toNat), vI ((X 14).2 (x3 + 4).toNat)] τ1 (fun r6 τ2 => InR r5 ∧ InR r6 ∧ (r5 = r6 → Ev X 284 1270 [some (vR (some (PK + 14))), some (vR (some 0)), some (vR (some 170)), some (vI x3)] [] τ2 Q) ∧ (¬ r5 = r6 → Q (some (vI 0)) τ2)))) : Ev X 284 760 [some (vR (some (PK + 14))), some (vR (some 0)), some (vR (some 170)), some (vI x3)] [] σ Q := by
  have hcd : cds 284 = cd_284 := rfl
  iterate 5 (refine e_nx hcd rfl rfl ?_)
  obtain ⟨h1, H⟩ := H
  refine r_xld hcd rfl (Nat.le_of_ble_eq_true rfl) (Nat.le_of_ble_eq_true rfl) h1 ?_
  show Ev X 284 766 [some (vR (some (PK + 14))), some (vR (some 0)), some (vR (some 170)), some (vI x3)] [vI ((X 14).2 (x3 + 1).toNat), vR (some 0)] _ Q
  iterate 4 (refine e_nx hcd rfl rfl ?_)
  obtain ⟨h2, H⟩ := H
  refine r_xld hcd rfl (Nat.le_of_ble_eq_true rfl) (Nat.le_of_ble_eq_true rfl) h2 ?_
  show Ev X 284 771 [some (vR (some (PK + 14))), some (vR (some 0)), some (vR (some 170)), some (vI x3)] [vI ((X 14).2 (x3 + 2).toNat), vI ((X 14).2 (x3 + 1).toNat), vR (some 0)] _ Q
  iterate 4 (refine e_nx hcd rfl rfl ?_)
  obtain ⟨h3, H⟩ := H
  refine r_xld hcd rfl (Nat.le_of_ble_eq_true rfl) (Nat.le_of_ble_eq_true rfl) h3 ?_
  show Ev X 284 776 [some (vR (some (PK + 14))), some (vR (some 0)), some (vR (some 170)), some (vI x3)] [vI ((X 14).2 (x3 + 3).toNat), vI ((X 14).2 (x3 + 2).toNat), vI ((X 14).2 (x3 + 1).toNat), vR (some 0)] _ Q
  iterate 4 (refine e_nx hcd rfl rfl ?_)
  obtain ⟨h4, H⟩ := H
  refine r_xld hcd rfl (Nat.le_of_ble_eq_true rfl) (Nat.le_of_ble_eq_true rfl) h4 ?_
  show Ev X 284 781 [some (vR (some (PK + 14))), some (vR (some 0)), some (vR (some 170)), some (vI x3)] [vI ((X 14).2 (x3 + 4).toNat), vI ((X 14).2 (x3 + 3).toNat), vI ((X 14).2 (x3 + 2).toNat), vI ((X 14).2 (x3 + 1).toNat), vR (some 0)] _ Q
  refine r_cv hcd rfl (by omega) rfl rfl rfl (Nat.le_of_ble_eq_true rfl) ?_
  refine Cl.mono H (fun v τ1 hq => ?_)
  obtain ⟨r5, rfl, H⟩ := hq
  show Ev X 284 782 _ [vI r5] τ1 Q
  iterate 5 (refine e_nx hcd rfl rfl ?_)
  refine r_xld hcd rfl (Nat.le_of_ble_eq_true rfl) (Nat.le_of_ble_eq_true rfl) h1 ?_
  show Ev X 284 788 [some (vR (some (PK + 14))), some (vR (some 0)), some (vR (some 170)), some (vI x3)] [vI ((X 14).2 (x3 + 1).toNat), vR (some 170), vI r5] _ Q
  iterate 4 (refine e_nx hcd rfl rfl ?_)
  refine r_xld hcd rfl (Nat.le_of_ble_eq_true rfl) (Nat.le_of_ble_eq_true rfl) h2 ?_
  show Ev X 284 793 [some (vR (some (PK + 14))), some (vR (some 0)), some (vR (some 170)), some (vI x3)] [vI ((X 14).2 (x3 + 2).toNat), vI ((X 14).2 (x3 + 1).toNat), vR (some 170), vI r5] _ Q
  iterate 4 (refine e_nx hcd rfl rfl ?_)
  refine r_xld hcd rfl (Nat.le_of_ble_eq_true rfl) (Nat.le_of_ble_eq_true rfl) h3 ?_
  show Ev X 284 798 [some (vR (some (PK + 14))), some (vR (some 0)), some (vR (some 170)), some (vI x3)] [vI ((X 14).2 (x3 + 3).toNat), vI ((X 14).2 (x3 + 2).toNat), vI ((X 14).2 (x3 + 1).toNat), vR (some 170), vI r5] _ Q
  iterate 4 (refine e_nx hcd rfl rfl ?_)
  refine r_xld hcd rfl (Nat.le_of_ble_eq_true rfl) (Nat.le_of_ble_eq_true rfl) h4 ?_
  show Ev X 284 803 [some (vR (some (PK + 14))), some (vR (some 0)), some (vR (some 170)), some (vI x3)] [vI ((X 14).2 (x3 + 4).toNat), vI ((X 14).2 (x3 + 3).toNat), vI ((X 14).2 (x3 + 2).toNat), vI ((X 14).2 (x3 + 1).toNat), vR (some 170), vI r5] _ Q
  refine r_cv hcd rfl (by omega) rfl rfl rfl (Nat.le_of_ble_eq_true rfl) ?_
  refine Cl.mono H (fun v τ2 hq => ?_)
  obtain ⟨r6, rfl, H⟩ := hq
  show Ev X 284 804 _ [vI r6, vI r5] τ2 Q
  obtain ⟨h7, H⟩ := H
  obtain ⟨h8, H⟩ := H
  refine r_icmp hcd rfl h7 h8 (fun hc => ?_) (fun hc => ?_)
  · replace H := H.1 hc
    exact H
  · replace H := H.2 hc
    refine e_nx hcd rfl rfl ?_
    exact r_zret hcd rfl rfl rfl (by omega) H
set_option maxRecDepth 20000 in
theorem v_284_807 {X : PX} {σ : Sg} {Q : Option PV → Sg → Prop} {x3 : Int} (H : (0 ≤ x3 + 1 ∧ x3 + 1 < (X 14).1) ∧ (0 ≤ x3 + 2 ∧ x3 + 2 < (X 14).1) ∧ CI X 143 [vR (some 0), vI ((X 14).2 (x3 + 1).toNat), vI ((X 14).2 (x3 + 2).toNat)] σ (fun r3 τ1 => CI X 222 [vR (some 170), vI ((X 14).2 (x3 + 1).toNat), vI ((X 14).2 (x3 + 2).toNat)] τ1 (fun r4 τ2 => InR r3 ∧ InR r4 ∧ (r3 = r4 → Ev X 284 1270 [some (vR (some (PK + 14))), some (vR (some 0)), some (vR (some 170)), some (vI x3)] [] τ2 Q) ∧ (¬ r3 = r4 → Q (some (vI 0)) τ2)))) : Ev X 284 807 [some (vR (some (PK + 14))), some (vR (some 0)), some (vR (some 170)), some (vI x3)] [] σ Q := by
  have hcd : cds 284 = cd_284 := rfl
  iterate 5 (refine e_nx hcd rfl rfl ?_)
  obtain ⟨h1, H⟩ := H
  refine r_xld hcd rfl (Nat.le_of_ble_eq_true rfl) (Nat.le_of_ble_eq_true rfl) h1 ?_
  show Ev X 284 813 [some (vR (some (PK + 14))), some (vR (some 0)), some (vR (some 170)), some (vI x3)] [vI ((X 14).2 (x3 + 1).toNat), vR (some 0)] _ Q
  iterate 4 (refine e_nx hcd rfl rfl ?_)
  obtain ⟨h2, H⟩ := H
  refine r_xld hcd rfl (Nat.le_of_ble_eq_true rfl) (Nat.le_of_ble_eq_true rfl) h2 ?_
  show Ev X 284 818 [some (vR (some (PK + 14))), some (vR (some 0)), some (vR (some 170)), some (vI x3)] [vI ((X 14).2 (x3 + 2).toNat), vI ((X 14).2 (x3 + 1).toNat), vR (some 0)] _ Q
  refine r_cv hcd rfl (by omega) rfl rfl rfl (Nat.le_of_ble_eq_true rfl) ?_
  refine Cl.mono H (fun v τ1 hq => ?_)
  obtain ⟨r3, rfl, H⟩ := hq
  show Ev X 284 819 _ [vI r3] τ1 Q
  iterate 5 (refine e_nx hcd rfl rfl ?_)
  refine r_xld hcd rfl (Nat.le_of_ble_eq_true rfl) (Nat.le_of_ble_eq_true rfl) h1 ?_
  show Ev X 284 825 [some (vR (some (PK + 14))), some (vR (some 0)), some (vR (some 170)), some (vI x3)] [vI ((X 14).2 (x3 + 1).toNat), vR (some 170), vI r3] _ Q
  iterate 4 (refine e_nx hcd rfl rfl ?_)
  refine r_xld hcd rfl (Nat.le_of_ble_eq_true rfl) (Nat.le_of_ble_eq_true rfl) h2 ?_
  show Ev X 284 830 [some (vR (some (PK + 14))), some (vR (some 0)), some (vR (some 170)), some (vI x3)] [vI ((X 14).2 (x3 + 2).toNat), vI ((X 14).2 (x3 + 1).toNat), vR (some 170), vI r3] _ Q
  refine r_cv hcd rfl (by omega) rfl rfl rfl (Nat.le_of_ble_eq_true rfl) ?_
  refine Cl.mono H (fun v τ2 hq => ?_)
  obtain ⟨r4, rfl, H⟩ := hq
  show Ev X 284 831 _ [vI r4, vI r3] τ2 Q
  obtain ⟨h5, H⟩ := H
  obtain ⟨h6, H⟩ := H
  refine r_icmp hcd rfl h5 h6 (fun hc => ?_) (fun hc => ?_)
  · replace H := H.1 hc
    exact H
  · replace H := H.2 hc
    refine e_nx hcd rfl rfl ?_
    exact r_zret hcd rfl rfl rfl (by omega) H
set_option maxRecDepth 20000 in
theorem v_284_834 {X : PX} {σ : Sg} {Q : Option PV → Sg → Prop} {x3 : Int} (H : (0 ≤ x3 + 1 ∧ x3 + 1 < (X 14).1) ∧ (0 ≤ x3 + 2 ∧ x3 + 2 < (X 14).1) ∧ CI X 144 [vR (some 0), vI ((X 14).2 (x3 + 1).toNat), vI ((X 14).2 (x3 + 2).toNat)] σ (fun r3 τ1 => CI X 231 [vR (some 170), vI ((X 14).2 (x3 + 1).toNat), vI ((X 14).2 (x3 + 2).toNat)] τ1 (fun r4 τ2 => InR r3 ∧ InR r4 ∧ (r3 = r4 → Ev X 284 1270 [some (vR (some (PK + 14))), some (vR (some 0)), some (vR (some 170)), some (vI x3)] [] τ2 Q) ∧ (¬ r3 = r4 → Q (some (vI 0)) τ2)))) : Ev X 284 834 [some (vR (some (PK + 14))), some (vR (some 0)), some (vR (some 170)), some (vI x3)] [] σ Q := by
  have hcd : cds 284 = cd_284 := rfl
  iterate 5 (refine e_nx hcd rfl rfl ?_)
  obtain ⟨h1, H⟩ := H
  refine r_xld hcd rfl (Nat.le_of_ble_eq_true rfl) (Nat.le_of_ble_eq_true rfl) h1 ?_
  show Ev X 284 840 [some (vR (some (PK + 14))), some (vR (some 0)), some (vR (some 170)), some (vI x3)] [vI ((X 14).2 (x3 + 1).toNat), vR (some 0)] _ Q
  iterate 4 (refine e_nx hcd rfl rfl ?_)
  obtain ⟨h2, H⟩ := H
  refine r_xld hcd rfl (Nat.le_of_ble_eq_true rfl) (Nat.le_of_ble_eq_true rfl) h2 ?_
  show Ev X 284 845 [some (vR (some (PK + 14))), some (vR (some 0)), some (vR (some 170)), some (vI x3)] [vI ((X 14).2 (x3 + 2).toNat), vI ((X 14).2 (x3 + 1).toNat), vR (some 0)] _ Q
  refine r_cv hcd rfl (by omega) rfl rfl rfl (Nat.le_of_ble_eq_true rfl) ?_
  refine Cl.mono H (fun v τ1 hq => ?_)
  obtain ⟨r3, rfl, H⟩ := hq
  show Ev X 284 846 _ [vI r3] τ1 Q
  iterate 5 (refine e_nx hcd rfl rfl ?_)
  refine r_xld hcd rfl (Nat.le_of_ble_eq_true rfl) (Nat.le_of_ble_eq_true rfl) h1 ?_
  show Ev X 284 852 [some (vR (some (PK + 14))), some (vR (some 0)), some (vR (some 170)), some (vI x3)] [vI ((X 14).2 (x3 + 1).toNat), vR (some 170), vI r3] _ Q
  iterate 4 (refine e_nx hcd rfl rfl ?_)
  refine r_xld hcd rfl (Nat.le_of_ble_eq_true rfl) (Nat.le_of_ble_eq_true rfl) h2 ?_
  show Ev X 284 857 [some (vR (some (PK + 14))), some (vR (some 0)), some (vR (some 170)), some (vI x3)] [vI ((X 14).2 (x3 + 2).toNat), vI ((X 14).2 (x3 + 1).toNat), vR (some 170), vI r3] _ Q
  refine r_cv hcd rfl (by omega) rfl rfl rfl (Nat.le_of_ble_eq_true rfl) ?_
  refine Cl.mono H (fun v τ2 hq => ?_)
  obtain ⟨r4, rfl, H⟩ := hq
  show Ev X 284 858 _ [vI r4, vI r3] τ2 Q
  obtain ⟨h5, H⟩ := H
  obtain ⟨h6, H⟩ := H
  refine r_icmp hcd rfl h5 h6 (fun hc => ?_) (fun hc => ?_)
  · replace H := H.1 hc
    exact H
  · replace H := H.2 hc
    refine e_nx hcd rfl rfl ?_
    exact r_zret hcd rfl rfl rfl (by omega) H
set_option maxRecDepth 20000 in
theorem v_284_861 {X : PX} {σ : Sg} {Q : Option PV → Sg → Prop} {x3 : Int} (H : (0 ≤ x3 + 1 ∧ x3 + 1 < (X 14).1) ∧ (0 ≤ x3 + 2 ∧ x3 + 2 < (X 14).1) ∧ CI X 145 [vR (some 0), vI ((X 14).2 (x3 + 1).toNat), vI ((X 14).2 (x3 + 2).toNat)] σ (fun r3 τ1 => CI X 232 [vR (some 170), vI ((X 14).2 (x3 + 1).toNat), vI ((X 14).2 (x3 + 2).toNat)] τ1 (fun r4 τ2 => InR r3 ∧ InR r4 ∧ (r3 = r4 → Ev X 284 1270 [some (vR (some (PK + 14))), some (vR (some 0)), some (vR (some 170)), some (vI x3)] [] τ2 Q) ∧ (¬ r3 = r4 → Q (some (vI 0)) τ2)))) : Ev X 284 861 [some (vR (some (PK + 14))), some (vR (some 0)), some (vR (some 170)), some (vI x3)] [] σ Q := by
  have hcd : cds 284 = cd_284 := rfl
  iterate 5 (refine e_nx hcd rfl rfl ?_)
  obtain ⟨h1, H⟩ := H
  refine r_xld hcd rfl (Nat.le_of_ble_eq_true rfl) (Nat.le_of_ble_eq_true rfl) h1 ?_
  show Ev X 284 867 [some (vR (some (PK + 14))), some (vR (some 0)), some (vR (some 170)), some (vI x3)] [vI ((X 14).2 (x3 + 1).toNat), vR (some 0)] _ Q
  iterate 4 (refine e_nx hcd rfl rfl ?_)
  obtain ⟨h2, H⟩ := H
  refine r_xld hcd rfl (Nat.le_of_ble_eq_true rfl) (Nat.le_of_ble_eq_true rfl) h2 ?_
  show Ev X 284 872 [some (vR (some (PK + 14))), some (vR (some 0)), some (vR (some 170)), some (vI x3)] [vI ((X 14).2 (x3 + 2).toNat), vI ((X 14).2 (x3 + 1).toNat), vR (some 0)] _ Q
  refine r_cv hcd rfl (by omega) rfl rfl rfl (Nat.le_of_ble_eq_true rfl) ?_
  refine Cl.mono H (fun v τ1 hq => ?_)
  obtain ⟨r3, rfl, H⟩ := hq
  show Ev X 284 873 _ [vI r3] τ1 Q
  iterate 5 (refine e_nx hcd rfl rfl ?_)
  refine r_xld hcd rfl (Nat.le_of_ble_eq_true rfl) (Nat.le_of_ble_eq_true rfl) h1 ?_
  show Ev X 284 879 [some (vR (some (PK + 14))), some (vR (some 0)), some (vR (some 170)), some (vI x3)] [vI ((X 14).2 (x3 + 1).toNat), vR (some 170), vI r3] _ Q
  iterate 4 (refine e_nx hcd rfl rfl ?_)
  refine r_xld hcd rfl (Nat.le_of_ble_eq_true rfl) (Nat.le_of_ble_eq_true rfl) h2 ?_
  show Ev X 284 884 [some (vR (some (PK + 14))), some (vR (some 0)), some (vR (some 170)), some (vI x3)] [vI ((X 14).2 (x3 + 2).toNat), vI ((X 14).2 (x3 + 1).toNat), vR (some 170), vI r3] _ Q
  refine r_cv hcd rfl (by omega) rfl rfl rfl (Nat.le_of_ble_eq_true rfl) ?_
  refine Cl.mono H (fun v τ2 hq => ?_)
  obtain ⟨r4, rfl, H⟩ := hq
  show Ev X 284 885 _ [vI r4, vI r3] τ2 Q
  obtain ⟨h5, H⟩ := H
  obtain ⟨h6, H⟩ := H
  refine r_icmp hcd rfl h5 h6 (fun hc => ?_) (fun hc => ?_)
  · replace H := H.1 hc
    exact H
  · replace H := H.2 hc
    refine e_nx hcd rfl rfl ?_
    exact r_zret hcd rfl rfl rfl (by omega) H
set_option maxRecDepth 20000 in
theorem v_284_888 {X : PX} {σ : Sg} {Q : Option PV → Sg → Prop} {x3 : Int} (H : (0 ≤ x3 + 1 ∧ x3 + 1 < (X 14).1) ∧ (0 ≤ x3 + 2 ∧ x3 + 2 < (X 14).1) ∧ (0 ≤ x3 + 3 ∧ x3 + 3 < (X 14).1) ∧ CI X 148 [vR (some 0), vI ((X 14).2 (x3 + 1).toNat), vI ((X 14).2 (x3 + 2).toNat), vI ((X 14).2 (x3 + 3).toNat)] σ (fun r4 τ1 => CI X 234 [vR (some 170), vI ((X 14).2 (x3 + 1).toNat), vI ((X 14).2 (x3 + 2).toNat), vI ((X 14).2 (x3 + 3).toNat)] τ1 (fun r5 τ2 => InR r4 ∧ InR r5 ∧ (r4 = r5 → Ev X 284 1270 [some (vR (some (PK + 14))), some (vR (some 0)), some (vR (some 170)), some (vI x3)] [] τ2 Q) ∧ (¬ r4 = r5 → Q (some (vI 0)) τ2)))) : Ev X 284 888 [some (vR (some (PK + 14))), some (vR (some 0)), some (vR (some 170)), some (vI x3)] [] σ Q := by
  have hcd : cds 284 = cd_284 := rfl
  iterate 5 (refine e_nx hcd rfl rfl ?_)
  obtain ⟨h1, H⟩ := H
  refine r_xld hcd rfl (Nat.le_of_ble_eq_true rfl) (Nat.le_of_ble_eq_true rfl) h1 ?_
  show Ev X 284 894 [some (vR (some (PK + 14))), some (vR (some 0)), some (vR (some 170)), some (vI x3)] [vI ((X 14).2 (x3 + 1).toNat), vR (some 0)] _ Q
  iterate 4 (refine e_nx hcd rfl rfl ?_)
  obtain ⟨h2, H⟩ := H
  refine r_xld hcd rfl (Nat.le_of_ble_eq_true rfl) (Nat.le_of_ble_eq_true rfl) h2 ?_
  show Ev X 284 899 [some (vR (some (PK + 14))), some (vR (some 0)), some (vR (some 170)), some (vI x3)] [vI ((X 14).2 (x3 + 2).toNat), vI ((X 14).2 (x3 + 1).toNat), vR (some 0)] _ Q
  iterate 4 (refine e_nx hcd rfl rfl ?_)
  obtain ⟨h3, H⟩ := H
  refine r_xld hcd rfl (Nat.le_of_ble_eq_true rfl) (Nat.le_of_ble_eq_true rfl) h3 ?_
  show Ev X 284 904 [some (vR (some (PK + 14))), some (vR (some 0)), some (vR (some 170)), some (vI x3)] [vI ((X 14).2 (x3 + 3).toNat), vI ((X 14).2 (x3 + 2).toNat), vI ((X 14).2 (x3 + 1).toNat), vR (some 0)] _ Q
  refine r_cv hcd rfl (by omega) rfl rfl rfl (Nat.le_of_ble_eq_true rfl) ?_
  refine Cl.mono H (fun v τ1 hq => ?_)
  obtain ⟨r4, rfl, H⟩ := hq
  show Ev X 284 905 _ [vI r4] τ1 Q
  iterate 5 (refine e_nx hcd rfl rfl ?_)
  refine r_xld hcd rfl (Nat.le_of_ble_eq_true rfl) (Nat.le_of_ble_eq_true rfl) h1 ?_
  show Ev X 284 911 [some (vR (some (PK + 14))), some (vR (some 0)), some (vR (some 170)), some (vI x3)] [vI ((X 14).2 (x3 + 1).toNat), vR (some 170), vI r4] _ Q
  iterate 4 (refine e_nx hcd rfl rfl ?_)
  refine r_xld hcd rfl (Nat.le_of_ble_eq_true rfl) (Nat.le_of_ble_eq_true rfl) h2 ?_
  show Ev X 284 916 [some (vR (some (PK + 14))), some (vR (some 0)), some (vR (some 170)), some (vI x3)] [vI ((X 14).2 (x3 + 2).toNat), vI ((X 14).2 (x3 + 1).toNat), vR (some 170), vI r4] _ Q
  iterate 4 (refine e_nx hcd rfl rfl ?_)
  refine r_xld hcd rfl (Nat.le_of_ble_eq_true rfl) (Nat.le_of_ble_eq_true rfl) h3 ?_
  show Ev X 284 921 [some (vR (some (PK + 14))), some (vR (some 0)), some (vR (some 170)), some (vI x3)] [vI ((X 14).2 (x3 + 3).toNat), vI ((X 14).2 (x3 + 2).toNat), vI ((X 14).2 (x3 + 1).toNat), vR (some 170), vI r4] _ Q
  refine r_cv hcd rfl (by omega) rfl rfl rfl (Nat.le_of_ble_eq_true rfl) ?_
  refine Cl.mono H (fun v τ2 hq => ?_)
  obtain ⟨r5, rfl, H⟩ := hq
  show Ev X 284 922 _ [vI r5, vI r4] τ2 Q
  obtain ⟨h6, H⟩ := H
  obtain ⟨h7, H⟩ := H
  refine r_icmp hcd rfl h6 h7 (fun hc => ?_) (fun hc => ?_)
  · replace H := H.1 hc
    exact H
  · replace H := H.2 hc
    refine e_nx hcd rfl rfl ?_
    exact r_zret hcd rfl rfl rfl (by omega) H
set_option maxRecDepth 20000 in
theorem v_284_925 {X : PX} {σ : Sg} {Q : Option PV → Sg → Prop} {x3 : Int} (H : (0 ≤ x3 + 1 ∧ x3 + 1 < (X 14).1) ∧ (0 ≤ x3 + 2 ∧ x3 + 2 < (X 14).1) ∧ (0 ≤ x3 + 3 ∧ x3 + 3 < (X 14).1) ∧ CI X 149 [vR (some 0), vI ((X 14).2 (x3 + 1).toNat), vI ((X 14).2 (x3 + 2).toNat), vI ((X 14).2 (x3 + 3).toNat)] σ (fun r4 τ1 => CI X 235 [vR (some 170), vI ((X 14).2 (x3 + 1).toNat), vI ((X 14).2 (x3 + 2).toNat), vI ((X 14).2 (x3 + 3).toNat)] τ1 (fun r5 τ2 => InR r4 ∧ InR r5 ∧ (r4 = r5 → Ev X 284 1270 [some (vR (some (PK + 14))), some (vR (some 0)), some (vR (some 170)), some (vI x3)] [] τ2 Q) ∧ (¬ r4 = r5 → Q (some (vI 0)) τ2)))) : Ev X 284 925 [some (vR (some (PK + 14))), some (vR (some 0)), some (vR (some 170)), some (vI x3)] [] σ Q := by
  have hcd : cds 284 = cd_284 := rfl
  iterate 5 (refine e_nx hcd rfl rfl ?_)
  obtain ⟨h1, H⟩ := H
  refine r_xld hcd rfl (Nat.le_of_ble_eq_true rfl) (Nat.le_of_ble_eq_true rfl) h1 ?_
  show Ev X 284 931 [some (vR (some (PK + 14))), some (vR (some 0)), some (vR (some 170)), some (vI x3)] [vI ((X 14).2 (x3 + 1).toNat), vR (some 0)] _ Q
  iterate 4 (refine e_nx hcd rfl rfl ?_)
  obtain ⟨h2, H⟩ := H
  refine r_xld hcd rfl (Nat.le_of_ble_eq_true rfl) (Nat.le_of_ble_eq_true rfl) h2 ?_
  show Ev X 284 936 [some (vR (some (PK + 14))), some (vR (some 0)), some (vR (some 170)), some (vI x3)] [vI ((X 14).2 (x3 + 2).toNat), vI ((X 14).2 (x3 + 1).toNat), vR (some 0)] _ Q
  iterate 4 (refine e_nx hcd rfl rfl ?_)
  obtain ⟨h3, H⟩ := H
  refine r_xld hcd rfl (Nat.le_of_ble_eq_true rfl) (Nat.le_of_ble_eq_true rfl) h3 ?_
  show Ev X 284 941 [some (vR (some (PK + 14))), some (vR (some 0)), some (vR (some 170)), some (vI x3)] [vI ((X 14).2 (x3 + 3).toNat), vI ((X 14).2 (x3 + 2).toNat), vI ((X 14).2 (x3 + 1).toNat), vR (some 0)] _ Q
  refine r_cv hcd rfl (by omega) rfl rfl rfl (Nat.le_of_ble_eq_true rfl) ?_
  refine Cl.mono H (fun v τ1 hq => ?_)
  obtain ⟨r4, rfl, H⟩ := hq
  show Ev X 284 942 _ [vI r4] τ1 Q
  iterate 5 (refine e_nx hcd rfl rfl ?_)
  refine r_xld hcd rfl (Nat.le_of_ble_eq_true rfl) (Nat.le_of_ble_eq_true rfl) h1 ?_
  show Ev X 284 948 [some (vR (some (PK + 14))), some (vR (some 0)), some (vR (some 170)), some (vI x3)] [vI ((X 14).2 (x3 + 1).toNat), vR (some 170), vI r4] _ Q
  iterate 4 (refine e_nx hcd rfl rfl ?_)
  refine r_xld hcd rfl (Nat.le_of_ble_eq_true rfl) (Nat.le_of_ble_eq_true rfl) h2 ?_
  show Ev X 284 953 [some (vR (some (PK + 14))), some (vR (some 0)), some (vR (some 170)), some (vI x3)] [vI ((X 14).2 (x3 + 2).toNat), vI ((X 14).2 (x3 + 1).toNat), vR (some 170), vI r4] _ Q
  iterate 4 (refine e_nx hcd rfl rfl ?_)
  refine r_xld hcd rfl (Nat.le_of_ble_eq_true rfl) (Nat.le_of_ble_eq_true rfl) h3 ?_
  show Ev X 284 958 [some (vR (some (PK + 14))), some (vR (some 0)), some (vR (some 170)), some (vI x3)] [vI ((X 14).2 (x3 + 3).toNat), vI ((X 14).2 (x3 + 2).toNat), vI ((X 14).2 (x3 + 1).toNat), vR (some 170), vI r4] _ Q
  refine r_cv hcd rfl (by omega) rfl rfl rfl (Nat.le_of_ble_eq_true rfl) ?_
  refine Cl.mono H (fun v τ2 hq => ?_)
  obtain ⟨r5, rfl, H⟩ := hq
  show Ev X 284 959 _ [vI r5, vI r4] τ2 Q
  obtain ⟨h6, H⟩ := H
  obtain ⟨h7, H⟩ := H
  refine r_icmp hcd rfl h6 h7 (fun hc => ?_) (fun hc => ?_)
  · replace H := H.1 hc
    exact H
  · replace H := H.2 hc
    refine e_nx hcd rfl rfl ?_
    exact r_zret hcd rfl rfl rfl (by omega) H
set_option maxRecDepth 20000 in
theorem v_284_962 {X : PX} {σ : Sg} {Q : Option PV → Sg → Prop} {x3 : Int} (H : (0 ≤ x3 + 1 ∧ x3 + 1 < (X 14).1) ∧ (0 ≤ x3 + 2 ∧ x3 + 2 < (X 14).1) ∧ (0 ≤ x3 + 3 ∧ x3 + 3 < (X 14).1) ∧ CI X 137 [vR (some 0), vI ((X 14).2 (x3 + 1).toNat), vI ((X 14).2 (x3 + 2).toNat), vI ((X 14).2 (x3 + 3).toNat)] σ (fun r4 τ1 => CI X 237 [vR (some 170), vI ((X 14).2 (x3 + 1).toNat), vI ((X 14).2 (x3 + 2).toNat), vI ((X 14).2 (x3 + 3).toNat)] τ1 (fun r5 τ2 => InR r4 ∧ InR r5 ∧ (r4 = r5 → Ev X 284 1270 [some (vR (some (PK + 14))), some (vR (some 0)), some (vR (some 170)), some (vI x3)] [] τ2 Q) ∧ (¬ r4 = r5 → Q (some (vI 0)) τ2)))) : Ev X 284 962 [some (vR (some (PK + 14))), some (vR (some 0)), some (vR (some 170)), some (vI x3)] [] σ Q := by
  have hcd : cds 284 = cd_284 := rfl
  iterate 5 (refine e_nx hcd rfl rfl ?_)
  obtain ⟨h1, H⟩ := H
  refine r_xld hcd rfl (Nat.le_of_ble_eq_true rfl) (Nat.le_of_ble_eq_true rfl) h1 ?_
  show Ev X 284 968 [some (vR (some (PK + 14))), some (vR (some 0)), some (vR (some 170)), some (vI x3)] [vI ((X 14).2 (x3 + 1).toNat), vR (some 0)] _ Q
  iterate 4 (refine e_nx hcd rfl rfl ?_)
  obtain ⟨h2, H⟩ := H
  refine r_xld hcd rfl (Nat.le_of_ble_eq_true rfl) (Nat.le_of_ble_eq_true rfl) h2 ?_
  show Ev X 284 973 [some (vR (some (PK + 14))), some (vR (some 0)), some (vR (some 170)), some (vI x3)] [vI ((X 14).2 (x3 + 2).toNat), vI ((X 14).2 (x3 + 1).toNat), vR (some 0)] _ Q
  iterate 4 (refine e_nx hcd rfl rfl ?_)
  obtain ⟨h3, H⟩ := H
  refine r_xld hcd rfl (Nat.le_of_ble_eq_true rfl) (Nat.le_of_ble_eq_true rfl) h3 ?_
  show Ev X 284 978 [some (vR (some (PK + 14))), some (vR (some 0)), some (vR (some 170)), some (vI x3)] [vI ((X 14).2 (x3 + 3).toNat), vI ((X 14).2 (x3 + 2).toNat), vI ((X 14).2 (x3 + 1).toNat), vR (some 0)] _ Q
  refine r_cv hcd rfl (by omega) rfl rfl rfl (Nat.le_of_ble_eq_true rfl) ?_
  refine Cl.mono H (fun v τ1 hq => ?_)
  obtain ⟨r4, rfl, H⟩ := hq
  show Ev X 284 979 _ [vI r4] τ1 Q
  iterate 5 (refine e_nx hcd rfl rfl ?_)
  refine r_xld hcd rfl (Nat.le_of_ble_eq_true rfl) (Nat.le_of_ble_eq_true rfl) h1 ?_
  show Ev X 284 985 [some (vR (some (PK + 14))), some (vR (some 0)), some (vR (some 170)), some (vI x3)] [vI ((X 14).2 (x3 + 1).toNat), vR (some 170), vI r4] _ Q
  iterate 4 (refine e_nx hcd rfl rfl ?_)
  refine r_xld hcd rfl (Nat.le_of_ble_eq_true rfl) (Nat.le_of_ble_eq_true rfl) h2 ?_
  show Ev X 284 990 [some (vR (some (PK + 14))), some (vR (some 0)), some (vR (some 170)), some (vI x3)] [vI ((X 14).2 (x3 + 2).toNat), vI ((X 14).2 (x3 + 1).toNat), vR (some 170), vI r4] _ Q
  iterate 4 (refine e_nx hcd rfl rfl ?_)
  refine r_xld hcd rfl (Nat.le_of_ble_eq_true rfl) (Nat.le_of_ble_eq_true rfl) h3 ?_
  show Ev X 284 995 [some (vR (some (PK + 14))), some (vR (some 0)), some (vR (some 170)), some (vI x3)] [vI ((X 14).2 (x3 + 3).toNat), vI ((X 14).2 (x3 + 2).toNat), vI ((X 14).2 (x3 + 1).toNat), vR (some 170), vI r4] _ Q
  refine r_cv hcd rfl (by omega) rfl rfl rfl (Nat.le_of_ble_eq_true rfl) ?_
  refine Cl.mono H (fun v τ2 hq => ?_)
  obtain ⟨r5, rfl, H⟩ := hq
  show Ev X 284 996 _ [vI r5, vI r4] τ2 Q
  obtain ⟨h6, H⟩ := H
  obtain ⟨h7, H⟩ := H
  refine r_icmp hcd rfl h6 h7 (fun hc => ?_) (fun hc => ?_)
  · replace H := H.1 hc
    exact H
  · replace H := H.2 hc
    refine e_nx hcd rfl rfl ?_
    exact r_zret hcd rfl rfl rfl (by omega) H
set_option maxRecDepth 20000 in
theorem v_284_999 {X : PX} {σ : Sg} {Q : Option PV → Sg → Prop} {x3 : Int} (H : (0 ≤ x3 + 1 ∧ x3 + 1 < (X 14).1) ∧ (0 ≤ x3 + 2 ∧ x3 + 2 < (X 14).1) ∧ CI X 152 [vR (some 0), vI ((X 14).2 (x3 + 1).toNat), vI ((X 14).2 (x3 + 2).toNat)] σ (fun r3 τ1 => CI X 239 [vR (some 170), vI ((X 14).2 (x3 + 1).toNat), vI ((X 14).2 (x3 + 2).toNat)] τ1 (fun r4 τ2 => InR r3 ∧ InR r4 ∧ (r3 = r4 → Ev X 284 1270 [some (vR (some (PK + 14))), some (vR (some 0)), some (vR (some 170)), some (vI x3)] [] τ2 Q) ∧ (¬ r3 = r4 → Q (some (vI 0)) τ2)))) : Ev X 284 999 [some (vR (some (PK + 14))), some (vR (some 0)), some (vR (some 170)), some (vI x3)] [] σ Q := by
  have hcd : cds 284 = cd_284 := rfl
  iterate 5 (refine e_nx hcd rfl rfl ?_)
  obtain ⟨h1, H⟩ := H
  refine r_xld hcd rfl (Nat.le_of_ble_eq_true rfl) (Nat.le_of_ble_eq_true rfl) h1 ?_
  show Ev X 284 1005 [some (vR (some (PK + 14))), some (vR (some 0)), some (vR (some 170)), some (vI x3)] [vI ((X 14).2 (x3 + 1).toNat), vR (some 0)] _ Q
  iterate 4 (refine e_nx hcd rfl rfl ?_)
  obtain ⟨h2, H⟩ := H
  refine r_xld hcd rfl (Nat.le_of_ble_eq_true rfl) (Nat.le_of_ble_eq_true rfl) h2 ?_
  show Ev X 284 1010 [some (vR (some (PK + 14))), some (vR (some 0)), some (vR (some 170)), some (vI x3)] [vI ((X 14).2 (x3 + 2).toNat), vI ((X 14).2 (x3 + 1).toNat), vR (some 0)] _ Q
  refine r_cv hcd rfl (by omega) rfl rfl rfl (Nat.le_of_ble_eq_true rfl) ?_
  refine Cl.mono H (fun v τ1 hq => ?_)
  obtain ⟨r3, rfl, H⟩ := hq
  show Ev X 284 1011 _ [vI r3] τ1 Q
  iterate 5 (refine e_nx hcd rfl rfl ?_)
  refine r_xld hcd rfl (Nat.le_of_ble_eq_true rfl) (Nat.le_of_ble_eq_true rfl) h1 ?_
  show Ev X 284 1017 [some (vR (some (PK + 14))), some (vR (some 0)), some (vR (some 170)), some (vI x3)] [vI ((X 14).2 (x3 + 1).toNat), vR (some 170), vI r3] _ Q
  iterate 4 (refine e_nx hcd rfl rfl ?_)
  refine r_xld hcd rfl (Nat.le_of_ble_eq_true rfl) (Nat.le_of_ble_eq_true rfl) h2 ?_
  show Ev X 284 1022 [some (vR (some (PK + 14))), some (vR (some 0)), some (vR (some 170)), some (vI x3)] [vI ((X 14).2 (x3 + 2).toNat), vI ((X 14).2 (x3 + 1).toNat), vR (some 170), vI r3] _ Q
  refine r_cv hcd rfl (by omega) rfl rfl rfl (Nat.le_of_ble_eq_true rfl) ?_
  refine Cl.mono H (fun v τ2 hq => ?_)
  obtain ⟨r4, rfl, H⟩ := hq
  show Ev X 284 1023 _ [vI r4, vI r3] τ2 Q
  obtain ⟨h5, H⟩ := H
  obtain ⟨h6, H⟩ := H
  refine r_icmp hcd rfl h5 h6 (fun hc => ?_) (fun hc => ?_)
  · replace H := H.1 hc
    exact H
  · replace H := H.2 hc
    refine e_nx hcd rfl rfl ?_
    exact r_zret hcd rfl rfl rfl (by omega) H
set_option maxRecDepth 20000 in
theorem v_284_1026 {X : PX} {σ : Sg} {Q : Option PV → Sg → Prop} {x3 : Int} (H : (0 ≤ x3 + 1 ∧ x3 + 1 < (X 14).1) ∧ (0 ≤ x3 + 2 ∧ x3 + 2 < (X 14).1) ∧ (0 ≤ x3 + 3 ∧ x3 + 3 < (X 14).1) ∧ CI X 153 [vR (some 0), vI ((X 14).2 (x3 + 1).toNat), vI ((X 14).2 (x3 + 2).toNat), vI ((X 14).2 (x3 + 3).toNat)] σ (fun r4 τ1 => CI X 243 [vR (some 170), vI ((X 14).2 (x3 + 1).toNat), vI ((X 14).2 (x3 + 2).toNat), vI ((X 14).2 (x3 + 3).toNat)] τ1 (fun r5 τ2 => InR r4 ∧ InR r5 ∧ (r4 = r5 → Ev X 284 1270 [some (vR (some (PK + 14))), some (vR (some 0)), some (vR (some 170)), some (vI x3)] [] τ2 Q) ∧ (¬ r4 = r5 → Q (some (vI 0)) τ2)))) : Ev X 284 1026 [some (vR (some (PK + 14))), some (vR (some 0)), some (vR (some 170)), some (vI x3)] [] σ Q := by
  have hcd : cds 284 = cd_284 := rfl
  iterate 5 (refine e_nx hcd rfl rfl ?_)
  obtain ⟨h1, H⟩ := H
  refine r_xld hcd rfl (Nat.le_of_ble_eq_true rfl) (Nat.le_of_ble_eq_true rfl) h1 ?_
  show Ev X 284 1032 [some (vR (some (PK + 14))), some (vR (some 0)), some (vR (some 170)), some (vI x3)] [vI ((X 14).2 (x3 + 1).toNat), vR (some 0)] _ Q
  iterate 4 (refine e_nx hcd rfl rfl ?_)
  obtain ⟨h2, H⟩ := H
  refine r_xld hcd rfl (Nat.le_of_ble_eq_true rfl) (Nat.le_of_ble_eq_true rfl) h2 ?_
  show Ev X 284 1037 [some (vR (some (PK + 14))), some (vR (some 0)), some (vR (some 170)), some (vI x3)] [vI ((X 14).2 (x3 + 2).toNat), vI ((X 14).2 (x3 + 1).toNat), vR (some 0)] _ Q
  iterate 4 (refine e_nx hcd rfl rfl ?_)
  obtain ⟨h3, H⟩ := H
  refine r_xld hcd rfl (Nat.le_of_ble_eq_true rfl) (Nat.le_of_ble_eq_true rfl) h3 ?_
  show Ev X 284 1042 [some (vR (some (PK + 14))), some (vR (some 0)), some (vR (some 170)), some (vI x3)] [vI ((X 14).2 (x3 + 3).toNat), vI ((X 14).2 (x3 + 2).toNat), vI ((X 14).2 (x3 + 1).toNat), vR (some 0)] _ Q
  refine r_cv hcd rfl (by omega) rfl rfl rfl (Nat.le_of_ble_eq_true rfl) ?_
  refine Cl.mono H (fun v τ1 hq => ?_)
  obtain ⟨r4, rfl, H⟩ := hq
  show Ev X 284 1043 _ [vI r4] τ1 Q
  iterate 5 (refine e_nx hcd rfl rfl ?_)
  refine r_xld hcd rfl (Nat.le_of_ble_eq_true rfl) (Nat.le_of_ble_eq_true rfl) h1 ?_
  show Ev X 284 1049 [some (vR (some (PK + 14))), some (vR (some 0)), some (vR (some 170)), some (vI x3)] [vI ((X 14).2 (x3 + 1).toNat), vR (some 170), vI r4] _ Q
  iterate 4 (refine e_nx hcd rfl rfl ?_)
  refine r_xld hcd rfl (Nat.le_of_ble_eq_true rfl) (Nat.le_of_ble_eq_true rfl) h2 ?_
  show Ev X 284 1054 [some (vR (some (PK + 14))), some (vR (some 0)), some (vR (some 170)), some (vI x3)] [vI ((X 14).2 (x3 + 2).toNat), vI ((X 14).2 (x3 + 1).toNat), vR (some 170), vI r4] _ Q
  iterate 4 (refine e_nx hcd rfl rfl ?_)
  refine r_xld hcd rfl (Nat.le_of_ble_eq_true rfl) (Nat.le_of_ble_eq_true rfl) h3 ?_
  show Ev X 284 1059 [some (vR (some (PK + 14))), some (vR (some 0)), some (vR (some 170)), some (vI x3)] [vI ((X 14).2 (x3 + 3).toNat), vI ((X 14).2 (x3 + 2).toNat), vI ((X 14).2 (x3 + 1).toNat), vR (some 170), vI r4] _ Q
  refine r_cv hcd rfl (by omega) rfl rfl rfl (Nat.le_of_ble_eq_true rfl) ?_
  refine Cl.mono H (fun v τ2 hq => ?_)
  obtain ⟨r5, rfl, H⟩ := hq
  show Ev X 284 1060 _ [vI r5, vI r4] τ2 Q
  obtain ⟨h6, H⟩ := H
  obtain ⟨h7, H⟩ := H
  refine r_icmp hcd rfl h6 h7 (fun hc => ?_) (fun hc => ?_)
  · replace H := H.1 hc
    exact H
  · replace H := H.2 hc
    refine e_nx hcd rfl rfl ?_
    exact r_zret hcd rfl rfl rfl (by omega) H
set_option maxRecDepth 20000 in
theorem v_284_1063 {X : PX} {σ : Sg} {Q : Option PV → Sg → Prop} {x3 : Int} (H : (0 ≤ x3 + 1 ∧ x3 + 1 < (X 14).1) ∧ (0 ≤ x3 + 2 ∧ x3 + 2 < (X 14).1) ∧ CI X 154 [vR (some 0), vI ((X 14).2 (x3 + 1).toNat), vI ((X 14).2 (x3 + 2).toNat)] σ (fun r3 τ1 => CI X 248 [vR (some 170), vI ((X 14).2 (x3 + 1).toNat), vI ((X 14).2 (x3 + 2).toNat)] τ1 (fun r4 τ2 => InR r3 ∧ InR r4 ∧ (r3 = r4 → Ev X 284 1270 [some (vR (some (PK + 14))), some (vR (some 0)), some (vR (some 170)), some (vI x3)] [] τ2 Q) ∧ (¬ r3 = r4 → Q (some (vI 0)) τ2)))) : Ev X 284 1063 [some (vR (some (PK + 14))), some (vR (some 0)), some (vR (some 170)), some (vI x3)] [] σ Q := by
  have hcd : cds 284 = cd_284 := rfl
  iterate 5 (refine e_nx hcd rfl rfl ?_)
  obtain ⟨h1, H⟩ := H
  refine r_xld hcd rfl (Nat.le_of_ble_eq_true rfl) (Nat.le_of_ble_eq_true rfl) h1 ?_
  show Ev X 284 1069 [some (vR (some (PK + 14))), some (vR (some 0)), some (vR (some 170)), some (vI x3)] [vI ((X 14).2 (x3 + 1).toNat), vR (some 0)] _ Q
  iterate 4 (refine e_nx hcd rfl rfl ?_)
  obtain ⟨h2, H⟩ := H
  refine r_xld hcd rfl (Nat.le_of_ble_eq_true rfl) (Nat.le_of_ble_eq_true rfl) h2 ?_
  show Ev X 284 1074 [some (vR (some (PK + 14))), some (vR (some 0)), some (vR (some 170)), some (vI x3)] [vI ((X 14).2 (x3 + 2).toNat), vI ((X 14).2 (x3 + 1).toNat), vR (some 0)] _ Q
  refine r_cv hcd rfl (by omega) rfl rfl rfl (Nat.le_of_ble_eq_true rfl) ?_
  refine Cl.mono H (fun v τ1 hq => ?_)
  obtain ⟨r3, rfl, H⟩ := hq
  show Ev X 284 1075 _ [vI r3] τ1 Q
  iterate 5 (refine e_nx hcd rfl rfl ?_)
  refine r_xld hcd rfl (Nat.le_of_ble_eq_true rfl) (Nat.le_of_ble_eq_true rfl) h1 ?_
  show Ev X 284 1081 [some (vR (some (PK + 14))), some (vR (some 0)), some (vR (some 170)), some (vI x3)] [vI ((X 14).2 (x3 + 1).toNat), vR (some 170), vI r3] _ Q
  iterate 4 (refine e_nx hcd rfl rfl ?_)
  refine r_xld hcd rfl (Nat.le_of_ble_eq_true rfl) (Nat.le_of_ble_eq_true rfl) h2 ?_
  show Ev X 284 1086 [some (vR (some (PK + 14))), some (vR (some 0)), some (vR (some 170)), some (vI x3)] [vI ((X 14).2 (x3 + 2).toNat), vI ((X 14).2 (x3 + 1).toNat), vR (some 170), vI r3] _ Q
  refine r_cv hcd rfl (by omega) rfl rfl rfl (Nat.le_of_ble_eq_true rfl) ?_
  refine Cl.mono H (fun v τ2 hq => ?_)
  obtain ⟨r4, rfl, H⟩ := hq
  show Ev X 284 1087 _ [vI r4, vI r3] τ2 Q
  obtain ⟨h5, H⟩ := H
  obtain ⟨h6, H⟩ := H
  refine r_icmp hcd rfl h5 h6 (fun hc => ?_) (fun hc => ?_)
  · replace H := H.1 hc
    exact H
  · replace H := H.2 hc
    refine e_nx hcd rfl rfl ?_
    exact r_zret hcd rfl rfl rfl (by omega) H
set_option maxRecDepth 20000 in
theorem v_284_1090 {X : PX} {σ : Sg} {Q : Option PV → Sg → Prop} {x3 : Int} (H : (0 ≤ x3 + 1 ∧ x3 + 1 < (X 14).1) ∧ (0 ≤ x3 + 2 ∧ x3 + 2 < (X 14).1) ∧ (0 ≤ x3 + 3 ∧ x3 + 3 < (X 14).1) ∧ CI X 134 [vR (some 0), vI ((X 14).2 (x3 + 1).toNat), vI ((X 14).2 (x3 + 2).toNat), vI ((X 14).2 (x3 + 3).toNat)] σ (fun r4 τ1 => CI X 264 [vR (some 170), vI ((X 14).2 (x3 + 1).toNat), vI ((X 14).2 (x3 + 2).toNat), vI ((X 14).2 (x3 + 3).toNat)] τ1 (fun r5 τ2 => InR r4 ∧ InR r5 ∧ (r4 = r5 → Ev X 284 1270 [some (vR (some (PK + 14))), some (vR (some 0)), some (vR (some 170)), some (vI x3)] [] τ2 Q) ∧ (¬ r4 = r5 → Q (some (vI 0)) τ2)))) : Ev X 284 1090 [some (vR (some (PK + 14))), some (vR (some 0)), some (vR (some 170)), some (vI x3)] [] σ Q := by
  have hcd : cds 284 = cd_284 := rfl
  iterate 5 (refine e_nx hcd rfl rfl ?_)
  obtain ⟨h1, H⟩ := H
  refine r_xld hcd rfl (Nat.le_of_ble_eq_true rfl) (Nat.le_of_ble_eq_true rfl) h1 ?_
  show Ev X 284 1096 [some (vR (some (PK + 14))), some (vR (some 0)), some (vR (some 170)), some (vI x3)] [vI ((X 14).2 (x3 + 1).toNat), vR (some 0)] _ Q
  iterate 4 (refine e_nx hcd rfl rfl ?_)
  obtain ⟨h2, H⟩ := H
  refine r_xld hcd rfl (Nat.le_of_ble_eq_true rfl) (Nat.le_of_ble_eq_true rfl) h2 ?_
  show Ev X 284 1101 [some (vR (some (PK + 14))), some (vR (some 0)), some (vR (some 170)), some (vI x3)] [vI ((X 14).2 (x3 + 2).toNat), vI ((X 14).2 (x3 + 1).toNat), vR (some 0)] _ Q
  iterate 4 (refine e_nx hcd rfl rfl ?_)
  obtain ⟨h3, H⟩ := H
  refine r_xld hcd rfl (Nat.le_of_ble_eq_true rfl) (Nat.le_of_ble_eq_true rfl) h3 ?_
  show Ev X 284 1106 [some (vR (some (PK + 14))), some (vR (some 0)), some (vR (some 170)), some (vI x3)] [vI ((X 14).2 (x3 + 3).toNat), vI ((X 14).2 (x3 + 2).toNat), vI ((X 14).2 (x3 + 1).toNat), vR (some 0)] _ Q
  refine r_cv hcd rfl (by omega) rfl rfl rfl (Nat.le_of_ble_eq_true rfl) ?_
  refine Cl.mono H (fun v τ1 hq => ?_)
  obtain ⟨r4, rfl, H⟩ := hq
  show Ev X 284 1107 _ [vI r4] τ1 Q
  iterate 5 (refine e_nx hcd rfl rfl ?_)
  refine r_xld hcd rfl (Nat.le_of_ble_eq_true rfl) (Nat.le_of_ble_eq_true rfl) h1 ?_
  show Ev X 284 1113 [some (vR (some (PK + 14))), some (vR (some 0)), some (vR (some 170)), some (vI x3)] [vI ((X 14).2 (x3 + 1).toNat), vR (some 170), vI r4] _ Q
  iterate 4 (refine e_nx hcd rfl rfl ?_)
  refine r_xld hcd rfl (Nat.le_of_ble_eq_true rfl) (Nat.le_of_ble_eq_true rfl) h2 ?_
  show Ev X 284 1118 [some (vR (some (PK + 14))), some (vR (some 0)), some (vR (some 170)), some (vI x3)] [vI ((X 14).2 (x3 + 2).toNat), vI ((X 14).2 (x3 + 1).toNat), vR (some 170), vI r4] _ Q
  iterate 4 (refine e_nx hcd rfl rfl ?_)
  refine r_xld hcd rfl (Nat.le_of_ble_eq_true rfl) (Nat.le_of_ble_eq_true rfl) h3 ?_
  show Ev X 284 1123 [some (vR (some (PK + 14))), some (vR (some 0)), some (vR (some 170)), some (vI x3)] [vI ((X 14).2 (x3 + 3).toNat), vI ((X 14).2 (x3 + 2).toNat), vI ((X 14).2 (x3 + 1).toNat), vR (some 170), vI r4] _ Q
  refine r_cv hcd rfl (by omega) rfl rfl rfl (Nat.le_of_ble_eq_true rfl) ?_
  refine Cl.mono H (fun v τ2 hq => ?_)
  obtain ⟨r5, rfl, H⟩ := hq
  show Ev X 284 1124 _ [vI r5, vI r4] τ2 Q
  obtain ⟨h6, H⟩ := H
  obtain ⟨h7, H⟩ := H
  refine r_icmp hcd rfl h6 h7 (fun hc => ?_) (fun hc => ?_)
  · replace H := H.1 hc
    exact H
  · replace H := H.2 hc
    refine e_nx hcd rfl rfl ?_
    exact r_zret hcd rfl rfl rfl (by omega) H
set_option maxRecDepth 20000 in
theorem v_284_1127 {X : PX} {σ : Sg} {Q : Option PV → Sg → Prop} {x3 : Int} (H : (0 ≤ x3 + 1 ∧ x3 + 1 < (X 14).1) ∧ (0 ≤ x3 + 2 ∧ x3 + 2 < (X 14).1) ∧ (0 ≤ x3 + 3 ∧ x3 + 3 < (X 14).1) ∧ (0 ≤ x3 + 4 ∧ x3 + 4 < (X 14).1) ∧ InR ((X 14).2 (x3 + 4).toNat) ∧ ((X 14).2 (x3 + 4).toNat = 0 → CI X 156 [vR (some 0), vI ((X 14).2 (x3 + 1).toNat), vI ((X 14).2 (x3 + 2).toNat), vI ((X 14).2 (x3 + 3).toNat), vI 0] σ (fun r6 τ1 => ((X 14).2 (x3 + 4).toNat = 0 → CI X 273 [vR (some 170), vI ((X 14).2 (x3 + 1).toNat), vI ((X 14).2 (x3 + 2).toNat), vI ((X 14).2 (x3 + 3).toNat), vI 0] τ1 (fun r7 τ2 => InR r6 ∧ InR r7 ∧ (r6 = r7 → Ev X 284 1270 [some (vR (some (PK + 14))), some (vR (some 0)), some (vR (some 170)), some (vI x3)] [] τ2 Q) ∧ (¬ r6 = r7 → Q (some (vI 0)) τ2))) ∧ (¬ (X 14).2 (x3 + 4).toNat = 0 → CI X 273 [vR (some 170), vI ((X 14).2 (x3 + 1).toNat), vI ((X 14).2 (x3 + 2).toNat), vI ((X 14).2 (x3 + 3).toNat), vI 1] τ1 (fun r10 τ3 => InR r6 ∧ InR r10 ∧ (r6 = r10 → Ev X 284 1270 [some (vR (some (PK + 14))), some (vR (some 0)), some (vR (some 170)), some (vI x3)] [] τ3 Q) ∧ (¬ r6 = r10 → Q (some (vI 0)) τ3))))) ∧ (¬ (X 14).2 (x3 + 4).toNat = 0 → CI X 156 [vR (some 0), vI ((X 14).2 (x3 + 1).toNat), vI ((X 14).2 (x3 + 2).toNat), vI ((X 14).2 (x3 + 3).toNat), vI 1] σ (fun r13 τ4 => ((X 14).2 (x3 + 4).toNat = 0 → CI X 273 [vR (some 170), vI ((X 14).2 (x3 + 1).toNat), vI ((X 14).2 (x3 + 2).toNat), vI ((X 14).2 (x3 + 3).toNat), vI 0] τ4 (fun r14 τ5 => InR r13 ∧ InR r14 ∧ (r13 = r14 → Ev X 284 1270 [some (vR (some (PK + 14))), some (vR (some 0)), some (vR (some 170)), some (vI x3)] [] τ5 Q) ∧ (¬ r13 = r14 → Q (some (vI 0)) τ5))) ∧ (¬ (X 14).2 (x3 + 4).toNat = 0 → CI X 273 [vR (some 170), vI ((X 14).2 (x3 + 1).toNat), vI ((X 14).2 (x3 + 2).toNat), vI ((X 14).2 (x3 + 3).toNat), vI 1] τ4 (fun r17 τ6 => InR r13 ∧ InR r17 ∧ (r13 = r17 → Ev X 284 1270 [some (vR (some (PK + 14))), some (vR (some 0)), some (vR (some 170)), some (vI x3)] [] τ6 Q) ∧ (¬ r13 = r17 → Q (some (vI 0)) τ6)))))) : Ev X 284 1127 [some (vR (some (PK + 14))), some (vR (some 0)), some (vR (some 170)), some (vI x3)] [] σ Q := by
  have hcd : cds 284 = cd_284 := rfl
  iterate 5 (refine e_nx hcd rfl rfl ?_)
  obtain ⟨h1, H⟩ := H
  refine r_xld hcd rfl (Nat.le_of_ble_eq_true rfl) (Nat.le_of_ble_eq_true rfl) h1 ?_
  show Ev X 284 1133 [some (vR (some (PK + 14))), some (vR (some 0)), some (vR (some 170)), some (vI x3)] [vI ((X 14).2 (x3 + 1).toNat), vR (some 0)] _ Q
  iterate 4 (refine e_nx hcd rfl rfl ?_)
  obtain ⟨h2, H⟩ := H
  refine r_xld hcd rfl (Nat.le_of_ble_eq_true rfl) (Nat.le_of_ble_eq_true rfl) h2 ?_
  show Ev X 284 1138 [some (vR (some (PK + 14))), some (vR (some 0)), some (vR (some 170)), some (vI x3)] [vI ((X 14).2 (x3 + 2).toNat), vI ((X 14).2 (x3 + 1).toNat), vR (some 0)] _ Q
  iterate 4 (refine e_nx hcd rfl rfl ?_)
  obtain ⟨h3, H⟩ := H
  refine r_xld hcd rfl (Nat.le_of_ble_eq_true rfl) (Nat.le_of_ble_eq_true rfl) h3 ?_
  show Ev X 284 1143 [some (vR (some (PK + 14))), some (vR (some 0)), some (vR (some 170)), some (vI x3)] [vI ((X 14).2 (x3 + 3).toNat), vI ((X 14).2 (x3 + 2).toNat), vI ((X 14).2 (x3 + 1).toNat), vR (some 0)] _ Q
  iterate 4 (refine e_nx hcd rfl rfl ?_)
  obtain ⟨h4, H⟩ := H
  refine r_xld hcd rfl (Nat.le_of_ble_eq_true rfl) (Nat.le_of_ble_eq_true rfl) h4 ?_
  show Ev X 284 1148 [some (vR (some (PK + 14))), some (vR (some 0)), some (vR (some 170)), some (vI x3)] [vI ((X 14).2 (x3 + 4).toNat), vI ((X 14).2 (x3 + 3).toNat), vI ((X 14).2 (x3 + 2).toNat), vI ((X 14).2 (x3 + 1).toNat), vR (some 0)] _ Q
  obtain ⟨h5, H⟩ := H
  refine r_if hcd rfl h5 (fun hc => ?_) (fun hc => ?_)
  · replace H := H.1 hc
    refine e_nx hcd rfl rfl ?_
    refine r_cv hcd rfl (by omega) rfl rfl rfl (Nat.le_of_ble_eq_true rfl) ?_
    refine Cl.mono H (fun v τ1 hq => ?_)
    obtain ⟨r6, rfl, H⟩ := hq
    show Ev X 284 1153 _ [vI r6] τ1 Q
    iterate 5 (refine e_nx hcd rfl rfl ?_)
    refine r_xld hcd rfl (Nat.le_of_ble_eq_true rfl) (Nat.le_of_ble_eq_true rfl) h1 ?_
    show Ev X 284 1159 [some (vR (some (PK + 14))), some (vR (some 0)), some (vR (some 170)), some (vI x3)] [vI ((X 14).2 (x3 + 1).toNat), vR (some 170), vI r6] _ Q
    iterate 4 (refine e_nx hcd rfl rfl ?_)
    refine r_xld hcd rfl (Nat.le_of_ble_eq_true rfl) (Nat.le_of_ble_eq_true rfl) h2 ?_
    show Ev X 284 1164 [some (vR (some (PK + 14))), some (vR (some 0)), some (vR (some 170)), some (vI x3)] [vI ((X 14).2 (x3 + 2).toNat), vI ((X 14).2 (x3 + 1).toNat), vR (some 170), vI r6] _ Q
    iterate 4 (refine e_nx hcd rfl rfl ?_)
    refine r_xld hcd rfl (Nat.le_of_ble_eq_true rfl) (Nat.le_of_ble_eq_true rfl) h3 ?_
    show Ev X 284 1169 [some (vR (some (PK + 14))), some (vR (some 0)), some (vR (some 170)), some (vI x3)] [vI ((X 14).2 (x3 + 3).toNat), vI ((X 14).2 (x3 + 2).toNat), vI ((X 14).2 (x3 + 1).toNat), vR (some 170), vI r6] _ Q
    iterate 4 (refine e_nx hcd rfl rfl ?_)
    refine r_xld hcd rfl (Nat.le_of_ble_eq_true rfl) (Nat.le_of_ble_eq_true rfl) h4 ?_
    show Ev X 284 1174 [some (vR (some (PK + 14))), some (vR (some 0)), some (vR (some 170)), some (vI x3)] [vI ((X 14).2 (x3 + 4).toNat), vI ((X 14).2 (x3 + 3).toNat), vI ((X 14).2 (x3 + 2).toNat), vI ((X 14).2 (x3 + 1).toNat), vR (some 170), vI r6] _ Q
    refine r_if hcd rfl h5 (fun hc => ?_) (fun hc => ?_)
    · replace H := H.1 hc
      refine e_nx hcd rfl rfl ?_
      refine r_cv hcd rfl (by omega) rfl rfl rfl (Nat.le_of_ble_eq_true rfl) ?_
      refine Cl.mono H (fun v τ2 hq => ?_)
      obtain ⟨r7, rfl, H⟩ := hq
      show Ev X 284 1179 _ [vI r7, vI r6] τ2 Q
      obtain ⟨h8, H⟩ := H
      obtain ⟨h9, H⟩ := H
      refine r_icmp hcd rfl h8 h9 (fun hc => ?_) (fun hc => ?_)
      · replace H := H.1 hc
        exact H
      · replace H := H.2 hc
        refine e_nx hcd rfl rfl ?_
        exact r_zret hcd rfl rfl rfl (by omega) H
    · replace H := H.2 hc
      iterate 2 (refine e_nx hcd rfl rfl ?_)
      refine r_cv hcd rfl (by omega) rfl rfl rfl (Nat.le_of_ble_eq_true rfl) ?_
      refine Cl.mono H (fun v τ3 hq => ?_)
      obtain ⟨r10, rfl, H⟩ := hq
      show Ev X 284 1179 _ [vI r10, vI r6] τ3 Q
      obtain ⟨h11, H⟩ := H
      obtain ⟨h12, H⟩ := H
      refine r_icmp hcd rfl h11 h12 (fun hc => ?_) (fun hc => ?_)
      · replace H := H.1 hc
        exact H
      · replace H := H.2 hc
        refine e_nx hcd rfl rfl ?_
        exact r_zret hcd rfl rfl rfl (by omega) H
  · replace H := H.2 hc
    iterate 2 (refine e_nx hcd rfl rfl ?_)
    refine r_cv hcd rfl (by omega) rfl rfl rfl (Nat.le_of_ble_eq_true rfl) ?_
    refine Cl.mono H (fun v τ4 hq => ?_)
    obtain ⟨r13, rfl, H⟩ := hq
    show Ev X 284 1153 _ [vI r13] τ4 Q
    iterate 5 (refine e_nx hcd rfl rfl ?_)
    refine r_xld hcd rfl (Nat.le_of_ble_eq_true rfl) (Nat.le_of_ble_eq_true rfl) h1 ?_
    show Ev X 284 1159 [some (vR (some (PK + 14))), some (vR (some 0)), some (vR (some 170)), some (vI x3)] [vI ((X 14).2 (x3 + 1).toNat), vR (some 170), vI r13] _ Q
    iterate 4 (refine e_nx hcd rfl rfl ?_)
    refine r_xld hcd rfl (Nat.le_of_ble_eq_true rfl) (Nat.le_of_ble_eq_true rfl) h2 ?_
    show Ev X 284 1164 [some (vR (some (PK + 14))), some (vR (some 0)), some (vR (some 170)), some (vI x3)] [vI ((X 14).2 (x3 + 2).toNat), vI ((X 14).2 (x3 + 1).toNat), vR (some 170), vI r13] _ Q
    iterate 4 (refine e_nx hcd rfl rfl ?_)
    refine r_xld hcd rfl (Nat.le_of_ble_eq_true rfl) (Nat.le_of_ble_eq_true rfl) h3 ?_
    show Ev X 284 1169 [some (vR (some (PK + 14))), some (vR (some 0)), some (vR (some 170)), some (vI x3)] [vI ((X 14).2 (x3 + 3).toNat), vI ((X 14).2 (x3 + 2).toNat), vI ((X 14).2 (x3 + 1).toNat), vR (some 170), vI r13] _ Q
    iterate 4 (refine e_nx hcd rfl rfl ?_)
    refine r_xld hcd rfl (Nat.le_of_ble_eq_true rfl) (Nat.le_of_ble_eq_true rfl) h4 ?_
    show Ev X 284 1174 [some (vR (some (PK + 14))), some (vR (some 0)), some (vR (some 170)), some (vI x3)] [vI ((X 14).2 (x3 + 4).toNat), vI ((X 14).2 (x3 + 3).toNat), vI ((X 14).2 (x3 + 2).toNat), vI ((X 14).2 (x3 + 1).toNat), vR (some 170), vI r13] _ Q
    refine r_if hcd rfl h5 (fun hc => ?_) (fun hc => ?_)
    · replace H := H.1 hc
      refine e_nx hcd rfl rfl ?_
      refine r_cv hcd rfl (by omega) rfl rfl rfl (Nat.le_of_ble_eq_true rfl) ?_
      refine Cl.mono H (fun v τ5 hq => ?_)
      obtain ⟨r14, rfl, H⟩ := hq
      show Ev X 284 1179 _ [vI r14, vI r13] τ5 Q
      obtain ⟨h15, H⟩ := H
      obtain ⟨h16, H⟩ := H
      refine r_icmp hcd rfl h15 h16 (fun hc => ?_) (fun hc => ?_)
      · replace H := H.1 hc
        exact H
      · replace H := H.2 hc
        refine e_nx hcd rfl rfl ?_
        exact r_zret hcd rfl rfl rfl (by omega) H
    · replace H := H.2 hc
      iterate 2 (refine e_nx hcd rfl rfl ?_)
      refine r_cv hcd rfl (by omega) rfl rfl rfl (Nat.le_of_ble_eq_true rfl) ?_
      refine Cl.mono H (fun v τ6 hq => ?_)
      obtain ⟨r17, rfl, H⟩ := hq
      show Ev X 284 1179 _ [vI r17, vI r13] τ6 Q
      obtain ⟨h18, H⟩ := H
      obtain ⟨h19, H⟩ := H
      refine r_icmp hcd rfl h18 h19 (fun hc => ?_) (fun hc => ?_)
      · replace H := H.1 hc
        exact H
      · replace H := H.2 hc
        refine e_nx hcd rfl rfl ?_
        exact r_zret hcd rfl rfl rfl (by omega) H
set_option maxRecDepth 20000 in
theorem v_284_1182 {X : PX} {σ : Sg} {Q : Option PV → Sg → Prop} {x3 : Int} (H : (0 ≤ x3 + 1 ∧ x3 + 1 < (X 14).1) ∧ (0 ≤ x3 + 2 ∧ x3 + 2 < (X 14).1) ∧ (0 ≤ x3 + 3 ∧ x3 + 3 < (X 14).1) ∧ CI X 157 [vR (some 0), vI ((X 14).2 (x3 + 1).toNat), vI ((X 14).2 (x3 + 2).toNat), vI ((X 14).2 (x3 + 3).toNat)] σ (fun r4 τ1 => CI X 276 [vR (some 170), vI ((X 14).2 (x3 + 1).toNat), vI ((X 14).2 (x3 + 2).toNat), vI ((X 14).2 (x3 + 3).toNat)] τ1 (fun r5 τ2 => InR r4 ∧ InR r5 ∧ (r4 = r5 → Ev X 284 1270 [some (vR (some (PK + 14))), some (vR (some 0)), some (vR (some 170)), some (vI x3)] [] τ2 Q) ∧ (¬ r4 = r5 → Q (some (vI 0)) τ2)))) : Ev X 284 1182 [some (vR (some (PK + 14))), some (vR (some 0)), some (vR (some 170)), some (vI x3)] [] σ Q := by
  have hcd : cds 284 = cd_284 := rfl
  iterate 5 (refine e_nx hcd rfl rfl ?_)
  obtain ⟨h1, H⟩ := H
  refine r_xld hcd rfl (Nat.le_of_ble_eq_true rfl) (Nat.le_of_ble_eq_true rfl) h1 ?_
  show Ev X 284 1188 [some (vR (some (PK + 14))), some (vR (some 0)), some (vR (some 170)), some (vI x3)] [vI ((X 14).2 (x3 + 1).toNat), vR (some 0)] _ Q
  iterate 4 (refine e_nx hcd rfl rfl ?_)
  obtain ⟨h2, H⟩ := H
  refine r_xld hcd rfl (Nat.le_of_ble_eq_true rfl) (Nat.le_of_ble_eq_true rfl) h2 ?_
  show Ev X 284 1193 [some (vR (some (PK + 14))), some (vR (some 0)), some (vR (some 170)), some (vI x3)] [vI ((X 14).2 (x3 + 2).toNat), vI ((X 14).2 (x3 + 1).toNat), vR (some 0)] _ Q
  iterate 4 (refine e_nx hcd rfl rfl ?_)
  obtain ⟨h3, H⟩ := H
  refine r_xld hcd rfl (Nat.le_of_ble_eq_true rfl) (Nat.le_of_ble_eq_true rfl) h3 ?_
  show Ev X 284 1198 [some (vR (some (PK + 14))), some (vR (some 0)), some (vR (some 170)), some (vI x3)] [vI ((X 14).2 (x3 + 3).toNat), vI ((X 14).2 (x3 + 2).toNat), vI ((X 14).2 (x3 + 1).toNat), vR (some 0)] _ Q
  refine r_cv hcd rfl (by omega) rfl rfl rfl (Nat.le_of_ble_eq_true rfl) ?_
  refine Cl.mono H (fun v τ1 hq => ?_)
  obtain ⟨r4, rfl, H⟩ := hq
  show Ev X 284 1199 _ [vI r4] τ1 Q
  iterate 5 (refine e_nx hcd rfl rfl ?_)
  refine r_xld hcd rfl (Nat.le_of_ble_eq_true rfl) (Nat.le_of_ble_eq_true rfl) h1 ?_
  show Ev X 284 1205 [some (vR (some (PK + 14))), some (vR (some 0)), some (vR (some 170)), some (vI x3)] [vI ((X 14).2 (x3 + 1).toNat), vR (some 170), vI r4] _ Q
  iterate 4 (refine e_nx hcd rfl rfl ?_)
  refine r_xld hcd rfl (Nat.le_of_ble_eq_true rfl) (Nat.le_of_ble_eq_true rfl) h2 ?_
  show Ev X 284 1210 [some (vR (some (PK + 14))), some (vR (some 0)), some (vR (some 170)), some (vI x3)] [vI ((X 14).2 (x3 + 2).toNat), vI ((X 14).2 (x3 + 1).toNat), vR (some 170), vI r4] _ Q
  iterate 4 (refine e_nx hcd rfl rfl ?_)
  refine r_xld hcd rfl (Nat.le_of_ble_eq_true rfl) (Nat.le_of_ble_eq_true rfl) h3 ?_
  show Ev X 284 1215 [some (vR (some (PK + 14))), some (vR (some 0)), some (vR (some 170)), some (vI x3)] [vI ((X 14).2 (x3 + 3).toNat), vI ((X 14).2 (x3 + 2).toNat), vI ((X 14).2 (x3 + 1).toNat), vR (some 170), vI r4] _ Q
  refine r_cv hcd rfl (by omega) rfl rfl rfl (Nat.le_of_ble_eq_true rfl) ?_
  refine Cl.mono H (fun v τ2 hq => ?_)
  obtain ⟨r5, rfl, H⟩ := hq
  show Ev X 284 1216 _ [vI r5, vI r4] τ2 Q
  obtain ⟨h6, H⟩ := H
  obtain ⟨h7, H⟩ := H
  refine r_icmp hcd rfl h6 h7 (fun hc => ?_) (fun hc => ?_)
  · replace H := H.1 hc
    exact H
  · replace H := H.2 hc
    refine e_nx hcd rfl rfl ?_
    exact r_zret hcd rfl rfl rfl (by omega) H
set_option maxRecDepth 20000 in
theorem v_284_1219 {X : PX} {σ : Sg} {Q : Option PV → Sg → Prop} {x3 : Int} (H : (0 ≤ x3 + 1 ∧ x3 + 1 < (X 14).1) ∧ CI X 125 [vR (some 0), vI ((X 14).2 (x3 + 1).toNat)] σ (fun r2 τ1 => CI X 280 [vR (some 170), vI ((X 14).2 (x3 + 1).toNat)] τ1 (fun r3 τ2 => InR r2 ∧ InR r3 ∧ (r2 = r3 → Ev X 284 1270 [some (vR (some (PK + 14))), some (vR (some 0)), some (vR (some 170)), some (vI x3)] [] τ2 Q) ∧ (¬ r2 = r3 → Q (some (vI 0)) τ2)))) : Ev X 284 1219 [some (vR (some (PK + 14))), some (vR (some 0)), some (vR (some 170)), some (vI x3)] [] σ Q := by
  have hcd : cds 284 = cd_284 := rfl
  iterate 5 (refine e_nx hcd rfl rfl ?_)
  obtain ⟨h1, H⟩ := H
  refine r_xld hcd rfl (Nat.le_of_ble_eq_true rfl) (Nat.le_of_ble_eq_true rfl) h1 ?_
  show Ev X 284 1225 [some (vR (some (PK + 14))), some (vR (some 0)), some (vR (some 170)), some (vI x3)] [vI ((X 14).2 (x3 + 1).toNat), vR (some 0)] _ Q
  refine r_cv hcd rfl (by omega) rfl rfl rfl (Nat.le_of_ble_eq_true rfl) ?_
  refine Cl.mono H (fun v τ1 hq => ?_)
  obtain ⟨r2, rfl, H⟩ := hq
  show Ev X 284 1226 _ [vI r2] τ1 Q
  iterate 5 (refine e_nx hcd rfl rfl ?_)
  refine r_xld hcd rfl (Nat.le_of_ble_eq_true rfl) (Nat.le_of_ble_eq_true rfl) h1 ?_
  show Ev X 284 1232 [some (vR (some (PK + 14))), some (vR (some 0)), some (vR (some 170)), some (vI x3)] [vI ((X 14).2 (x3 + 1).toNat), vR (some 170), vI r2] _ Q
  refine r_cv hcd rfl (by omega) rfl rfl rfl (Nat.le_of_ble_eq_true rfl) ?_
  refine Cl.mono H (fun v τ2 hq => ?_)
  obtain ⟨r3, rfl, H⟩ := hq
  show Ev X 284 1233 _ [vI r3, vI r2] τ2 Q
  obtain ⟨h4, H⟩ := H
  obtain ⟨h5, H⟩ := H
  refine r_icmp hcd rfl h4 h5 (fun hc => ?_) (fun hc => ?_)
  · replace H := H.1 hc
    exact H
  · replace H := H.2 hc
    refine e_nx hcd rfl rfl ?_
    exact r_zret hcd rfl rfl rfl (by omega) H
set_option maxRecDepth 20000 in
theorem v_284_1236 {X : PX} {σ : Sg} {Q : Option PV → Sg → Prop} {x3 : Int} (H : (0 ≤ x3 + 1 ∧ x3 + 1 < (X 14).1) ∧ CI X 126 [vR (some 0), vI ((X 14).2 (x3 + 1).toNat)] σ (fun r2 τ1 => CI X 281 [vR (some 170), vI ((X 14).2 (x3 + 1).toNat)] τ1 (fun r3 τ2 => InR r2 ∧ InR r3 ∧ (r2 = r3 → Ev X 284 1270 [some (vR (some (PK + 14))), some (vR (some 0)), some (vR (some 170)), some (vI x3)] [] τ2 Q) ∧ (¬ r2 = r3 → Q (some (vI 0)) τ2)))) : Ev X 284 1236 [some (vR (some (PK + 14))), some (vR (some 0)), some (vR (some 170)), some (vI x3)] [] σ Q := by
  have hcd : cds 284 = cd_284 := rfl
  iterate 5 (refine e_nx hcd rfl rfl ?_)
  obtain ⟨h1, H⟩ := H
  refine r_xld hcd rfl (Nat.le_of_ble_eq_true rfl) (Nat.le_of_ble_eq_true rfl) h1 ?_
  show Ev X 284 1242 [some (vR (some (PK + 14))), some (vR (some 0)), some (vR (some 170)), some (vI x3)] [vI ((X 14).2 (x3 + 1).toNat), vR (some 0)] _ Q
  refine r_cv hcd rfl (by omega) rfl rfl rfl (Nat.le_of_ble_eq_true rfl) ?_
  refine Cl.mono H (fun v τ1 hq => ?_)
  obtain ⟨r2, rfl, H⟩ := hq
  show Ev X 284 1243 _ [vI r2] τ1 Q
  iterate 5 (refine e_nx hcd rfl rfl ?_)
  refine r_xld hcd rfl (Nat.le_of_ble_eq_true rfl) (Nat.le_of_ble_eq_true rfl) h1 ?_
  show Ev X 284 1249 [some (vR (some (PK + 14))), some (vR (some 0)), some (vR (some 170)), some (vI x3)] [vI ((X 14).2 (x3 + 1).toNat), vR (some 170), vI r2] _ Q
  refine r_cv hcd rfl (by omega) rfl rfl rfl (Nat.le_of_ble_eq_true rfl) ?_
  refine Cl.mono H (fun v τ2 hq => ?_)
  obtain ⟨r3, rfl, H⟩ := hq
  show Ev X 284 1250 _ [vI r3, vI r2] τ2 Q
  obtain ⟨h4, H⟩ := H
  obtain ⟨h5, H⟩ := H
  refine r_icmp hcd rfl h4 h5 (fun hc => ?_) (fun hc => ?_)
  · replace H := H.1 hc
    exact H
  · replace H := H.2 hc
    refine e_nx hcd rfl rfl ?_
    exact r_zret hcd rfl rfl rfl (by omega) H
set_option maxRecDepth 20000 in
theorem v_284_1253 {X : PX} {σ : Sg} {Q : Option PV → Sg → Prop} {x3 : Int} (H : (0 ≤ x3 + 1 ∧ x3 + 1 < (X 14).1) ∧ CI X 127 [vR (some 0), vI ((X 14).2 (x3 + 1).toNat)] σ (fun r2 τ1 => CI X 282 [vR (some 170), vI ((X 14).2 (x3 + 1).toNat)] τ1 (fun r3 τ2 => InR r2 ∧ InR r3 ∧ (r2 = r3 → Ev X 284 1270 [some (vR (some (PK + 14))), some (vR (some 0)), some (vR (some 170)), some (vI x3)] [] τ2 Q) ∧ (¬ r2 = r3 → Q (some (vI 0)) τ2)))) : Ev X 284 1253 [some (vR (some (PK + 14))), some (vR (some 0)), some (vR (some 170)), some (vI x3)] [] σ Q := by
  have hcd : cds 284 = cd_284 := rfl
  iterate 5 (refine e_nx hcd rfl rfl ?_)
  obtain ⟨h1, H⟩ := H
  refine r_xld hcd rfl (Nat.le_of_ble_eq_true rfl) (Nat.le_of_ble_eq_true rfl) h1 ?_
  show Ev X 284 1259 [some (vR (some (PK + 14))), some (vR (some 0)), some (vR (some 170)), some (vI x3)] [vI ((X 14).2 (x3 + 1).toNat), vR (some 0)] _ Q
  refine r_cv hcd rfl (by omega) rfl rfl rfl (Nat.le_of_ble_eq_true rfl) ?_
  refine Cl.mono H (fun v τ1 hq => ?_)
  obtain ⟨r2, rfl, H⟩ := hq
  show Ev X 284 1260 _ [vI r2] τ1 Q
  iterate 5 (refine e_nx hcd rfl rfl ?_)
  refine r_xld hcd rfl (Nat.le_of_ble_eq_true rfl) (Nat.le_of_ble_eq_true rfl) h1 ?_
  show Ev X 284 1266 [some (vR (some (PK + 14))), some (vR (some 0)), some (vR (some 170)), some (vI x3)] [vI ((X 14).2 (x3 + 1).toNat), vR (some 170), vI r2] _ Q
  refine r_cv hcd rfl (by omega) rfl rfl rfl (Nat.le_of_ble_eq_true rfl) ?_
  refine Cl.mono H (fun v τ2 hq => ?_)
  obtain ⟨r3, rfl, H⟩ := hq
  show Ev X 284 1267 _ [vI r3, vI r2] τ2 Q
  obtain ⟨h4, H⟩ := H
  obtain ⟨h5, H⟩ := H
  refine r_icmp hcd rfl h4 h5 (fun hc => ?_) (fun hc => ?_)
  · replace H := H.1 hc
    exact H
  · replace H := H.2 hc
    refine e_nx hcd rfl rfl ?_
    exact r_zret hcd rfl rfl rfl (by omega) H
set_option maxRecDepth 20000 in
theorem v_284_1270 {X : PX} {σ : Sg} {Q : Option PV → Sg → Prop} {x3 : Int} (H : Ev X 284 10 [some (vR (some (PK + 14))), some (vR (some 0)), some (vR (some 170)), some (vI (x3 + 6))] [] σ Q) : Ev X 284 1270 [some (vR (some (PK + 14))), some (vR (some 0)), some (vR (some 170)), some (vI x3)] [] σ Q := by
  have hcd : cds 284 = cd_284 := rfl
  refine e_nx hcd rfl rfl ?_
  show Ev X 284 1271 [some (vR (some (PK + 14))), some (vR (some 0)), some (vR (some 170)), some (vI (x3 + 6))] [] _ Q
  refine e_nx hcd rfl rfl ?_
  exact H
