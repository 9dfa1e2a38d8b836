/-! MPLINES: the lines of a parish, one by one -/
theorem full_no {b : Bool} {i : Nat} {fp : Int × Int} (h : fp.1 = 0 → b = false) : (if b = true then note 3 i fp else fp) = fp := by
  by_cases z : fp.1 = 0
  · rw [h z, if_neg (by decide)]
  · rw [note_id z]; split <;> rfl
theorem full_yes {b : Bool} {i : Nat} {fp : Int × Int} (h : fp.1 = 0 → b = true) : (if b = true then note 3 i fp else fp) = note 3 i fp := by
  by_cases z : fp.1 = 0
  · rw [h z, if_pos rfl]
  · rw [note_id z]; split <;> rfl
theorem full_0 {b : Bool} {i : Nat} {fp : Int × Int} (h : (if b = true then note 3 i fp else fp).1 = 0) : fp.1 = 0 ∧ b = false := by
  by_cases z : b = true
  · rw [if_pos z] at h; exact absurd h (note_ne (by omega))
  · rw [if_neg z] at h; exact ⟨h, by simpa using z⟩
theorem inL_1 {v a : Int} : inL v [a] = true ↔ v = a := by
  unfold inL; simp only [List.any_cons, List.any_nil, Bool.or_false, decide_eq_true_eq]; omega
theorem inL_2 {v a b : Int} : inL v [a, b] = true ↔ (v = a ∨ v = b) := by
  unfold inL; simp only [List.any_cons, List.any_nil, Bool.or_false, Bool.or_eq_true, decide_eq_true_eq]; omega
def hwF (r s : Int) (τ : Sg) (Q : Option PV → Sg → Prop) : Prop := InR (τ.2 173 2) ∧ (τ.2 173 2 < 7 → (0 ≤ 5 + (2 * (τ.2 173 2)) ∧ 5 + (2 * (τ.2 173 2)) < 81) ∧ (0 ≤ 6 + (2 * ((up2 τ.2 173 (5 + (2 * (τ.2 173 2))).toNat r) 173 2)) ∧ 6 + (2 * ((up2 τ.2 173 (5 + (2 * (τ.2 173 2))).toNat r) 173 2)) < 81) ∧ Q none (τ.1, up2 (up2 (up2 τ.2 173 (5 + (2 * (τ.2 173 2))).toNat r) 173 (6 + (2 * ((up2 τ.2 173 (5 + (2 * (τ.2 173 2))).toNat r) 173 2))).toNat s) 173 2 (((up2 (up2 τ.2 173 (5 + (2 * (τ.2 173 2))).toNat r) 173 (6 + (2 * ((up2 τ.2 173 (5 + (2 * (τ.2 173 2))).toNat r) 173 2))).toNat s) 173 2) + 1))) ∧ (¬ τ.2 173 2 < 7 → Q none τ)
theorem m_hw {r s : Int} {τ : Sg} {Q : Option PV → Sg → Prop} {k : Nat} (hk : τ.2 173 2 = k) (h7 : k ≤ 7) (q : ∀ A : Nat → Nat → Int, (∀ c : Nat, c ≠ 173 → A c = τ.2 c) → (k < 7 → ∀ j : Nat, A 173 j = if j = 2 then (k : Int) + 1 else if j = 6 + 2 * k then s else if j = 5 + 2 * k then r else τ.2 173 j) → (¬ k < 7 → A = τ.2) → Q none (τ.1, A)) : hwF r s τ Q := by
  unfold hwF
  rw [hk]
  refine ⟨by omega, fun c => ?_, fun c => q τ.2 (fun _ _ => rfl) (fun d => absurd (by omega) c) (fun _ => rfl)⟩
  rw [show (5 + 2 * (k : Int)).toNat = 5 + 2 * k by omega]
  have z : up2 τ.2 173 (5 + 2 * k) r 173 2 = k := by rw [up2_if, if_neg (by omega), hk]
  rw [z, show (6 + 2 * (k : Int)).toNat = 6 + 2 * k by omega]
  have z2 : up2 (up2 τ.2 173 (5 + 2 * k) r) 173 (6 + 2 * k) s 173 2 = k := by rw [up2_if, if_neg (by omega), z]
  rw [z2]
  exact ⟨⟨by omega, by omega⟩, ⟨by omega, by omega⟩, q _ (fun c hc => by rw [up2_ne _ _ _ hc, up2_ne _ _ _ hc, up2_ne _ _ _ hc]) (fun _ j => by rw [up2_if, up2_if, up2_if]) (fun d => absurd (by omega) d)⟩
def rwF (r s t : Int) (τ : Sg) (Q : Option PV → Sg → Prop) : Prop := InR (τ.2 173 3) ∧ (τ.2 173 3 < 10 → (0 ≤ 19 + (3 * (τ.2 173 3)) ∧ 19 + (3 * (τ.2 173 3)) < 81) ∧ (0 ≤ (19 + (3 * (τ.2 173 3))) + 1 ∧ (19 + (3 * (τ.2 173 3))) + 1 < 81) ∧ (0 ≤ (19 + (3 * (τ.2 173 3))) + 2 ∧ (19 + (3 * (τ.2 173 3))) + 2 < 81) ∧ Q none (τ.1, up2 (up2 (up2 (up2 τ.2 173 (19 + (3 * (τ.2 173 3))).toNat r) 173 ((19 + (3 * (τ.2 173 3))) + 1).toNat s) 173 ((19 + (3 * (τ.2 173 3))) + 2).toNat t) 173 3 (((up2 (up2 (up2 τ.2 173 (19 + (3 * (τ.2 173 3))).toNat r) 173 ((19 + (3 * (τ.2 173 3))) + 1).toNat s) 173 ((19 + (3 * (τ.2 173 3))) + 2).toNat t) 173 3) + 1))) ∧ (¬ τ.2 173 3 < 10 → Q none τ)
theorem m_rw {r s t : Int} {τ : Sg} {Q : Option PV → Sg → Prop} {k : Nat} (hk : τ.2 173 3 = k) (h7 : k ≤ 10) (q : ∀ A : Nat → Nat → Int, (∀ c : Nat, c ≠ 173 → A c = τ.2 c) → (k < 10 → ∀ j : Nat, A 173 j = if j = 3 then (k : Int) + 1 else if j = 21 + 3 * k then t else if j = 20 + 3 * k then s else if j = 19 + 3 * k then r else τ.2 173 j) → (¬ k < 10 → A = τ.2) → Q none (τ.1, A)) : rwF r s t τ Q := by
  unfold rwF
  rw [hk]
  refine ⟨by omega, fun c => ?_, fun c => q τ.2 (fun _ _ => rfl) (fun d => absurd (by omega) c) (fun _ => rfl)⟩
  rw [show (19 + 3 * (k : Int) + 1).toNat = 20 + 3 * k by omega, show (19 + 3 * (k : Int) + 2).toNat = 21 + 3 * k by omega, show (19 + 3 * (k : Int)).toNat = 19 + 3 * k by omega]
  have z : up2 (up2 (up2 τ.2 173 (19 + 3 * k) r) 173 (20 + 3 * k) s) 173 (21 + 3 * k) t 173 3 = k := by rw [up2_if, if_neg (by omega), up2_if, if_neg (by omega), up2_if, if_neg (by omega), hk]
  rw [z]
  exact ⟨⟨by omega, by omega⟩, ⟨by omega, by omega⟩, ⟨by omega, by omega⟩, q _ (fun c hc => by rw [up2_ne _ _ _ hc, up2_ne _ _ _ hc, up2_ne _ _ _ hc, up2_ne _ _ _ hc]) (fun _ j => by rw [up2_if, up2_if, up2_if, up2_if]) (fun d => absurd (by omega) d)⟩
theorem MBP.hw {τ : Sg} {A : Nat → Nat → Int} {r s : Int} {k : Nat} (h : MBP τ) (hk : τ.2 173 2 = k) (a2 : k < 7 → ∀ j : Nat, A 173 j = if j = 2 then (k : Int) + 1 else if j = 6 + 2 * k then s else if j = 5 + 2 * k then r else τ.2 173 j) (a3 : ¬ k < 7 → A = τ.2) : MBP (τ.1, A) := by
  by_cases c : k < 7
  · have a2 := a2 c
    obtain ⟨h1, h2, h3⟩ := h
    refine ⟨?_, ?_, h3⟩
    · dsimp only; rw [a2, if_pos rfl]; omega
    · dsimp only; rw [a2, if_neg (by omega), if_neg (by omega), if_neg (by omega)]; exact h2
  · rw [a3 c]; exact h
theorem MBP.rw {τ : Sg} {A : Nat → Nat → Int} {r s t : Int} {k : Nat} (h : MBP τ) (hk : τ.2 173 3 = k) (a2 : k < 10 → ∀ j : Nat, A 173 j = if j = 3 then (k : Int) + 1 else if j = 21 + 3 * k then t else if j = 20 + 3 * k then s else if j = 19 + 3 * k then r else τ.2 173 j) (a3 : ¬ k < 10 → A = τ.2) : MBP (τ.1, A) := by
  by_cases c : k < 10
  · have a2 := a2 c
    obtain ⟨h1, h2, h3⟩ := h
    refine ⟨?_, ?_, h3⟩
    · dsimp only; rw [a2, if_neg (by omega), if_neg (by omega), if_neg (by omega), if_neg (by omega)]; exact h1
    · dsimp only; rw [a2, if_pos rfl]; omega
  · rw [a3 c]; exact h
theorem m_hline {X : PX} {σ ρ : Sg} {B : Nat → Int} {n i : Nat} {fp : Int × Int} {c : PCt} {P : Sg → Prop} (hm : MTk ρ B n (nxt B n i) fp) (hp : fp.1 ≠ 0 → fp.2 < i) (hin : i < n) (fr : FR σ ρ) (hb : MBP ρ) (hc : fp.1 = 0 → MCP ρ c) (K : KP B n σ P (lnE keepP 3 B n c (nms B n (ruL 0 3) (lms 0 3) [] (nxt B n i) (if fullP c 3 = true then note 3 i fp else fp)))) : CV X 178 [vR (some 170), vI i] ρ (fun τ4 => CV X 175 [vR (some 170)] τ4 (fun τ => (none : Option PV) = none ∧ P τ)) := by
  obtain ⟨b1, b2, b3⟩ := id hb
  obtain ⟨k, hk⟩ : ∃ k : Nat, ρ.2 173 2 = k := ⟨(ρ.2 173 2).toNat, by omega⟩
  have nr := nxt_rng (B := B) hin
  have hn : fp.1 = 0 → c.1 2 = k := fun z => by have := (hc z).1.2.2.1; omega
  have go : ∀ τ : Sg, FZ ρ τ → MTk τ B n (nxt B n i) (if fullP c 3 = true then note 3 i fp else fp) → CI X 173 [vR (some 170), vI 0, vI 99] τ (fun r2 τ1 => CI X 173 [vR (some 170), vI 0, vI 9] τ1 (fun r3 τ2 => hwF r2 r3 τ2 (fun v τ => v = none ∧ CV X 175 [vR (some 170)] τ (fun τ => (none : Option PV) = none ∧ P τ)))) := by
    intro τ f mt
    rw [show lms 0 3 = [99, 9] from rfl, show ruL 0 3 = false from rfl, nms_c] at K
    refine m_two mt (by omega) (by omega) (fun k1 k2 υ g mu => ?_) (fun k1 υ g mb => ?_) (fun k1 k2 υ g mb r => ?_)
    · rw [if_pos k1, nms_c, if_pos k2, nms_e] at K
      have fz := f.trans g
      have hu : υ.2 173 2 = k := by rw [fz.2.2.1 173 (by omega)]; exact hk
      refine m_hw hu (by omega) (fun A a1 a2 a3 => ⟨rfl, m_eol (MB := MBP) (MC := MCP) (keep := keepP) (c := c) (fun _ _ => MBP.fz) (fun _ _ _ => MCP.fz) (mu.mv (fun _ _ => rfl) (a1 171 (by omega))) (fr.trans (fz.fy.fr.trans (FR.up a1))) ((hb.fz fz).hw hu a2 a3) (fun z => ?_) K⟩)
      obtain ⟨z2, l2, e2⟩ := nmF_0 z
      obtain ⟨z1, l1, e1⟩ := nmF_0 z2
      obtain ⟨z0, fl⟩ := full_0 z1
      have v1 := vA_rng k1
      have ck := hn z0
      have k7 : k < 7 := by
        unfold fullP at fl
        have := of_decide_eq_false fl
        omega
      rw [e1, e2] at a2
      have mc : MCA (υ.2 173) (υ.1 170 9) c := MCP.fz fz (hc z0)
      exact mca_3 (v := vA B n (nxt B n i)) (w := vA B n (nxt B n (nxt B n i))) mc (by omega) ⟨v1.1, l1⟩ (by rw [ck]; exact a2 k7)
    · rw [if_neg k1] at K
      have fz := f.trans g
      have hu : υ.2 173 2 = k := by rw [fz.2.2.1 173 (by omega)]; exact hk
      exact m_hw hu (by omega) (fun A a1 a2 a3 => ⟨rfl, m_eolB (mb.mv rfl (a1 171 (by omega))) (fr.trans (fz.fy.fr.trans (FR.up a1))) K⟩)
    · rw [if_pos k1, nms_c, if_neg k2] at K
      have fz := f.trans g
      have hu : υ.2 173 2 = k := by rw [fz.2.2.1 173 (by omega)]; exact hk
      exact m_hw hu (by omega) (fun A a1 a2 a3 => ⟨rfl, m_eolB (mb.mv rfl (a1 171 (by omega))) (fr.trans (fz.fy.fr.trans (FR.up a1))) K⟩)
  obtain ⟨h1, h8, ht, hi, h5, h6, h7, h9⟩ := id hm
  have n6 := h1.2.1
  refine v_178 ⟨by omega, fun d => go ρ FZ.rfl ?_, fun d => m_also h8 h5 h6 (by omega) (by omega) h7 (fun e => ⟨(h9 e).1, Or.inl (hp e)⟩) (fun τ f => go τ f.fz ?_)⟩
  · rw [full_no (fun z => by
      have := hn z
      unfold fullP; exact decide_eq_false (by omega))]
    exact hm
  · rw [full_yes (fun z => by
      have := hn z
      unfold fullP; exact decide_eq_true (by omega))]
    exact hm.ff f (by omega) nr.1
theorem m_rline {X : PX} {σ ρ : Sg} {B : Nat → Int} {n i : Nat} {fp : Int × Int} {c : PCt} {P : Sg → Prop} {pa : Bool} (hm : MTk ρ B n (nxt B n i) fp) (hp : fp.1 ≠ 0 → fp.2 < i) (hin : i < n) (fr : FR σ ρ) (hb : MBP ρ) (hc : fp.1 = 0 → MCP ρ c) (K : KP B n σ P (lnE keepP (if pa = true then 5 else 4) B n c (nms B n (ruL 0 (if pa = true then 5 else 4)) (lms 0 (if pa = true then 5 else 4)) [] (nxt B n i) (if fullP c (if pa = true then 5 else 4) = true then note 3 i fp else fp)))) : CV X 179 [vR (some 170), vI i, vI (if pa = true then 1 else 0)] ρ (fun τ4 => CV X 175 [vR (some 170)] τ4 (fun τ => (none : Option PV) = none ∧ P τ)) := by
  obtain ⟨b1, b2, b3⟩ := id hb
  obtain ⟨k, hk⟩ : ∃ k : Nat, ρ.2 173 3 = k := ⟨(ρ.2 173 3).toNat, by omega⟩
  have nr := nxt_rng (B := B) hin
  have hn : fp.1 = 0 → c.1 4 = k := fun z => by have := (hc z).1.2.2.2.1; omega
  have h27 : fp.1 = 0 → c.1 2 ≤ 7 := fun z => by have := (hc z).1.2.2.1; omega
  have ful : fullP c (if pa = true then 5 else 4) = decide (10 ≤ c.1 4) := by
    unfold fullP
    cases pa
    · simp
    · simp
  rw [ful] at K
  have ru : ruL 0 (if pa = true then 5 else 4) = true := by cases pa <;> rfl
  rw [ru] at K
  -- behind the numbers
  have kk : ∀ υ : Sg, υ.2 173 = ρ.2 173 → υ.2 173 3 = k := fun υ e => by rw [e]; exact hk
  have bb : ∀ υ : Sg, υ.2 173 = ρ.2 173 → H9 υ → MBP υ := fun υ e h => by unfold MBP; rw [e]; exact ⟨b1, b2, h⟩
  have go : ∀ τ : Sg, FZ ρ τ → MTk τ B n (nxt B n i) (if decide (10 ≤ c.1 4) = true then note 3 i fp else fp) → CI X 176 [vR (some 170)] τ (fun r2 τ1 => CI X 177 [vR (some 170), vI r2, vI r2] τ1 (fun r3 τ2 => InR (if pa = true then 1 else 0) ∧ ((if pa = true then 1 else 0) = (0 : Int) → rwF r2 r3 (-1) τ2 (fun v τ => v = none ∧ CV X 175 [vR (some 170)] τ (fun τ => (none : Option PV) = none ∧ P τ))) ∧ (¬ (if pa = true then 1 else 0) = (0 : Int) → CI X 177 [vR (some 170), vI r2, vI r3] τ2 (fun r9 τ3 => rwF r2 r3 r9 τ3 (fun v τ => v = none ∧ CV X 175 [vR (some 170)] τ (fun τ => (none : Option PV) = none ∧ P τ)))))) := by
    intro τ f mt
    have h9t : H9 τ := (hb.fz f).2.2
    -- broken off
    have br : ∀ (υ : Sg) (j : Nat) (f2 : Int × Int) (vs : List Int) (r s t : Int), FY τ υ → MBk υ j → KP B n σ P (lnE keepP (if pa = true then 5 else 4) B n c (false, j, f2, vs)) → rwF r s t υ (fun v τ => v = none ∧ CV X 175 [vR (some 170)] τ (fun τ => (none : Option PV) = none ∧ P τ)) := by
      intro υ j f2 vs r s t g mb K
      have fy := f.fy.trans g
      exact m_rw (kk υ (fy.2.2.1 173 (by omega))) (by omega) (fun A a1 a2 a3 => ⟨rfl, m_eolB (mb.mv rfl (a1 171 (by omega))) (fr.trans (fy.fr.trans (FR.up a1))) K⟩)
    have ci : InR (if pa = true then 1 else 0) := by cases pa <;> decide
    have bre : ∀ (υ : Sg) (j : Nat) (f2 : Int × Int) (vs : List Int) (r s : Int), FY τ υ → MBk υ j → H9 υ → KP B n σ P (lnE keepP (if pa = true then 5 else 4) B n c (false, j, f2, vs)) → InR (if pa = true then 1 else 0) ∧ ((if pa = true then 1 else 0) = (0 : Int) → rwF r s (-1) υ (fun v τ => v = none ∧ CV X 175 [vR (some 170)] τ (fun τ => (none : Option PV) = none ∧ P τ))) ∧ (¬ (if pa = true then 1 else 0) = (0 : Int) → CI X 177 [vR (some 170), vI r, vI s] υ (fun r9 τ3 => rwF r s r9 τ3 (fun v τ => v = none ∧ CV X 175 [vR (some 170)] τ (fun τ => (none : Option PV) = none ∧ P τ)))) := by
      intro υ j f2 vs r s g mb h9 K
      exact ⟨ci, fun _ => br υ j f2 vs r s (-1) g mb K, fun _ => m_patronB mb h9 (fun ω gw mw hw => br ω j f2 vs r s 0 (g.trans gw) mw K)⟩
    have ls : lms 0 (if pa = true then 5 else 4) = 6 :: 6 :: (if pa = true then [6] else []) := by cases pa <;> rfl
    rw [ls, nms_c] at K
    refine m_house mt h9t (fun k1 υ g mu h9 e9 => ?_) (fun k1 υ g mb h9 => ?_)
    · rw [if_pos k1, nms_c] at K
      rw [← nmF_nil (ru := true)] at mu
      have v1 := vA_rng k1
      have r1 := nV_rng (l := 6) (by omega) k1
      refine m_patron (pv := [vA B n (nxt B n i)]) mu h9 (by omega) (by omega) (fun _ z => ?_) (fun k2 ω gw mw hw9 ew9 => ?_) (fun k2 ω gw mb hw9 => ?_)
      · rw [inL_1, (nmF_0 z).2.2]; omega
      · rw [if_pos k2] at K
        have v2 := vA_rng k2
        have r2 := nV_rng (l := 6) (by omega) k2
        have fy := f.fy.trans (g.trans gw)
        refine ⟨ci, fun p0 => ?_, fun p0 => ?_⟩
        · have pf : pa = false := by cases pa; rfl; exact absurd p0 (by decide)
          subst pf
          rw [show (if false = true then (5 : Nat) else 4) = 4 from rfl, show (if false = true then [(6 : Int)] else []) = [] from rfl, nms_e] at K
          have ew := kk ω (fy.2.2.1 173 (by omega))
          refine m_rw ew (by omega) (fun A a1 a2 a3 => ⟨rfl, m_eol (MB := MBP) (MC := MCP) (keep := keepP) (c := c) (fun _ _ => MBP.fz) (fun _ _ _ => MCP.fz) (mw.mv (fun _ _ => rfl) (a1 171 (by omega))) (fr.trans (fy.fr.trans (FR.up a1))) ((bb ω (fy.2.2.1 173 (by omega)) hw9).rw ew a2 a3) (fun z => ?_) K⟩)
          obtain ⟨z2, l2, e2⟩ := nmF_0 z
          obtain ⟨z1, l1, e1⟩ := nmF_0 z2
          obtain ⟨z0, fl⟩ := full_0 z1
          have ck := hn z0
          have k7 : k < 10 := by
            have := of_decide_eq_false fl
            omega
          rw [e1, e2] at a2
          have mc : MCA (ρ.2 173) (ρ.1 170 9) c := hc z0
          rw [← fy.2.2.1 173 (by omega)] at mc
          have far : FarR ((c.1 5 ||| 2 ^ (vA B n (nxt B n i)).toNat) ||| 2 ^ (vA B n (nxt B n (nxt B n i))).toNat) (ω.1 170 9) := by
            rw [ew9, e9, e1, e2, f.2.1 9 (by omega)]
            exact ((mc.2.2.2.2.2).or v1.1).or v2.1
          exact mca_r mc far (h27 z0) (by rw [ck]; exact a2 k7)
        · have pf : pa = true := by cases pa; exact absurd rfl p0; rfl
          subst pf
          rw [show (if true = true then (5 : Nat) else 4) = 5 from rfl, show (if true = true then [(6 : Int)] else []) = [6] from rfl, nms_c] at K
          refine m_patron (pv := [vA B n (nxt B n i), vA B n (nxt B n (nxt B n i))]) mw hw9 (by omega) (by omega) (fun _ z => ?_) (fun k3 χ gx mx hx9 ex9 => ?_) (fun k3 χ gx mb hx9 => ?_)
          · obtain ⟨z2, l2, e2⟩ := nmF_0 z
            rw [inL_2, (nmF_0 z2).2.2, e2]
          · rw [if_pos k3, nms_e] at K
            have v3 := vA_rng k3
            have fx := fy.trans gx
            have ew := kk χ (fx.2.2.1 173 (by omega))
            refine m_rw ew (by omega) (fun A a1 a2 a3 => ⟨rfl, m_eol (MB := MBP) (MC := MCP) (keep := keepP) (c := c) (fun _ _ => MBP.fz) (fun _ _ _ => MCP.fz) (mx.mv (fun _ _ => rfl) (a1 171 (by omega))) (fr.trans (fx.fr.trans (FR.up a1))) ((bb χ (fx.2.2.1 173 (by omega)) hx9).rw ew a2 a3) (fun z => ?_) K⟩)
            obtain ⟨z3, l3, e3⟩ := nmF_0 z
            obtain ⟨z2, l2, e2⟩ := nmF_0 z3
            obtain ⟨z1, l1, e1⟩ := nmF_0 z2
            obtain ⟨z0, fl⟩ := full_0 z1
            have ck := hn z0
            have k7 : k < 10 := by
              have := of_decide_eq_false fl
              omega
            rw [e1, e2, e3] at a2
            have mc : MCA (ρ.2 173) (ρ.1 170 9) c := hc z0
            rw [← fx.2.2.1 173 (by omega)] at mc
            have far : FarR (((c.1 5 ||| 2 ^ (vA B n (nxt B n i)).toNat) ||| 2 ^ (vA B n (nxt B n (nxt B n i))).toNat) ||| 2 ^ (vA B n (nxt B n (nxt B n (nxt B n i)))).toNat) (χ.1 170 9) := by
              rw [ex9, ew9, e9, e1, e2, e3, f.2.1 9 (by omega)]
              exact (((mc.2.2.2.2.2).or v1.1).or v2.1).or v3.1
            exact mca_r mc far (h27 z0) (by rw [ck]; exact a2 k7)
          · rw [if_neg k3] at K
            exact br χ _ _ _ _ _ _ (g.trans (gw.trans gx)) mb K
      · rw [if_neg k2] at K
        exact bre ω _ _ _ _ _ (g.trans gw) mb hw9 K
    · rw [if_neg k1] at K
      exact m_patronB mb h9 (fun ω gw mw hw => bre ω _ _ _ _ _ (g.trans gw) mw hw K)
  obtain ⟨h1, h8, ht, hi, h5, h6, h7, h9⟩ := id hm
  have n6 := h1.2.1
  refine v_179 ⟨by omega, fun d => go ρ FZ.rfl ?_, fun d => m_also h8 h5 h6 (by omega) (by omega) h7 (fun e => ⟨(h9 e).1, Or.inl (hp e)⟩) (fun τ f => go τ f.fz ?_)⟩
  · rw [full_no (fun z => by
      have := hn z
      exact decide_eq_false (by omega))]
    exact hm
  · rw [full_yes (fun z => by
      have := hn z
      exact decide_eq_true (by omega))]
    exact hm.ff f (by omega) nr.1
