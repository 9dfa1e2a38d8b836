/-! YEARS deed by deed -/
theorem dO_cS {K : Kz} {s s' : Cs} {w n : Int} (hd : dO K s w n = some s') : (w = 0 → s' = sYear K s) ∧ (w ≠ 0 → cS s' = cS s) ∧ (w = 1 → (0 ≤ n ∧ n < kN K) ∧ cP s' = cP s) := by
  unfold dO at hd
  by_cases c0 : w = 0
  · rw [if_pos c0] at hd
    refine ⟨fun _ => ?_, fun e => absurd c0 e, fun e => by omega⟩
    by_cases d : cY s < 50
    · rw [if_pos d] at hd; cases hd; rfl
    · rw [if_neg d] at hd; cases hd
  rw [if_neg c0] at hd
  refine ⟨fun e => absurd e c0, fun _ => ?_, fun c1 => ?_⟩
  · by_cases c1 : w = 1
    · rw [if_pos c1] at hd
      split at hd
      · cases hd; rfl
      · cases hd
    rw [if_neg c1] at hd
    by_cases c2 : w = 2
    · rw [if_pos c2] at hd
      split at hd
      · cases hd; rfl
      · cases hd
    rw [if_neg c2] at hd
    by_cases c3 : w = 3
    · rw [if_pos c3] at hd
      split at hd
      · cases hd; rfl
      · cases hd
    rw [if_neg c3] at hd
    by_cases c4 : w = 4
    · rw [if_pos c4] at hd
      split at hd
      · cases hd; rfl
      · cases hd
    rw [if_neg c4] at hd
    split at hd
    · cases hd; rfl
    · cases hd
  · rw [if_pos c1] at hd
    split at hd
    · rename_i d; cases hd; exact ⟨d.1, rfl⟩
    · cases hd
theorem sYear_cS {K : Kz} {s : Cs} (ok : sOk K s) : cS s ≤ cS (sYear K s) := by
  have l := ok.l
  have b1 := sm_nn (f := fun h => cT K s h - yPay K s h) (kN K) (fun h hh => by have := yPay_rng ok hh; omega)
  show cS s ≤ cS s + cL K s + yLs K s (kN K)
  unfold yLs
  omega
def AC (σ : Sg) (A : An) : Prop := σ.1 161 2 = nS A ∧ σ.1 161 3 = nH A ∧ σ.1 161 4 = nP A ∧ σ.1 161 5 = nY A ∧ (nY A ≠ -1 → σ.1 161 6 = nL A) ∧ ∀ h : Nat, h < 7 → σ.2 162 h = nB A h
theorem AC.out {σ τ : Sg} {A : An} (h : AC σ A) (f : Out σ τ 146 156) : AC τ A := by
  unfold AC
  rw [(f 161 (by omega)).1, (f 162 (by omega)).2]
  exact h
theorem c_note {X : PX} {σ : Sg} {K : Kz} {s s' : Cs} {w n : Int} {k j : Nat} {A : An} {P : Sg → Prop} (ok : sOk K s) (hy : cY s ≤ 50) (v : dV w n) (hd : dO K s w n = some s') (S : SC σ K s') (h7 : w = 0 → σ.1 146 7 = yPd K s (kN K)) (hA : AC σ A) (a : aOk (kN K) j A) (hS : nH A = -1 → cS s = 0) (kk : k ≤ 60) (q : ∀ τ : Sg, Out σ τ 161 162 → AC τ (aUp K s s' w n k A) → P τ) : CV X 2 [vR (some 161), vI k, vI w, vI n] σ P := by
  obtain ⟨ok', hy'⟩ := dO_ok ok hy v hd
  obtain ⟨d0, d1, d2⟩ := dO_cS hd
  obtain ⟨v1, v2, v3, v4, v5, v6, v7⟩ := v
  obtain ⟨m2, m3, m4, m5, m6, mB⟩ := id hA
  obtain ⟨c1, c2, c3, c4, c5, c6, c7⟩ := id a
  have e2 := ok'.e7.2.1
  have n7 := ok.e7.2.2.1
  have yp := yPd_rng ok
  have ys := sYear_cS ok
  have y4 : σ.1 146 4 = cS s' := S.1.2.2.2.1
  have y2 : σ.1 146 2 = cY s' := S.1.2.1
  have y6 : σ.1 146 6 = zE K s' := S.2.1
  have pr : σ.1 147 1 = cP s' := S.1.1.2.1
  have sr := ok'.2.2.2.2.2.2
  have pl := popc_le (zE K s') 12
  have fin : ∀ (f g : Nat → Nat → Int), (∀ c : Nat, c ≠ 161 → f c = σ.1 c) → (∀ c : Nat, c ≠ 162 → g c = σ.2 c) → f 161 2 = (if w = 1 then nS A + cP s else nS A) → f 161 3 = (if w = 0 ∧ nH A = -1 ∧ cS s < cS s' then (k : Int) else nH A) → f 161 5 = (if w = 0 ∧ yPd K s (kN K) < nL A then cY s + 1 else nY A) → ((if w = 0 ∧ yPd K s (kN K) < nL A then cY s + 1 else nY A) ≠ -1 → f 161 6 = (if w = 0 ∧ yPd K s (kN K) < nL A then yPd K s (kN K) else nL A)) → (∀ h : Nat, h < 7 → g 162 h = (if w = 1 then up (nB A) n.toNat (nB A n.toNat + 1) else nB A) h) → CI X 283 [vI (σ.1 146 6)] (f, g) (fun r τ => InR (σ.1 161 4) ∧ InR r ∧ (none : Option PV) = none ∧ P (up2 τ.1 161 4 (max (σ.1 161 4) r), τ.2)) := by
    intro f g f1 g1 f2 f3 f5 f6 gB
    rw [y6]
    refine c_bitc (by omega) ⟨by omega, by omega, rfl, q _ (fun c hc => ⟨?_, ?_⟩) ⟨?_, ?_, ?_, ?_, ?_, ?_⟩⟩
    · dsimp only; rw [up2_ne _ _ _ (by omega)]; exact f1 c (by omega)
    · exact g1 c (by omega)
    · dsimp only; rw [up2_if, if_neg (by omega)]; exact f2
    · dsimp only; rw [up2_if, if_neg (by omega)]; exact f3
    · dsimp only; rw [up2_get, m4]; rfl
    · dsimp only; rw [up2_if, if_neg (by omega)]; exact f5
    · dsimp only; rw [up2_if, if_neg (by omega)]; exact f6
    · exact gB
  have tl : ∀ (f g : Nat → Nat → Int), (∀ c : Nat, c ≠ 161 → f c = σ.1 c) → (∀ c : Nat, c ≠ 162 → g c = σ.2 c) → f 161 2 = (if w = 1 then nS A + cP s else nS A) → f 161 3 = nH A → f 161 5 = (if w = 0 ∧ yPd K s (kN K) < nL A then cY s + 1 else nY A) → ((if w = 0 ∧ yPd K s (kN K) < nL A then cY s + 1 else nY A) ≠ -1 → f 161 6 = (if w = 0 ∧ yPd K s (kN K) < nL A then yPd K s (kN K) else nL A)) → (∀ h : Nat, h < 7 → g 162 h = (if w = 1 then up (nB A) n.toNat (nB A n.toNat + 1) else nB A) h) →
      InR (σ.1 161 3) ∧ (σ.1 161 3 ≠ (-1) → CI X 283 [vI (σ.1 146 6)] (f, g) (fun r τ => InR (σ.1 161 4) ∧ InR r ∧ (none : Option PV) = none ∧ P (up2 τ.1 161 4 (max (σ.1 161 4) r), τ.2))) ∧ (¬ σ.1 161 3 ≠ (-1) → InR (σ.1 146 4) ∧ (σ.1 146 4 ≤ 0 → CI X 283 [vI (σ.1 146 6)] (f, g) (fun r τ => InR (σ.1 161 4) ∧ InR r ∧ (none : Option PV) = none ∧ P (up2 τ.1 161 4 (max (σ.1 161 4) r), τ.2))) ∧ (¬ σ.1 146 4 ≤ 0 → CI X 283 [vI (σ.1 146 6)] (up2 f 161 3 k, g) (fun r τ => InR (σ.1 161 4) ∧ InR r ∧ (none : Option PV) = none ∧ P (up2 τ.1 161 4 (max (σ.1 161 4) r), τ.2)))) := by
    intro f g f1 g1 f2 f3 f5 f6 gB
    refine ⟨by omega, fun x => fin f g f1 g1 f2 ?_ f5 f6 gB, fun x => ⟨by omega, fun y => fin f g f1 g1 f2 ?_ f5 f6 gB, fun y => fin (up2 f 161 3 k) g (fun c hc => by rw [up2_ne _ _ _ hc]; exact f1 c hc) g1 (by rw [up2_if, if_neg (by omega)]; exact f2) ?_ (by rw [up2_if, if_neg (by omega)]; exact f5) (fun z => by rw [up2_if, if_neg (by omega)]; exact f6 z) gB⟩⟩
    · rw [if_neg (by omega)]; exact f3
    · have := hS (by omega)
      rw [if_neg (by omega)]; exact f3
    · have h0 := hS (by omega)
      rw [up2_get, if_pos]
      refine ⟨?_, by omega, by omega⟩
      rcases Decidable.em (w = 0) with e | e
      · exact e
      · have := d1 e; omega
  refine v_2 ⟨by omega, fun w1 => ⟨fun w0 => ?_, fun w0 => ?_⟩, fun w1 => ⟨by omega, fun x => absurd x (by have := v5 (by omega); omega), fun x => ⟨fun y => absurd y (by have := v6 (by omega); omega), fun y => ?_⟩⟩⟩
  · refine tl σ.1 σ.2 (fun _ _ => rfl) (fun _ _ => rfl) ?_ m3 ?_ ?_ ?_
    · rw [if_neg w1]; exact m2
    · rw [if_neg (fun z => w0 z.1)]; exact m5
    · rw [if_neg (fun z => w0 z.1), if_neg (fun z => w0 z.1)]; exact m6
    · rw [if_neg w1]; exact mB
  · have w00 : w = 0 := by omega
    have es := d0 w00
    have yS : cY (sYear K s) = cY s + 1 := rfl
    have y2' : σ.1 146 2 = cY s + 1 := by rw [y2, es]; exact yS
    have h7 := h7 w00
    have yr := ok.2.2.2.2.2.2.1
    have lean : ∀ g : Nat → Nat → Int, g = up2 (up2 σ.1 161 5 (σ.1 146 2)) 161 6 (σ.1 146 7) → yPd K s (kN K) < nL A → (∀ c : Nat, c ≠ 161 → g c = σ.1 c) ∧ g 161 2 = (if w = 1 then nS A + cP s else nS A) ∧ g 161 3 = nH A ∧ g 161 5 = (if w = 0 ∧ yPd K s (kN K) < nL A then cY s + 1 else nY A) ∧ ((if w = 0 ∧ yPd K s (kN K) < nL A then cY s + 1 else nY A) ≠ -1 → g 161 6 = (if w = 0 ∧ yPd K s (kN K) < nL A then yPd K s (kN K) else nL A)) := fun g hg hl => by
      rw [hg, if_neg w1, if_pos ⟨w00, hl⟩, if_pos ⟨w00, hl⟩]
      refine ⟨fun c hc => by simp only [up2_ne _ _ _ hc], ?_, ?_, ?_, fun _ => ?_⟩
      · simp only [up2_if, Nat.reduceEqDiff, reduceIte]; exact m2
      · simp only [up2_if, Nat.reduceEqDiff, reduceIte]; exact m3
      · simp only [up2_if, Nat.reduceEqDiff, reduceIte]; exact y2'
      · simp only [up2_if, Nat.reduceEqDiff, reduceIte]; exact h7
    refine ⟨by omega, fun x => ?_, fun x => ⟨by omega, by have := m6 (by omega); omega, fun y => ?_, fun y => ?_⟩⟩
    · obtain ⟨l1, l2, l3, l4, l5⟩ := lean _ rfl (by omega)
      refine tl _ σ.2 l1 (fun _ _ => rfl) l2 l3 l4 l5 ?_
      rw [if_neg w1]; exact mB
    · have m6 := m6 (by omega)
      refine tl σ.1 σ.2 (fun _ _ => rfl) (fun _ _ => rfl) ?_ m3 ?_ ?_ ?_
      · rw [if_neg w1]; exact m2
      · rw [if_neg (by omega)]; exact m5
      · rw [if_neg (by omega), if_neg (by omega)]; exact fun _ => m6
      · rw [if_neg w1]; exact mB
    · have m6 := m6 (by omega)
      obtain ⟨l1, l2, l3, l4, l5⟩ := lean _ rfl (by omega)
      refine tl _ σ.2 l1 (fun _ _ => rfl) l2 l3 l4 l5 ?_
      rw [if_neg w1]; exact mB
  · have w11 : w = 1 := by omega
    obtain ⟨dn, dp⟩ := d2 w11
    refine ⟨by omega, fun w0 => ?_, fun w0 => absurd (by omega) w0⟩
    refine tl _ _ (fun c hc => by simp only [up2_ne _ _ _ hc]) (fun c hc => by simp only [up2_ne _ _ _ hc]) ?_ ?_ ?_ ?_ ?_
    · simp only [up2_if, Nat.reduceEqDiff, reduceIte]; rw [if_pos w11, m2, pr, dp]
    · simp only [up2_if, Nat.reduceEqDiff, reduceIte]; exact m3
    · simp only [up2_if, Nat.reduceEqDiff, reduceIte]; rw [if_neg (fun z => w0 z.1)]; exact m5
    · simp only [up2_if, Nat.reduceEqDiff, reduceIte]; rw [if_neg (fun z => w0 z.1), if_neg (fun z => w0 z.1)]; exact m6
    · intro h hh
      rw [up2_if, if_pos w11]
      by_cases e : h = n.toNat
      · rw [if_pos e, e, up_same, mB _ (by omega)]
      · rw [if_neg e, up_ne _ _ e]; exact mB h hh
/-- deeds from the j-th on, at most d: where it stops, and what stands then -/
def rnG (K : Kz) (fk fn : Nat → Int) : Nat → Nat → Cs → An → Nat × Cs × An
  | 0, j, s, A => (j, s, A)
  | d + 1, j, s, A => match dO K s (fk j) (fn j) with
    | none => (j, s, A)
    | some s' => rnG K fk fn d (j + 1) s' (aUp K s s' (fk j) (fn j) j A)
def A0 (K : Kz) (s : Cs) : An := (0, -1, (popc (zE K s) 12 : Int), -1, 99999999, fun _ => 0)
theorem A0_ok (K : Kz) (s : Cs) (m : Nat) : aOk m 0 (A0 K s) := by
  have pl := popc_le (zE K s) 12
  refine ⟨⟨Int.le_refl 0, ?_⟩, ⟨Int.le_refl _, ?_⟩, ⟨?_, ?_⟩, ⟨Int.le_refl _, ?_⟩, Or.inl ⟨rfl, rfl⟩, fun h => ⟨Int.le_refl 0, Int.le_refl 0⟩, fun h _ => rfl⟩
  · show (0 : Int) ≤ 100 * ((0 : Nat) : Int); omega
  · show (-1 : Int) ≤ 60; omega
  · show (0 : Int) ≤ (popc (zE K s) 12 : Int); omega
  · show (popc (zE K s) 12 : Int) ≤ 12; omega
  · show (-1 : Int) ≤ 60; omega
theorem rnG_inv {K : Kz} {fk fn : Nat → Int} : ∀ (d j : Nat) (s : Cs) (A : An), j + d ≤ 40 → (∀ i : Nat, i < j + d → dV (fk i) (fn i)) → sOk K s → cY s ≤ 50 → aOk (kN K) j A → j ≤ (rnG K fk fn d j s A).1 ∧ (rnG K fk fn d j s A).1 ≤ j + d ∧ sOk K (rnG K fk fn d j s A).2.1 ∧ cY (rnG K fk fn d j s A).2.1 ≤ 50 ∧ aOk (kN K) (rnG K fk fn d j s A).1 (rnG K fk fn d j s A).2.2
  | 0 => fun j s A hj hv ok hy a => ⟨Nat.le_refl _, Nat.le_refl _, ok, hy, a⟩
  | d + 1 => fun j s A hj hv ok hy a => by
    unfold rnG
    rcases hd : dO K s (fk j) (fn j) with _ | s'
    · exact ⟨Nat.le_refl _, by dsimp only; omega, ok, hy, a⟩
    · obtain ⟨ok', hy'⟩ := dO_ok ok hy (hv j (by omega)) hd
      have := rnG_inv d (j + 1) s' (aUp K s s' (fk j) (fn j) j A) (by omega) (fun i hi => hv i (by omega)) ok' hy' (aUp_ok ok hy hd a (by omega) (by omega))
      dsimp only
      exact ⟨by omega, by omega, this.2.2⟩
theorem c_run43 {X : PX} {σ : Sg} {q T : Nat} {K : Kz} {fk fn : Nat → Int} {Q : Option PV → Sg → Prop} (hq : q ∈ paiL) (hq2 : q + 2 < 131) (hT : T ≤ 40) (hv : ∀ i : Nat, i < T → dV (fk i) (fn i)) (hD : ∀ i : Nat, i < T → σ.2 (q + 1) i = fk i ∧ σ.2 (q + 2) i = fn i) :
    ∀ (d j : Nat) (s : Cs) (A : An) (τ : Sg), j + d = T → sOk K s → cY s ≤ 50 → aOk (kN K) j A → (nH A = -1 → cS s = 0) → Out σ τ 131 169 → SC τ K s → AC τ A → (∀ υ : Sg, Out σ υ 131 169 → SC υ K (rnG K fk fn d j s A).2.1 → AC υ (rnG K fk fn d j s A).2.2 → Q (some (vI (rnG K fk fn d j s A).1)) υ) → Ev X 1 43 [some (vR (some 161)), none, some (vR (some q)), none, some (vI T), some (vI j)] [] τ Q := by
  intro d
  induction d with
  | zero =>
    intro j s A τ hj ok hy a hS f S hA k
    refine v_1_43 hq ⟨by omega, by omega, fun _ => ?_, fun e => absurd (by omega) e⟩
    have := k τ f S hA
    unfold rnG at this
    rw [← show j = T by omega]; exact this
  | succ d ih =>
    intro j s A τ hj ok hy a hS f S hA k
    have v := hv j (by omega)
    obtain ⟨D1, D2⟩ := hD j (by omega)
    have t1 : τ.2 (q + 1) j = fk j := by rw [(f (q + 1) (by omega)).2]; exact D1
    have t2 : τ.2 (q + 2) j = fn j := by rw [(f (q + 2) (by omega)).2]; exact D2
    unfold rnG at k
    refine v_1_43 hq ⟨by omega, by omega, fun e => absurd e (by omega), fun _ => ⟨by omega, ?_⟩⟩
    rw [Int.toNat_natCast, t1, t2]
    refine c_act ok hy S v (fun s' hd υ f2 S2 h7 => ⟨by omega, fun _ => ?_, fun e => absurd (by omega) e⟩) (fun hd => ⟨by omega, fun e => absurd rfl e, fun _ => ?_⟩)
    · have u1 : υ.2 (q + 1) j = fk j := by rw [(f2 (q + 1) (by omega)).2]; exact t1
      have u2 : υ.2 (q + 2) j = fn j := by rw [(f2 (q + 2) (by omega)).2]; exact t2
      obtain ⟨ok', hy'⟩ := dO_ok ok hy v hd
      obtain ⟨d0, d1, d2⟩ := dO_cS hd
      have ys := sYear_cS ok
      have sr := ok.2.2.2.2.2.2
      rw [u1, u2]
      refine c_note ok hy v hd S2 h7 (hA.out f2) a hS (by omega) (fun ω f3 hA2 => ih (j + 1) s' _ ω (by omega) ok' hy' (aUp_ok ok hy hd a (by omega) (by omega)) ?_ (f.trans (f2.c.trans (f3.wide (by omega) (by omega)))) (S2.out f3 (by omega)) hA2 (fun z z1 z2 z3 => ?_))
      · show (if fk j = 0 ∧ nH A = -1 ∧ cS s < cS s' then ((j : Nat) : Int) else nH A) = -1 → cS s' = 0
        intro e
        by_cases c : fk j = 0 ∧ nH A = -1 ∧ cS s < cS s'
        · rw [if_pos c] at e; omega
        · rw [if_neg c] at e
          have h0 := hS e
          rcases Decidable.em (fk j = 0) with w0 | w0
          · have := d0 w0
            rw [← this] at ys
            omega
          · rw [d1 w0]; exact h0
      · rw [hd] at k; exact k z z1 z2 z3
    · rw [hd] at k; exact k τ f S hA
theorem c_run {X : PX} {σ : Sg} {p q N sz : Nat} {K : Kz} {s : Cs} {fk fn : Nat → Int} {P : Int → Sg → Prop} (hp : p ∈ parL) (hp2 : p < 147) (hq : q ∈ paiL) (hq2 : q + 2 < 131) (ok : sOk K s) (nw : sNew s) (h : RP σ p K s) (hz : sz ≤ 40) (h0 : σ.1 q 0 = sz) (hN : N ≤ sz) (hv : ∀ i : Nat, i < N → dV (fk i) (fn i)) (hD : ∀ i : Nat, i < N → σ.2 (q + 1) i = fk i ∧ σ.2 (q + 2) i = fn i)
    (k : ∀ υ : Sg, Out σ υ 131 169 → SC υ K (rnG K fk fn N 0 s (A0 K s)).2.1 → AC υ (rnG K fk fn N 0 s (A0 K s)).2.2 → P (rnG K fk fn N 0 s (A0 K s)).1 υ) : CI X 1 [vR (some 161), vR (some p), vR (some q), vI N] σ P := by
  have e2 := ok.e7.2.1
  have pl := popc_le (zE K s) 12
  refine v_1 hp hq (c_begin hp hp2 ok nw h (fun τ f S => ?_))
  rw [S.2.1]
  refine c_bitc (by omega) ?_
  have lp : ∀ (d i : Nat) (υ : Sg), i + d = 7 → Out σ υ 131 169 → SC υ K s → υ.1 161 2 = 0 → υ.1 161 3 = -1 → υ.1 161 4 = (popc (zE K s) 12 : Int) → υ.1 161 5 = -1 → (∀ h : Nat, h < i → υ.2 162 h = 0) → Ev X 1 24 [some (vR (some 161)), none, some (vR (some q)), some (vI N), some (vI i), none] [] υ (fun v τ => ∃ x, v = some (vI x) ∧ P x τ) := by
    intro d
    induction d with
    | zero =>
      intro i υ hi f S u2 u3 u4 u5 uB
      have z0 : υ.1 q 0 = sz := by rw [(f q (by omega)).1]; exact h0
      refine v_1_24 hq ?_
      rw [z0, show min (sz : Int) 40 = sz by omega, show min (N : Int) (sz : Int) = N by omega]
      refine ⟨by omega, fun _ => ⟨by omega, by omega, by omega, c_run43 (σ := σ) hq hq2 (by omega) hv hD N 0 s (A0 K s) υ (by omega) ok (by have := nw.2.1; omega) (A0_ok K s _) (fun _ => nw.2.2.2) f S ⟨u2, u3, u4, u5, fun e => absurd rfl e, fun h hh => uB h (by omega)⟩ (fun z z1 z2 z3 => ⟨_, rfl, k z z1 z2 z3⟩)⟩, fun e => absurd (by omega) e⟩
    | succ d ih =>
      intro i υ hi f S u2 u3 u4 u5 uB
      refine v_1_24 hq ⟨by omega, fun e => absurd e (by omega), fun _ => ⟨by omega, ?_⟩⟩
      rw [Int.toNat_natCast]
      have fo : Out υ (υ.1, up2 υ.2 162 i 0) 161 162 := fun c hc => ⟨rfl, by dsimp only; rw [up2_ne _ _ _ (by omega)]⟩
      refine ih (i + 1) _ (by omega) (f.trans (fo.wide (by omega) (by omega))) (S.out fo (by omega)) u2 u3 u4 u5 (fun h hh => ?_)
      dsimp only; rw [up2_if]
      by_cases c : h = i
      · rw [if_pos c]
      · rw [if_neg c]; exact uB h (by omega)
  have fo : Out τ (up2 (up2 (up2 (up2 (up2 τ.1 161 2 0) 161 3 (-1)) 161 4 (popc (zE K s) 12 : Int)) 161 5 (-1)) 161 6 0, τ.2) 161 162 := fun c hc => ⟨by dsimp only; simp only [up2_ne _ _ _ (show c ≠ 161 by omega)], rfl⟩
  refine lp 7 0 _ (by omega) (f.c.trans (fo.wide (by omega) (by omega))) (S.out fo (by omega)) ?_ ?_ ?_ ?_ (fun h hh => absurd hh (by omega))
  · dsimp only; simp only [up2_if, Nat.reduceEqDiff, reduceIte]
  · dsimp only; simp only [up2_if, Nat.reduceEqDiff, reduceIte]
  · dsimp only; simp only [up2_if, Nat.reduceEqDiff, reduceIte]
  · dsimp only; simp only [up2_if, Nat.reduceEqDiff, reduceIte]
/-! the reference -/
theorem m_does1 {X : PX} {σ : Sg} {o : Nat} {K : Kz} {s : Cs} {w n : Int} {A : An} {j : Nat} {P : Int → Sg → Prop} (ok : sOk K s) (hy : cY s ≤ 50) (S : SM σ o K s) (hA : AM σ A) (a : aOk (kN K) j A) (v : dV w n) (q1 : ∀ s' : Cs, dO K s w n = some s' → ∀ τ : Sg, FD σ τ → SM τ o K s' → AM τ (aUp K s s' w n (σ.1 170 22) A) → P 1 τ) (q0 : dO K s w n = none → P 0 σ) : CI X 258 [vR (some 170), vI w, vI n] σ P := by
  refine v_258 (m_does ok hy S hA a v (fun s' hd τ f Sp hA2 => ⟨by omega, fun _ => ?_, fun e => absurd (by omega) e⟩) (fun hd => ⟨by omega, fun e => absurd rfl e, fun _ => ⟨_, rfl, q0 hd⟩⟩))
  obtain ⟨ok', hy'⟩ := dO_ok ok hy v hd
  have e2 := ok'.e7.2.1
  have pl := popc_le (zE K s') 12
  refine m_sh ok' Sp (fun υ u1 u2 u3 u4 => ?_)
  have u18 : υ.1 170 18 = zE K s' := u4.2.1
  have hA3 : AM υ (aMd K s s' w n (σ.1 170 22) A) := hA2.mv (fun i h1 h2 => u2 i (by omega)) (u1.1.2.2 181 (by omega) (by omega) (by omega))
  have u37 : υ.1 170 37 = nP A := hA3.2.2.1
  have a3 := a.2.2.1
  have fin : ∀ x : Int, x = max (nP A) (popc (zE K s') 12 : Int) → P 1 (up2 υ.1 170 37 x, υ.2) := fun x hx => by
    refine q1 s' hd _ (f.trans (u1.fd.trans ⟨fa_170 _ _, fun i hi => ?_⟩)) (u4.mv (fun i h1 h2 => ?_) rfl rfl rfl) ?_
    · dsimp only; rw [up2_if, if_neg (by omega)]
    · dsimp only; rw [up2_if, if_neg (by omega)]
    · obtain ⟨b1, b2, b3, b4, b5, b6⟩ := hA3
      refine ⟨?_, ?_, ?_, ?_, ?_, b6⟩
      · dsimp only; rw [up2_if, if_neg (by omega)]; exact b1
      · dsimp only; rw [up2_if, if_neg (by omega)]; exact b2
      · dsimp only; rw [up2_get, hx]; rfl
      · dsimp only; rw [up2_if, if_neg (by omega)]; exact b4
      · dsimp only; rw [up2_if, if_neg (by omega)]; exact b5
  rw [u18]
  refine m_bits (by omega) ?_
  rw [u37, u18]
  exact ⟨by omega, by omega, fun c => ⟨_, rfl, fin _ (by omega)⟩, fun c => m_bits (by omega) ⟨_, rfl, fin _ (by omega)⟩⟩
theorem m_begY {X : PX} {σ : Sg} {o : Nat} {K : Kz} {s : Cs} {P : Sg → Prop} (ok : sOk K s) (S : SM σ o K s) (k : ∀ τ : Sg, FD σ τ → SM τ o K s → AM τ (A0 K s) → P τ) : CV X 251 [vR (some 170)] σ P := by
  have e2 := ok.e7.2.1
  refine v_251 ?_
  rw [S.2.1]
  refine m_bits (by omega) ?_
  have lp : ∀ (d i : Nat) (τ : Sg), i + d = 7 → FD σ τ → SM τ o K s → τ.1 170 35 = 0 → τ.1 170 36 = -1 → τ.1 170 37 = (popc (zE K s) 12 : Int) → τ.1 170 38 = -1 → τ.1 170 39 = 99999999 → (∀ h : Nat, h < i → τ.2 181 h = 0) → Ev X 251 19 [some (vR (some 170)), some (vI i)] [] τ (fun v τ => v = none ∧ P τ) := by
    intro d
    induction d with
    | zero =>
      intro i τ hi f S t1 t2 t3 t4 t5 tB
      exact v_251_19 ⟨by omega, fun _ => ⟨rfl, k τ f S ⟨t1, t2, t3, t4, t5, fun h hh => tB h (by omega)⟩⟩, fun e => absurd (by omega) e⟩
    | succ d ih =>
      intro i τ hi f S t1 t2 t3 t4 t5 tB
      refine v_251_19 ⟨by omega, fun e => absurd e (by omega), fun _ => ⟨by omega, ?_⟩⟩
      rw [Int.toNat_natCast]
      refine ih (i + 1) _ (by omega) (f.trans ⟨⟨fun _ _ => rfl, fun c hc => ?_⟩, fun _ _ => rfl⟩) (S.mv (fun _ _ _ => rfl) ?_ ?_ ?_) t1 t2 t3 t4 t5 (fun h hh => ?_)
      · dsimp only; rw [up2_ne _ _ _ (by omega)]
      · dsimp only; rw [up2_ne _ _ _ (by omega)]
      · dsimp only; rw [up2_ne _ _ _ (by omega)]
      · dsimp only; rw [up2_ne _ _ _ (by omega)]
      · dsimp only; rw [up2_if]
        by_cases c : h = i
        · rw [if_pos c]
        · rw [if_neg c]; exact tB h (by omega)
  have f2 : ∀ j : Nat, (up2 (up2 (up2 (up2 (up2 σ.1 170 35 0) 170 36 (-1)) 170 37 (popc (zE K s) 12 : Int)) 170 38 (-1)) 170 39 99999999) 170 j = if j = 39 then 99999999 else if j = 38 then -1 else if j = 37 then (popc (zE K s) 12 : Int) else if j = 36 then -1 else if j = 35 then 0 else σ.1 170 j := fun j => by simp only [up2_if]
  refine lp 7 0 _ (by omega) ⟨⟨fun c hc => ?_, fun _ _ => rfl⟩, fun j hj => ?_⟩ (S.mv (fun j h1 h2 => ?_) rfl rfl rfl) ?_ ?_ ?_ ?_ ?_ (fun h hh => absurd hh (by omega))
  · dsimp only; simp only [up2_ne _ _ _ hc]
  · dsimp only; rw [f2, if_neg (by omega), if_neg (by omega), if_neg (by omega), if_neg (by omega), if_neg (by omega)]
  · dsimp only; rw [f2, if_neg (by omega), if_neg (by omega), if_neg (by omega), if_neg (by omega), if_neg (by omega)]
  · dsimp only; rw [f2]; rfl
  · dsimp only; rw [f2]; rfl
  · dsimp only; rw [f2]; rfl
  · dsimp only; rw [f2]; rfl
  · dsimp only; rw [f2]; rfl
theorem m_runs {X : PX} {σ : Sg} {o od sz N : Nat} {K : Kz} {s : Cs} {fk fn : Nat → Int} {x : Int} {P : Sg → Prop} (ok : sOk K s) (nw : sNew s) (S : SM σ o K s) (h22 : σ.1 170 22 = 0) (h34 : σ.1 170 34 = od) (hod : od + 81 ≤ 904) (hz : sz ≤ 40) (h0 : σ.2 171 od = sz) (hx : InR x) (hN : (N : Int) = min x sz) (hv : ∀ i : Nat, i < N → dV (fk i) (fn i)) (hD : ∀ i : Nat, i < N → σ.2 171 (od + 1 + 2 * i) = fk i ∧ σ.2 171 (od + 2 + 2 * i) = fn i)
    (k : ∀ υ : Sg, FA σ υ → υ.1 170 22 = (rnG K fk fn N 0 s (A0 K s)).1 → SM υ o K (rnG K fk fn N 0 s (A0 K s)).2.1 → AM υ (rnG K fk fn N 0 s (A0 K s)).2.2 → P υ) : CV X 259 [vR (some 170), vI x] σ P := by
  refine v_259 (m_begY ok S (fun τ f S2 hA => ?_))
  have lp : ∀ (d j : Nat) (s : Cs) (A : An) (τ : Sg), j + d = N → sOk K s → cY s ≤ 50 → aOk (kN K) j A → FA σ τ → τ.1 170 34 = od → τ.1 170 22 = j → SM τ o K s → AM τ A → (∀ υ : Sg, FA σ υ → υ.1 170 22 = (rnG K fk fn d j s A).1 → SM υ o K (rnG K fk fn d j s A).2.1 → AM υ (rnG K fk fn d j s A).2.2 → P υ) → Ev X 259 2 [some (vR (some 170)), some (vI x)] [] τ (fun v τ => v = none ∧ P τ) := by
    intro d
    induction d with
    | zero =>
      intro j s A τ hj ok hy a f t34 t22 S hA k
      have z0 : τ.2 171 od = sz := by rw [f.2 171 (by omega)]; exact h0
      have := k τ f t22 S hA
      refine v_259_2 ?_
      rw [t22, t34, Int.toNat_natCast, z0]
      exact ⟨by omega, hx, fun _ => ⟨rfl, this⟩, fun e => ⟨by omega, by omega, fun _ => ⟨rfl, this⟩, fun e2 => absurd (by omega) e2⟩⟩
    | succ d ih =>
      intro j s A τ hj ok hy a f t34 t22 S hA k
      have z0 : τ.2 171 od = sz := by rw [f.2 171 (by omega)]; exact h0
      obtain ⟨D1, D2⟩ := hD j (by omega)
      have v := hv j (by omega)
      unfold rnG at k
      refine v_259_2 ?_
      rw [t22, t34, Int.toNat_natCast, z0, show ((od : Int) + 1 + 2 * (j : Int)).toNat = od + 1 + 2 * j by omega, show ((od : Int) + 2 + 2 * (j : Int)).toNat = od + 2 + 2 * j by omega, f.2 171 (by omega), D1, D2]
      refine ⟨by omega, hx, fun e => absurd e (by omega), fun _ => ⟨by omega, by omega, fun e => absurd e (by omega), fun _ => ⟨by omega, by omega, m_does1 ok hy S hA a v (fun s' hd υ f2 S2 hA2 => ⟨by omega, fun e => absurd e (by omega), fun _ => ?_⟩) (fun hd => ⟨by omega, fun _ => ⟨rfl, ?_⟩, fun e => absurd rfl e⟩)⟩⟩⟩
      · obtain ⟨ok', hy'⟩ := dO_ok ok hy v hd
        rw [t22] at hA2
        refine ih (j + 1) s' _ _ (by omega) ok' hy' (aUp_ok ok hy hd a (by omega) (by omega)) (f.trans (f2.1.trans (fa_170 _ _))) ?_ ?_ (S2.mv (fun i h1 h2 => ?_) rfl rfl rfl) (hA2.mv (fun i h1 h2 => ?_) rfl) (fun z z1 z2 z3 z4 => ?_)
        · dsimp only; rw [up2_if, if_neg (by omega), f2.2 34 (by omega)]; exact t34
        · dsimp only; rw [up2_get, f2.2 22 (by omega), t22]; rfl
        · dsimp only; rw [up2_if, if_neg (by omega)]
        · dsimp only; rw [up2_if, if_neg (by omega)]
        · rw [hd] at k; exact k z z1 z2 z3 z4
      · rw [hd] at k; exact k τ f t22 S hA
  exact lp N 0 s (A0 K s) τ (by omega) ok (by have := nw.2.1; omega) (A0_ok K s _) f.1 (by rw [f.2 34 (by omega)]; exact h34) (by rw [f.2 22 (by omega)]; exact h22) S2 hA k
