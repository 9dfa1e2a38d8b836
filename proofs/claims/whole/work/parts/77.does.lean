theorem m_does {X : PX} {σ : Sg} {o : Nat} {K : Kz} {s : Cs} {w n : Int} {A : An} {j : Nat} {P : Int → Sg → Prop} (ok : sOk K s) (hy : cY s ≤ 50) (S : SM σ o K s) (hA : AM σ A) (a : aOk (kN K) j A) (v : dV w n) (q1 : ∀ s' : Cs, dO K s w n = some s' → ∀ τ : Sg, FD σ τ → SMp τ o K s' → AM τ (aMd K s s' w n (σ.1 170 22) A) → P 1 τ) (q0 : dO K s w n = none → P 0 σ) : CI X 257 [vR (some 170), vI w, vI n] σ P := by
  obtain ⟨e1, e2, n7, e4⟩ := ok.e7
  obtain ⟨⟨hx, a14, a15, a16, a17, a19, a20, a21, ag⟩, a18, at'⟩ := id S
  obtain ⟨v1, v2, v3, v4, v5, v6, v7⟩ := v
  obtain ⟨m35, m36, m37, m38, m39, mB⟩ := id hA
  obtain ⟨c1, c2, c3, c4, c5, c6, c7⟩ := id a
  have ho := ok.2.2.2.1
  have hcc := ok.2.2.2.2.1
  have g10 := ok.1.1
  have yr := ok.2.2.2.2.2.2.1
  have sr := ok.2.2.2.2.2.2.2.2
  have qr := ok.2.1
  have pr := ok.2.2.1
  have yp := yPd_rng ok
  unfold dO at q1 q0
  refine v_257 ⟨by omega, fun c => ?_, fun c => ?_, fun c => ?_, fun c => ⟨fun e => absurd c e, fun _ => ?_⟩, fun c => ⟨fun _ => ?_, fun e => absurd (by omega) e⟩, fun c => ?_⟩
  · rw [if_pos c] at q1 q0
    refine v_252 ?_
    rw [a19]
    refine ⟨by omega, fun d => m_year ok S (by omega) (fun τ f S2 u23 u24 => ?_), fun d => ⟨_, rfl, by omega, _, rfl, q0 (if_neg d)⟩⟩
    have oky := sYear_ok ok (show cY s < 60 by omega)
    have sr2 := oky.2.2.2.2.2.2
    have t21 : τ.1 170 21 = cS (sYear K s) := S2.1.2.2.2.2.2.2.2.1
    have t19 : τ.1 170 19 = cY s + 1 := S2.1.2.2.2.2.2.1
    have t36 : τ.1 170 36 = nH A := by rw [f.1.2.1 36 (by omega)]; exact m36
    have t39 : τ.1 170 39 = nL A := by rw [f.1.2.1 39 (by omega)]; exact m39
    have t22 : τ.1 170 22 = σ.1 170 22 := f.2
    have yS : cY (sYear K s) = cY s + 1 := rfl
    rw [t21, a21, t36, u23, t39, t19, t22]
    have fin : ∀ g : Nat → Nat → Int, (∀ c : Nat, c ≠ 170 → g c = τ.1 c) → (∀ i : Nat, i ≠ 36 → i ≠ 38 → i ≠ 39 → g 170 i = τ.1 170 i) → g 170 36 = (if nH A = -1 ∧ cS s < cS (sYear K s) then σ.1 170 22 else nH A) → g 170 38 = (if yPd K s (kN K) < nL A then cY s + 1 else nY A) → g 170 39 = (if yPd K s (kN K) < nL A then yPd K s (kN K) else nL A) → P 1 (g, τ.2) := fun g g1 g2 g36 g38 g39 => by
      refine q1 _ (if_pos d) (g, τ.2) (f.fd.trans (fd_f g1 (fun i hi => g2 i (by omega) (by omega) (by omega)))) (S2.1.mv (fun i h1 h2 => g2 i (by omega) (by omega) (by omega)) rfl rfl) ⟨?_, ?_, ?_, ?_, ?_, ?_⟩
      · show g 170 35 = if w = 1 then nS A + cP s else nS A
        rw [if_neg (by omega), g2 35 (by omega) (by omega) (by omega), f.1.2.1 35 (by omega)]; exact m35
      · show g 170 36 = if w = 0 ∧ nH A = -1 ∧ cS s < cS (sYear K s) then σ.1 170 22 else nH A
        rw [g36]
        by_cases z : nH A = -1 ∧ cS s < cS (sYear K s)
        · rw [if_pos z, if_pos ⟨c, z⟩]
        · rw [if_neg z, if_neg (fun x => z x.2)]
      · show g 170 37 = nP A
        rw [g2 37 (by omega) (by omega) (by omega), f.1.2.1 37 (by omega)]; exact m37
      · show g 170 38 = if w = 0 ∧ yPd K s (kN K) < nL A then cY s + 1 else nY A
        rw [g38]
        by_cases z : yPd K s (kN K) < nL A
        · rw [if_pos z, if_pos ⟨c, z⟩]
        · rw [if_neg z, if_neg (fun x => z x.2)]
      · show g 170 39 = if w = 0 ∧ yPd K s (kN K) < nL A then yPd K s (kN K) else nL A
        rw [g39]
        by_cases z : yPd K s (kN K) < nL A
        · rw [if_pos z, if_pos ⟨c, z⟩]
        · rw [if_neg z, if_neg (fun x => z x.2)]
      · show ∀ h : Nat, h < 7 → τ.2 181 h = (if w = 1 then up (nB A) n.toNat (nB A n.toNat + 1) else nB A) h
        rw [if_neg (by omega), f.1.2.2 181 (by omega) (by omega) (by omega)]; exact mB
    have b38 : τ.1 170 38 = nY A := by rw [f.1.2.1 38 (by omega)]; exact m38
    refine ⟨by omega, by omega, fun x => ⟨by omega, by omega, fun y => ⟨_, rfl, by omega, _, rfl, ?_⟩, fun y => ⟨_, rfl, by omega, _, rfl, ?_⟩⟩, fun x => ⟨by omega, fun z => ⟨by omega, by omega, fun y => ⟨_, rfl, by omega, _, rfl, ?_⟩, fun y => ⟨_, rfl, by omega, _, rfl, ?_⟩⟩, fun z => ⟨by omega, by omega, fun y => ⟨_, rfl, by omega, _, rfl, ?_⟩, fun y => ⟨_, rfl, by omega, _, rfl, ?_⟩⟩⟩⟩
    · refine fin τ.1 (fun _ _ => rfl) (fun _ _ _ _ => rfl) ?_ ?_ ?_
      · rw [if_neg (by omega)]; exact t36
      · rw [if_neg (by omega)]; exact b38
      · rw [if_neg (by omega)]; exact t39
    · refine fin _ (fun c hc => by simp only [up2_ne _ _ _ hc]) (fun i i1 i2 i3 => by simp only [up2_if, if_neg i2, if_neg i3]) ?_ ?_ ?_
      · simp only [up2_if, Nat.reduceEqDiff, reduceIte]; rw [if_neg (by omega)]; exact t36
      · simp only [up2_if, Nat.reduceEqDiff, reduceIte]; rw [if_pos (by omega)]
      · simp only [up2_if, Nat.reduceEqDiff, reduceIte]; rw [if_pos (by omega)]
    · refine fin τ.1 (fun _ _ => rfl) (fun _ _ _ _ => rfl) ?_ ?_ ?_
      · rw [if_neg (by omega)]; exact t36
      · rw [if_neg (by omega)]; exact b38
      · rw [if_neg (by omega)]; exact t39
    · refine fin _ (fun c hc => by simp only [up2_ne _ _ _ hc]) (fun i i1 i2 i3 => by simp only [up2_if, if_neg i2, if_neg i3]) ?_ ?_ ?_
      · simp only [up2_if, Nat.reduceEqDiff, reduceIte]; rw [if_neg (by omega)]; exact t36
      · simp only [up2_if, Nat.reduceEqDiff, reduceIte]; rw [if_pos (by omega)]
      · simp only [up2_if, Nat.reduceEqDiff, reduceIte]; rw [if_pos (by omega)]
    · refine fin _ (fun c hc => by simp only [up2_ne _ _ _ hc]) (fun i i1 i2 i3 => by simp only [up2_if, if_neg i1]) ?_ ?_ ?_
      · simp only [up2_if, Nat.reduceEqDiff, reduceIte]; rw [if_pos (by omega)]
      · simp only [up2_if, Nat.reduceEqDiff, reduceIte]; rw [if_neg (by omega)]; exact b38
      · simp only [up2_if, Nat.reduceEqDiff, reduceIte]; rw [if_neg (by omega)]; exact t39
    · refine fin _ (fun c hc => by simp only [up2_ne _ _ _ hc]) (fun i i1 i2 i3 => by simp only [up2_if, if_neg i1, if_neg i2, if_neg i3]) ?_ ?_ ?_
      · simp only [up2_if, Nat.reduceEqDiff, reduceIte]; rw [if_pos (by omega)]
      · simp only [up2_if, Nat.reduceEqDiff, reduceIte]; rw [if_pos (by omega)]
      · simp only [up2_if, Nat.reduceEqDiff, reduceIte]; rw [if_pos (by omega)]
  · rw [if_neg (by omega), if_pos c] at q1 q0
    refine v_253 (m_isH hx.2.1 n7 (by omega) ?_)
    by_cases d : 0 ≤ n ∧ n < kN K
    · rw [if_pos d]
      obtain ⟨h, hn⟩ := Int.eq_ofNat_of_zero_le d.1
      rw [hn] at q1 q0 ⊢
      rw [Int.toNat_natCast] at q1 q0
      refine ⟨by omega, fun e => absurd e (by omega), fun _ => m_canBuy ok S.1 (by omega) ?_⟩
      by_cases b : bOk s h = true
      · rw [if_pos b, m35, a15, Int.toNat_natCast, mB h (by omega)]
        refine ⟨by omega, fun _ => ⟨by omega, m_buyN (s := s) ok (S.1.mv (fun i h1 h2 => ?_) ?_ ?_) (by omega) b (fun τ f S2 => ⟨_, rfl, by omega, _, rfl, q1 _ (if_pos ⟨by omega, b⟩) τ (FD.trans (τ := (up2 σ.1 170 35 (nS A + cP s), up2 σ.2 181 h (nB A h + 1))) ⟨⟨fun c hc => ?_, fun c hc => ?_⟩, fun i hi => ?_⟩ f.fd) S2.1 ⟨?_, ?_, ?_, ?_, ?_, fun i hi => ?_⟩⟩)⟩, fun e => absurd (by omega) e⟩
        · dsimp only; rw [up2_if, if_neg (by omega)]
        · dsimp only; rw [up2_ne _ _ _ (by omega)]
        · dsimp only; rw [up2_ne _ _ _ (by omega)]
        · dsimp only; rw [up2_ne _ _ _ hc]
        · dsimp only; rw [up2_ne _ _ _ (by omega)]
        · dsimp only; rw [up2_if, if_neg (by omega)]
        · show τ.1 170 35 = if w = 1 then nS A + cP s else nS A
          rw [if_pos c, f.1.2.1 35 (by omega)]; dsimp only; rw [up2_get]
        · show τ.1 170 36 = if w = 0 ∧ nH A = -1 ∧ cS s < cS (sBuy s h) then σ.1 170 22 else nH A
          rw [if_neg (by omega), f.1.2.1 36 (by omega)]; dsimp only; rw [up2_if, if_neg (by omega)]; exact m36
        · show τ.1 170 37 = nP A
          rw [f.1.2.1 37 (by omega)]; dsimp only; rw [up2_if, if_neg (by omega)]; exact m37
        · show τ.1 170 38 = if w = 0 ∧ yPd K s (kN K) < nL A then cY s + 1 else nY A
          rw [if_neg (by omega), f.1.2.1 38 (by omega)]; dsimp only; rw [up2_if, if_neg (by omega)]; exact m38
        · show τ.1 170 39 = if w = 0 ∧ yPd K s (kN K) < nL A then yPd K s (kN K) else nL A
          rw [if_neg (by omega), f.1.2.1 39 (by omega)]; dsimp only; rw [up2_if, if_neg (by omega)]; exact m39
        · show τ.2 181 i = (if w = 1 then up (nB A) (h : Int).toNat (nB A (h : Int).toNat + 1) else nB A) i
          rw [if_pos c, Int.toNat_natCast, f.1.2.2 181 (by omega) (by omega) (by omega)]; dsimp only; rw [up2_if]
          by_cases e : i = h
          · rw [if_pos e, e, up_same]
          · rw [if_neg e, up_ne _ _ e]; exact mB i hi
      · rw [if_neg b]
        exact ⟨by omega, fun e => absurd rfl e, fun _ => ⟨_, rfl, by omega, _, rfl, q0 (if_neg (fun z => b z.2))⟩⟩
    · rw [if_neg d]
      exact ⟨by omega, fun _ => ⟨_, rfl, by omega, _, rfl, q0 (if_neg (fun z => d z.1))⟩, fun e => absurd rfl e⟩
  all_goals
    have md : ∀ (s' : Cs) (g : Nat → Nat → Int), w ≠ 0 → w ≠ 1 → (∀ i : Nat, i ≠ 14 → i ≠ 15 → i ≠ 16 → i ≠ 17 → g 170 i = σ.1 170 i) → AM (g, σ.2) (aMd K s s' w n (σ.1 170 22) A) := fun s' g w0 w1 hg => by
      refine ⟨?_, ?_, ?_, ?_, ?_, ?_⟩
      · show g 170 35 = if w = 1 then nS A + cP s else nS A
        rw [if_neg w1, hg 35 (by omega) (by omega) (by omega) (by omega)]; exact m35
      · show g 170 36 = if w = 0 ∧ nH A = -1 ∧ cS s < cS s' then σ.1 170 22 else nH A
        rw [if_neg (fun x => w0 x.1), hg 36 (by omega) (by omega) (by omega) (by omega)]; exact m36
      · show g 170 37 = nP A
        rw [hg 37 (by omega) (by omega) (by omega) (by omega)]; exact m37
      · show g 170 38 = if w = 0 ∧ yPd K s (kN K) < nL A then cY s + 1 else nY A
        rw [if_neg (fun x => w0 x.1), hg 38 (by omega) (by omega) (by omega) (by omega)]; exact m38
      · show g 170 39 = if w = 0 ∧ yPd K s (kN K) < nL A then yPd K s (kN K) else nL A
        rw [if_neg (fun x => w0 x.1), hg 39 (by omega) (by omega) (by omega) (by omega)]; exact m39
      · show ∀ h : Nat, h < 7 → σ.2 181 h = (if w = 1 then up (nB A) n.toNat (nB A n.toNat + 1) else nB A) h
        rw [if_neg w1]; exact mB
    have fdg : ∀ g : Nat → Nat → Int, (∀ c : Nat, c ≠ 170 → g c = σ.1 c) → (∀ i : Nat, i ≠ 14 → i ≠ 15 → i ≠ 16 → i ≠ 17 → g 170 i = σ.1 170 i) → FD σ (g, σ.2) := fun g g1 g2 => fd_f g1 (fun i hi => g2 i (by omega) (by omega) (by omega) (by omega))
    have sg : ∀ (s' : Cs) (g : Nat → Nat → Int), cG s' = cG s → cY s' = cY s → cD s' = cD s → cS s' = cS s → (∀ i : Nat, i ≠ 14 → i ≠ 15 → i ≠ 16 → i ≠ 17 → g 170 i = σ.1 170 i) → g 170 14 = cQ s' → g 170 15 = cP s' → g 170 16 = cO s' → g 170 17 = cC s' → SMp (g, σ.2) o K s' := fun s' g b1 b2 b3 b4 hg g14 g15 g16 g17 => by
      refine ⟨hx.mv (fun i hi => hg i (by omega) (by omega) (by omega) (by omega)) rfl, g14, g15, g16, g17, ?_, ?_, ?_, ?_⟩
      · dsimp only; rw [hg 19 (by omega) (by omega) (by omega) (by omega), b2]; exact a19
      · dsimp only; rw [hg 20 (by omega) (by omega) (by omega) (by omega), b3]; exact a20
      · dsimp only; rw [hg 21 (by omega) (by omega) (by omega) (by omega), b4]; exact a21
      · rw [b1]; exact ag
  · rw [if_neg (by omega), if_neg (by omega), if_pos c] at q1 q0
    refine v_254 (m_isH hx.2.1 n7 (by omega) ?_)
    by_cases d : 0 ≤ n ∧ n < kN K
    · rw [if_pos d]
      obtain ⟨h, hn⟩ := Int.eq_ofNat_of_zero_le d.1
      have bb := bit_0 (a := cO s) (k := h) (by omega) (by omega)
      rw [hn, Int.toNat_natCast] at q1 q0
      rw [hn] at md ⊢
      rw [a16, b_one (by omega), clr_eq h (by omega) (cO s) (by omega)]
      have hg : ∀ i : Nat, i ≠ 14 → i ≠ 15 → i ≠ 16 → i ≠ 17 → up2 σ.1 170 16 (clr (cO s) h : Int) 170 i = σ.1 170 i := fun i _ _ i3 _ => by rw [up2_if, if_neg i3]
      refine ⟨by omega, fun e => absurd e (by omega), fun _ => ⟨bit_rng (by omega) (by omega), fun x => ⟨_, rfl, by omega, _, rfl, q1 (sLose s h) (if_pos ⟨by omega, bb.mp x⟩) _ (fdg _ (fun c hc => up2_ne _ _ _ hc) hg) (sg (sLose s h) _ rfl rfl rfl rfl hg ?_ ?_ ?_ ?_) (md (sLose s h) _ (by omega) (by omega) hg)⟩, fun x => ⟨_, rfl, by omega, _, rfl, q0 (if_neg (fun z => x (bb.mpr z.2)))⟩⟩⟩
      all_goals simp only [up2_if, Nat.reduceEqDiff, reduceIte]
      · exact a14
      · exact a15
      · rfl
      · exact a17
    · rw [if_neg d]
      exact ⟨by omega, fun _ => ⟨_, rfl, by omega, _, rfl, q0 (if_neg (fun z => d z.1))⟩, fun e => absurd rfl e⟩
  · rw [if_neg (by omega), if_neg (by omega), if_neg (by omega), if_pos c] at q1 q0
    have hg : ∀ i : Nat, i ≠ 14 → i ≠ 15 → i ≠ 16 → i ≠ 17 → up2 (up2 σ.1 170 14 n) 170 15 (cP s) 170 i = σ.1 170 i := fun i i1 i2 _ _ => by rw [up2_if, if_neg i2, up2_if, if_neg i1]
    refine v_255 ?_
    rw [a14, a15]
    refine ⟨by omega, fun e => absurd e (by omega), fun _ => ⟨by have := qr.2.1; have := qr.2.2.1; omega, by omega, fun d => ⟨fun e => absurd e (by omega), fun _ => ⟨fun e => absurd e (by omega), fun _ => ⟨_, rfl, by omega, _, rfl, q1 (sQ s n) (if_pos (Ne.symm d)) _ (fdg _ (fun c hc => by simp only [up2_ne _ _ _ hc]) hg) (sg (sQ s n) _ rfl rfl rfl rfl hg ?_ ?_ ?_ ?_) (md (sQ s n) _ (by omega) (by omega) hg)⟩⟩⟩, fun d => ⟨_, rfl, by omega, _, rfl, q0 (if_neg (fun z => d (Ne.symm z)))⟩⟩⟩
    all_goals simp only [up2_if, Nat.reduceEqDiff, reduceIte]
    · rfl
    · rfl
    · exact a16
    · exact a17
  · rw [if_neg (by omega), if_neg (by omega), if_neg (by omega), if_neg (by omega), if_pos c] at q1 q0
    have hg : ∀ i : Nat, i ≠ 14 → i ≠ 15 → i ≠ 16 → i ≠ 17 → up2 (up2 σ.1 170 14 (cQ s)) 170 15 n 170 i = σ.1 170 i := fun i i1 i2 _ _ => by rw [up2_if, if_neg i2, up2_if, if_neg i1]
    refine v_255 ?_
    rw [a14, a15]
    refine ⟨by omega, fun _ => ⟨by omega, by omega, fun d => ⟨fun _ => ⟨fun _ => ⟨_, rfl, by omega, _, rfl, q1 (sPr s n) (if_pos (Ne.symm d)) _ (fdg _ (fun c hc => by simp only [up2_ne _ _ _ hc]) hg) (sg (sPr s n) _ rfl rfl rfl rfl hg ?_ ?_ ?_ ?_) (md (sPr s n) _ (by omega) (by omega) hg)⟩, fun e => absurd rfl e⟩, fun e => absurd rfl e⟩, fun d => ⟨_, rfl, by omega, _, rfl, q0 (if_neg (fun z => d (Ne.symm z)))⟩⟩, fun e => absurd rfl e⟩
    all_goals simp only [up2_if, Nat.reduceEqDiff, reduceIte]
    · rfl
    · rfl
    · exact a16
    · exact a17
  · rw [if_neg (by omega), if_neg (by omega), if_neg (by omega), if_neg (by omega), if_neg (by omega)] at q1 q0
    obtain ⟨h, hn⟩ := Int.eq_ofNat_of_zero_le (v5 (by omega))
    have v7 := v7 (by omega)
    have h13 := hx.2.2.1
    rw [hn, Int.toNat_natCast] at q1 q0
    rw [hn] at md ⊢
    have bb := bit_1 (a := cC s) (k := h) (by omega) (by omega)
    have p10 : 2 ^ h < 2 ^ 10 := pow_lt_n (by omega)
    have hg : ∀ i : Nat, i ≠ 14 → i ≠ 15 → i ≠ 16 → i ≠ 17 → up2 σ.1 170 17 ((cC s ||| 2 ^ h : Nat) : Int) 170 i = σ.1 170 i := fun i _ _ _ i4 => by rw [up2_if, if_neg i4]
    have t1 : iAnd (iShr (cC s : Int) (h : Int)) 1 ≠ 1 → (cC s).testBit h = false := fun x => by
      rcases hx : (cC s).testBit h with _ | _
      · rfl
      · exact absurd (bb.mpr hx) x
    have t2 : ¬ iAnd (iShr (cC s : Int) (h : Int)) 1 ≠ 1 → ¬ (cC s).testBit h = false := fun x z => by
      have := bb.mp (by omega)
      rw [z] at this; cases this
    refine v_256 ?_
    rw [h13, a17, b_one (by omega), b_or (by omega) (by omega)]
    refine ⟨by omega, by omega, fun d => ⟨_, rfl, by omega, _, rfl, q0 (if_neg (fun z => by omega))⟩, fun d => ⟨bit_rng (by omega) (by omega), fun x => ⟨_, rfl, by omega, _, rfl, q1 (sCut s h) (if_pos ⟨by omega, t1 x⟩) _ (fdg _ (fun c hc => up2_ne _ _ _ hc) hg) (sg (sCut s h) _ rfl rfl rfl rfl hg ?_ ?_ ?_ ?_) (md (sCut s h) _ (by omega) (by omega) hg)⟩, fun x => ⟨_, rfl, by omega, _, rfl, q0 (if_neg (fun z => t2 x z.2))⟩⟩⟩
    · simp only [up2_if, Nat.reduceEqDiff, reduceIte]; exact a14
    · simp only [up2_if, Nat.reduceEqDiff, reduceIte]; exact a15
    · simp only [up2_if, Nat.reduceEqDiff, reduceIte]; exact a16
    · simp only [up2_if, Nat.reduceEqDiff, reduceIte]; rfl
