/-! the reference's deeds, and what is noted -/
abbrev An : Type := Int × Int × Int × Int × Int × (Nat → Int)
abbrev nS (A : An) : Int := A.1
abbrev nH (A : An) : Int := A.2.1
abbrev nP (A : An) : Int := A.2.2.1
abbrev nY (A : An) : Int := A.2.2.2.1
abbrev nL (A : An) : Int := A.2.2.2.2.1
abbrev nB (A : An) : Nat → Int := A.2.2.2.2.2
def aMd (K : Kz) (s s' : Cs) (w n k : Int) (A : An) : An := (if w = 1 then nS A + cP s else nS A, if w = 0 ∧ nH A = -1 ∧ cS s < cS s' then k else nH A, nP A, if w = 0 ∧ yPd K s (kN K) < nL A then cY s + 1 else nY A, if w = 0 ∧ yPd K s (kN K) < nL A then yPd K s (kN K) else nL A, if w = 1 then up (nB A) n.toNat (nB A n.toNat + 1) else nB A)
def aPk (A : An) (x : Int) : An := (nS A, nH A, max (nP A) x, nY A, nL A, nB A)
def aUp (K : Kz) (s s' : Cs) (w n k : Int) (A : An) : An := aPk (aMd K s s' w n k A) (popc (zE K s') 12)
def aOk (m j : Nat) (A : An) : Prop := (0 ≤ nS A ∧ nS A ≤ 100 * j) ∧ (-1 ≤ nH A ∧ nH A ≤ 60) ∧ (0 ≤ nP A ∧ nP A ≤ 12) ∧ (-1 ≤ nY A ∧ nY A ≤ 60) ∧ ((nY A = -1 ∧ nL A = 99999999) ∨ (nY A ≠ -1 ∧ 0 ≤ nL A ∧ nL A ≤ 693)) ∧ (∀ h : Nat, 0 ≤ nB A h ∧ nB A h ≤ j) ∧ (∀ h : Nat, m ≤ h → nB A h = 0)
theorem yPd_rng {K : Kz} {s : Cs} (ok : sOk K s) : 0 ≤ yPd K s (kN K) ∧ yPd K s (kN K) ≤ 693 := by
  have n7 := ok.e7.2.2.1
  have a1 := sm_nn (f := yPay K s) (kN K) (fun h hh => by have := yPay_rng ok hh; omega)
  have a2 := sm_le (f := yPay K s) (m := 99) (kN K) (fun h hh => by have := yPay_rng ok hh; omega)
  unfold yPd
  omega
theorem aUp_ok {K : Kz} {s s' : Cs} {w n k : Int} {A : An} {j : Nat} (ok : sOk K s) (hy : cY s ≤ 50) (hd : dO K s w n = some s') (a : aOk (kN K) j A) (k0 : 0 ≤ k) (k1 : k ≤ 60) : aOk (kN K) (j + 1) (aUp K s s' w n k A) := by
  obtain ⟨a1, a2, a3, a4, a5, a6, a7⟩ := a
  have yp := yPd_rng ok
  have yr := ok.2.2.2.2.2.2.1
  have pr := ok.2.2.1
  have pl := popc_le (zE K s') 12
  have nn : w = 1 → (0 ≤ n ∧ n < kN K) := fun e => by
    unfold dO at hd
    rw [if_neg (by omega), if_pos e] at hd
    by_cases d : (0 ≤ n ∧ n < kN K) ∧ bOk s n.toNat = true
    · exact d.1
    · rw [if_neg d] at hd; cases hd
  refine ⟨?_, ?_, ?_, ?_, ?_, fun h => ?_, fun h hh => ?_⟩
  · show 0 ≤ (if w = 1 then nS A + cP s else nS A) ∧ (if w = 1 then nS A + cP s else nS A) ≤ 100 * ((j + 1 : Nat) : Int)
    split <;> omega
  · show -1 ≤ (if w = 0 ∧ nH A = -1 ∧ cS s < cS s' then k else nH A) ∧ (if w = 0 ∧ nH A = -1 ∧ cS s < cS s' then k else nH A) ≤ 60
    split <;> omega
  · show 0 ≤ max (nP A) (popc (zE K s') 12 : Int) ∧ max (nP A) (popc (zE K s') 12 : Int) ≤ 12
    omega
  · show -1 ≤ (if w = 0 ∧ yPd K s (kN K) < nL A then cY s + 1 else nY A) ∧ (if w = 0 ∧ yPd K s (kN K) < nL A then cY s + 1 else nY A) ≤ 60
    split <;> omega
  · show ((if w = 0 ∧ yPd K s (kN K) < nL A then cY s + 1 else nY A) = -1 ∧ (if w = 0 ∧ yPd K s (kN K) < nL A then yPd K s (kN K) else nL A) = 99999999) ∨ ((if w = 0 ∧ yPd K s (kN K) < nL A then cY s + 1 else nY A) ≠ -1 ∧ 0 ≤ (if w = 0 ∧ yPd K s (kN K) < nL A then yPd K s (kN K) else nL A) ∧ (if w = 0 ∧ yPd K s (kN K) < nL A then yPd K s (kN K) else nL A) ≤ 693)
    by_cases c : w = 0 ∧ yPd K s (kN K) < nL A
    · rw [if_pos c, if_pos c]; right; omega
    · rw [if_neg c, if_neg c]; exact a5
  · show 0 ≤ (if w = 1 then up (nB A) n.toNat (nB A n.toNat + 1) else nB A) h ∧ (if w = 1 then up (nB A) n.toNat (nB A n.toNat + 1) else nB A) h ≤ ((j + 1 : Nat) : Int)
    have := a6 h
    have := a6 n.toNat
    by_cases c : w = 1
    · rw [if_pos c]
      by_cases d : h = n.toNat
      · rw [d, up_same]; omega
      · rw [up_ne _ _ d]; omega
    · rw [if_neg c]; omega
  · show (if w = 1 then up (nB A) n.toNat (nB A n.toNat + 1) else nB A) h = 0
    by_cases c : w = 1
    · have := nn c
      rw [if_pos c, up_ne _ _ (by omega)]; exact a7 h hh
    · rw [if_neg c]; exact a7 h hh
def AM (σ : Sg) (A : An) : Prop := σ.1 170 35 = nS A ∧ σ.1 170 36 = nH A ∧ σ.1 170 37 = nP A ∧ σ.1 170 38 = nY A ∧ σ.1 170 39 = nL A ∧ ∀ h : Nat, h < 7 → σ.2 181 h = nB A h
theorem AM.mv {σ τ : Sg} {A : An} (h : AM σ A) (f : ∀ j : Nat, 35 ≤ j → j ≤ 39 → τ.1 170 j = σ.1 170 j) (f2 : τ.2 181 = σ.2 181) : AM τ A := by
  unfold AM
  rw [f 35 (by omega) (by omega), f 36 (by omega) (by omega), f 37 (by omega) (by omega), f 38 (by omega) (by omega), f 39 (by omega) (by omega), f2]
  exact h
def FD (σ τ : Sg) : Prop := FA σ τ ∧ (∀ j : Nat, j < 14 ∨ j = 22 ∨ (24 < j ∧ j < 35) ∨ 39 < j → τ.1 170 j = σ.1 170 j)
theorem FD.rfl {σ : Sg} : FD σ σ := ⟨FA.rfl, fun _ _ => Eq.refl _⟩
theorem FD.trans {σ τ υ : Sg} (h : FD σ τ) (g : FD τ υ) : FD σ υ := ⟨h.1.trans g.1, fun j hj => (g.2 j hj).trans (h.2 j hj)⟩
theorem FM.fd {σ τ : Sg} (f : FM σ τ) : FD σ τ := ⟨f.fa, fun j hj => by
  rcases Decidable.em (j = 22) with e | e
  · rw [e]; exact f.2
  · exact f.1.2.1 j (by omega)⟩
theorem fd_f {σ : Sg} {f : Nat → Nat → Int} (h1 : ∀ c : Nat, c ≠ 170 → f c = σ.1 c) (h2 : ∀ j : Nat, j < 14 ∨ j = 22 ∨ (24 < j ∧ j < 35) ∨ 39 < j → f 170 j = σ.1 170 j) : FD σ (f, σ.2) := ⟨⟨h1, fun _ _ => Eq.refl _⟩, h2⟩
theorem SMp.mv {σ τ : Sg} {o : Nat} {K : Kz} {s : Cs} (h : SMp σ o K s) (f1 : ∀ j : Nat, 11 ≤ j → j ≤ 21 → τ.1 170 j = σ.1 170 j) (f2 : τ.2 171 = σ.2 171) (f3 : τ.2 174 = σ.2 174) : SMp τ o K s := by
  obtain ⟨hx, a14, a15, a16, a17, a19, a20, a21, ag⟩ := h
  refine ⟨hx.mv (fun j hj => f1 j (by omega) (by omega)) f2, ?_, ?_, ?_, ?_, ?_, ?_, ?_, ?_⟩
  · rw [f1 14 (by omega) (by omega)]; exact a14
  · rw [f1 15 (by omega) (by omega)]; exact a15
  · rw [f1 16 (by omega) (by omega)]; exact a16
  · rw [f1 17 (by omega) (by omega)]; exact a17
  · rw [f1 19 (by omega) (by omega)]; exact a19
  · rw [f1 20 (by omega) (by omega)]; exact a20
  · rw [f1 21 (by omega) (by omega)]; exact a21
  · rw [f3]; exact ag
theorem m_canBuy {X : PX} {σ : Sg} {o h : Nat} {K : Kz} {s : Cs} {P : Int → Sg → Prop} (ok : sOk K s) (S : SMp σ o K s) (hh : h < kN K) (q : P (if bOk s h then 1 else 0) σ) : CI X 203 [vR (some 170), vI h] σ P := by
  obtain ⟨e1, e2, n7, e4⟩ := ok.e7
  obtain ⟨hx, a14, a15, a16, a17, a19, a20, a21, ag⟩ := id S
  have ho := ok.2.2.2.1
  have hp := ok.2.2.1
  have bb := bit_0 (a := cO s) (k := h) (by omega) (by omega)
  have g := ok.2.1.2.2.2 h hh
  refine v_203 ?_
  rw [a16, a15, Int.toNat_natCast, ag h hh]
  refine ⟨bit_rng (by omega) (by omega), fun x => ⟨_, rfl, ?_⟩, fun x => ⟨by omega, by omega, by omega, fun y => ⟨_, rfl, ?_⟩, fun y => ⟨_, rfl, ?_⟩⟩⟩
  · rw [if_neg] at q
    · exact q
    · intro z; unfold bOk at z; rw [bb.mp x] at z; simp at z
  · rw [if_neg] at q
    · exact q
    · intro z; unfold bOk at z; simp at z; omega
  · rw [if_pos] at q
    · exact q
    · unfold bOk
      rcases hx : (cO s).testBit h with _ | _
      · simp; omega
      · exact absurd (bb.mpr hx) x
theorem m_buyN {X : PX} {σ : Sg} {o h : Nat} {K : Kz} {s : Cs} {P : Sg → Prop} (ok : sOk K s) (S : SMp σ o K s) (hh : h < kN K) (hb : bOk s h = true) (k : ∀ τ : Sg, FM σ τ → SM τ o K (sBuy s h) → P τ) : CV X 204 [vR (some 170), vI h] σ P := by
  obtain ⟨e1, e2, n7, e4⟩ := ok.e7
  obtain ⟨hx, a14, a15, a16, a17, a19, a20, a21, ag⟩ := id S
  have ho := ok.2.2.2.1
  have p7 : 2 ^ h < 2 ^ 7 := pow_lt_n (by omega)
  refine v_204 ⟨by omega, ?_⟩
  rw [a16, a15, Int.toNat_natCast, ag h hh, b_one (by omega), ior_n (by omega) (by omega)]
  refine m_sh (o := o) (K := K) (s := sBuy s h) (sBuy_ok ok hh hb) ⟨hx.mv (fun j hj => ?_) ?_, ?_, ?_, ?_, ?_, ?_, ?_, ?_, fun i hi => ?_⟩ (fun υ u1 u2 u3 u4 => ⟨rfl, k υ (FM.trans (τ := (up2 σ.1 170 16 ((cO s ||| 2 ^ h : Nat) : Int), up2 σ.2 174 h (cG s h - cP s))) ⟨⟨fun c hc => ?_, fun j hj => ?_, fun c h1 _ _ => ?_⟩, ?_⟩ u1) u4⟩)
  · dsimp only; rw [up2_if, if_neg (by omega)]
  · dsimp only; rw [up2_ne _ _ _ (by omega)]
  · dsimp only; simp only [up2_if, Nat.reduceEqDiff, reduceIte]; exact a14
  · dsimp only; simp only [up2_if, Nat.reduceEqDiff, reduceIte]; exact a15
  · dsimp only; simp only [up2_if, Nat.reduceEqDiff, reduceIte]; rfl
  · dsimp only; simp only [up2_if, Nat.reduceEqDiff, reduceIte]; exact a17
  · dsimp only; simp only [up2_if, Nat.reduceEqDiff, reduceIte]; exact a19
  · dsimp only; simp only [up2_if, Nat.reduceEqDiff, reduceIte]; exact a20
  · dsimp only; simp only [up2_if, Nat.reduceEqDiff, reduceIte]; exact a21
  · show up2 σ.2 174 h (cG s h - cP s) 174 i = up (cG s) h (cG s h - cP s) i
    rw [up2_if]
    by_cases c : i = h
    · rw [if_pos c, c, up_same]
    · rw [if_neg c, up_ne _ _ c]; exact ag i hi
  · dsimp only; rw [up2_ne _ _ _ hc]
  · dsimp only; rw [up2_if, if_neg (by omega)]
  · dsimp only; rw [up2_ne _ _ _ h1]
  · dsimp only; rw [up2_if, if_neg (by omega)]
