/-! copies of texts -/
theorem par_apart : ∀ p ∈ parL, ∀ q ∈ parL, p ≠ q → p + 12 ≤ q ∨ q + 12 ≤ p := by decide +kernel
theorem pai_apart : ∀ p ∈ paiL, ∀ q ∈ paiL, p ≠ q → p + 3 ≤ q ∨ q + 3 ≤ p := by decide +kernel
theorem up2_if (f : Nat → Nat → Int) (c j i : Nat) (x : Int) : up2 f c j x c i = if i = j then x else f c i := by rw [up2_at]; rfl
theorem upc_ne {A : Nat → Nat → Int} {s d sp dp w c : Nat} (h : c ≠ d) : upc A s d sp dp w c = A c := up_ne _ _ h
theorem upc_at (A : Nat → Nat → Int) (s d w i : Nat) : upc A s d 0 0 w d i = if i < w then A s i else A d i := by
  unfold upc
  rw [up_same]
  unfold cpy
  rw [Nat.zero_add, Nat.zero_add, Nat.sub_zero]
  by_cases h : i < w
  · rw [if_pos ⟨Nat.zero_le _, h⟩, if_pos h]
  · rw [if_neg (fun q => h q.2), if_neg h]
theorem c_qcopy {X : PX} {p q : Nat} {σ : Sg} {P : Sg → Prop} (hp : p ∈ paiL) (hq : q ∈ paiL) (hne : p ≠ q) (hz : 0 ≤ σ.1 q 0 ∧ σ.1 q 0 ≤ 40) (k : ∀ τ : Sg, τ.1 = up2 σ.1 p 0 (σ.1 q 0) → (∀ c : Nat, c ≠ p + 1 → c ≠ p + 2 → τ.2 c = σ.2 c) → (∀ i : Nat, (i : Int) < σ.1 q 0 → τ.2 (p + 1) i = σ.2 (q + 1) i ∧ τ.2 (p + 2) i = σ.2 (q + 2) i) → P τ) : CV X 76 [vR (some p), vR (some q)] σ P := by
  have ap := pai_apart p hp q hq hne
  refine v_76 hp hq ?_
  rw [up2_get]
  refine ⟨⟨by omega, by omega, by omega, by omega, by omega⟩, rfl, k _ rfl (fun c h1 h2 => ?_) (fun i hi => ⟨?_, ?_⟩)⟩
  · dsimp only
    rw [upc_ne h2, upc_ne h1]
  · dsimp only
    rw [upc_ne (by omega), upc_at, if_pos (by omega)]
  · dsimp only
    rw [upc_at, if_pos (by omega), upc_ne (by omega)]
theorem c_pcopy {X : PX} {p q : Nat} {σ : Sg} {P : Sg → Prop} (hp : p ∈ parL) (hq : q ∈ parL) (hne : p ≠ q) (hh : 0 ≤ σ.1 q 2 ∧ σ.1 q 2 ≤ 7) (hr : 0 ≤ σ.1 q 4 ∧ σ.1 q 4 ≤ 10) (k : ∀ τ : Sg, (∀ c : Nat, c ≠ p → τ.1 c = σ.1 c) → (∀ j : Nat, j < 5 → τ.1 p j = σ.1 q j) → (∀ c : Nat, c ≤ p ∨ p + 6 < c → τ.2 c = σ.2 c) → (∀ i : Nat, (i : Int) < σ.1 q 2 → τ.2 (p + 1) i = σ.2 (q + 1) i ∧ τ.2 (p + 2) i = σ.2 (q + 2) i) → (∀ i : Nat, (i : Int) < σ.1 q 4 → τ.2 (p + 3) i = σ.2 (q + 3) i ∧ τ.2 (p + 4) i = σ.2 (q + 4) i ∧ τ.2 (p + 5) i = σ.2 (q + 5) i ∧ τ.2 (p + 6) i = σ.2 (q + 6) i) → P τ) : CV X 79 [vR (some p), vR (some q)] σ P := by
  have ap := par_apart p hp q hq hne
  have n1 : ∀ (f : Nat → Nat → Int) (j : Nat) (x : Int), up2 f p j x q = f q := fun f j x => up2_ne _ _ _ (Ne.symm hne)
  refine v_79 hp hq ?_
  simp only [n1, up2_if, Nat.reduceEqDiff, reduceIte]
  refine ⟨⟨by omega, by omega, by omega, by omega, by omega⟩, ⟨by omega, by omega, by omega, by omega, by omega⟩, trivial, k _ (fun c hc => ?_) (fun j hj => ?_) (fun c hc => ?_) (fun i hi => ⟨?_, ?_⟩) (fun i hi => ⟨?_, ?_, ?_, ?_⟩)⟩
  · dsimp only
    rw [up2_ne _ _ _ hc, up2_ne _ _ _ hc, up2_ne _ _ _ hc, up2_ne _ _ _ hc, up2_ne _ _ _ hc]
  · dsimp only
    rcases (show j = 0 ∨ j = 1 ∨ j = 2 ∨ j = 3 ∨ j = 4 by omega) with rfl | rfl | rfl | rfl | rfl <;> simp [n1, up2_if]
  · dsimp only
    rw [upc_ne (by omega), upc_ne (by omega), upc_ne (by omega), upc_ne (by omega), upc_ne (by omega), upc_ne (by omega)]
  · dsimp only
    rw [upc_ne (by omega), upc_ne (by omega), upc_ne (by omega), upc_ne (by omega), upc_ne (by omega), upc_at, if_pos (by omega)]
  · dsimp only
    rw [upc_ne (by omega), upc_ne (by omega), upc_ne (by omega), upc_ne (by omega), upc_at, if_pos (by omega), upc_ne (by omega)]
  · dsimp only
    rw [upc_ne (by omega), upc_ne (by omega), upc_ne (by omega), upc_at, if_pos (by omega), upc_ne (by omega), upc_ne (by omega)]
  · dsimp only
    rw [upc_ne (by omega), upc_ne (by omega), upc_at, if_pos (by omega), upc_ne (by omega), upc_ne (by omega), upc_ne (by omega)]
  · dsimp only
    rw [upc_ne (by omega), upc_at, if_pos (by omega), upc_ne (by omega), upc_ne (by omega), upc_ne (by omega), upc_ne (by omega)]
  · dsimp only
    rw [upc_at, if_pos (by omega), upc_ne (by omega), upc_ne (by omega), upc_ne (by omega), upc_ne (by omega), upc_ne (by omega)]
/-- outside of a stretch of cells nothing has changed -/
def Out (σ τ : Sg) (a b : Nat) : Prop := ∀ c : Nat, c < a ∨ b < c → τ.1 c = σ.1 c ∧ τ.2 c = σ.2 c
def PCo (σ τ : Sg) (p q : Nat) : Prop := (∀ j : Nat, j < 5 → τ.1 p j = σ.1 q j) ∧ (∀ i : Nat, (i : Int) < σ.1 q 2 → τ.2 (p + 1) i = σ.2 (q + 1) i ∧ τ.2 (p + 2) i = σ.2 (q + 2) i) ∧ (∀ i : Nat, (i : Int) < σ.1 q 4 → τ.2 (p + 3) i = σ.2 (q + 3) i ∧ τ.2 (p + 4) i = σ.2 (q + 4) i ∧ τ.2 (p + 5) i = σ.2 (q + 5) i ∧ τ.2 (p + 6) i = σ.2 (q + 6) i)
def QCo (σ τ : Sg) (p q : Nat) : Prop := τ.1 p 0 = σ.1 q 0 ∧ (∀ i : Nat, (i : Int) < σ.1 q 0 → τ.2 (p + 1) i = σ.2 (q + 1) i ∧ τ.2 (p + 2) i = σ.2 (q + 2) i)
theorem PCo.mv {σ τ υ : Sg} {p q : Nat} (h : PCo σ τ p q) (f : ∀ c : Nat, p ≤ c → c ≤ p + 6 → υ.1 c = τ.1 c ∧ υ.2 c = τ.2 c) : PCo σ υ p q := by
  unfold PCo
  rw [(f p (by omega) (by omega)).1, (f (p + 1) (by omega) (by omega)).2, (f (p + 2) (by omega) (by omega)).2, (f (p + 3) (by omega) (by omega)).2, (f (p + 4) (by omega) (by omega)).2, (f (p + 5) (by omega) (by omega)).2, (f (p + 6) (by omega) (by omega)).2]
  exact h
theorem QCo.mv {σ τ υ : Sg} {p q : Nat} (h : QCo σ τ p q) (f : ∀ c : Nat, p ≤ c → c ≤ p + 2 → υ.1 c = τ.1 c ∧ υ.2 c = τ.2 c) : QCo σ υ p q := by
  unfold QCo
  rw [(f p (by omega) (by omega)).1, (f (p + 1) (by omega) (by omega)).2, (f (p + 2) (by omega) (by omega)).2]
  exact h
theorem PCo.sv {σ ρ τ : Sg} {p q : Nat} (h : PCo ρ τ p q) (f : ∀ c : Nat, q ≤ c → c ≤ q + 6 → ρ.1 c = σ.1 c ∧ ρ.2 c = σ.2 c) : PCo σ τ p q := by
  unfold PCo at h ⊢
  rw [(f q (by omega) (by omega)).1, (f (q + 1) (by omega) (by omega)).2, (f (q + 2) (by omega) (by omega)).2, (f (q + 3) (by omega) (by omega)).2, (f (q + 4) (by omega) (by omega)).2, (f (q + 5) (by omega) (by omega)).2, (f (q + 6) (by omega) (by omega)).2] at h
  exact h
theorem QCo.sv {σ ρ τ : Sg} {p q : Nat} (h : QCo ρ τ p q) (f : ∀ c : Nat, q ≤ c → c ≤ q + 2 → ρ.1 c = σ.1 c ∧ ρ.2 c = σ.2 c) : QCo σ τ p q := by
  unfold QCo at h ⊢
  rw [(f q (by omega) (by omega)).1, (f (q + 1) (by omega) (by omega)).2, (f (q + 2) (by omega) (by omega)).2] at h
  exact h
theorem PR.cp {σ τ : Sg} {p q o u : Nat} (h : PR σ q o) (c : PCo σ τ p q) (f3 : ∀ i : Nat, i < 49 → τ.2 171 (u + i) = σ.2 171 (o + i)) : PR τ p u := by
  obtain ⟨h1, h2, h3, h4, h5, h6, h7, h8⟩ := h
  obtain ⟨c1, c2, c3⟩ := c
  unfold PR
  rw [c1 0 (by omega), c1 1 (by omega), c1 2 (by omega), c1 3 (by omega), c1 4 (by omega)]
  have f0 := f3 0 (by omega)
  rw [f3 1 (by omega), f3 2 (by omega), f3 3 (by omega), f3 4 (by omega), show τ.2 171 u = σ.2 171 o from f0]
  refine ⟨h1, h2, h3, h4, h5, fun g hg => ?_, fun g hg => ?_, fun r hr => ?_⟩
  · have a1 := f3 (5 + 2 * g) (by omega)
    have a2 := f3 (6 + 2 * g) (by omega)
    rw [← Nat.add_assoc, ← Nat.add_assoc] at a1 a2
    rw [a1, a2, (c2 g hg).1, (c2 g hg).2]
    exact h6 g hg
  · have a1 := f3 (5 + 2 * g) (by omega)
    rw [← Nat.add_assoc, ← Nat.add_assoc] at a1
    rw [a1]
    exact h7 g hg
  · have a1 := f3 (19 + 3 * r) (by omega)
    have a2 := f3 (20 + 3 * r) (by omega)
    have a3 := f3 (21 + 3 * r) (by omega)
    rw [← Nat.add_assoc, ← Nat.add_assoc] at a1 a2 a3
    obtain ⟨b1, b2, b3, b4⟩ := c3 r hr
    simp only [PRn]
    rw [a1, a2, a3, b1, b2, b3, b4]
    exact h8 r hr
theorem QR.cp {σ τ : Sg} {p q o u cap : Nat} {d : Bool} (h : QR σ q o cap d) (c : QCo σ τ p q) (f3 : ∀ i : Nat, i < 1 + 2 * cap → τ.2 171 (u + i) = σ.2 171 (o + i)) : QR τ p u cap d := by
  obtain ⟨h1, h2⟩ := h
  obtain ⟨c1, c2⟩ := c
  unfold QR
  have f0 := f3 0 (by omega)
  rw [c1, show τ.2 171 u = σ.2 171 o from f0]
  refine ⟨h1, fun i hi => ?_⟩
  have a1 := f3 (1 + 2 * i) (by omega)
  have a2 := f3 (2 + 2 * i) (by omega)
  rw [← Nat.add_assoc, ← Nat.add_assoc] at a1 a2
  rw [a1, a2, (c2 i hi).1, (c2 i hi).2]
  exact h2 i hi
def TCo (σ τ : Sg) (t u : Nat) : Prop := (τ.1 t 1 = σ.1 u 1 ∧ τ.1 t 6 = σ.1 u 6 ∧ τ.1 t 7 = σ.1 u 7) ∧ (∀ i : Nat, (i : Int) < σ.1 u 1 → τ.2 (t + 1) i = σ.2 (u + 1) i) ∧ (∀ s : Nat, s < 3 → τ.2 (t + 5) s = σ.2 (u + 5) s) ∧ (∀ k : Nat, k < 2 → PCo σ τ (t + 6 + 13 * k) (u + 6 + 13 * k) ∧ QCo σ τ (t + 13 + 13 * k) (u + 13 + 13 * k) ∧ QCo σ τ (t + 16 + 13 * k) (u + 16 + 13 * k))
theorem TR.cp {σ τ : Sg} {t u o v : Nat} (h : TR σ u o) (c : TCo σ τ t u) (f3 : ∀ i : Nat, i < 904 → τ.2 171 (v + i) = σ.2 171 (o + i)) : TR τ t v := by
  obtain ⟨h1, h2, h3, h4, h5, h6, h7, h8⟩ := h
  obtain ⟨⟨c1, c6, c7⟩, c2, c3, c4⟩ := c
  have hk : ∀ k s : Nat, s < 3 → (k : Int) < σ.2 (u + 5) s → k < 2 := fun k s hs hk => by
    have := h5 s hs
    omega
  unfold TR
  rw [c1, c6, c7, f3 4 (by omega), f3 5 (by omega), f3 6 (by omega), c3 0 (by omega), c3 1 (by omega), c3 2 (by omega)]
  refine ⟨h1, fun i hi => ?_, h3, h4, fun s hs => ?_, fun k q => ?_, fun k q => ?_, fun k q => ?_⟩
  · have a1 := f3 (10 + i) (by omega)
    rw [← Nat.add_assoc, ← Nat.add_assoc] at a1
    rw [a1, c2 i hi]
    exact h2 i hi
  · rw [f3 s (by omega), c3 s hs]
    exact h5 s hs
  · have := hk k 0 (by omega) q
    refine (h6 k q).cp (c4 k this).1 (fun i hi => ?_)
    have a1 := f3 (610 + 49 * k + i) (by omega)
    rw [show v + 610 + 49 * k + i = v + (610 + 49 * k + i) by omega, a1, show o + 610 + 49 * k + i = o + (610 + 49 * k + i) by omega]
  · have := hk k 1 (by omega) q
    refine (h7 k q).cp (c4 k this).2.1 (fun i hi => ?_)
    have a1 := f3 (708 + 81 * k + i) (by omega)
    rw [show v + 708 + 81 * k + i = v + (708 + 81 * k + i) by omega, a1, show o + 708 + 81 * k + i = o + (708 + 81 * k + i) by omega]
  · have := hk k 2 (by omega) q
    refine (h8 k q).cp (c4 k this).2.2 (fun i hi => ?_)
    have a1 := f3 (870 + 17 * k + i) (by omega)
    rw [show v + 870 + 17 * k + i = v + (870 + 17 * k + i) by omega, a1, show o + 870 + 17 * k + i = o + (870 + 17 * k + i) by omega]
theorem tol_par : ∀ t ∈ tolL, ∀ k, k < 2 → t + 6 + 13 * k ∈ parL ∧ t + 13 + 13 * k ∈ paiL ∧ t + 16 + 13 * k ∈ paiL := by
  intro t ht k hk
  have : ∀ t ∈ tolL, (t + 6 + 13 * 0 ∈ parL ∧ t + 13 + 13 * 0 ∈ paiL ∧ t + 16 + 13 * 0 ∈ paiL) ∧ (t + 6 + 13 * 1 ∈ parL ∧ t + 13 + 13 * 1 ∈ paiL ∧ t + 16 + 13 * 1 ∈ paiL) := by decide +kernel
  rcases (show k = 0 ∨ k = 1 by omega) with rfl | rfl
  · exact (this t ht).1
  · exact (this t ht).2
/-- one of the two of each sort -/
theorem it_copy {X : PX} {t u : Nat} {σ : Sg} {P : Sg → Prop} {k : Nat} (ht : t ∈ tolL) (hu : u ∈ tolL) (hne : t ≠ u) (hk : k < 2) (hz : (0 ≤ σ.1 (u + 6 + 13 * k) 2 ∧ σ.1 (u + 6 + 13 * k) 2 ≤ 7) ∧ (0 ≤ σ.1 (u + 6 + 13 * k) 4 ∧ σ.1 (u + 6 + 13 * k) 4 ≤ 10) ∧ (0 ≤ σ.1 (u + 13 + 13 * k) 0 ∧ σ.1 (u + 13 + 13 * k) 0 ≤ 40) ∧ (0 ≤ σ.1 (u + 16 + 13 * k) 0 ∧ σ.1 (u + 16 + 13 * k) 0 ≤ 40))
    (q : ∀ τ : Sg, Out σ τ (t + 6 + 13 * k) (t + 18 + 13 * k) → PCo σ τ (t + 6 + 13 * k) (u + 6 + 13 * k) → QCo σ τ (t + 13 + 13 * k) (u + 13 + 13 * k) → QCo σ τ (t + 16 + 13 * k) (u + 16 + 13 * k) → P τ) :
    CV X 79 [vR (some (t + 6 + 13 * k)), vR (some (u + 6 + 13 * k))] σ (fun τ1 => CV X 76 [vR (some (t + 13 + 13 * k)), vR (some (u + 13 + 13 * k))] τ1 (fun τ2 => CV X 76 [vR (some (t + 16 + 13 * k)), vR (some (u + 16 + 13 * k))] τ2 P)) := by
  have mt := tol_par t ht k hk
  have mu := tol_par u hu k hk
  have ap := (tol_rng t ht).2.2 u hu hne
  obtain ⟨z1, z2, z3, z4⟩ := hz
  refine c_pcopy mt.1 mu.1 (by omega) z1 z2 (fun τ1 a1 a2 a3 a4 a5 => ?_)
  have P1 : PCo σ τ1 (t + 6 + 13 * k) (u + 6 + 13 * k) := ⟨a2, a4, a5⟩
  have O1 : Out σ τ1 (t + 6 + 13 * k) (t + 12 + 13 * k) := fun c hc => ⟨a1 c (by omega), a3 c (by omega)⟩
  refine c_qcopy mt.2.1 mu.2.1 (by omega) (by rw [(O1 _ (by omega)).1]; exact z3) (fun τ2 b1 b2 b3 => ?_)
  have Q1 : QCo τ1 τ2 (t + 13 + 13 * k) (u + 13 + 13 * k) := ⟨by rw [b1, up2_get], b3⟩
  have O2 : Out τ1 τ2 (t + 13 + 13 * k) (t + 15 + 13 * k) := fun c hc => ⟨by rw [b1, up2_ne _ _ _ (by omega)], b2 c (by omega) (by omega)⟩
  refine c_qcopy mt.2.2 mu.2.2 (by omega) (by rw [(O2 _ (by omega)).1, (O1 _ (by omega)).1]; exact z4) (fun τ3 d1 d2 d3 => ?_)
  have Q2 : QCo τ2 τ3 (t + 16 + 13 * k) (u + 16 + 13 * k) := ⟨by rw [d1, up2_get], d3⟩
  have O3 : Out τ2 τ3 (t + 16 + 13 * k) (t + 18 + 13 * k) := fun c hc => ⟨by rw [d1, up2_ne _ _ _ (by omega)], d2 c (by omega) (by omega)⟩
  have e : ∀ c : Nat, c < t + 6 + 13 * k ∨ t + 12 + 13 * k < c → τ1.1 c = σ.1 c ∧ τ1.2 c = σ.2 c := O1
  have e2 : ∀ c : Nat, c < t + 6 + 13 * k ∨ t + 15 + 13 * k < c → τ2.1 c = σ.1 c ∧ τ2.2 c = σ.2 c := fun c hc => ⟨(O2 c (by omega)).1.trans (O1 c (by omega)).1, (O2 c (by omega)).2.trans (O1 c (by omega)).2⟩
  refine q τ3 (fun c hc => ⟨(O3 c (by omega)).1.trans (e2 c (by omega)).1, (O3 c (by omega)).2.trans (e2 c (by omega)).2⟩) ?_ ?_ ?_
  · exact (P1.mv (fun c h1 h2 => O2 c (by omega))).mv (fun c h1 h2 => O3 c (by omega))
  · exact (Q1.sv (fun c h1 h2 => e c (by omega))).mv (fun c h1 h2 => O3 c (by omega))
  · exact Q2.sv (fun c h1 h2 => e2 c (by omega))
theorem c_tcopy {X : PX} {t u : Nat} {σ : Sg} {P : Sg → Prop} (ht : t ∈ tolL) (hu : u ∈ tolL) (hne : t ≠ u) (hw : WT σ) (hl : 0 ≤ σ.1 u 1 ∧ σ.1 u 1 ≤ 600) (q : ∀ τ : Sg, Out σ τ t (t + 31) → TCo σ τ t u → P τ) : CV X 118 [vR (some t), vR (some u)] σ P := by
  have ap := (tol_rng t ht).2.2 u hu hne
  have w0 := hw u hu 0 (by omega)
  have w1 := hw u hu 1 (by omega)
  refine v_118 ht hu ?_
  rw [up2_get]
  refine ⟨⟨by omega, by omega, by omega, by omega, by omega⟩, ?_⟩
  have O0 : Out σ (up2 σ.1 t 1 (σ.1 u 1), upc σ.2 (u + 1) (t + 1) 0 0 (σ.1 u 1).toNat) t (t + 1) := fun c hc => ⟨up2_ne _ _ _ (by omega), upc_ne (by omega)⟩
  have T1 : (up2 σ.1 t 1 (σ.1 u 1)) t 1 = σ.1 u 1 := up2_get _ _ _ _
  have T2 : ∀ i : Nat, (i : Int) < σ.1 u 1 → upc σ.2 (u + 1) (t + 1) 0 0 (σ.1 u 1).toNat (t + 1) i = σ.2 (u + 1) i := fun i hi => by rw [upc_at, if_pos (by omega)]
  generalize (up2 σ.1 t 1 (σ.1 u 1)) = F0 at *
  generalize upc σ.2 (u + 1) (t + 1) 0 0 (σ.1 u 1).toNat = A0 at *
  refine v_118_15 ht hu ⟨by omega, fun h => absurd h (by omega), fun _ => ⟨by omega, ?_⟩⟩
  refine it_copy (k := 0) ht hu hne (by omega) (by rw [(O0 _ (by omega)).1, (O0 (u + 13 + 13 * 0) (by omega)).1, (O0 (u + 16 + 13 * 0) (by omega)).1]; exact w0) (fun τ1 O1 P1 Q1 R1 => ?_)
  have E1 : ∀ c : Nat, c < t ∨ t + 18 < c → τ1.1 c = σ.1 c ∧ τ1.2 c = σ.2 c := fun c hc => ⟨(O1 c (by omega)).1.trans (O0 c (by omega)).1, (O1 c (by omega)).2.trans (O0 c (by omega)).2⟩
  refine v_118_15 ht hu ⟨by omega, fun h => absurd h (by omega), fun _ => ⟨by omega, ?_⟩⟩
  refine it_copy (k := 1) ht hu hne (by omega) (by rw [(E1 (u + 6 + 13 * 1) (by omega)).1, (E1 (u + 13 + 13 * 1) (by omega)).1, (E1 (u + 16 + 13 * 1) (by omega)).1]; exact w1) (fun τ2 O2 P2 Q2 R2 => ?_)
  have E2 : ∀ c : Nat, c < t ∨ t + 31 < c → τ2.1 c = σ.1 c ∧ τ2.2 c = σ.2 c := fun c hc => ⟨(O2 c (by omega)).1.trans (E1 c (by omega)).1, (O2 c (by omega)).2.trans (E1 c (by omega)).2⟩
  refine v_118_15 ht hu ⟨by omega, fun _ => ?_, fun h => absurd (by omega) h⟩
  refine v_118_49 ht hu ⟨by omega, fun h => absurd h (by omega), fun _ => ⟨by omega, ?_⟩⟩
  refine v_118_49 ht hu ⟨by omega, fun h => absurd h (by omega), fun _ => ⟨by omega, ?_⟩⟩
  refine v_118_49 ht hu ⟨by omega, fun h => absurd h (by omega), fun _ => ⟨by omega, ?_⟩⟩
  refine v_118_49 ht hu ⟨by omega, fun _ => ⟨rfl, q _ ?_ ?_⟩, fun h => absurd (by omega) h⟩
  · intro c hc
    dsimp only
    rw [up2_ne _ _ _ (by omega), up2_ne _ _ _ (by omega), up2_ne _ _ _ (by omega), up2_ne _ _ _ (by omega), up2_ne _ _ _ (by omega)]
    exact E2 c hc
  · have fr : ∀ c : Nat, t < c → c ≠ t + 5 → (up2 (up2 τ2.1 t 6 (τ2.1 u 6)) t 7 (up2 τ2.1 t 6 (τ2.1 u 6) u 7)) c = τ2.1 c ∧ (up2 (up2 (up2 τ2.2 (t + 5) (0 : Int).toNat (τ2.2 (u + 5) (0 : Int).toNat)) (t + 5) ((0 : Int) + 1).toNat ((up2 τ2.2 (t + 5) (0 : Int).toNat (τ2.2 (u + 5) (0 : Int).toNat)) (u + 5) ((0 : Int) + 1).toNat)) (t + 5) ((0 : Int) + 1 + 1).toNat ((up2 (up2 τ2.2 (t + 5) (0 : Int).toNat (τ2.2 (u + 5) (0 : Int).toNat)) (t + 5) ((0 : Int) + 1).toNat ((up2 τ2.2 (t + 5) (0 : Int).toNat (τ2.2 (u + 5) (0 : Int).toNat)) (u + 5) ((0 : Int) + 1).toNat)) (u + 5) ((0 : Int) + 1 + 1).toNat)) c = τ2.2 c := fun c h1 h2 => ⟨by rw [up2_ne _ _ _ (by omega), up2_ne _ _ _ (by omega)], by rw [up2_ne _ _ _ h2, up2_ne _ _ _ h2, up2_ne _ _ _ h2]⟩
    refine ⟨⟨?_, ?_, ?_⟩, fun i hi => ?_, fun s hs => ?_, fun k hk => ?_⟩
    · show up2 (up2 τ2.1 t 6 _) t 7 _ t 1 = _
      rw [up2_if, if_neg (by omega), up2_if, if_neg (by omega), (O2 t (by omega)).1, (O1 t (by omega)).1]
      exact T1
    · show up2 (up2 τ2.1 t 6 _) t 7 _ t 6 = _
      rw [up2_if, if_neg (by omega), up2_if, if_pos rfl, (E2 u (by omega)).1]
    · show up2 (up2 τ2.1 t 6 _) t 7 _ t 7 = _
      rw [up2_if, if_pos rfl, up2_ne _ _ _ (by omega), (E2 u (by omega)).1]
    · dsimp only
      rw [(fr (t + 1) (by omega) (by omega)).2, (O2 _ (by omega)).2, (O1 _ (by omega)).2]
      exact T2 i hi
    · dsimp only
      have hd : u + 5 ≠ t + 5 := by omega
      have e5 : τ2.2 (u + 5) = σ.2 (u + 5) := (E2 (u + 5) (by omega)).2
      rcases (show s = 0 ∨ s = 1 ∨ s = 2 by omega) with rfl | rfl | rfl <;> simp only [up2_if, up2_ne _ _ _ hd, e5] <;> rfl
    · rcases (show k = 0 ∨ k = 1 by omega) with rfl | rfl
      · refine ⟨?_, ?_, ?_⟩
        · exact ((P1.sv (fun c h1 h2 => O0 c (by omega))).mv (fun c h1 h2 => O2 c (by omega))).mv (fun c h1 h2 => fr c (by omega) (by omega))
        · exact ((Q1.sv (fun c h1 h2 => O0 c (by omega))).mv (fun c h1 h2 => O2 c (by omega))).mv (fun c h1 h2 => fr c (by omega) (by omega))
        · exact ((R1.sv (fun c h1 h2 => O0 c (by omega))).mv (fun c h1 h2 => O2 c (by omega))).mv (fun c h1 h2 => fr c (by omega) (by omega))
      · refine ⟨?_, ?_, ?_⟩
        · exact (P2.sv (fun c h1 h2 => E1 c (by omega))).mv (fun c h1 h2 => fr c (by omega) (by omega))
        · exact (Q2.sv (fun c h1 h2 => E1 c (by omega))).mv (fun c h1 h2 => fr c (by omega) (by omega))
        · exact (R2.sv (fun c h1 h2 => E1 c (by omega))).mv (fun c h1 h2 => fr c (by omega) (by omega))
/-! image, again -/
theorem m_iloop {X : PX} {a : Int} {Q : Option PV → Sg → Prop} (h0 : 0 ≤ a) (h2 : a ≤ 2) : ∀ (n : Nat) (x : Int) (σ : Sg), n ≤ 904 → x = 904 - (n : Int) → (∀ τ : Sg, τ.1 = σ.1 → (∀ c : Nat, c ≠ 171 → τ.2 c = σ.2 c) → (∀ i : Nat, (i : Int) < 904 * (a + 1) + x ∨ 904 * (a + 1) + 904 ≤ i → τ.2 171 i = σ.2 171 i) → (∀ i : Nat, x ≤ i → i < 904 → τ.2 171 (904 * (a.toNat + 1) + i) = σ.2 171 i) → Q (some (vI 1)) τ) → Ev X 281 14 [some (vR (some 170)), some (vI a), some (vI x)] [] σ Q := by
  intro n
  induction n with
  | zero =>
    intro x σ hn hx k
    exact v_281_14 ⟨by omega, fun _ => k σ rfl (fun _ _ => rfl) (fun _ _ => rfl) (fun i h1 h2 => absurd h2 (by omega)), fun q => absurd (by omega) q⟩
  | succ n ih =>
    intro x σ hn hx k
    refine v_281_14 ⟨by omega, fun q => absurd q (by omega), fun _ => ⟨by omega, by omega, ih (x + 1) _ (by omega) (by omega) (fun τ t1 t2 t3 t4 => ?_)⟩⟩
    dsimp only at t1 t2 t3 t4
    simp only [up2_if] at t3 t4
    refine k τ t1 (fun c hc => by rw [t2 c hc, up2_ne _ _ _ hc]) (fun i hi => ?_) (fun i h1 h2 => ?_)
    · rw [t3 i (by omega), if_neg (by omega)]
    · by_cases h : x = i
      · rw [t3 _ (by omega), if_pos (by omega), h]; rfl
      · rw [t4 i (by omega) h2, if_neg (by omega)]
theorem m_aloop {X : PX} {a : Int} {Q : Option PV → Sg → Prop} (h0 : 0 ≤ a) (h2 : a ≤ 2) : ∀ (n : Nat) (x : Int) (σ : Sg), n ≤ 904 → x = 904 - (n : Int) → (∀ τ : Sg, τ.1 = σ.1 → (∀ c : Nat, c ≠ 171 → τ.2 c = σ.2 c) → (∀ i : Nat, (i : Int) < x ∨ 904 ≤ i → τ.2 171 i = σ.2 171 i) → (∀ i : Nat, x ≤ i → i < 904 → τ.2 171 i = σ.2 171 (904 * (a.toNat + 1) + i)) → Q (some (vI 1)) τ) → Ev X 282 14 [some (vR (some 170)), some (vI a), some (vI x)] [] σ Q := by
  intro n
  induction n with
  | zero =>
    intro x σ hn hx k
    exact v_282_14 ⟨by omega, fun _ => k σ rfl (fun _ _ => rfl) (fun _ _ => rfl) (fun i h1 h2 => absurd h2 (by omega)), fun q => absurd (by omega) q⟩
  | succ n ih =>
    intro x σ hn hx k
    refine v_282_14 ⟨by omega, fun q => absurd q (by omega), fun _ => ⟨by omega, by omega, ih (x + 1) _ (by omega) (by omega) (fun τ t1 t2 t3 t4 => ?_)⟩⟩
    dsimp only at t1 t2 t3 t4
    simp only [up2_if] at t3 t4
    refine k τ t1 (fun c hc => by rw [t2 c hc, up2_ne _ _ _ hc]) (fun i hi => ?_) (fun i h1 h2 => ?_)
    · rw [t3 i (by omega), if_neg (by omega)]
    · by_cases h : x = i
      · rw [t3 _ (by omega), if_pos (by omega)]
        rw [show (904 * (a + 1) + x).toNat = 904 * (a.toNat + 1) + i by omega]
      · rw [t4 i (by omega) h2, if_neg (by omega)]
theorem TCo.wt {σ τ : Sg} {t u : Nat} (ht : t ∈ tolL) (hu : u ∈ tolL) (w : WT σ) (o : Out σ τ t (t + 31)) (c : TCo σ τ t u) : WT τ := by
  intro s hs k hk
  by_cases e : t = s
  · subst e
    obtain ⟨⟨p1, -⟩, q1, q2⟩ := c.2.2.2 k hk
    rw [p1 2 (by omega), p1 4 (by omega), q1.1, q2.1]
    exact w u hu k hk
  · have ap := (tol_rng t ht).2.2 s hs e
    rw [(o (s + 6 + 13 * k) (by omega)).1, (o (s + 13 + 13 * k) (by omega)).1, (o (s + 16 + 13 * k) (by omega)).1]
    exact w s hs k hk
theorem img_mem {a : Int} (h0 : 0 ≤ a) (h2 : a ≤ 2) : 34 + 32 * a.toNat ∈ tolL ∧ 34 + 32 * a.toNat ≠ 1 := by
  rcases (show a = 0 ∨ a = 1 ∨ a = 2 by omega) with rfl | rfl | rfl <;> decide
theorem m_image {X : PX} {σ : Sg} {P : Int → Sg → Prop} {a : Int} (ha : InR a) (q1 : ¬ (0 ≤ a ∧ a ≤ 2) → P 0 σ) (q2 : 0 ≤ a ∧ a ≤ 2 → ∀ τ : Sg, τ.1 = σ.1 → (∀ c : Nat, c ≠ 171 → c ≠ 172 → τ.2 c = σ.2 c) → (∀ i : Nat, τ.2 172 i = if i = a.toNat then 1 else σ.2 172 i) → (∀ i : Nat, (i : Int) < 904 * (a + 1) ∨ 904 * (a + 1) + 904 ≤ i → τ.2 171 i = σ.2 171 i) → (∀ i : Nat, i < 904 → τ.2 171 (904 * (a.toNat + 1) + i) = σ.2 171 i) → P 1 τ) : CI X 281 [vR (some 170), vI a] σ P := by
  refine v_281 (c_isIn ha (by omega) (by omega) ⟨by split <;> omega, fun h => ?_, fun h => ⟨_, rfl, q1 (fun g => ?_)⟩⟩)
  · have g : 0 ≤ a ∧ a ≤ 2 := by
      rcases Decidable.em (0 ≤ a ∧ a ≤ 2) with g | g
      · exact g
      · exact absurd (if_neg g) h
    refine ⟨by omega, m_iloop g.1 g.2 904 0 _ (by omega) (by omega) (fun τ t1 t2 t3 t4 => ⟨_, rfl, q2 g τ t1 (fun c h1 h2 => by rw [t2 c h1]; exact up2_ne _ _ _ h2) (fun i => ?_) (fun i hi => ?_) (fun i hi => ?_)⟩)⟩
    · rw [t2 172 (by omega)]; dsimp only; rw [up2_if]
    · rw [t3 i (by omega)]; dsimp only; rw [up2_ne _ _ _ (show (171 : Nat) ≠ 172 by omega)]
    · rw [t4 i (by omega) hi]; dsimp only; rw [up2_ne _ _ _ (show (171 : Nat) ≠ 172 by omega)]
  · have h' : ¬ (if 0 ≤ a ∧ a ≤ 2 then (1 : Int) else 0) ≠ 0 := h
    rw [if_pos g] at h'
    omega
theorem s_image {X : PX} : Sm_34 X Rel := by
  intro a ha σ hR
  have bad : ¬ (0 ≤ a ∧ a ≤ 2) → CI X 281 [vR (some 170), vI a] σ (fun r2 υ => r2 = 0 ∧ InR 0 ∧ Rel υ) := fun g => m_image ha (fun _ => ⟨rfl, by omega, hR⟩) (fun n => absurd n g)
  refine v_126 ⟨ha, fun h => ⟨_, rfl, bad (by omega)⟩, fun h => ⟨fun h3 => ⟨by omega, ?_⟩, fun h3 => ⟨_, rfl, bad (by omega)⟩⟩⟩
  have hm := img_mem (a := a) (by omega) (by omega)
  obtain ⟨h1, -⟩ := id hR.1
  refine c_tcopy hm.1 (by decide) hm.2 hR.2.2 (by omega) (fun τ O T => ⟨_, rfl, m_image ha (fun g => absurd (by omega) g) (fun _ υ u1 u2 u3 u4 u5 => ⟨rfl, by omega, ?_⟩)⟩)
  dsimp only at u1 u2 u3 u4 u5
  have a1 : ∀ c : Nat, c < 34 + 32 * a.toNat ∨ 34 + 32 * a.toNat + 31 < c → υ.1 c = σ.1 c := fun c hc => by rw [u1, (O c hc).1]
  have a2 : ∀ c : Nat, c < 34 + 32 * a.toNat ∨ 34 + 32 * a.toNat + 31 < c → c ≠ 130 → c ≠ 171 → c ≠ 172 → υ.2 c = σ.2 c := fun c hc n1 n2 n3 => by rw [u2 c n2 n3, up2_ne _ _ _ n1, (O c hc).2]
  have a3 : up2 τ.2 130 a.toNat 1 171 = σ.2 171 := by rw [up2_ne _ _ _ (by omega), (O 171 (by omega)).2]
  rw [a3] at u4 u5
  have a4 : ∀ i : Nat, υ.2 130 i = if i = a.toNat then 1 else σ.2 130 i := fun i => by rw [u2 130 (by omega) (by omega), up2_if, (O 130 (by omega)).2]
  have a5 : ∀ i : Nat, υ.2 172 i = if i = a.toNat then 1 else σ.2 172 i := fun i => by rw [u3, up2_ne _ _ _ (by omega), (O 172 (by omega)).2]
  have a6 : ∀ c : Nat, 34 + 32 * a.toNat ≤ c → c ≤ 34 + 32 * a.toNat + 31 → υ.1 c = τ.1 c ∧ υ.2 c = τ.2 c := fun c n1 n2 => ⟨by rw [u1], by rw [u2 c (by omega) (by omega), up2_ne _ _ _ (by omega)]⟩
  have T2 : TCo σ υ (34 + 32 * a.toNat) 1 := by
    obtain ⟨⟨c1, c6, c7⟩, c2, c3, c4⟩ := T
    refine ⟨⟨?_, ?_, ?_⟩, ?_, ?_, fun k hk => ⟨(c4 k hk).1.mv (fun c n1 n2 => a6 c (by omega) (by omega)), (c4 k hk).2.1.mv (fun c n1 n2 => a6 c (by omega) (by omega)), (c4 k hk).2.2.mv (fun c n1 n2 => a6 c (by omega) (by omega))⟩⟩
    · rw [(a6 _ (by omega) (by omega)).1]; exact c1
    · rw [(a6 _ (by omega) (by omega)).1]; exact c6
    · rw [(a6 _ (by omega) (by omega)).1]; exact c7
    · rw [(a6 _ (by omega) (by omega)).2]; exact c2
    · rw [(a6 _ (by omega) (by omega)).2]; exact c3
  refine ⟨hR.1.all (fun c n1 n2 => ⟨a1 c (by omega), a2 c (by omega) (by omega) (by omega) (by omega)⟩) (fun i n1 n2 => u4 i (by omega)), fun k hk => ?_, ?_⟩
  · rw [a4, a5]
    by_cases e : k = a.toNat
    · rw [if_pos e, if_pos e]
      refine ⟨rfl, Or.inr rfl, fun _ => ?_⟩
      rw [e]
      exact hR.1.cp T2 (fun i hi => by rw [u5 i hi, Nat.zero_add])
    · rw [if_neg e, if_neg e]
      obtain ⟨g1, g2, g3⟩ := hR.2.1 k hk
      exact ⟨g1, g2, fun g => (g3 g).all (fun c n1 n2 => ⟨a1 c (by omega), a2 c (by omega) (by omega) (by omega) (by omega)⟩) (fun i n1 n2 => u4 i (by omega))⟩
  · have w : WT τ := TCo.wt hm.1 (by decide) hR.2.2 O T
    exact w.mv (fun c _ _ => by rw [u1])
theorem m_again {X : PX} {σ : Sg} {P : Int → Sg → Prop} {a : Int} (ha : InR a) (hh : 0 ≤ a → a ≤ 2 → σ.2 172 a.toNat = 0 ∨ σ.2 172 a.toNat = 1) (q1 : ¬ (0 ≤ a ∧ a ≤ 2 ∧ σ.2 172 a.toNat = 1) → P 0 σ) (q2 : 0 ≤ a ∧ a ≤ 2 ∧ σ.2 172 a.toNat = 1 → ∀ τ : Sg, τ.1 = σ.1 → (∀ c : Nat, c ≠ 171 → τ.2 c = σ.2 c) → (∀ i : Nat, 904 ≤ i → τ.2 171 i = σ.2 171 i) → (∀ i : Nat, i < 904 → τ.2 171 i = σ.2 171 (904 * (a.toNat + 1) + i)) → P 1 τ) : CI X 282 [vR (some 170), vI a] σ P := by
  refine v_282 (c_isIn ha (by omega) (by omega) ⟨by split <;> omega, fun h => ⟨_, rfl, q1 (fun g => ?_)⟩, fun h => ?_⟩)
  · rw [if_pos (by omega)] at h
    omega
  · have g : 0 ≤ a ∧ a ≤ 2 := by
      rcases Decidable.em (0 ≤ a ∧ a ≤ 2) with g | g
      · exact g
      · exact absurd (if_neg g) h
    have hh := hh g.1 g.2
    refine ⟨by omega, by omega, fun h1 => m_aloop g.1 g.2 904 0 _ (by omega) (by omega) (fun τ t1 t2 t3 t4 => ⟨_, rfl, q2 (by omega) τ t1 t2 (fun i hi => t3 i (by omega)) (fun i hi => t4 i (by omega) hi)⟩), fun h1 => ⟨_, rfl, q1 (by omega)⟩⟩
theorem s_again {X : PX} : Sm_35 X Rel := by
  intro a ha σ hR
  have hh : 0 ≤ a → a ≤ 2 → σ.2 172 a.toNat = σ.2 130 a.toNat ∧ (σ.2 130 a.toNat = 0 ∨ σ.2 130 a.toNat = 1) := fun g1 g2 => ⟨(hR.2.1 a.toNat (by omega)).1, (hR.2.1 a.toNat (by omega)).2.1⟩
  have bad : ¬ (0 ≤ a ∧ a ≤ 2 ∧ σ.2 172 a.toNat = 1) → CI X 282 [vR (some 170), vI a] σ (fun r2 υ => r2 = 0 ∧ InR 0 ∧ Rel υ) := fun g => m_again ha (fun g1 g2 => by have := hh g1 g2; omega) (fun _ => ⟨rfl, by omega, hR⟩) (fun n => absurd n g)
  refine v_127 ⟨ha, fun h => ⟨_, rfl, bad (by omega)⟩, fun h => ⟨fun h3 => ⟨_, rfl, bad (by omega)⟩, fun h3 => ?_⟩⟩
  have hh := hh (by omega) (by omega)
  refine ⟨by omega, by omega, fun h4 => ?_, fun h4 => ⟨_, rfl, bad (by omega)⟩⟩
  have hm := img_mem (a := a) (by omega) (by omega)
  have hT : TR σ (34 + 32 * a.toNat) (904 * (a.toNat + 1)) := (hR.2.1 a.toNat (by omega)).2.2 (by omega)
  obtain ⟨h1, -⟩ := id hT
  refine c_tcopy (by decide) hm.1 (Ne.symm hm.2) hR.2.2 (by omega) (fun τ O T => ⟨_, rfl, ?_⟩)
  have e2 : τ.2 172 = σ.2 172 := (O 172 (by omega)).2
  have e1 : τ.2 171 = σ.2 171 := (O 171 (by omega)).2
  refine m_again ha (fun _ _ => by rw [e2]; omega) (fun g => absurd (by rw [e2]; omega) g) (fun _ υ u1 u2 u3 u4 => ⟨rfl, by omega, ?_⟩)
  rw [e1] at u3 u4
  have a1 : ∀ c : Nat, 33 ≤ c → υ.1 c = σ.1 c := fun c hc => by rw [u1, (O c (by omega)).1]
  have a2 : ∀ c : Nat, 33 ≤ c → c ≠ 171 → υ.2 c = σ.2 c := fun c hc n2 => by rw [u2 c n2, (O c (by omega)).2]
  have a6 : ∀ c : Nat, c ≠ 171 → υ.1 c = τ.1 c ∧ υ.2 c = τ.2 c := fun c n1 => ⟨by rw [u1], u2 c n1⟩
  have T2 : TCo σ υ 1 (34 + 32 * a.toNat) := by
    obtain ⟨⟨c1, c6, c7⟩, c2, c3, c4⟩ := T
    refine ⟨⟨?_, ?_, ?_⟩, ?_, ?_, fun k hk => ⟨(c4 k hk).1.mv (fun c n1 n2 => a6 c (by omega)), (c4 k hk).2.1.mv (fun c n1 n2 => a6 c (by omega)), (c4 k hk).2.2.mv (fun c n1 n2 => a6 c (by omega))⟩⟩
    · rw [(a6 _ (by omega)).1]; exact c1
    · rw [(a6 _ (by omega)).1]; exact c6
    · rw [(a6 _ (by omega)).1]; exact c7
    · rw [(a6 _ (by omega)).2]; exact c2
    · rw [(a6 _ (by omega)).2]; exact c3
  have w : WT τ := TCo.wt (by decide) hm.1 hR.2.2 O T
  exact hR.now (hT.cp T2 (fun i hi => by rw [Nat.zero_add, u4 i hi])) (fun c n1 n2 => ⟨a1 c n1, a2 c n1 (by omega)⟩) u3 (a2 130 (by omega) (by omega)) (a2 172 (by omega) (by omega)) (w.mv (fun c _ _ => by rw [u1]))
