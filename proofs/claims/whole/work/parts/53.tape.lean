/-! the tape: end, feed -/
theorem PR.mv {σ τ : Sg} {p o : Nat} (h : PR σ p o) (f1 : τ.1 p = σ.1 p) (f2 : ∀ c : Nat, p < c → c ≤ p + 6 → τ.2 c = σ.2 c) (f3 : ∀ i : Nat, o ≤ i → i < o + 49 → τ.2 171 i = σ.2 171 i) : PR τ p o := by
  obtain ⟨h1, h2, h3, h4, h5, h6, h7, h8⟩ := h
  have e1 := f2 (p + 1) (by omega) (by omega)
  have e2 := f2 (p + 2) (by omega) (by omega)
  have e3 := f2 (p + 3) (by omega) (by omega)
  have e4 := f2 (p + 4) (by omega) (by omega)
  have e5 := f2 (p + 5) (by omega) (by omega)
  have e6 := f2 (p + 6) (by omega) (by omega)
  unfold PR
  simp only [PRn, f1, e1, e2, e3, e4, e5, e6]
  rw [f3 o (by omega) (by omega), f3 (o + 1) (by omega) (by omega), f3 (o + 2) (by omega) (by omega), f3 (o + 3) (by omega) (by omega), f3 (o + 4) (by omega) (by omega)]
  refine ⟨h1, h2, h3, h4, h5, fun g hg => ?_, fun g hg => ?_, fun r hr => ?_⟩
  · rw [f3 (o + 5 + 2 * g) (by omega) (by omega), f3 (o + 6 + 2 * g) (by omega) (by omega)]
    exact h6 g hg
  · rw [f3 (o + 5 + 2 * g) (by omega) (by omega)]
    exact h7 g hg
  · rw [f3 (o + 19 + 3 * r) (by omega) (by omega), f3 (o + 20 + 3 * r) (by omega) (by omega), f3 (o + 21 + 3 * r) (by omega) (by omega)]
    exact h8 r hr
theorem QR.mv {σ τ : Sg} {q o cap : Nat} {d : Bool} (h : QR σ q o cap d) (f1 : τ.1 q = σ.1 q) (f2 : ∀ c : Nat, q < c → c ≤ q + 2 → τ.2 c = σ.2 c) (f3 : ∀ i : Nat, o ≤ i → i < o + 1 + 2 * cap → τ.2 171 i = σ.2 171 i) : QR τ q o cap d := by
  obtain ⟨h1, h2⟩ := h
  have e1 := f2 (q + 1) (by omega) (by omega)
  have e2 := f2 (q + 2) (by omega) (by omega)
  unfold QR
  rw [f1, e1, e2, f3 o (by omega) (by omega)]
  refine ⟨h1, fun i hi => ?_⟩
  rw [f3 (o + 1 + 2 * i) (by omega) (by omega), f3 (o + 2 + 2 * i) (by omega) (by omega)]
  exact h2 i hi
/-- the texts stand, the head is told anew -/
theorem TR.head {σ τ : Sg} {t o : Nat} (h : TR σ t o) (f : ∀ c : Nat, t + 6 ≤ c → c ≤ t + 31 → τ.1 c = σ.1 c ∧ τ.2 c = σ.2 c) (f5 : τ.2 (t + 5) = σ.2 (t + 5)) (f3 : ∀ i : Nat, o + 610 ≤ i → i < o + 904 → τ.2 171 i = σ.2 171 i) (hc : ∀ s : Nat, s < 3 → τ.2 171 (o + s) = σ.2 171 (o + s))
    (h1 : τ.2 171 (o + 4) = τ.1 t 1 ∧ 0 ≤ τ.1 t 1 ∧ τ.1 t 1 ≤ 600) (h2 : ∀ i : Nat, (i : Int) < τ.1 t 1 → τ.2 171 (o + 10 + i) = τ.2 (t + 1) i ∧ 0 ≤ τ.2 (t + 1) i ∧ τ.2 (t + 1) i ≤ 255)
    (h3 : τ.2 171 (o + 5) = τ.1 t 6 ∧ 0 ≤ τ.1 t 6 ∧ τ.1 t 6 ≤ 4) (h4 : τ.2 171 (o + 6) = τ.1 t 7 ∧ -1 ≤ τ.1 t 7 ∧ τ.1 t 7 ≤ 600) : TR τ t o := by
  obtain ⟨-, -, -, -, g5, g6, g7, g8⟩ := h
  have hk : ∀ k s : Nat, s < 3 → (k : Int) < σ.2 (t + 5) s → k < 2 := fun k s hs hk => by
    have := g5 s hs
    omega
  refine ⟨h1, h2, h3, h4, fun s hs => ?_, fun k q => ?_, fun k q => ?_, fun k q => ?_⟩
  · rw [hc s hs, f5]; exact g5 s hs
  · rw [f5] at q
    have := hk k 0 (by omega) q
    exact (g6 k q).mv (f _ (by omega) (by omega)).1 (fun c h1 h2 => (f c (by omega) (by omega)).2) (fun i h1 h2 => f3 i (by omega) (by omega))
  · rw [f5] at q
    have := hk k 1 (by omega) q
    exact (g7 k q).mv (f _ (by omega) (by omega)).1 (fun c h1 h2 => (f c (by omega) (by omega)).2) (fun i h1 h2 => f3 i (by omega) (by omega))
  · rw [f5] at q
    have := hk k 2 (by omega) q
    exact (g8 k q).mv (f _ (by omega) (by omega)).1 (fun c h1 h2 => (f c (by omega) (by omega)).2) (fun i h1 h2 => f3 i (by omega) (by omega))
theorem TR.all {σ τ : Sg} {t o : Nat} (h : TR σ t o) (f : ∀ c : Nat, t ≤ c → c ≤ t + 31 → τ.1 c = σ.1 c ∧ τ.2 c = σ.2 c) (f3 : ∀ i : Nat, o ≤ i → i < o + 904 → τ.2 171 i = σ.2 171 i) : TR τ t o := by
  obtain ⟨h1, h2, h3, h4, h5, -⟩ := id h
  have e0 := (f t (by omega) (by omega)).1
  have e1 := (f (t + 1) (by omega) (by omega)).2
  refine h.head (fun c a b => f c (by omega) (by omega)) (f _ (by omega) (by omega)).2 (fun i a b => f3 i (by omega) b) (fun s hs => f3 _ (by omega) (by omega)) ?_ ?_ ?_ ?_
  · rw [e0, f3 _ (by omega) (by omega)]; exact h1
  · rw [e0, e1]
    intro i hi
    rw [f3 _ (by omega) (by omega)]
    exact h2 i hi
  · rw [e0, f3 _ (by omega) (by omega)]; exact h3
  · rw [e0, f3 _ (by omega) (by omega)]; exact h4
/-- what is told now has moved, its images stand -/
theorem Rel.now {σ τ : Sg} (h : Rel σ) (ht : TR τ 1 0) (f : ∀ c : Nat, 33 ≤ c → c < 130 → τ.1 c = σ.1 c ∧ τ.2 c = σ.2 c) (f3 : ∀ i : Nat, 904 ≤ i → τ.2 171 i = σ.2 171 i) (f4 : τ.2 130 = σ.2 130) (f5 : τ.2 172 = σ.2 172) (hw : WT τ) : Rel τ := by
  refine ⟨ht, fun k hk => ?_, hw⟩
  obtain ⟨h1, h2, h3⟩ := h.2.1 k hk
  rw [f4, f5]
  exact ⟨h1, h2, fun q => (h3 q).all (fun c a b => f c (by omega) (by omega)) (fun i a b => f3 i (by omega))⟩
theorem s_end {X : PX} : Sm_1 X Rel := by
  intro a ha σ hR
  obtain ⟨h1, h2, h3, h4, h5, -⟩ := id hR.1
  have z1 : σ.2 171 4 = σ.1 1 1 := h1.1
  refine v_121 ⟨ha, fun h => ⟨_, rfl, v_163 ⟨ha, fun _ => ⟨_, rfl, rfl, by omega, hR⟩, fun n => absurd h n⟩⟩, fun h => ⟨by omega, fun g => ⟨_, rfl, v_163 ⟨ha, fun n => absurd n h, fun _ => ⟨by dsimp only; omega, fun _ => ⟨_, rfl, rfl, ha, ?_⟩, fun n => absurd (by dsimp only; omega) n⟩⟩⟩, fun g => ⟨_, rfl, v_163 ⟨ha, fun n => absurd n h, fun _ => ⟨by omega, fun n => absurd (by omega) g, fun _ => ⟨_, rfl, rfl, by omega, hR⟩⟩⟩⟩⟩⟩
  dsimp only
  have a1 : ∀ i : Nat, i ≠ 4 → up2 σ.2 171 4 a 171 i = σ.2 171 i := fun i hi => by rw [up2_at, up_ne _ _ hi]
  have a2 : ∀ c : Nat, c ≠ 171 → up2 σ.2 171 4 a c = σ.2 c := fun c hc => up2_ne _ _ _ hc
  have b1 : ∀ i : Nat, i ≠ 1 → up2 σ.1 1 1 a 1 i = σ.1 1 i := fun i hi => by rw [up2_at, up_ne _ _ hi]
  have b2 : ∀ c : Nat, c ≠ 1 → up2 σ.1 1 1 a c = σ.1 c := fun c hc => up2_ne _ _ _ hc
  refine hR.now (hR.1.head (fun c q1 q2 => ⟨b2 c (by omega), a2 c (by omega)⟩) (a2 (1 + 5) (by omega)) (fun i q1 q2 => a1 i (by omega)) (fun s hs => a1 _ (by omega)) ?_ ?_ ?_ ?_) (fun c q1 q2 => ⟨b2 c (by omega), a2 c (by omega)⟩) (fun i q => a1 i (by omega)) (a2 130 (by omega)) (a2 172 (by omega)) (hR.2.2.mv (fun c q1 q2 => b2 c (by omega)))
  · dsimp only
    rw [show up2 σ.2 171 4 a 171 (0 + 4) = a from up2_get _ _ _ _, show up2 σ.1 1 1 a 1 1 = a from up2_get _ _ _ _]
    omega
  · dsimp only
    rw [up2_get, a2 (1 + 1) (by omega)]
    intro i hi
    rw [a1 _ (by omega)]
    exact h2 i (by omega)
  · dsimp only
    rw [b1 6 (by omega), a1 _ (by omega)]; exact h3
  · dsimp only
    rw [b1 7 (by omega), a1 _ (by omega)]; exact h4
