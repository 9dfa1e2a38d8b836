/-! THE RELATION of the two: what is told, there and here -/
abbrev PRn (σ : Sg) (p r : Nat) : Nat := if σ.2 (p + 5) r = -1 then 2 ^ (σ.2 (p + 4) r).toNat else 2 ^ (σ.2 (p + 4) r).toNat ||| 2 ^ (σ.2 (p + 5) r).toNat
/-- the class's PARISH p is what stands in the reference's row at o -/
def PR (σ : Sg) (p o : Nat) : Prop :=
  (σ.2 171 o = σ.1 p 0 ∧ 0 ≤ σ.1 p 0 ∧ σ.1 p 0 ≤ 99) ∧ (σ.2 171 (o + 1) = σ.1 p 1 ∧ 0 ≤ σ.1 p 1 ∧ σ.1 p 1 ≤ 99) ∧
  (σ.2 171 (o + 2) = σ.1 p 2 ∧ 0 ≤ σ.1 p 2 ∧ σ.1 p 2 ≤ 7) ∧ (σ.2 171 (o + 3) = σ.1 p 4 ∧ 0 ≤ σ.1 p 4 ∧ σ.1 p 4 ≤ 10) ∧
  (σ.2 171 (o + 4) = σ.1 p 3 ∧ 0 ≤ σ.1 p 3 ∧ σ.1 p 3 < 2 ^ (σ.1 p 2).toNat) ∧
  (∀ h : Nat, (h : Int) < σ.1 p 2 → (σ.2 171 (o + 5 + 2 * h) = σ.2 (p + 1) h ∧ 0 ≤ σ.2 (p + 1) h ∧ σ.2 (p + 1) h ≤ 99) ∧ (σ.2 171 (o + 6 + 2 * h) = σ.2 (p + 2) h ∧ 0 ≤ σ.2 (p + 2) h ∧ σ.2 (p + 2) h ≤ 9)) ∧
  (∀ h : Nat, h < 7 → 0 ≤ σ.2 171 (o + 5 + 2 * h) ∧ σ.2 171 (o + 5 + 2 * h) ≤ 99) ∧
  (∀ r : Nat, (r : Int) < σ.1 p 4 → (σ.2 171 (o + 19 + 3 * r) = σ.2 (p + 3) r ∧ 0 ≤ σ.2 (p + 3) r ∧ σ.2 (p + 3) r < σ.1 p 2) ∧ (σ.2 171 (o + 20 + 3 * r) = σ.2 (p + 4) r ∧ 0 ≤ σ.2 (p + 4) r ∧ σ.2 (p + 4) r < σ.1 p 2) ∧ (σ.2 171 (o + 21 + 3 * r) = σ.2 (p + 5) r ∧ -1 ≤ σ.2 (p + 5) r ∧ σ.2 (p + 5) r < σ.1 p 2) ∧ σ.2 (p + 6) r = ((PRn σ p r : Nat) : Int))
/-- DEEDS (d) or FACTS -/
def QR (σ : Sg) (q o cap : Nat) (d : Bool) : Prop :=
  (σ.2 171 o = σ.1 q 0 ∧ 0 ≤ σ.1 q 0 ∧ σ.1 q 0 ≤ cap) ∧
  (∀ i : Nat, (i : Int) < σ.1 q 0 → σ.2 171 (o + 1 + 2 * i) = σ.2 (q + 1) i ∧ σ.2 171 (o + 2 + 2 * i) = σ.2 (q + 2) i ∧
    (if d then 0 ≤ σ.2 (q + 1) i ∧ σ.2 (q + 1) i ≤ 5 ∧ (σ.2 (q + 1) i = 0 → σ.2 (q + 2) i = -1) ∧ (σ.2 (q + 1) i ≠ 0 → 0 ≤ σ.2 (q + 2) i ∧ σ.2 (q + 2) i ≤ 99) ∧ (σ.2 (q + 1) i = 1 ∨ σ.2 (q + 1) i = 2 → σ.2 (q + 2) i ≤ 6) ∧ (σ.2 (q + 1) i = 5 → σ.2 (q + 2) i ≤ 9)
     else 0 ≤ σ.2 (q + 1) i ∧ σ.2 (q + 1) i ≤ 6 ∧ 0 ≤ σ.2 (q + 2) i ∧ σ.2 (q + 2) i ≤ 99))
/-- all that is told: the class's cells at t, the reference's row from o on -/
def TR (σ : Sg) (t o : Nat) : Prop :=
  (σ.2 171 (o + 4) = σ.1 t 1 ∧ 0 ≤ σ.1 t 1 ∧ σ.1 t 1 ≤ 600) ∧
  (∀ i : Nat, (i : Int) < σ.1 t 1 → σ.2 171 (o + 10 + i) = σ.2 (t + 1) i ∧ 0 ≤ σ.2 (t + 1) i ∧ σ.2 (t + 1) i ≤ 255) ∧
  (σ.2 171 (o + 5) = σ.1 t 6 ∧ 0 ≤ σ.1 t 6 ∧ σ.1 t 6 ≤ 4) ∧ (σ.2 171 (o + 6) = σ.1 t 7 ∧ -1 ≤ σ.1 t 7 ∧ σ.1 t 7 ≤ 600) ∧
  (∀ s : Nat, s < 3 → σ.2 171 (o + s) = σ.2 (t + 5) s ∧ 0 ≤ σ.2 (t + 5) s ∧ σ.2 (t + 5) s ≤ 2) ∧
  (∀ k : Nat, (k : Int) < σ.2 (t + 5) 0 → PR σ (t + 6 + 13 * k) (o + 610 + 49 * k)) ∧
  (∀ k : Nat, (k : Int) < σ.2 (t + 5) 1 → QR σ (t + 13 + 13 * k) (o + 708 + 81 * k) 40 true) ∧
  (∀ k : Nat, (k : Int) < σ.2 (t + 5) 2 → QR σ (t + 16 + 13 * k) (o + 870 + 17 * k) 8 false)
/-- sizes of all that is kept, told or not -/
def WT (σ : Sg) : Prop := ∀ t : Nat, t ∈ tolL → ∀ k : Nat, k < 2 → (0 ≤ σ.1 (t + 6 + 13 * k) 2 ∧ σ.1 (t + 6 + 13 * k) 2 ≤ 7) ∧ (0 ≤ σ.1 (t + 6 + 13 * k) 4 ∧ σ.1 (t + 6 + 13 * k) 4 ≤ 10) ∧ (0 ≤ σ.1 (t + 13 + 13 * k) 0 ∧ σ.1 (t + 13 + 13 * k) 0 ≤ 40) ∧ (0 ≤ σ.1 (t + 16 + 13 * k) 0 ∧ σ.1 (t + 16 + 13 * k) 0 ≤ 40)
theorem tol_rng : ∀ t ∈ tolL, 1 ≤ t ∧ t ≤ 98 ∧ ∀ u ∈ tolL, t ≠ u → t + 31 < u ∨ u + 31 < t := by decide +kernel
theorem WT.mv {σ τ : Sg} (h : WT σ) (f : ∀ c : Nat, 2 ≤ c → c < 130 → τ.1 c = σ.1 c) : WT τ := by
  intro t ht k hk
  have r := tol_rng t ht
  rw [f (t + 6 + 13 * k) (by omega) (by omega), f (t + 13 + 13 * k) (by omega) (by omega), f (t + 16 + 13 * k) (by omega) (by omega)]
  exact h t ht k hk
def Rel (σ : Sg) : Prop := TR σ 1 0 ∧ (∀ k : Nat, k < 3 → σ.2 172 k = σ.2 130 k ∧ (σ.2 130 k = 0 ∨ σ.2 130 k = 1) ∧ (σ.2 130 k = 1 → TR σ (34 + 32 * k) (904 * (k + 1)))) ∧ WT σ
/-- nothing that is told has changed -/
def Fr (σ τ : Sg) : Prop := (∀ c : Nat, c < 130 → τ.1 c = σ.1 c) ∧ (∀ c : Nat, c ≤ 130 → τ.2 c = σ.2 c) ∧ τ.2 171 = σ.2 171 ∧ τ.2 172 = σ.2 172
theorem Fr.rfl {σ : Sg} : Fr σ σ := ⟨fun _ _ => Eq.refl _, fun _ _ => Eq.refl _, Eq.refl _, Eq.refl _⟩
theorem Fr.trans {σ τ υ : Sg} (h : Fr σ τ) (g : Fr τ υ) : Fr σ υ := ⟨fun c q => (g.1 c q).trans (h.1 c q), fun c q => (g.2.1 c q).trans (h.2.1 c q), g.2.2.1.trans h.2.2.1, g.2.2.2.trans h.2.2.2⟩
theorem PR.fr {σ τ : Sg} {p o : Nat} (hp : p < 124) (h : PR σ p o) (f : Fr σ τ) : PR τ p o := by
  unfold PR at h ⊢
  have e1 : τ.2 (p + 5) = σ.2 (p + 5) := f.2.1 _ (by omega)
  have e2 : τ.2 (p + 4) = σ.2 (p + 4) := f.2.1 _ (by omega)
  rw [f.2.2.1, f.1 p (by omega), f.2.1 (p + 1) (by omega), f.2.1 (p + 2) (by omega), f.2.1 (p + 3) (by omega), f.2.1 (p + 4) (by omega), f.2.1 (p + 5) (by omega), f.2.1 (p + 6) (by omega)]
  simp only [PRn, e1, e2] at h ⊢
  exact h
theorem QR.fr {σ τ : Sg} {q o cap : Nat} {d : Bool} (hq : q < 128) (h : QR σ q o cap d) (f : Fr σ τ) : QR τ q o cap d := by
  unfold QR at h ⊢
  rw [f.2.2.1, f.1 q (by omega), f.2.1 (q + 1) (by omega), f.2.1 (q + 2) (by omega)]
  exact h
theorem TR.fr {σ τ : Sg} {t o : Nat} (ht : t < 99) (h : TR σ t o) (f : Fr σ τ) : TR τ t o := by
  obtain ⟨h1, h2, h3, h4, h5, h6, h7, h8⟩ := h
  have e1 : τ.1 t = σ.1 t := f.1 t (by omega)
  have e2 : τ.2 (t + 1) = σ.2 (t + 1) := f.2.1 _ (by omega)
  have e5 : τ.2 (t + 5) = σ.2 (t + 5) := f.2.1 _ (by omega)
  have hc : ∀ k s : Nat, s < 3 → (k : Int) < σ.2 (t + 5) s → k < 2 := fun k s hs hk => by
    have := h5 s hs
    omega
  unfold TR
  rw [e1, e2, e5, f.2.2.1]
  exact ⟨h1, h2, h3, h4, h5, fun k hk => (h6 k hk).fr (by have := hc k 0 (by omega) hk; omega) f, fun k hk => (h7 k hk).fr (by have := hc k 1 (by omega) hk; omega) f, fun k hk => (h8 k hk).fr (by have := hc k 2 (by omega) hk; omega) f⟩
theorem Rel.fr {σ τ : Sg} (h : Rel σ) (f : Fr σ τ) : Rel τ := by
  refine ⟨h.1.fr (by omega) f, fun k hk => ?_, h.2.2.mv (fun c _ hc => f.1 c hc)⟩
  rw [f.2.2.2, f.2.1 130 (by omega)]
  obtain ⟨h1, h2, h3⟩ := h.2.1 k hk
  exact ⟨h1, h2, fun q => (h3 q).fr (by omega) f⟩
/-- it holds at first -/
theorem Rel_0 : Rel σ0 := by
  have z : ∀ c j : Nat, c ≠ 171 → σ0.2 c j = 0 := fun c j h => by
    show (if c = 171 then up (fun _ => 0) 6 (-1) else fun _ => 0) j = 0
    rw [if_neg h]
  refine ⟨⟨by decide +kernel, fun i hi => ?_, by decide +kernel, by decide +kernel, by decide +kernel, fun k hk => ?_, fun k hk => ?_, fun k hk => ?_⟩, fun k hk => ⟨?_, ?_, ?_⟩, by unfold WT; decide +kernel⟩
  · have : σ0.1 1 1 = 0 := by decide +kernel
    omega
  · rw [z _ _ (by omega)] at hk; omega
  · rw [z _ _ (by omega)] at hk; omega
  · rw [z _ _ (by omega)] at hk; omega
  · rw [z _ _ (by omega), z _ _ (by omega)]
  · left; exact z _ _ (by omega)
  · intro q; rw [z _ _ (by omega)] at q; omega
theorem c_isIn {X : PX} {σ : Sg} {P : Int → Sg → Prop} {a l m : Int} (h1 : InR a) (h2 : InR l) (h3 : InR m) (q : P (if l ≤ a ∧ a ≤ m then 1 else 0) σ) : CI X 161 [vI a, vI l, vI m] σ P := by
  refine v_161 ⟨h1, h2, fun h => ⟨_, rfl, ?_⟩, fun h => ⟨h3, fun g => ⟨_, rfl, ?_⟩, fun g => ⟨_, rfl, ?_⟩⟩⟩
  · rwa [if_neg (by omega)] at q
  · rwa [if_neg (by omega)] at q
  · rwa [if_pos (by omega)] at q
/-! count -/
theorem m_count {X : PX} {σ : Sg} {P : Int → Sg → Prop} {a : Int} (h : InR a) (q : P (if 0 ≤ a ∧ a ≤ 2 then σ.2 171 a.toNat else -2) σ) : CI X 280 [vR (some 170), vI a] σ P := by
  refine v_280 (c_isIn h (by omega) (by omega) ⟨by split <;> omega, fun g => ⟨_, rfl, ?_⟩, fun g => ⟨?_, _, rfl, ?_⟩⟩)
  · rwa [if_neg (by split at g <;> simp_all)] at q
  · split at g <;> omega
  · rwa [if_pos (by split at g <;> simp_all)] at q
theorem s_count {X : PX} : Sm_33 X Rel := by
  intro a ha σ hR
  refine v_125 ⟨ha, fun h => ⟨_, rfl, m_count ha ⟨?_, by omega, hR⟩⟩, fun h => ⟨fun g => ⟨_, rfl, m_count ha ⟨?_, by omega, hR⟩⟩, fun g => ⟨by omega, _, rfl, m_count ha ⟨?_, ?_, hR⟩⟩⟩⟩
  · rw [if_neg (by omega)]
  · rw [if_neg (by omega)]
  · rw [if_pos (by omega)]
    have := (hR.1.2.2.2.2.1 a.toNat (by omega)).1
    rw [Nat.zero_add] at this
    exact this
  · have : 0 ≤ σ.2 6 a.toNat ∧ σ.2 6 a.toNat ≤ 2 := (hR.1.2.2.2.2.1 a.toNat (by omega)).2
    exact ⟨by omega, by omega⟩
/-! fault -/
theorem s_fault {X : PX} : Sm_3 X Rel := by
  intro a ha σ hR
  obtain ⟨-, -, h5, h6, -⟩ := hR.1
  refine v_124 ⟨ha, fun h => ⟨fun g => ⟨_, rfl, v_188 ⟨ha, fun _ => ⟨fun _ => ⟨_, rfl, rfl, by omega, hR⟩, fun n => absurd g n⟩, fun n => absurd h n⟩⟩, fun g => ⟨_, rfl, v_188 ⟨ha, fun _ => ⟨fun n => absurd n g, fun _ => ⟨_, rfl, h6.1, by omega, hR⟩⟩, fun n => absurd h n⟩⟩⟩, fun h => ⟨_, rfl, v_188 ⟨ha, fun n => absurd n h, fun _ => ⟨_, rfl, h5.1, by omega, hR⟩⟩⟩⟩
