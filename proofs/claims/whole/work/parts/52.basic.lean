/-! the shorter methods -/
theorem fr_170 {σ : Sg} (j : Nat) (x : Int) : Fr σ (up2 σ.1 170 j x, σ.2) := ⟨fun c hc => up2_ne _ _ _ (by omega), fun _ _ => rfl, rfl, rfl⟩
theorem up2_get (f : Nat → Nat → Int) (c j : Nat) (x : Int) : up2 f c j x c j = x := by rw [up2_at, up_same]
theorem c_has {X : PX} {σ : Sg} {P : Int → Sg → Prop} {t : Nat} {s a : Int} (ht : t ∈ tolL) (h0 : 0 ≤ s) (h3 : s < 3) (ha : InR a) (hc : 0 ≤ σ.2 (t + 5) s.toNat ∧ σ.2 (t + 5) s.toNat ≤ 2) (q : P (if 0 ≤ a ∧ a < σ.2 (t + 5) s.toNat then 1 else 0) σ) : CI X 114 [vR (some t), vI s, vI a] σ P := by
  refine v_114 ht ⟨by omega, fun h => by omega, fun h => ⟨fun g => by omega, fun g => ⟨ha, fun k => ⟨_, rfl, ?_⟩, fun k => ⟨by omega, by omega, fun l => ⟨_, rfl, ?_⟩, fun l => ⟨fun m => by omega, fun m => ⟨_, rfl, ?_⟩⟩⟩⟩⟩⟩
  · rwa [if_neg (by omega)] at q
  · rwa [if_neg (by omega)] at q
  · rwa [if_pos (by omega)] at q
theorem c_phas {X : PX} {σ : Sg} {P : Int → Sg → Prop} {p : Nat} {a : Int} (hp : p ∈ paiL) (ha : InR a) (hc : 0 ≤ σ.1 p 0 ∧ σ.1 p 0 ≤ 40) (q : P (if 0 ≤ a ∧ a < σ.1 p 0 then 1 else 0) σ) : CI X 73 [vR (some p), vI a] σ P := by
  refine v_73 hp ⟨ha, fun h => ⟨_, rfl, ?_⟩, fun h => ⟨by omega, fun l => ⟨_, rfl, ?_⟩, fun l => ⟨fun m => by omega, fun m => ⟨_, rfl, ?_⟩⟩⟩⟩
  · rwa [if_neg (by omega)] at q
  · rwa [if_neg (by omega)] at q
  · rwa [if_pos (by omega)] at q
def pdet (σ : Sg) (p : Nat) (k w : Int) : Int := if k = -1 ∧ w = 0 then σ.1 p 0 else if 0 ≤ k ∧ k < σ.1 p 0 then (if w = 0 then σ.2 (p + 1) k.toNat else if w = 1 then σ.2 (p + 2) k.toNat else -2) else -2
theorem c_pdet {X : PX} {σ : Sg} {P : Int → Sg → Prop} {p : Nat} {k w : Int} (hp : p ∈ paiL) (hk : InR k) (hw : InR w) (hc : 0 ≤ σ.1 p 0 ∧ σ.1 p 0 ≤ 40) (q : P (pdet σ p k w) σ) : CI X 75 [vR (some p), vI k, vI w] σ P := by
  unfold pdet at q
  have key : ∀ h1 : ¬ (k = -1 ∧ w = 0), Cl X 73 [vR (some p), vI k] σ (fun v τ => ∃ r, v = some (vI r) ∧ (InR r ∧ (r ≠ 0 → (w ≠ 0 → (w ≠ 1 → ∃ x, some (vI (-2)) = some (vI x) ∧ P x τ) ∧ (¬ w ≠ 1 → (0 ≤ k ∧ k < 40) ∧ ∃ x, some (vI (τ.2 (p + 2) k.toNat)) = some (vI x) ∧ P x τ)) ∧ (¬ w ≠ 0 → (0 ≤ k ∧ k < 40) ∧ ∃ x, some (vI (τ.2 (p + 1) k.toNat)) = some (vI x) ∧ P x τ)) ∧ (¬ r ≠ 0 → ∃ x, some (vI (-2)) = some (vI x) ∧ P x τ))) := by
    intro h1
    rw [if_neg h1] at q
    refine c_phas hp hk hc ⟨by split <;> omega, fun h2 => ?_, fun h2 => ⟨_, rfl, ?_⟩⟩
    · have h3 : 0 ≤ k ∧ k < σ.1 p 0 := by
        rcases Decidable.em (0 ≤ k ∧ k < σ.1 p 0) with h | h
        · exact h
        · rw [if_neg h] at h2; exact absurd rfl h2
      rw [if_pos h3] at q
      refine ⟨fun h4 => ⟨fun h5 => ⟨_, rfl, ?_⟩, fun h5 => ⟨by omega, _, rfl, ?_⟩⟩, fun h4 => ⟨by omega, _, rfl, ?_⟩⟩
      · rwa [if_neg h4, if_neg h5] at q
      · rwa [if_neg h4, if_pos (by omega)] at q
      · rwa [if_pos (by omega)] at q
    · rcases Decidable.em (0 ≤ k ∧ k < σ.1 p 0) with h | h
      · rw [if_pos h] at h2; exact absurd (by omega) h2
      · rwa [if_neg h] at q
  refine v_75 hp ⟨hk, fun h1 => ?_, fun h1 => ⟨hw, fun h2 => ?_, fun h2 => ⟨_, rfl, ?_⟩⟩⟩
  · refine Cl.mono (key (by omega)) (fun v τ ⟨r, e, a, b, c⟩ => ⟨r, e, a, fun n => ⟨hw, (b n).1, (b n).2⟩, c⟩)
  · refine Cl.mono (key (by omega)) (fun v τ ⟨r, e, a, b, c⟩ => ⟨r, e, a, fun n => ⟨(b n).1, (b n).2⟩, c⟩)
  · rwa [if_pos (by omega)] at q
/-! the reference's side -/
theorem m_isOf {X : PX} {σ : Sg} {P : Int → Sg → Prop} {s a : Int} (h0 : 0 ≤ s) (h3 : s < 3) (ha : InR a) (hc : 0 ≤ σ.2 171 s.toNat ∧ σ.2 171 s.toNat ≤ 2) (q : P (if 0 ≤ a ∧ a < σ.2 171 s.toNat then 1 else 0) σ) : CI X 186 [vR (some 170), vI s, vI a] σ P := by
  refine v_186 ⟨by omega, c_isIn ha (by omega) (by omega) ⟨by split <;> omega, _, rfl, ?_⟩⟩
  rcases Decidable.em (0 ≤ a ∧ a < σ.2 171 s.toNat) with h | h
  · rw [if_pos h] at q; rwa [if_pos (by omega)]
  · rw [if_neg h] at q; rwa [if_neg (by omega)]
theorem m_place {X : PX} {σ : Sg} {P : Int → Sg → Prop} {s a : Int} (h0 : 0 ≤ s) (h3 : s < 3) (q : P (if s = 0 then 610 + 49 * a else if s = 1 then 708 + 81 * a else 870 + 17 * a) σ) : CI X 184 [vI s, vI a] σ P := by
  refine v_184 ⟨by omega, fun h => ⟨fun g => ⟨_, rfl, ?_⟩, fun g => ⟨_, rfl, ?_⟩⟩, fun h => ⟨_, rfl, ?_⟩⟩
  · rwa [if_neg h, if_neg g] at q
  · rwa [if_neg h, if_pos (by omega)] at q
  · rwa [if_pos (by omega)] at q
theorem m_isYears {X : PX} {σ : Sg} {P : Int → Sg → Prop} {a : Int} (ha : InR a) (hc : 0 ≤ σ.2 171 1 ∧ σ.2 171 1 ≤ 2) (q1 : 0 ≤ a ∧ a < σ.2 171 1 → P 1 (up2 σ.1 170 34 (708 + 81 * a), σ.2)) (q2 : ¬ (0 ≤ a ∧ a < σ.2 171 1) → P 0 σ) : CI X 249 [vR (some 170), vI a] σ P := by
  refine v_249 (m_isOf (s := 1) (by omega) (by omega) ha hc ⟨by split <;> omega, fun h => m_place (by omega) (by omega) ?_, fun h => ?_⟩)
  · have h3 : 0 ≤ a ∧ a < σ.2 171 1 := by
      rcases Decidable.em (0 ≤ a ∧ a < σ.2 171 1) with g | g
      · exact g
      · exact absurd (if_neg g) h
    exact ⟨_, rfl, q1 h3⟩
  · rcases Decidable.em (0 ≤ a ∧ a < σ.2 171 1) with g | g
    · have h' : ¬ (if 0 ≤ a ∧ a < σ.2 171 1 then (1 : Int) else 0) ≠ 0 := h
      rw [if_pos g] at h'
      omega
    · exact ⟨_, rfl, q2 g⟩
theorem m_isLog {X : PX} {σ : Sg} {P : Int → Sg → Prop} {a : Int} (ha : InR a) (hc : 0 ≤ σ.2 171 2 ∧ σ.2 171 2 ≤ 2) (q1 : 0 ≤ a ∧ a < σ.2 171 2 → P 1 (up2 σ.1 170 41 (870 + 17 * a), σ.2)) (q2 : ¬ (0 ≤ a ∧ a < σ.2 171 2) → P 0 σ) : CI X 265 [vR (some 170), vI a] σ P := by
  refine v_265 (m_isOf (s := 2) (by omega) (by omega) ha hc ⟨by split <;> omega, fun h => m_place (by omega) (by omega) ?_, fun h => ?_⟩)
  · have h3 : 0 ≤ a ∧ a < σ.2 171 2 := by
      rcases Decidable.em (0 ≤ a ∧ a < σ.2 171 2) with g | g
      · exact g
      · exact absurd (if_neg g) h
    exact ⟨_, rfl, q1 h3⟩
  · rcases Decidable.em (0 ≤ a ∧ a < σ.2 171 2) with g | g
    · have h' : ¬ (if 0 ≤ a ∧ a < σ.2 171 2 then (1 : Int) else 0) ≠ 0 := h
      rw [if_pos g] at h'
      omega
    · exact ⟨_, rfl, q2 g⟩
/-! deed, fact -/
def mdet (σ : Sg) (o : Nat) (k w : Int) : Int := if k = -1 then (if w = 0 then σ.2 171 o else -2) else if 0 ≤ k ∧ k < σ.2 171 o then (if 0 ≤ w ∧ w ≤ 1 then σ.2 171 (o + 1 + 2 * k.toNat + w.toNat) else -2) else -2
theorem m_deed {X : PX} {σ : Sg} {P : Int → Sg → Prop} {a k w : Int} (ha : InR a) (hk : InR k) (hw : InR w) (hc : 0 ≤ σ.2 171 1 ∧ σ.2 171 1 ≤ 2) (hz : 0 ≤ a ∧ a < σ.2 171 1 → 0 ≤ σ.2 171 (708 + 81 * a.toNat) ∧ σ.2 171 (708 + 81 * a.toNat) ≤ 40) (q1 : 0 ≤ a ∧ a < σ.2 171 1 → P (mdet σ (708 + 81 * a.toNat) k w) (up2 σ.1 170 34 (708 + 81 * a), σ.2)) (q2 : ¬ (0 ≤ a ∧ a < σ.2 171 1) → P (-2) σ) : CI X 250 [vR (some 170), vI a, vI k, vI w] σ P := by
  refine v_250 (m_isYears ha hc (fun h => ⟨by omega, fun _ => ⟨hk, fun h1 => ⟨?_, ?_⟩, fun h1 => ⟨hw, fun h2 => ⟨_, rfl, ?_⟩, fun h2 => ⟨?_, _, rfl, ?_⟩⟩⟩, fun n => absurd (by omega) n⟩) (fun h => ⟨by omega, fun n => absurd rfl n, fun _ => ⟨_, rfl, q2 h⟩⟩))
  all_goals
    try dsimp only
    try rw [up2_get]
    have e : (708 + 81 * a).toNat = 708 + 81 * a.toNat := by omega
    have hz := hz h
    have q1 := q1 h
    unfold mdet at q1
  · omega
  · rw [e]
    rw [if_neg h1] at q1
    refine c_isIn hk (by omega) (by omega) ⟨by split <;> omega, fun h2 => ⟨_, rfl, ?_⟩, fun h2 => c_isIn hw (by omega) (by omega) ⟨by split <;> omega, fun h3 => ⟨_, rfl, ?_⟩, fun h3 => ⟨?_, _, rfl, ?_⟩⟩⟩
    · rcases Decidable.em (0 ≤ k ∧ k < σ.2 171 (708 + 81 * a.toNat)) with g | g
      · rw [if_pos (by omega)] at h2; omega
      · rwa [if_neg g] at q1
    all_goals
      have g : 0 ≤ k ∧ k < σ.2 171 (708 + 81 * a.toNat) := by
        rcases Decidable.em (0 ≤ k ∧ k ≤ σ.2 171 (708 + 81 * a.toNat) - 1) with g | g
        · omega
        · rw [if_neg g] at h2; exact absurd rfl h2
      rw [if_pos g] at q1
    · rcases Decidable.em (0 ≤ w ∧ w ≤ 1) with g2 | g2
      · rw [if_pos g2] at h3; omega
      · rwa [if_neg g2] at q1
    all_goals
      have g2 : 0 ≤ w ∧ w ≤ 1 := by
        rcases Decidable.em (0 ≤ w ∧ w ≤ 1) with g2 | g2
        · exact g2
        · rw [if_neg g2] at h3; exact absurd rfl h3
      rw [if_pos g2] at q1
    · dsimp only; rw [up2_get]; omega
    · dsimp only; rw [up2_get, show (708 + 81 * a + 1 + 2 * k + w).toNat = 708 + 81 * a.toNat + 1 + 2 * k.toNat + w.toNat by omega]
      exact q1
  · rwa [if_pos (by omega), if_neg h2] at q1
  · omega
  · rw [e]
    rwa [if_pos (by omega), if_pos (by omega)] at q1
theorem s_deed {X : PX} : Sm_5 X Rel := by
  intro a k w ha hk hw σ hR
  obtain ⟨-, -, -, -, hcn, -, hY, hG⟩ := id hR.1
  have hc := hcn 1 (by omega)
  have hB : σ.2 171 1 = σ.2 6 1 := by have := hc.1; rw [Nat.zero_add] at this; exact this
  have hc2 : 0 ≤ σ.2 6 1 ∧ σ.2 6 1 ≤ 2 := hc.2
  have hQ : 0 ≤ a ∧ a < σ.2 6 1 → QR σ (14 + 13 * a.toNat) (708 + 81 * a.toNat) 40 true := fun h => by
    have := hY a.toNat (by show (a.toNat : Int) < σ.2 6 1; omega)
    rw [Nat.zero_add] at this
    exact this
  refine v_130 (c_has (s := 1) (by decide) (by omega) (by omega) ha hc2 ⟨by split <;> omega, fun h => ⟨_, rfl, ?_⟩, fun h => ⟨?_, ?_⟩⟩)
  · have h3 : ¬ (0 ≤ a ∧ a < σ.2 6 1) := fun g => by
      have h' : (if 0 ≤ a ∧ a < σ.2 6 1 then (1 : Int) else 0) = 0 := h
      rw [if_pos g] at h'
      omega
    refine m_deed ha hk hw (by omega) (fun g => absurd (by omega) h3) (fun g => absurd (by omega) h3) (fun _ => ⟨rfl, by omega, hR⟩)
  all_goals
    have h3 : 0 ≤ a ∧ a < σ.2 6 1 := by
      have h' : ¬ (if 0 ≤ a ∧ a < σ.2 6 1 then (1 : Int) else 0) = 0 := h
      rcases Decidable.em (0 ≤ a ∧ a < σ.2 6 1) with g | g
      · exact g
      · exact absurd (if_neg g) h'
  · omega
  · obtain ⟨⟨z1, z2, z3⟩, hel⟩ := hQ h3
    have hm : 14 + 13 * a.toNat ∈ paiL := by rcases (show a = 0 ∨ a = 1 by omega) with rfl | rfl <;> decide
    refine c_pdet hm hk hw (by omega) ⟨_, rfl, m_deed ha hk hw (by omega) (fun _ => by rw [z1]; omega) (fun _ => ⟨?_, ?_, hR.fr (fr_170 _ _)⟩) (fun g => absurd (by omega) g)⟩
    · unfold mdet pdet
      rw [z1]
      by_cases h1 : k = -1
      · rw [if_pos h1]
        by_cases h2 : w = 0
        · rw [if_pos h2, if_pos ⟨h1, h2⟩]
        · rw [if_neg h2, if_neg (show ¬ (k = -1 ∧ w = 0) from fun q => h2 q.2), if_neg (by omega)]
      · rw [if_neg h1, if_neg (show ¬ (k = -1 ∧ w = 0) from fun q => h1 q.1)]
        by_cases h4 : 0 ≤ k ∧ k < σ.1 (14 + 13 * a.toNat) 0
        · rw [if_pos h4, if_pos h4]
          obtain ⟨e1, e2, -⟩ := hel k.toNat (by omega)
          by_cases h5 : w = 0
          · rw [if_pos (by omega), if_pos h5, h5]
            exact e1
          · by_cases h6 : w = 1
            · rw [if_pos (by omega), if_neg h5, if_pos h6, h6, show 708 + 81 * a.toNat + 1 + 2 * k.toNat + (1 : Int).toNat = 708 + 81 * a.toNat + 2 + 2 * k.toNat from by show _ + 1 = _; omega]
              exact e2
            · rw [if_neg (by omega), if_neg h5, if_neg h6]
        · rw [if_neg h4, if_neg h4]
    · unfold pdet
      by_cases h4 : 0 ≤ k ∧ k < σ.1 (14 + 13 * a.toNat) 0
      · obtain ⟨-, -, e3⟩ := hel k.toNat (by omega)
        rw [if_neg (by omega), if_pos h4]
        rw [if_pos rfl] at e3
        split
        · omega
        · split
          · by_cases e4 : σ.2 (14 + 13 * a.toNat + 1) k.toNat = 0 <;> omega
          · omega
      · rw [if_neg h4]
        split <;> omega
theorem m_fact {X : PX} {σ : Sg} {P : Int → Sg → Prop} {a k w : Int} (ha : InR a) (hk : InR k) (hw : InR w) (hc : 0 ≤ σ.2 171 2 ∧ σ.2 171 2 ≤ 2) (hz : 0 ≤ a ∧ a < σ.2 171 2 → 0 ≤ σ.2 171 (870 + 17 * a.toNat) ∧ σ.2 171 (870 + 17 * a.toNat) ≤ 8) (q1 : 0 ≤ a ∧ a < σ.2 171 2 → P (mdet σ (870 + 17 * a.toNat) k w) (up2 σ.1 170 41 (870 + 17 * a), σ.2)) (q2 : ¬ (0 ≤ a ∧ a < σ.2 171 2) → P (-2) σ) : CI X 266 [vR (some 170), vI a, vI k, vI w] σ P := by
  refine v_266 (m_isLog ha hc (fun h => ⟨by omega, fun _ => ⟨hk, fun h1 => ⟨?_, ?_⟩, fun h1 => ⟨hw, fun h2 => ⟨_, rfl, ?_⟩, fun h2 => ⟨?_, _, rfl, ?_⟩⟩⟩, fun n => absurd (by omega) n⟩) (fun h => ⟨by omega, fun n => absurd rfl n, fun _ => ⟨_, rfl, q2 h⟩⟩))
  all_goals
    try dsimp only
    try rw [up2_get]
    have e : (870 + 17 * a).toNat = 870 + 17 * a.toNat := by omega
    have hz := hz h
    have q1 := q1 h
    unfold mdet at q1
  · omega
  · rw [e]
    rw [if_neg h1] at q1
    refine c_isIn hk (by omega) (by omega) ⟨by split <;> omega, fun h2 => ⟨_, rfl, ?_⟩, fun h2 => c_isIn hw (by omega) (by omega) ⟨by split <;> omega, fun h3 => ⟨_, rfl, ?_⟩, fun h3 => ⟨?_, _, rfl, ?_⟩⟩⟩
    · rcases Decidable.em (0 ≤ k ∧ k < σ.2 171 (870 + 17 * a.toNat)) with g | g
      · rw [if_pos (by omega)] at h2; omega
      · rwa [if_neg g] at q1
    all_goals
      have g : 0 ≤ k ∧ k < σ.2 171 (870 + 17 * a.toNat) := by
        rcases Decidable.em (0 ≤ k ∧ k ≤ σ.2 171 (870 + 17 * a.toNat) - 1) with g | g
        · omega
        · rw [if_neg g] at h2; exact absurd rfl h2
      rw [if_pos g] at q1
    · rcases Decidable.em (0 ≤ w ∧ w ≤ 1) with g2 | g2
      · rw [if_pos g2] at h3; omega
      · rwa [if_neg g2] at q1
    all_goals
      have g2 : 0 ≤ w ∧ w ≤ 1 := by
        rcases Decidable.em (0 ≤ w ∧ w ≤ 1) with g2 | g2
        · exact g2
        · rw [if_neg g2] at h3; exact absurd rfl h3
      rw [if_pos g2] at q1
    · dsimp only; rw [up2_get]; omega
    · dsimp only; rw [up2_get, show (870 + 17 * a + 1 + 2 * k + w).toNat = 870 + 17 * a.toNat + 1 + 2 * k.toNat + w.toNat by omega]
      exact q1
  · rwa [if_pos (by omega), if_neg h2] at q1
  · omega
  · rw [e]
    rwa [if_pos (by omega), if_pos (by omega)] at q1
theorem s_fact {X : PX} : Sm_18 X Rel := by
  intro a k w ha hk hw σ hR
  obtain ⟨-, -, -, -, hcn, -, hY, hG⟩ := id hR.1
  have hc := hcn 2 (by omega)
  have hB : σ.2 171 2 = σ.2 6 2 := by have := hc.1; rw [Nat.zero_add] at this; exact this
  have hc2 : 0 ≤ σ.2 6 2 ∧ σ.2 6 2 ≤ 2 := hc.2
  have hQ : 0 ≤ a ∧ a < σ.2 6 2 → QR σ (17 + 13 * a.toNat) (870 + 17 * a.toNat) 8 false := fun h => by
    have := hG a.toNat (by show (a.toNat : Int) < σ.2 6 2; omega)
    rw [Nat.zero_add] at this
    exact this
  refine v_131 (c_has (s := 2) (by decide) (by omega) (by omega) ha hc2 ⟨by split <;> omega, fun h => ⟨_, rfl, ?_⟩, fun h => ⟨?_, ?_⟩⟩)
  · have h3 : ¬ (0 ≤ a ∧ a < σ.2 6 2) := fun g => by
      have h' : (if 0 ≤ a ∧ a < σ.2 6 2 then (1 : Int) else 0) = 0 := h
      rw [if_pos g] at h'
      omega
    refine m_fact ha hk hw (by omega) (fun g => absurd (by omega) h3) (fun g => absurd (by omega) h3) (fun _ => ⟨rfl, by omega, hR⟩)
  all_goals
    have h3 : 0 ≤ a ∧ a < σ.2 6 2 := by
      have h' : ¬ (if 0 ≤ a ∧ a < σ.2 6 2 then (1 : Int) else 0) = 0 := h
      rcases Decidable.em (0 ≤ a ∧ a < σ.2 6 2) with g | g
      · exact g
      · exact absurd (if_neg g) h'
  · omega
  · obtain ⟨⟨z1, z2, z3⟩, hel⟩ := hQ h3
    have hm : 17 + 13 * a.toNat ∈ paiL := by rcases (show a = 0 ∨ a = 1 by omega) with rfl | rfl <;> decide
    refine c_pdet hm hk hw (by omega) ⟨_, rfl, m_fact ha hk hw (by omega) (fun _ => by rw [z1]; omega) (fun _ => ⟨?_, ?_, hR.fr (fr_170 _ _)⟩) (fun g => absurd (by omega) g)⟩
    · unfold mdet pdet
      rw [z1]
      by_cases h1 : k = -1
      · rw [if_pos h1]
        by_cases h2 : w = 0
        · rw [if_pos h2, if_pos ⟨h1, h2⟩]
        · rw [if_neg h2, if_neg (show ¬ (k = -1 ∧ w = 0) from fun q => h2 q.2), if_neg (by omega)]
      · rw [if_neg h1, if_neg (show ¬ (k = -1 ∧ w = 0) from fun q => h1 q.1)]
        by_cases h4 : 0 ≤ k ∧ k < σ.1 (17 + 13 * a.toNat) 0
        · rw [if_pos h4, if_pos h4]
          obtain ⟨e1, e2, -⟩ := hel k.toNat (by omega)
          by_cases h5 : w = 0
          · rw [if_pos (by omega), if_pos h5, h5]
            exact e1
          · by_cases h6 : w = 1
            · rw [if_pos (by omega), if_neg h5, if_pos h6, h6, show 870 + 17 * a.toNat + 1 + 2 * k.toNat + (1 : Int).toNat = 870 + 17 * a.toNat + 2 + 2 * k.toNat from by show _ + 1 = _; omega]
              exact e2
            · rw [if_neg (by omega), if_neg h5, if_neg h6]
        · rw [if_neg h4, if_neg h4]
    · unfold pdet
      by_cases h4 : 0 ≤ k ∧ k < σ.1 (17 + 13 * a.toNat) 0
      · obtain ⟨-, -, e3⟩ := hel k.toNat (by omega)
        rw [if_neg (by omega), if_pos h4]
        rw [if_neg (by decide)] at e3
        split
        · omega
        · split
          · omega
          · omega
      · rw [if_neg h4]
        split <;> omega
