/-! NEWT: a text is kept, there and here -/
def clO (a s : Nat) : Nat := if a = 0 then 7 + 13 * s else if a = 1 then 14 + 13 * s else 17 + 13 * s
def clW (a : Nat) : Nat := if a = 0 then 7 else 3
theorem PR.of {υ : Sg} {p o : Nat} {c : PCt} {A : Nat → Int} {x : Int} (hF : ∀ j : Nat, j < 5 → υ.1 p j = c.1 j) (hG : ∀ h : Nat, h < c.1 2 → υ.2 (p + 1) h = c.2 0 h ∧ υ.2 (p + 2) h = c.2 1 h) (hU : ∀ r : Nat, r < c.1 4 → υ.2 (p + 3) r = c.2 2 r ∧ υ.2 (p + 4) r = c.2 3 r ∧ υ.2 (p + 5) r = c.2 4 r ∧ υ.2 (p + 6) r = (ndI (c.2 3 r) (c.2 4 r) : Nat)) (hA : ∀ j : Nat, j < 49 → υ.2 171 (o + j) = A j) (m : MCA A x c) (ok : OKP c) (hm : c.1 5 < 2 ^ c.1 2) : PR υ p o := by
  obtain ⟨⟨m0, m1, m2, m3, m4⟩, m5, m6, m7, m8, -⟩ := m
  obtain ⟨o0, o1, o2, o4, o3, o5, o6, o7, o8⟩ := ok
  obtain ⟨o9, o10⟩ := o8 _ hm
  have e0 := hF 0 (by omega)
  have e1 := hF 1 (by omega)
  have e2 := hF 2 (by omega)
  have e3 := hF 3 (by omega)
  have e4 := hF 4 (by omega)
  have a0 := hA 0 (by omega)
  have a1 := hA 1 (by omega)
  have a2 := hA 2 (by omega)
  have a3 := hA 3 (by omega)
  have a4 := hA 4 (by omega)
  rw [Nat.add_zero] at a0
  refine ⟨by omega, by omega, by omega, by omega, ⟨by omega, by omega, ?_⟩, fun h hh => ?_, fun h hh => ?_, fun r hr => ?_⟩
  · rw [e3, e2, Int.toNat_natCast]
    exact_mod_cast o9
  · rw [e2] at hh
    have hh : h < c.1 2 := by omega
    obtain ⟨g1, g2⟩ := hG h hh
    obtain ⟨n1, n2⟩ := m6 h hh
    obtain ⟨k1, k2⟩ := o6 h hh
    have b1 := hA (5 + 2 * h) (by omega)
    have b2 := hA (6 + 2 * h) (by omega)
    rw [show o + (5 + 2 * h) = o + 5 + 2 * h by omega] at b1
    rw [show o + (6 + 2 * h) = o + 6 + 2 * h by omega] at b2
    exact ⟨by omega, by omega⟩
  · have b1 := hA (5 + 2 * h) (by omega)
    rw [show o + (5 + 2 * h) = o + 5 + 2 * h by omega] at b1
    rw [b1]; exact m7 h hh
  · rw [e4] at hr
    have hr : r < c.1 4 := by omega
    obtain ⟨g1, g2, g3, g4⟩ := hU r hr
    obtain ⟨n1, n2, n3⟩ := m8 r hr
    obtain ⟨k1, k2, k3⟩ := o7 r hr
    obtain ⟨l1, l2, l3⟩ := o10 r hr
    have b1 := hA (19 + 3 * r) (by omega)
    have b2 := hA (20 + 3 * r) (by omega)
    have b3 := hA (21 + 3 * r) (by omega)
    rw [show o + (19 + 3 * r) = o + 19 + 3 * r by omega] at b1
    rw [show o + (20 + 3 * r) = o + 20 + 3 * r by omega] at b2
    rw [show o + (21 + 3 * r) = o + 21 + 3 * r by omega] at b3
    refine ⟨by omega, by omega, by omega, ?_⟩
    rw [g4]
    unfold ndI PRn
    rw [g2, g3]
theorem QR.of {υ : Sg} {q o cap : Nat} {d : Bool} {c : QCt} {A : Nat → Int} (hF : υ.1 q 0 = c.1) (hcap : c.1 ≤ cap) (hG : ∀ k : Nat, k < c.1 → (υ.2 (q + 1) k = c.2 0 k ∧ υ.2 (q + 2) k = c.2 1 k) ∧ (if d then okD (c.2 0 k) (c.2 1 k) else okF (c.2 0 k) (c.2 1 k))) (hA : ∀ j : Nat, j < 1 + 2 * cap → υ.2 171 (o + j) = A j) (m : MQA A c) : QR υ q o cap d := by
  obtain ⟨m0, m1⟩ := m
  have a0 := hA 0 (by omega)
  rw [Nat.add_zero] at a0
  refine ⟨by omega, fun i hi => ?_⟩
  rw [hF] at hi
  have hi : i < c.1 := by omega
  obtain ⟨⟨g1, g2⟩, g3⟩ := hG i hi
  obtain ⟨n1, n2⟩ := m1 i hi
  have b1 := hA (1 + 2 * i) (by omega)
  have b2 := hA (2 + 2 * i) (by omega)
  rw [show o + (1 + 2 * i) = o + 1 + 2 * i by omega] at b1
  rw [show o + (2 + 2 * i) = o + 2 + 2 * i by omega] at b2
  rw [g1, g2]
  exact ⟨by omega, by omega, g3⟩
theorem TR.newt {σ υ : Sg} {a s : Nat} {cn : Int} (h : TR σ 1 0) (ha : a < 3) (hs : s < 2)
    (h1 : υ.2 171 4 = 0 ∧ υ.1 1 1 = 0) (h3 : υ.2 171 5 = υ.1 1 6 ∧ 0 ≤ υ.1 1 6 ∧ υ.1 1 6 ≤ 4) (h4 : υ.2 171 6 = υ.1 1 7 ∧ -1 ≤ υ.1 1 7 ∧ υ.1 1 7 ≤ 600)
    (hn : ∀ t : Nat, t < 3 → t ≠ a → υ.2 6 t = σ.2 6 t ∧ υ.2 171 t = σ.2 171 t) (hna : υ.2 6 a = cn ∧ υ.2 171 a = cn) (hcn : 0 ≤ cn ∧ cn ≤ 2) (hk : ∀ k : Nat, (k : Int) < cn → k = s ∨ (k : Int) < σ.2 6 a)
    (fC : ∀ c : Nat, 7 ≤ c → c ≤ 32 → ¬ (clO a s ≤ c ∧ c < clO a s + clW a) → υ.1 c = σ.1 c ∧ υ.2 c = σ.2 c)
    (fM : ∀ j : Nat, 610 ≤ j → j < 904 → j < plO a s ∨ plO a s + szO a ≤ j → υ.2 171 j = σ.2 171 j)
    (n0 : a = 0 → PR υ (7 + 13 * s) (610 + 49 * s)) (n1 : a = 1 → QR υ (14 + 13 * s) (708 + 81 * s) 40 true) (n2 : a = 2 → QR υ (17 + 13 * s) (870 + 17 * s) 8 false) : TR υ 1 0 := by
  obtain ⟨-, -, -, -, g5, g6, g7, g8⟩ := h
  have g5 : ∀ t : Nat, t < 3 → σ.2 171 t = σ.2 6 t ∧ 0 ≤ σ.2 6 t ∧ σ.2 6 t ≤ 2 := fun t ht => by have := g5 t ht; rw [Nat.zero_add] at this; exact this
  have ct : ∀ (t k : Nat), t < 3 → (k : Int) < υ.2 6 t → k < 2 ∧ ((t = a ∧ k = s) ∨ (k : Int) < σ.2 6 t) := by
    intro t k ht q
    by_cases e : t = a
    · rw [e, hna.1] at q
      have := hk k q
      refine ⟨by omega, ?_⟩
      rw [e]
      exact this.elim (fun z => Or.inl ⟨rfl, z⟩) Or.inr
    · rw [(hn t ht e).1] at q
      have := g5 t ht
      exact ⟨by omega, Or.inr q⟩
  refine ⟨⟨h1.1.trans h1.2.symm, by omega, by omega⟩, fun i hi => absurd hi (by have := h1.2; omega), h3, h4, fun t ht => ?_, fun k q => ?_, fun k q => ?_, fun k q => ?_⟩
  · rw [Nat.zero_add]
    show υ.2 171 t = υ.2 6 t ∧ 0 ≤ υ.2 6 t ∧ υ.2 6 t ≤ 2
    by_cases e : t = a
    · rw [e, hna.1, hna.2]; exact ⟨rfl, hcn⟩
    · rw [(hn t ht e).1, (hn t ht e).2]; exact g5 t ht
  · obtain ⟨k2, c⟩ := ct 0 k (by omega) q
    show PR υ (7 + 13 * k) (0 + 610 + 49 * k)
    rw [Nat.zero_add]
    by_cases e : 0 = a ∧ k = s
    · rw [e.2]; exact n0 e.1.symm
    · have o : (k : Int) < σ.2 6 0 := c.resolve_left e
      have g : PR σ (7 + 13 * k) (610 + 49 * k) := by have := g6 k o; rw [Nat.zero_add] at this; exact this
      have dj : ∀ c : Nat, 7 + 13 * k ≤ c → c ≤ 7 + 13 * k + 6 → υ.1 c = σ.1 c ∧ υ.2 c = σ.2 c := fun c c1 c2 => fC c (by omega) (by omega) (by
        unfold clO clW
        rcases (show a = 0 ∨ a = 1 ∨ a = 2 by omega) with x | x | x <;> subst x <;> simp <;> omega)
      exact g.mv (dj _ (by omega) (by omega)).1 (fun c c1 c2 => (dj c (by omega) (by omega)).2) (fun i c1 c2 => fM i (by omega) (by omega) (by
        unfold plO szO
        rcases (show a = 0 ∨ a = 1 ∨ a = 2 by omega) with x | x | x <;> subst x <;> simp <;> omega))
  · obtain ⟨k2, c⟩ := ct 1 k (by omega) q
    show QR υ (14 + 13 * k) (0 + 708 + 81 * k) 40 true
    rw [Nat.zero_add]
    by_cases e : 1 = a ∧ k = s
    · rw [e.2]; exact n1 e.1.symm
    · have o : (k : Int) < σ.2 6 1 := c.resolve_left e
      have g : QR σ (14 + 13 * k) (708 + 81 * k) 40 true := by have := g7 k o; rw [Nat.zero_add] at this; exact this
      have dj : ∀ c : Nat, 14 + 13 * k ≤ c → c ≤ 14 + 13 * k + 2 → υ.1 c = σ.1 c ∧ υ.2 c = σ.2 c := fun c c1 c2 => fC c (by omega) (by omega) (by
        unfold clO clW
        rcases (show a = 0 ∨ a = 1 ∨ a = 2 by omega) with x | x | x <;> subst x <;> simp <;> omega)
      exact g.mv (dj _ (by omega) (by omega)).1 (fun c c1 c2 => (dj c (by omega) (by omega)).2) (fun i c1 c2 => fM i (by omega) (by omega) (by
        unfold plO szO
        rcases (show a = 0 ∨ a = 1 ∨ a = 2 by omega) with x | x | x <;> subst x <;> simp <;> omega))
  · obtain ⟨k2, c⟩ := ct 2 k (by omega) q
    show QR υ (17 + 13 * k) (0 + 870 + 17 * k) 8 false
    rw [Nat.zero_add]
    by_cases e : 2 = a ∧ k = s
    · rw [e.2]; exact n2 e.1.symm
    · have o : (k : Int) < σ.2 6 2 := c.resolve_left e
      have g : QR σ (17 + 13 * k) (870 + 17 * k) 8 false := by have := g8 k o; rw [Nat.zero_add] at this; exact this
      have dj : ∀ c : Nat, 17 + 13 * k ≤ c → c ≤ 17 + 13 * k + 2 → υ.1 c = σ.1 c ∧ υ.2 c = σ.2 c := fun c c1 c2 => fC c (by omega) (by omega) (by
        unfold clO clW
        rcases (show a = 0 ∨ a = 1 ∨ a = 2 by omega) with x | x | x <;> subst x <;> simp <;> omega)
      exact g.mv (dj _ (by omega) (by omega)).1 (fun c c1 c2 => (dj c (by omega) (by omega)).2) (fun i c1 c2 => fM i (by omega) (by omega) (by
        unfold plO szO
        rcases (show a = 0 ∨ a = 1 ∨ a = 2 by omega) with x | x | x <;> subst x <;> simp <;> omega))
theorem WT.newt {σ υ : Sg} {a s : Nat} (h : WT σ) (ha : a < 3) (hs : s < 2) (f : ∀ c : Nat, 2 ≤ c → c < 130 → ¬ (clO a s ≤ c ∧ c < clO a s + clW a) → υ.1 c = σ.1 c)
    (n0 : a = 0 → (0 ≤ υ.1 (7 + 13 * s) 2 ∧ υ.1 (7 + 13 * s) 2 ≤ 7) ∧ (0 ≤ υ.1 (7 + 13 * s) 4 ∧ υ.1 (7 + 13 * s) 4 ≤ 10)) (n1 : a = 1 → 0 ≤ υ.1 (14 + 13 * s) 0 ∧ υ.1 (14 + 13 * s) 0 ≤ 40) (n2 : a = 2 → 0 ≤ υ.1 (17 + 13 * s) 0 ∧ υ.1 (17 + 13 * s) 0 ≤ 40) : WT υ := by
  intro t ht k hk
  have r := tol_rng t ht
  have d : t = 1 ∨ 34 ≤ t := by
    have : ∀ t ∈ tolL, t = 1 ∨ 34 ≤ t := by decide
    exact this t ht
  have cr : 7 ≤ clO a s ∧ clO a s + clW a ≤ 33 := by
    unfold clO clW
    rcases (show a = 0 ∨ a = 1 ∨ a = 2 by omega) with x | x | x <;> subst x <;> simp <;> omega
  obtain ⟨w1, w2, w3, w4⟩ := h t ht k hk
  rcases d with d | d
  · subst d
    have a1 : υ.1 (1 + 6 + 13 * k) = σ.1 (1 + 6 + 13 * k) ∨ (a = 0 ∧ k = s) := by
      by_cases e : a = 0 ∧ k = s
      · exact Or.inr e
      · refine Or.inl (f _ (by omega) (by omega) ?_)
        unfold clO clW
        rcases (show a = 0 ∨ a = 1 ∨ a = 2 by omega) with x | x | x <;> subst x <;> simp <;> omega
    have a2 : υ.1 (1 + 13 + 13 * k) = σ.1 (1 + 13 + 13 * k) ∨ (a = 1 ∧ k = s) := by
      by_cases e : a = 1 ∧ k = s
      · exact Or.inr e
      · refine Or.inl (f _ (by omega) (by omega) ?_)
        unfold clO clW
        rcases (show a = 0 ∨ a = 1 ∨ a = 2 by omega) with x | x | x <;> subst x <;> simp <;> omega
    have a3 : υ.1 (1 + 16 + 13 * k) = σ.1 (1 + 16 + 13 * k) ∨ (a = 2 ∧ k = s) := by
      by_cases e : a = 2 ∧ k = s
      · exact Or.inr e
      · refine Or.inl (f _ (by omega) (by omega) ?_)
        unfold clO clW
        rcases (show a = 0 ∨ a = 1 ∨ a = 2 by omega) with x | x | x <;> subst x <;> simp <;> omega
    have b1 : (0 ≤ υ.1 (1 + 6 + 13 * k) 2 ∧ υ.1 (1 + 6 + 13 * k) 2 ≤ 7) ∧ (0 ≤ υ.1 (1 + 6 + 13 * k) 4 ∧ υ.1 (1 + 6 + 13 * k) 4 ≤ 10) := by
      rcases a1 with e | e
      · rw [e]; exact ⟨w1, w2⟩
      · rw [e.2]; exact n0 e.1
    have b2 : 0 ≤ υ.1 (1 + 13 + 13 * k) 0 ∧ υ.1 (1 + 13 + 13 * k) 0 ≤ 40 := by
      rcases a2 with e | e
      · rw [e]; exact w3
      · rw [e.2]; exact n1 e.1
    have b3 : 0 ≤ υ.1 (1 + 16 + 13 * k) 0 ∧ υ.1 (1 + 16 + 13 * k) 0 ≤ 40 := by
      rcases a3 with e | e
      · rw [e]; exact w4
      · rw [e.2]; exact n2 e.1
    exact ⟨b1.1, b1.2, b2, b3⟩
  · rw [f (t + 6 + 13 * k) (by omega) (by omega) (by omega), f (t + 13 + 13 * k) (by omega) (by omega) (by omega), f (t + 16 + 13 * k) (by omega) (by omega) (by omega)]
    exact ⟨w1, w2, w3, w4⟩
