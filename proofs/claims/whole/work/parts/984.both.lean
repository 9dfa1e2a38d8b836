/-! BOTH: text answers alike, whatever the sort -/
theorem Rel.fail {σ υ : Sg} {f : Int × Int} {n : Nat} (hR : Rel σ) (n6 : n ≤ 600) (g : GF n f) (h1 : υ.1 1 1 = 0 ∧ υ.1 1 6 = f.1 ∧ υ.1 1 7 = f.2) (h2 : υ.2 171 4 = 0 ∧ υ.2 171 5 = f.1 ∧ υ.2 171 6 = f.2) (fF : ∀ c : Nat, c ≠ 1 → c < 131 → υ.1 c = σ.1 c) (fA : ∀ c : Nat, c < 131 → υ.2 c = σ.2 c) (f2 : υ.2 172 = σ.2 172) (fM : ∀ j : Nat, j ≠ 4 → j ≠ 5 → j ≠ 6 → υ.2 171 j = σ.2 171 j) : Rel υ := by
  obtain ⟨g1, g2, g3⟩ := g
  obtain ⟨a1, a2, a3⟩ := h1
  obtain ⟨b1, b2, b3⟩ := h2
  refine hR.now (hR.1.head (fun c q1 q2 => ⟨fF c (by omega) (by omega), fA c (by omega)⟩) (fA (1 + 5) (by omega)) (fun i q1 q2 => fM i (by omega) (by omega) (by omega)) (fun s hs => fM _ (by omega) (by omega) (by omega)) ?_ ?_ ?_ ?_) (fun c q1 q2 => ⟨fF c (by omega) (by omega), fA c (by omega)⟩) (fun i q => fM i (by omega) (by omega) (by omega)) (fA 130 (by omega)) f2 (hR.2.2.mv (fun c q1 q2 => fF c (by omega) (by omega)))
  · rw [Nat.zero_add]; omega
  · intro i hi; omega
  · rw [Nat.zero_add]; omega
  · rw [Nat.zero_add]; omega
theorem slO_s {cn b : Int} {s : Nat} (h : slO cn b = (s : Int)) : (b = -1 ∧ cn = s ∧ (s : Int) < 2) ∨ (b ≠ -1 ∧ b = s ∧ (s : Int) < cn) := by
  unfold slO at h
  by_cases e : b = -1
  · rw [if_pos e] at h
    by_cases c : 2 ≤ cn
    · rw [if_pos c] at h; omega
    · rw [if_neg c] at h; exact Or.inl ⟨e, h, by omega⟩
  · rw [if_neg e] at h
    by_cases c : 0 ≤ b ∧ b < cn
    · rw [if_pos c] at h; exact Or.inr ⟨e, h, by omega⟩
    · rw [if_neg c] at h; omega
theorem s_textG {γ : Type} {CC : Sg → γ → Prop} {MB : Sg → Prop} {MC : Sg → γ → Prop} {NEW : Sg → γ → Prop} {full : γ → Nat → Bool} {keep : γ → Nat → List Int → γ} {fin : Int × Int → γ → Int × Int} {L : Nat} {xs : Nat → Int32} {B : Nat → Int} {n a s : Nat} {b : Int} {c0 : γ} {σ : Sg} (ha : a < 3) (hs2 : s < 2) (hb : InR b) (hR : Rel σ) (eB : B = σ.2 2) (en : σ.1 1 1 = n)
    (hfr : ∀ (σ τ : Sg) (c : γ), FQ σ τ → CC σ c → CC τ c)
    (hfull : ∀ (σ : Sg) (c : γ) (l : Nat) (P : Int → Sg → Prop), l < (lmT a).length → CC σ c → P (if full c l = true then 1 else 0) σ → CI (XX L xs) 96 [vR (some 131), vI a, vI l] σ P)
    (hkeep : ∀ (σ : Sg) (i : Nat) (fp : Int × Int) (c : γ) (l j : Nat) (f1 : Int × Int) (vs : List Int) (P : Sg → Prop), l < (lmT a).length → CC σ c → NV σ vs → vs.length = (lms a l).length → nms B n (ruL a l) (lms a l) [] (nxt B n i) (if full c l = true then note 3 i fp else fp) = (true, j, f1, vs) → f1.1 = 0 → (∀ τ : Sg, Out σ τ 131 145 → (∀ j : Nat, j ≠ 11 → τ.1 131 j = σ.1 131 j) → CC τ (keep c l vs) → P τ) → CV (XX L xs) 94 [vR (some 131), vI a, vI l] σ P)
    (h0 : ∀ σ : Sg, IN0 σ → CC σ c0) (h1c : ∀ (σ τ : Sg) (c : γ), (∀ d : Nat, d ≠ 1 → τ.1 d = σ.1 d) → τ.2 = σ.2 → CC σ c → CC τ c)
    (hen : ∀ (τ : Sg) (f2 : Int × Int) (c2 : γ) (P : Sg → Prop), CF τ f2 → CC τ c2 → τ.1 1 1 = n → GF n f2 → (∀ υ : Sg, FG τ υ → CF υ (fin f2 c2) → P υ) → en92 (XX L xs) a τ (fun v τ => v = none ∧ P τ))
    (hg : ∀ (f2 : Int × Int) (c2 : γ), GF n f2 → GF n (fin f2 c2))
    (hline : ∀ (σ : Sg) (i : Nat) (fp : Int × Int) (c : γ) (P : Sg → Prop), MTk σ B n i fp → MB σ → (fp.1 = 0 → MC σ c) → KL B n MB MC σ P (lineP a full keep B n i fp c) → CV (XX L xs) (kmL a) [vR (some 170)] σ P)
    (h0m : ∀ σ : Sg, (∀ j : Nat, j < 81 → σ.2 173 j = if a = 0 ∧ j < 2 then 10 else 0) → σ.1 170 9 = -1 → MB σ ∧ MC σ c0)
    (htl : ∀ (τ : Sg) (b2 : Bool) (j : Nat) (f2 : Int × Int) (c2 : γ) (Q : Option PV → Sg → Prop), GF n f2 → (b2 = true → MTk τ B n j f2 ∧ MB τ ∧ kdA B n j = 0 ∧ (f2.1 = 0 → MC τ c2)) → (b2 = false → MBk τ j ∧ f2 = (1, (j : Int))) → (∀ υ : Sg, FY τ υ → υ.2 171 5 = (fin f2 c2).1 → υ.2 171 6 = (fin f2 c2).2 → (fin f2 c2).1 ≠ 0 → Q (some (vI (-1))) υ) → ((fin f2 c2).1 = 0 → τ.2 171 5 = (fin f2 c2).1 → τ.2 171 6 = (fin f2 c2).2 → MC τ c2 → co78 (XX L xs) a b τ Q) → tl78 (XX L xs) a b τ Q)
    (hs : slO (σ.2 6 a) b = (s : Int))
    (hcopy : ∀ (τ : Sg) (c2 : γ) (P : Sg → Prop), CC τ c2 → (0 ≤ τ.2 6 a ∧ τ.2 6 a ≤ 2) → (∀ χ : Sg, (∀ c : Nat, ¬ (clO a s ≤ c ∧ c < clO a s + clW a) → χ.1 c = τ.1 c) → (∀ c : Nat, ¬ (clO a s ≤ c ∧ c < clO a s + clW a) → c ≠ 6 → χ.2 c = τ.2 c) → (∀ t : Nat, t ≠ a → χ.2 6 t = τ.2 6 t) → χ.2 6 a = (if (s : Int) + 1 ≤ τ.2 6 a then τ.2 6 a else (s : Int) + 1) → NEW χ c2 → P χ) → CV (XX L xs) 123 [vR (some 0), vI a, vI s] τ P)
    (hN : ∀ (χ υ μ : Sg) (f2 : Int × Int) (c2 : γ), (fin f2 c2).1 = 0 → NEW χ c2 → (∀ c : Nat, clO a s ≤ c → c < clO a s + clW a → υ.1 c = χ.1 c ∧ υ.2 c = χ.2 c) → MC μ c2 → (∀ j : Nat, j < szO a → υ.2 171 (plO a s + j) = μ.2 173 j) → ((a = 0 → PR υ (7 + 13 * s) (610 + 49 * s)) ∧ (a = 1 → QR υ (14 + 13 * s) (708 + 81 * s) 40 true) ∧ (a = 2 → QR υ (17 + 13 * s) (870 + 17 * s) 8 false))) :
    CI (XX L xs) 122 [vR (some 0), vI a, vI b] σ (fun r τ => CI (XX L xs) 187 [vR (some 170), vI a, vI b] τ (fun r2 υ => r2 = r ∧ InR r ∧ Rel υ)) := by
  obtain ⟨t1, t2, t3, t4, t5, -⟩ := id hR.1
  have cc : σ.2 171 a = σ.2 6 a ∧ 0 ≤ σ.2 6 a ∧ σ.2 6 a ≤ 2 := by have := t5 a ha; rw [Nat.zero_add] at this; exact this
  have m4 : σ.2 171 4 = n := by have := t1.1; rw [Nat.zero_add] at this; omega
  have n6 : n ≤ 600 := by omega
  have by' : ∀ i : Nat, i < n → σ.2 171 (10 + i) = B i ∧ σ.2 2 i = B i ∧ 0 ≤ B i ∧ B i ≤ 255 := fun i hi => by
    have := t2 i (by omega)
    rw [show 0 + 10 + i = 10 + i by omega] at this
    rw [eB]
    exact ⟨this.1, rfl, this.2⟩
  have tc : TC σ B n := ⟨en, n6, fun i hi => (by' i hi).2⟩
  have ss := slO_s hs
  have cr : 7 ≤ clO a s ∧ clO a s + clW a ≤ 33 := by
    unfold clO clW
    rcases (show a = 0 ∨ a = 1 ∨ a = 2 by omega) with x | x | x <;> subst x <;> simp <;> omega
  have pr := pl_rng ha hs2
  refine c_textG (CC := CC) (full := full) (keep := keep) (fin := fin) (c0 := c0) ha hfr hfull hkeep h0 h1c hen hg tc hb cc.2 hs hs2 (fun b2 j f2 c2 er gg ne τ tx => ?_) (fun b2 j f2 c2 er gg z τ tx cct => hcopy τ c2 _ cct ?_ (fun χ x1 x2 x3 x4 nw => ?_))
  · obtain ⟨⟨u1, u6, u7⟩, uF, uA⟩ := tx
    have e171 : τ.2 171 = σ.2 171 := uA 171 (by omega)
    refine m_textG (MB := MB) (MC := MC) (full := full) (keep := keep) (fin := fin) (c0 := c0) ha hs2 hb n6 hline h0m htl (by rw [e171]; exact m4) (by rw [e171]; exact fun i hi => ⟨(by' i hi).1, (by' i hi).2.2⟩) (by rw [e171, cc.1]; exact cc.2) (by rw [e171, cc.1]; exact ss.elim (fun e => Or.inl ⟨e.1, e.2.1⟩) Or.inr) (fun b2' j' f2' c2' er' ne' υ fm w4 w5 w6 wj => ?_) (fun b2' j' f2' c2' er' z' => ?_)
    · rw [er] at er'
      injection er' with _ e; injection e with _ e; injection e with e1 e2
      rw [← e1, ← e2] at w5 w6
      refine ⟨rfl, by omega, hR.fail n6 gg ?_ ⟨w4, w5, w6⟩ (fun c c1 c2 => by rw [fm.1 c (by omega), uF c c1 (by omega)]) (fun c c1 => by rw [fm.2 c (by omega) (by omega), uA c (by omega)]) (by rw [fm.2 172 (by omega) (by omega), uA 172 (by omega)]) (fun j j4 j5 j6 => by rw [wj j j4 j5 j6, e171])⟩
      rw [fm.1 1 (by omega)]; exact ⟨u1, u6, u7⟩
    · rw [er] at er'
      injection er' with _ e; injection e with _ e; injection e with e1 e2
      rw [← e1, ← e2] at z'
      exact absurd z' ne
  · rw [tx.2.2 6 (by omega)]; exact cc.2
  · obtain ⟨⟨u1, u6, u7⟩, uF, uA⟩ := tx
    have e171 : χ.2 171 = σ.2 171 := by rw [x2 171 (by omega) (by omega), uA 171 (by omega)]
    refine m_textG (MB := MB) (MC := MC) (full := full) (keep := keep) (fin := fin) (c0 := c0) ha hs2 hb n6 hline h0m htl (by rw [e171]; exact m4) (by rw [e171]; exact fun i hi => ⟨(by' i hi).1, (by' i hi).2.2⟩) (by rw [e171, cc.1]; exact cc.2) (by rw [e171, cc.1]; exact ss.elim (fun e => Or.inl ⟨e.1, e.2.1⟩) Or.inr) (fun b2' j' f2' c2' er' ne' => ?_) (fun b2' j' f2' c2' er' z' μ υ mc fm w4 w5 w6 wa wn wj => ?_)
    · rw [er] at er'
      injection er' with _ e; injection e with _ e; injection e with e1 e2
      rw [← e1, ← e2] at ne'
      exact absurd z ne'
    · rw [er] at er'
      injection er' with _ e; injection e with _ e; injection e with e1 e2
      rw [← e1, ← e2] at w5 w6 z'
      rw [← e2] at mc
      have h6 : τ.2 6 = σ.2 6 := uA 6 (by omega)
      rw [h6] at x4
      rw [e171, cc.1] at wa
      have u6' : υ.2 6 = χ.2 6 := fm.2 6 (by omega) (by omega)
      have fF : ∀ c : Nat, c ≠ 1 → c < 131 → ¬ (clO a s ≤ c ∧ c < clO a s + clW a) → υ.1 c = σ.1 c := fun c c1 c2 c3 => by rw [fm.1 c (by omega), x1 c c3, uF c c1 (by omega)]
      have fA : ∀ c : Nat, c ≠ 6 → c < 131 → ¬ (clO a s ≤ c ∧ c < clO a s + clW a) → υ.2 c = σ.2 c := fun c c1 c2 c3 => by rw [fm.2 c (by omega) (by omega), x2 c c3 c1, uA c (by omega)]
      have f1 : υ.1 1 = τ.1 1 := by rw [fm.1 1 (by omega), x1 1 (by omega)]
      obtain ⟨n0, n1, n2⟩ := hN χ υ μ f2 c2 z nw (fun c c1 c2 => ⟨fm.1 c (by omega), fm.2 c (by omega) (by omega)⟩) mc wn
      obtain ⟨g1, g2, g3⟩ := gg
      have cnt : υ.2 6 a = (if b = -1 then (s : Int) + 1 else σ.2 6 a) := by
        rw [u6', x4]
        rcases ss with ⟨e1, e2, e3⟩ | ⟨e1, e2, e3⟩
        · rw [if_pos e1, if_neg (by omega)]
        · rw [if_neg e1, if_pos (by omega)]
      have cn2 : 0 ≤ (if b = -1 then (s : Int) + 1 else σ.2 6 a) ∧ (if b = -1 then (s : Int) + 1 else σ.2 6 a) ≤ 2 := by
        split
        · omega
        · exact cc.2
      have tr : TR υ 1 0 := by
        refine TR.newt (cn := if b = -1 then (s : Int) + 1 else σ.2 6 a) hR.1 ha hs2 ⟨w4, by rw [f1]; exact u1⟩ ?_ ?_ (fun t t3 ta => ?_) ⟨cnt, wa⟩ cn2 (fun k hk => ?_) (fun c c1 c2 c3 => ⟨fF c (by omega) (by omega) c3, fA c (by omega) (by omega) c3⟩) (fun j j1 j2 j3 => by rw [wj j (by omega) (by omega) (by omega) (by omega) j3, e171]) n0 n1 n2
        · rw [f1, u6, w5]; exact ⟨rfl, g1⟩
        · rw [f1, u7, w6]; exact ⟨rfl, g2, by omega⟩
        · rw [u6', x3 t ta, h6, wj t (by omega) (by omega) (by omega) ta (by omega), e171]; exact ⟨rfl, rfl⟩
        · rcases ss with ⟨e1, e2, e3⟩ | ⟨e1, e2, e3⟩
          · rw [if_pos e1] at hk
            by_cases e : k = s
            · exact Or.inl e
            · exact Or.inr (by omega)
          · rw [if_neg e1] at hk; exact Or.inr hk
      refine ⟨rfl, by omega, hR.now tr (fun c c1 c2 => ⟨fF c (by omega) (by omega) (by omega), fA c (by omega) (by omega) (by omega)⟩) (fun i hi => by rw [wj i (by omega) (by omega) (by omega) (by omega) (by omega), e171]) (fA 130 (by omega) (by omega) (by omega)) (by rw [fm.2 172 (by omega) (by omega), x2 172 (by omega) (by omega), uA 172 (by omega)]) (hR.2.2.newt ha hs2 (fun c c1 c2 c3 => fF c (by omega) (by omega) c3) (fun e => ?_) (fun e => ?_) (fun e => ?_))⟩
      · have := n0 e; exact ⟨this.2.2.1.2, this.2.2.2.1.2⟩
      · have := (n1 e).1.2; omega
      · have := (n2 e).1.2; omega
