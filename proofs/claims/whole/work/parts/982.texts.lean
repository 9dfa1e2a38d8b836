/-! TEXTS: text, of either side, whatever the sort -/
def slO (cn b : Int) : Int := if b = -1 then (if 2 ≤ cn then -2 else cn) else (if 0 ≤ b ∧ b < cn then b else -2)
theorem c_slot {X : PX} {σ : Sg} {a b : Int} {P : Int → Sg → Prop} (ha : InR a) (hb : InR b) (hc : 0 ≤ a → a < 3 → 0 ≤ σ.2 6 a.toNat ∧ σ.2 6 a.toNat ≤ 2) (q : P (if 0 ≤ a ∧ a < 3 then slO (σ.2 6 a.toNat) b else -2) σ) : CI X 116 [vR (some 1), vI a, vI b] σ P := by
  refine v_116 (by decide) ⟨ha, fun e => ⟨_, rfl, ?_⟩, fun e => ⟨fun e3 => ⟨hb, fun b1 => ?_, fun b1 => ⟨by omega, ?_⟩⟩, fun e3 => ⟨_, rfl, ?_⟩⟩⟩
  · rw [if_neg (by omega)] at q; exact q
  · have hc2 := hc (by omega) e3
    rw [if_pos (by omega)] at q
    unfold slO at q
    rw [if_neg b1] at q
    refine c_has (by decide) (by omega) e3 hb hc2 ?_
    by_cases c : 0 ≤ b ∧ b < σ.2 6 a.toNat
    · rw [if_pos c] at q
      rw [show (if 0 ≤ b ∧ b < σ.2 (1 + 5) a.toNat then (1 : Int) else 0) = 1 from if_pos c]
      exact ⟨by omega, fun e => absurd e (by omega), fun _ => ⟨_, rfl, q⟩⟩
    · rw [if_neg c] at q
      rw [show (if 0 ≤ b ∧ b < σ.2 (1 + 5) a.toNat then (1 : Int) else 0) = 0 from if_neg c]
      exact ⟨by omega, fun _ => ⟨_, rfl, q⟩, fun e => absurd rfl e⟩
  · have hc2 := hc (by omega) e3
    rw [if_pos (by omega)] at q
    unfold slO at q
    rw [if_pos (by omega)] at q
    refine ⟨⟨by show -2147483648 ≤ σ.2 6 a.toNat; omega, by show σ.2 6 a.toNat < 2147483648; omega⟩, fun c => ⟨_, rfl, ?_⟩, fun c => ⟨_, rfl, ?_⟩⟩
    · rw [if_pos (show 2 ≤ σ.2 6 a.toNat from c)] at q; exact q
    · rw [if_neg (show ¬ 2 ≤ σ.2 6 a.toNat from c)] at q; exact q
  · rw [if_neg (by omega)] at q; exact q
/-- behind the class's reading: the tape taken, the fault told -/
def TX (σ τ : Sg) (f : Int × Int) : Prop := (τ.1 1 1 = 0 ∧ τ.1 1 6 = f.1 ∧ τ.1 1 7 = f.2) ∧ (∀ c : Nat, c ≠ 1 → c < 131 ∨ 145 < c → τ.1 c = σ.1 c) ∧ (∀ c : Nat, c < 131 ∨ 145 < c → τ.2 c = σ.2 c)
theorem c_textG {γ : Type} {CC : Sg → γ → Prop} {full : γ → Nat → Bool} {keep : γ → Nat → List Int → γ} {fin : Int × Int → γ → Int × Int} {L : Nat} {xs : Nat → Int32} {B : Nat → Int} {n a s : Nat} {b : Int} {c0 : γ} {σ : Sg} {P : Int → Sg → Prop} (ha : a < 3)
    (hfr : ∀ (σ τ : Sg) (c : γ), FQ σ τ → CC σ c → CC τ c)
    (hfull : ∀ (σ : Sg) (c : γ) (l : Nat) (P : Int → Sg → Prop), l < (lmT a).length → CC σ c → P (if full c l = true then 1 else 0) σ → CI (XX L xs) 96 [vR (some 131), vI a, vI l] σ P)
    (hkeep : ∀ (σ : Sg) (i : Nat) (fp : Int × Int) (c : γ) (l j : Nat) (f1 : Int × Int) (vs : List Int) (P : Sg → Prop), l < (lmT a).length → CC σ c → NV σ vs → vs.length = (lms a l).length → nms B n (ruL a l) (lms a l) [] (nxt B n i) (if full c l = true then note 3 i fp else fp) = (true, j, f1, vs) → f1.1 = 0 → (∀ τ : Sg, Out σ τ 131 145 → (∀ j : Nat, j ≠ 11 → τ.1 131 j = σ.1 131 j) → CC τ (keep c l vs) → P τ) → CV (XX L xs) 94 [vR (some 131), vI a, vI l] σ P)
    (h0 : ∀ σ : Sg, IN0 σ → CC σ c0) (h1c : ∀ (σ τ : Sg) (c : γ), (∀ d : Nat, d ≠ 1 → τ.1 d = σ.1 d) → τ.2 = σ.2 → CC σ c → CC τ c)
    (hen : ∀ (τ : Sg) (f2 : Int × Int) (c2 : γ) (P : Sg → Prop), CF τ f2 → CC τ c2 → τ.1 1 1 = n → GF n f2 → (∀ υ : Sg, FG τ υ → CF υ (fin f2 c2) → P υ) → en92 (XX L xs) a τ (fun v τ => v = none ∧ P τ))
    (hg : ∀ (f2 : Int × Int) (c2 : γ), GF n f2 → GF n (fin f2 c2))
    (h : TC σ B n) (hb : InR b) (hc : 0 ≤ σ.2 6 a ∧ σ.2 6 a ≤ 2) (hs : slO (σ.2 6 a) b = (s : Int)) (hs2 : s < 2)
    (q1 : ∀ (b2 : Bool) (j : Nat) (f2 : Int × Int) (c2 : γ), rdP a full keep B n 601 (rn isBl B n 0) (0, -1) c0 = (b2, j, f2, c2) → GF n (fin f2 c2) → (fin f2 c2).1 ≠ 0 → ∀ τ : Sg, TX σ τ (fin f2 c2) → P (-1) τ)
    (q2 : ∀ (b2 : Bool) (j : Nat) (f2 : Int × Int) (c2 : γ), rdP a full keep B n 601 (rn isBl B n 0) (0, -1) c0 = (b2, j, f2, c2) → GF n (fin f2 c2) → (fin f2 c2).1 = 0 → ∀ τ : Sg, TX σ τ (fin f2 c2) → CC τ c2 → CV (XX L xs) 123 [vR (some 0), vI a, vI s] τ (fun τ3 => P s τ3)) : CI (XX L xs) 122 [vR (some 0), vI a, vI b] σ P := by
  have n6 := h.2.1
  refine v_122 (c_slot (by omega) hb (fun _ _ => by rw [Int.toNat_natCast]; exact hc) ?_)
  rw [Int.toNat_natCast, if_pos (by omega), hs]
  generalize hρ : ((up2 (up2 σ.1 1 6 0) 1 7 (-1), σ.2) : Sg) = ρ
  have r1 : ∀ c : Nat, c ≠ 1 → ρ.1 c = σ.1 c := fun c hc => by rw [← hρ]; dsimp only; rw [up2_ne _ _ _ hc, up2_ne _ _ _ hc]
  have r2 : ρ.2 = σ.2 := by rw [← hρ]
  have r3 : ρ.1 1 1 = n := by rw [← hρ]; dsimp only; rw [up2_if, if_neg (by omega), up2_if, if_neg (by omega)]; exact h.1
  have tc : TC ρ B n := by
    refine ⟨r3, n6, ?_⟩
    rw [r2]; exact h.2.2
  refine ⟨by omega, fun _ => c_readG (CC := CC) (full := full) (keep := keep) (c0 := c0) ha hfr hfull hkeep h0 tc (fun τ b2 j f2 c2 o er cf cc => ?_), fun e => absurd (by omega) e⟩
  have rr := rn_rng (g := isBl) (B := B) (n := n) (i := 0)
  have gf : GF n f2 := rdP_g 601 _ _ _ er (rr.2 (by omega)) (by unfold GF; dsimp only; omega)
  have gg := hg f2 c2 gf
  have gr := gg.1
  have t11 : τ.1 1 1 = n := by rw [(o 1 (by omega)).1]; exact r3
  refine hen τ f2 c2 _ cf cc t11 gf (fun υ g cu => ?_)
  obtain ⟨u3, u4⟩ := cu
  have tx : TX σ (up2 (up2 (up2 υ.1 1 1 0) 1 6 (υ.1 131 3)) 1 7 (υ.1 131 4), υ.2) (fin f2 c2) := by
    refine ⟨?_, fun c h1 h2 => ?_, fun c h2 => ?_⟩
    · simp only [up2_app, Nat.reduceEqDiff, reduceIte]
      exact ⟨trivial, u3, u4⟩
    · dsimp only
      rw [up2_ne _ _ _ h1, up2_ne _ _ _ h1, up2_ne _ _ _ h1, g.1 c (by omega), (o c (by omega)).1, r1 c h1]
    · dsimp only
      rw [g.2.2, (o c (by omega)).2, r2]
  refine ⟨by omega, fun z => ?_, fun z => ⟨_, rfl, q1 b2 j f2 c2 er gg (by omega) _ tx⟩⟩
  have cc2 : CC (up2 (up2 (up2 υ.1 1 1 0) 1 6 (υ.1 131 3)) 1 7 (υ.1 131 4), υ.2) c2 := h1c υ _ c2 (fun d hd => by dsimp only; rw [up2_ne _ _ _ hd, up2_ne _ _ _ hd, up2_ne _ _ _ hd]) rfl (hfr τ υ c2 g.fq cc)
  exact (q2 b2 j f2 c2 er gg (by omega) _ tx cc2).mono (fun τ3 p => ⟨_, rfl, p⟩)
/-- only what text may touch of the reference -/
def FMt (σ τ : Sg) : Prop := (∀ c : Nat, c ≠ 170 → τ.1 c = σ.1 c) ∧ (∀ c : Nat, c ≠ 171 → c ≠ 173 → τ.2 c = σ.2 c)
theorem m_textG {γ : Type} {MB : Sg → Prop} {MC : Sg → γ → Prop} {full : γ → Nat → Bool} {keep : γ → Nat → List Int → γ} {fin : Int × Int → γ → Int × Int} {X : PX} {B : Nat → Int} {n a s : Nat} {b : Int} {c0 : γ} {ρ : Sg} {P : Int → Sg → Prop} (ha : a < 3) (hs2 : s < 2) (hb : InR b) (n6 : n ≤ 600)
    (hline : ∀ (σ : Sg) (i : Nat) (fp : Int × Int) (c : γ) (P : Sg → Prop), MTk σ B n i fp → MB σ → (fp.1 = 0 → MC σ c) → KL B n MB MC σ P (lineP a full keep B n i fp c) → CV X (kmL a) [vR (some 170)] σ P)
    (h0 : ∀ σ : Sg, (∀ j : Nat, j < 81 → σ.2 173 j = if a = 0 ∧ j < 2 then 10 else 0) → σ.1 170 9 = -1 → MB σ ∧ MC σ c0)
    (htl : ∀ (τ : Sg) (b2 : Bool) (j : Nat) (f2 : Int × Int) (c2 : γ) (Q : Option PV → Sg → Prop), GF n f2 → (b2 = true → MTk τ B n j f2 ∧ MB τ ∧ kdA B n j = 0 ∧ (f2.1 = 0 → MC τ c2)) → (b2 = false → MBk τ j ∧ f2 = (1, (j : Int))) → (∀ υ : Sg, FY τ υ → υ.2 171 5 = (fin f2 c2).1 → υ.2 171 6 = (fin f2 c2).2 → (fin f2 c2).1 ≠ 0 → Q (some (vI (-1))) υ) → ((fin f2 c2).1 = 0 → τ.2 171 5 = (fin f2 c2).1 → τ.2 171 6 = (fin f2 c2).2 → MC τ c2 → co78 X a b τ Q) → tl78 X a b τ Q)
    (h4 : ρ.2 171 4 = n) (hB : ∀ i : Nat, i < n → ρ.2 171 (10 + i) = B i ∧ 0 ≤ B i ∧ B i ≤ 255) (hcn : 0 ≤ ρ.2 171 a ∧ ρ.2 171 a ≤ 2) (hs : (b = -1 ∧ ρ.2 171 a = s) ∨ (b ≠ -1 ∧ b = s ∧ (s : Int) < ρ.2 171 a))
    (q1 : ∀ (b2 : Bool) (j : Nat) (f2 : Int × Int) (c2 : γ), rdP a full keep B n 601 (rn isBl B n 0) (0, -1) c0 = (b2, j, f2, c2) → (fin f2 c2).1 ≠ 0 → ∀ τ : Sg, FMt ρ τ → τ.2 171 4 = 0 → τ.2 171 5 = (fin f2 c2).1 → τ.2 171 6 = (fin f2 c2).2 → (∀ j : Nat, j ≠ 4 → j ≠ 5 → j ≠ 6 → τ.2 171 j = ρ.2 171 j) → P (-1) τ)
    (q2 : ∀ (b2 : Bool) (j : Nat) (f2 : Int × Int) (c2 : γ), rdP a full keep B n 601 (rn isBl B n 0) (0, -1) c0 = (b2, j, f2, c2) → (fin f2 c2).1 = 0 → ∀ υ τ : Sg, MC υ c2 → FMt ρ τ → τ.2 171 4 = 0 → τ.2 171 5 = (fin f2 c2).1 → τ.2 171 6 = (fin f2 c2).2 → τ.2 171 a = (if b = -1 then (s : Int) + 1 else ρ.2 171 a) → (∀ j : Nat, j < szO a → τ.2 171 (plO a s + j) = υ.2 173 j) → (∀ j : Nat, j ≠ 4 → j ≠ 5 → j ≠ 6 → j ≠ a → j < plO a s ∨ plO a s + szO a ≤ j → τ.2 171 j = ρ.2 171 j) → P s τ) : CI X 187 [vR (some 170), vI a, vI b] ρ P := by
  have pr := pl_rng ha hs2
  generalize hκ : ((up2 (up2 (up2 (up2 ρ.1 170 2 (ρ.2 171 4)) 170 3 0) 170 8 0) 170 9 (-1), up2 (up2 (up2 ρ.2 171 4 0) 171 5 0) 171 6 (-1)) : Sg) = κ
  have k1 : ∀ c : Nat, c ≠ 170 → κ.1 c = ρ.1 c := fun c hc => by rw [← hκ]; dsimp only; rw [up2_ne _ _ _ hc, up2_ne _ _ _ hc, up2_ne _ _ _ hc, up2_ne _ _ _ hc]
  have k2 : ∀ c : Nat, c ≠ 171 → κ.2 c = ρ.2 c := fun c hc => by rw [← hκ]; dsimp only; rw [up2_ne _ _ _ hc, up2_ne _ _ _ hc, up2_ne _ _ _ hc]
  have k3 : ∀ j : Nat, j ≠ 4 → j ≠ 5 → j ≠ 6 → κ.2 171 j = ρ.2 171 j := fun j h4 h5 h6 => by rw [← hκ]; dsimp only; rw [up2_if, if_neg h6, up2_if, if_neg h5, up2_if, if_neg h4]
  have k4 : κ.1 170 2 = n ∧ κ.1 170 3 = (0 : Nat) ∧ κ.1 170 8 = 0 ∧ κ.1 170 9 = -1 ∧ κ.2 171 4 = 0 ∧ κ.2 171 5 = 0 ∧ κ.2 171 6 = -1 := by
    rw [← hκ]
    simp only [up2_app, Nat.reduceEqDiff, reduceIte]
    exact ⟨h4, rfl, trivial, trivial, trivial, trivial, trivial⟩
  obtain ⟨k5, k6, k7, k8, k9, k10, k11⟩ := k4
  have main : Ev X 187 54 [some (vR (some 170)), some (vI a), some (vI b), some (vI ((0 : Nat) : Int)), none] [] κ (fun v τ => ∃ x, v = some (vI x) ∧ P x τ) := by
    -- behind the rows' beginning
    have st : ∀ χ : Sg, χ.1 = κ.1 → (∀ c : Nat, c ≠ 173 → χ.2 c = κ.2 c) → (∀ j : Nat, j < 81 → χ.2 173 j = if a = 0 ∧ j < 2 then 10 else 0) → CV X 170 [vR (some 170)] χ (fun τ1 => Ev X 187 78 [some (vR (some 170)), some (vI a), some (vI b), none, none] [] τ1 (fun v τ => ∃ x, v = some (vI x) ∧ P x τ)) := by
      intro χ e1 e2 e3
      have ei : χ.2 171 = κ.2 171 := e2 171 (by omega)
      have tm : TM χ B n := by
        refine ⟨by rw [e1]; exact k5, n6, fun i hi => ?_⟩
        rw [ei, k3 _ (by omega) (by omega) (by omega)]
        exact hB i hi
      have rr := rn_rng (g := isBl) (B := B) (n := n) (i := 0)
      refine m_next tm (by rw [e1]; exact k6) (by omega) (fun τ f t => ?_)
      have f9 : τ.1 170 9 = -1 := by rw [f.2.1 9 (by omega), e1]; exact k8
      obtain ⟨mb, mc⟩ := h0 τ (by rw [f.2.2]; exact e3) f9
      have mt : MTk τ B n (rn isBl B n 0) (0, -1) := ⟨tm.ft f, by rw [f.2.1 8 (by omega), e1]; exact k7, t, rr.2 (by omega), by rw [f.2.2, ei]; exact k10, by rw [f.2.2, ei]; exact k11, by decide, fun e => absurd rfl e⟩
      refine m_loop (MB := MB) (MC := MC) (full := full) (keep := keep) ha hline 601 _ _ c0 τ (by omega) (by unfold GF; dsimp only; omega) mt mb (fun _ => mc) (fun υ b2 j f2 c2 fr er hT hF => ?_)
      have gf : GF n f2 := rdP_g 601 _ _ _ er (rr.2 (by omega)) (by unfold GF; dsimp only; omega)
      have u4 : ∀ j : Nat, j ≠ 5 → j ≠ 6 → υ.2 171 j = κ.2 171 j := fun j h5 h6 => by rw [fr.2.2.2 j h5 h6, f.2.2, ei]
      have u1 : FMt ρ υ := ⟨fun c hc => by rw [fr.1 c hc, f.1 c hc, e1, k1 c hc], fun c h1 h2 => by rw [fr.2.2.1 c h1 h2, f.2.2, e2 c h2, k2 c h1]⟩
      refine htl υ b2 j f2 c2 _ gf hT hF (fun ω g w5 w6 ne => ⟨_, rfl, q1 b2 j f2 c2 er ne ω ⟨fun c hc => by rw [g.1 c hc, u1.1 c hc], fun c h1 h2 => by rw [g.2.2.1 c h1, u1.2 c h1 h2]⟩ ?_ w5 w6 (fun j j4 j5 j6 => ?_)⟩) (fun z z5 z6 mcu => ?_)
      · rw [g.2.2.2 4 (by omega) (by omega), u4 4 (by omega) (by omega)]; exact k9
      · rw [g.2.2.2 j j5 j6, u4 j j5 j6, k3 j j4 j5 j6]
      · have ua : υ.2 171 a = ρ.2 171 a := by rw [u4 a (by omega) (by omega), k3 a (by omega) (by omega) (by omega)]
        refine m_co (s := s) ha hb (by rw [ua]; exact hs.elim (fun e => Or.inl e) (fun e => Or.inr ⟨e.1, e.2.1⟩)) (fun A a1 a2 a3 => ?_)
        refine m_copy ha hs2 (szO a) 0 _ (by omega) (fun ω w1 w2 w3 w4 => ⟨_, rfl, q2 b2 j f2 c2 er z υ ω mcu ⟨fun c hc => by rw [w1]; exact u1.1 c hc, fun c h1 h2 => by rw [w2 c h1]; dsimp only; rw [a1 c h1, u1.2 c h1 h2]⟩ ?_ ?_ ?_ ?_ (fun j hj => ?_) (fun j j4 j5 j6 ja hj => ?_)⟩)
        · rw [w4 4 (by omega)]; dsimp only; rw [a2 4 (by omega), u4 4 (by omega) (by omega)]; exact k9
        · rw [w4 5 (by omega)]; dsimp only; rw [a2 5 (by omega)]; exact z5
        · rw [w4 6 (by omega)]; dsimp only; rw [a2 6 (by omega)]; exact z6
        · rw [w4 a (by omega)]; dsimp only; rw [a3, ua]
        · rw [w3 j (by omega) hj]; dsimp only; rw [a1 173 (by omega)]
        · rw [w4 j (by omega)]; dsimp only; rw [a2 j ja, u4 j j5 j6, k3 j j4 j5 j6]
    refine m_zero 81 0 κ (by omega) (fun j hj => absurd hj (by omega)) (fun χ e1 e2 e3 => ⟨by omega, fun a0 => st χ e1 e2 (fun j hj => ?_), fun a0 => st _ e1 (fun c hc => ?_) (fun j hj => ?_)⟩)
    · rw [e3 j hj, if_neg (by omega)]
    · dsimp only; rw [up2_ne _ _ _ hc, up2_ne _ _ _ hc]; exact e2 c hc
    · dsimp only
      rw [up2_if, up2_if, e3 j hj]
      by_cases j1 : j = 1
      · rw [if_pos j1, if_pos (by omega)]
      · rw [if_neg j1]
        by_cases j0 : j = 0
        · rw [if_pos j0, if_pos (by omega)]
        · rw [if_neg j0, if_neg (by omega)]
  have c171 : ∀ j : Nat, j < 3 → up2 (up2 (up2 ρ.2 171 4 0) 171 5 0) 171 6 (-1) 171 j = ρ.2 171 j := fun j hj => by rw [up2_if, if_neg (by omega), up2_if, if_neg (by omega), up2_if, if_neg (by omega)]
  refine v_187 (c_isIn (by omega) (by omega) (by omega) ?_)
  rw [if_pos (by omega)]
  refine ⟨by omega, fun e => absurd e (by omega), fun _ => ⟨hb, fun b1 => ?_, fun b1 => ?_⟩⟩
  · obtain ⟨-, h2, h3⟩ := hs.resolve_left (fun e => b1 e.1)
    refine m_isOf (by omega) (by omega) hb (by rw [Int.toNat_natCast]; dsimp only; rw [c171 a ha]; exact hcn) ?_
    rw [Int.toNat_natCast]
    dsimp only
    rw [if_pos ⟨by omega, by rw [c171 a ha]; omega⟩]
    refine ⟨by omega, fun _ => ?_, fun e => absurd (by omega) e⟩
    rw [hκ]; exact main
  · obtain ⟨-, h2⟩ := hs.resolve_right (fun e => e.1 (by omega))
    rw [Int.toNat_natCast]
    dsimp only
    rw [c171 a ha]
    refine ⟨by omega, by omega, fun _ => ?_, fun e => absurd (by omega) e⟩
    rw [hκ]; exact main
