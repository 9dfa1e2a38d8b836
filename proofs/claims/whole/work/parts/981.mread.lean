/-! MREAD: the reference reads -/
def co78 (X : PX) (x1 x2 : Int) (σ : Sg) (Q : Option PV → Sg → Prop) : Prop := InR x2 ∧ (x2 ≠ (-1) → (x2 ≠ (-1) → Ev X 187 144 [some (vR (some 170)), some (vI x1), none, some (vI x2), some (vI 0)] [] σ Q) ∧ (¬ x2 ≠ (-1) → (0 ≤ x1 ∧ x1 < 3616) ∧ Ev X 187 144 [some (vR (some 170)), some (vI x1), none, some (vI x2), some (vI 0)] [] (σ.1, up2 σ.2 171 x1.toNat ((σ.2 171 x1.toNat) + 1)) Q)) ∧ (¬ x2 ≠ (-1) → (0 ≤ x1 ∧ x1 < 3616) ∧ (x2 ≠ (-1) → Ev X 187 144 [some (vR (some 170)), some (vI x1), none, some (vI (σ.2 171 x1.toNat)), some (vI 0)] [] σ Q) ∧ (¬ x2 ≠ (-1) → Ev X 187 144 [some (vR (some 170)), some (vI x1), none, some (vI (σ.2 171 x1.toNat)), some (vI 0)] [] (σ.1, up2 σ.2 171 x1.toNat ((σ.2 171 x1.toNat) + 1)) Q))
def tl78 (X : PX) (x1 x2 : Int) (σ : Sg) (Q : Option PV → Sg → Prop) : Prop := InR x1 ∧ (x1 ≠ 0 → InR (σ.2 171 5) ∧ (σ.2 171 5 = 0 → co78 X x1 x2 σ Q) ∧ (¬ σ.2 171 5 = 0 → Q (some (vI (-1))) σ)) ∧ (¬ x1 ≠ 0 → InR (σ.2 171 5) ∧ (σ.2 171 5 ≠ 0 → (σ.2 171 5 = 0 → co78 X x1 x2 σ Q) ∧ (¬ σ.2 171 5 = 0 → Q (some (vI (-1))) σ)) ∧ (¬ σ.2 171 5 ≠ 0 → InR (σ.1 170 9) ∧ InR (σ.2 173 2) ∧ (σ.1 170 9 < σ.2 173 2 → (σ.2 171 5 = 0 → co78 X x1 x2 σ Q) ∧ (¬ σ.2 171 5 = 0 → Q (some (vI (-1))) σ)) ∧ (¬ σ.1 170 9 < σ.2 173 2 → CV X 172 [vR (some 170), vI 4, vI (σ.1 170 4)] σ (fun τ1 => InR (τ1.2 171 5) ∧ (τ1.2 171 5 = 0 → co78 X x1 x2 τ1 Q) ∧ (¬ τ1.2 171 5 = 0 → Q (some (vI (-1))) τ1)))))
def kmL (a : Nat) : Nat := if a = 0 then 180 else if a = 1 then 182 else 183
theorem m_loop {γ : Type} {MB : Sg → Prop} {MC : Sg → γ → Prop} {full : γ → Nat → Bool} {keep : γ → Nat → List Int → γ} {X : PX} {B : Nat → Int} {n a : Nat} {x2 : Int} {Q : Option PV → Sg → Prop} (ha : a < 3)
    (hline : ∀ (σ : Sg) (i : Nat) (fp : Int × Int) (c : γ) (P : Sg → Prop), MTk σ B n i fp → MB σ → (fp.1 = 0 → MC σ c) → KL B n MB MC σ P (lineP a full keep B n i fp c) → CV X (kmL a) [vR (some 170)] σ P) :
    ∀ (d i : Nat) (fp : Int × Int) (c : γ) (σ : Sg), n + 1 ≤ i + d → GF n fp → MTk σ B n i fp → MB σ → (fp.1 = 0 → MC σ c) →
      (∀ (τ : Sg) (b : Bool) (j : Nat) (f2 : Int × Int) (c2 : γ), FR σ τ → rdP a full keep B n d i fp c = (b, j, f2, c2) → (b = true → MTk τ B n j f2 ∧ MB τ ∧ kdA B n j = 0 ∧ (f2.1 = 0 → MC τ c2)) → (b = false → MBk τ j ∧ f2 = (1, (j : Int))) → tl78 X a x2 τ Q) →
      Ev X 187 78 [some (vR (some 170)), some (vI a), some (vI x2), none, none] [] σ Q := by
  intro d
  induction d with
  | zero =>
    intro i fp c σ hd g h hb hc kE
    have := h.2.2.2.1
    omega
  | succ d ih =>
    intro i fp c σ hd g h hb hc kE
    obtain ⟨h1, h8, ht, hi, h5, h6, h7, h9⟩ := id h
    have t5 := ht.1
    have kr := kdM_rng (B := B) (n := n) (i := i)
    unfold rdP at kE
    have go : ¬ kdA B n i = 0 → ∀ km : Nat, kmL a = km → CV X km [vR (some 170)] σ (fun τ3 => Ev X 187 78 [some (vR (some 170)), some (vI a), some (vI x2), none, none] [] τ3 Q) := by
      intro k0 km ek
      rw [← ek]
      rw [if_neg k0] at kE
      refine hline σ i fp c _ h hb hc ?_
      generalize hr : lineP a full keep B n i fp c = r at kE
      obtain ⟨b', j', f', c'⟩ := r
      obtain ⟨g1, g2, g3, g4⟩ := lineP_g hr hi g
      refine ⟨fun τ fr e m mb mc => ?_, fun τ fr e m => ?_⟩
      · dsimp only at e m mc
        subst e
        dsimp only at kE
        have := g3 rfl
        exact ih j' f' c' τ (by omega) g2 m mb mc (fun υ b j f2 c2 fu => kE υ b j f2 c2 (fr.trans fu))
      · dsimp only at e m
        subst e
        dsimp only at kE
        have kk := kE τ false j' f' c' fr rfl (fun e => absurd e (by decide)) (fun _ => ⟨m, g4 rfl⟩)
        have w := m.1
        exact v_187_78 ⟨by omega, fun _ => kk, fun e => absurd (by omega) e⟩
    refine v_187_78 ⟨by omega, fun e => absurd h8 e, fun _ => ⟨by omega, fun k0 => ?_, fun k0 => ⟨by omega, fun a0 => ?_, fun a1 => ?_, fun a2 => ?_⟩⟩⟩
    · have k0 : kdA B n i = 0 := kd_0.mpr (by omega)
      rw [if_pos k0] at kE
      exact kE σ true i fp c FR.rfl rfl (fun _ => ⟨h, hb, k0, hc⟩) (fun e => absurd e (by decide))
    · exact go (fun e => k0 (by rw [t5]; exact kd_0.mp e)) 180 (by unfold kmL; rw [if_pos (by omega)])
    · exact go (fun e => k0 (by rw [t5]; exact kd_0.mp e)) 182 (by unfold kmL; rw [if_neg (by omega), if_pos (by omega)])
    · exact go (fun e => k0 (by rw [t5]; exact kd_0.mp e)) 183 (by unfold kmL; rw [if_neg (by omega), if_neg (by omega)])
theorem m_zero {X : PX} {a x2 : Int} {Q : Option PV → Sg → Prop} : ∀ (d x : Nat) (σ : Sg), x + d = 81 → (∀ j : Nat, j < x → σ.2 173 j = 0) → (∀ τ : Sg, τ.1 = σ.1 → (∀ c : Nat, c ≠ 173 → τ.2 c = σ.2 c) → (∀ j : Nat, j < 81 → τ.2 173 j = 0) → InR a ∧ (a ≠ 0 → CV X 170 [vR (some 170)] τ (fun τ1 => Ev X 187 78 [some (vR (some 170)), some (vI a), some (vI x2), none, none] [] τ1 Q)) ∧ (¬ a ≠ 0 → CV X 170 [vR (some 170)] (τ.1, up2 (up2 τ.2 173 0 10) 173 1 10) (fun τ2 => Ev X 187 78 [some (vR (some 170)), some (vI a), some (vI x2), none, none] [] τ2 Q))) → Ev X 187 54 [some (vR (some 170)), some (vI a), some (vI x2), some (vI x), none] [] σ Q := by
  intro d
  induction d with
  | zero =>
    intro x σ hx hz k
    exact v_187_54 ⟨by omega, fun _ => k σ rfl (fun _ _ => rfl) (fun j hj => hz j (by omega)), fun e => absurd (by omega) e⟩
  | succ d ih =>
    intro x σ hx hz k
    refine v_187_54 ⟨by omega, fun e => absurd e (by omega), fun _ => ⟨by omega, ?_⟩⟩
    rw [Int.toNat_natCast, show (x : Int) + 1 = ((x + 1 : Nat) : Int) by omega]
    refine ih (x + 1) _ (by omega) (fun j hj => ?_) (fun τ e1 e2 e3 => k τ e1 (fun c hc => ?_) e3)
    · dsimp only
      rw [up2_if]
      by_cases e : j = x
      · rw [if_pos e]
      · rw [if_neg e]; exact hz j (by omega)
    · rw [e2 c hc]; dsimp only; rw [up2_ne _ _ _ hc]
def plO (a k : Nat) : Nat := if a = 0 then 610 + 49 * k else if a = 1 then 708 + 81 * k else 870 + 17 * k
def szO (a : Nat) : Nat := if a = 0 then 49 else if a = 1 then 81 else 17
theorem m_plO {X : PX} {σ : Sg} {a k : Nat} {P : Int → Sg → Prop} (ha : a < 3) (q : P (plO a k : Nat) σ) : CI X 184 [vI a, vI k] σ P := by
  unfold plO at q
  refine v_184 ⟨by omega, fun e => ⟨fun e1 => ⟨_, rfl, ?_⟩, fun e1 => ⟨_, rfl, ?_⟩⟩, fun e => ⟨_, rfl, ?_⟩⟩
  · rw [if_neg (by omega), if_neg (by omega)] at q
    rw [show (870 : Int) + 17 * (k : Int) = ((870 + 17 * k : Nat) : Int) by omega]; exact q
  · rw [if_neg (by omega), if_pos (by omega)] at q
    rw [show (708 : Int) + 81 * (k : Int) = ((708 + 81 * k : Nat) : Int) by omega]; exact q
  · rw [if_pos (by omega)] at q
    rw [show (610 : Int) + 49 * (k : Int) = ((610 + 49 * k : Nat) : Int) by omega]; exact q
theorem m_size {X : PX} {σ : Sg} {a : Nat} {P : Int → Sg → Prop} (ha : a < 3) (q : P (szO a : Nat) σ) : CI X 185 [vI a] σ P := by
  unfold szO at q
  refine v_185 ⟨by omega, fun e => ⟨fun e1 => ⟨_, rfl, ?_⟩, fun e1 => ⟨_, rfl, ?_⟩⟩, fun e => ⟨_, rfl, ?_⟩⟩
  · rw [if_neg (by omega), if_neg (by omega)] at q; exact q
  · rw [if_neg (by omega), if_pos (by omega)] at q; exact q
  · rw [if_pos (by omega)] at q; exact q
theorem pl_rng {a k : Nat} (ha : a < 3) (hk : k < 2) : 610 ≤ plO a k ∧ plO a k + szO a ≤ 904 ∧ szO a ≤ 81 := by
  unfold plO szO
  rcases (show a = 0 ∨ a = 1 ∨ a = 2 by omega) with e | e | e <;> subst e <;> simp <;> omega
theorem m_copy {X : PX} {a k : Nat} {Q : Option PV → Sg → Prop} (ha : a < 3) (hk : k < 2) : ∀ (d x : Nat) (σ : Sg), x + d = szO a → (∀ τ : Sg, τ.1 = σ.1 → (∀ c : Nat, c ≠ 171 → τ.2 c = σ.2 c) → (∀ j : Nat, x ≤ j → j < szO a → τ.2 171 (plO a k + j) = σ.2 173 j) → (∀ j : Nat, j < plO a k + x ∨ plO a k + szO a ≤ j → τ.2 171 j = σ.2 171 j) → Q (some (vI k)) τ) → Ev X 187 144 [some (vR (some 170)), some (vI a), none, some (vI k), some (vI x)] [] σ Q := by
  have pr := pl_rng ha hk
  intro d
  induction d with
  | zero =>
    intro x σ hx q
    exact v_187_144 (m_size ha ⟨by omega, by omega, fun _ => q σ rfl (fun _ _ => rfl) (fun j h1 h2 => absurd h2 (by omega)) (fun _ _ => rfl), fun e => absurd (by omega) e⟩)
  | succ d ih =>
    intro x σ hx q
    refine v_187_144 (m_size ha ⟨by omega, by omega, fun e => absurd e (by omega), fun _ => m_plO ha ⟨by omega, by omega, ?_⟩⟩)
    rw [Int.toNat_natCast, show ((plO a k : Nat) : Int) + (x : Int) = ((plO a k + x : Nat) : Int) by omega, Int.toNat_natCast, show (x : Int) + 1 = ((x + 1 : Nat) : Int) by omega]
    refine ih (x + 1) _ (by omega) (fun τ e1 e2 e3 e4 => q τ e1 (fun c hc => ?_) (fun j h1 h2 => ?_) (fun j hj => ?_))
    · rw [e2 c hc]; dsimp only; rw [up2_ne _ _ _ hc]
    · by_cases e : j = x
      · rw [e, e4 _ (by omega)]; dsimp only; rw [up2_get]
      · rw [e3 j (by omega) h2]; dsimp only; rw [up2_ne _ _ _ (by omega)]
    · rw [e4 j (by omega)]; dsimp only; rw [up2_if, if_neg (by omega)]
theorem m_co {X : PX} {a s : Nat} {b : Int} {σ : Sg} {Q : Option PV → Sg → Prop} (ha : a < 3) (hb : InR b) (hs : (b = -1 ∧ σ.2 171 a = s) ∨ (b ≠ -1 ∧ b = s)) (q : ∀ A : Nat → Nat → Int, (∀ c : Nat, c ≠ 171 → A c = σ.2 c) → (∀ j : Nat, j ≠ a → A 171 j = σ.2 171 j) → A 171 a = (if b = -1 then (s : Int) + 1 else σ.2 171 a) → Ev X 187 144 [some (vR (some 170)), some (vI a), none, some (vI s), some (vI 0)] [] (σ.1, A) Q) : co78 X a b σ Q := by
  unfold co78
  rw [Int.toNat_natCast]
  rcases hs with ⟨e1, e2⟩ | ⟨e1, e2⟩
  · rw [e2]
    refine ⟨hb, fun e => absurd e1 e, fun _ => ⟨by omega, fun e => absurd e1 e, fun _ => q _ (fun c hc => up2_ne _ _ _ hc) (fun j hj => by rw [up2_if, if_neg hj]) ?_⟩⟩
    rw [up2_get, if_pos e1]
  · have := q σ.2 (fun _ _ => rfl) (fun _ _ => rfl) (by rw [if_neg e1])
    rw [← e2] at this
    exact ⟨hb, fun _ => ⟨fun _ => this, fun e => absurd e1 e⟩, fun e => absurd e1 e⟩
/-- what the fault is in the end -/
def finP (n : Nat) (f : Int × Int) (c : PCt) : Int × Int := if 2 ^ (c.1 2) ≤ c.1 5 then note 4 n f else f
theorem m_tlP {X : PX} {B : Nat → Int} {n : Nat} {b : Int} {τ : Sg} {b2 : Bool} {j : Nat} {f2 : Int × Int} {c2 : PCt} {Q : Option PV → Sg → Prop} (gf : GF n f2) (hT : b2 = true → MTk τ B n j f2 ∧ MBP τ ∧ kdA B n j = 0 ∧ (f2.1 = 0 → MCP τ c2)) (hF : b2 = false → MBk τ j ∧ f2 = (1, (j : Int)))
    (q1 : ∀ υ : Sg, FY τ υ → υ.2 171 5 = (finP n f2 c2).1 → υ.2 171 6 = (finP n f2 c2).2 → (finP n f2 c2).1 ≠ 0 → Q (some (vI (-1))) υ)
    (q2 : (finP n f2 c2).1 = 0 → τ.2 171 5 = (finP n f2 c2).1 → τ.2 171 6 = (finP n f2 c2).2 → MCP τ c2 → co78 X (0 : Nat) b τ Q) : tl78 X (0 : Nat) b τ Q := by
  have hf : τ.2 171 5 = f2.1 ∧ τ.2 171 6 = f2.2 := by
    cases b2 with
    | true => obtain ⟨⟨-, -, -, -, h5, h6, -⟩, -⟩ := hT rfl; exact ⟨h5, h6⟩
    | false => obtain ⟨⟨h8, h5, h6⟩, e⟩ := hF rfl; rw [e]; exact ⟨h5, h6⟩
  have gr := gf.1
  unfold tl78
  by_cases z : f2.1 = 0
  · have bt : b2 = true := by
      cases b2 with
      | true => rfl
      | false => rw [(hF rfl).2] at z; exact absurd z (by dsimp only; omega)
    obtain ⟨mt, mb, k0, mc⟩ := hT bt
    have mc := mc z
    obtain ⟨h1, h8, ht, hi, h5, h6, h7, h9⟩ := id mt
    have t4 := ht.2.1
    have jn : j = n := by
      by_cases y : j < n
      · have := bAt_ge h1 y
        refine absurd ?_ this
        unfold kdA at k0
        repeat' split at k0
        all_goals first | assumption | omega
      · omega
    obtain ⟨b1, b2', b3⟩ := mb
    unfold H9 at b3
    have n2 : τ.2 173 2 = c2.1 2 := mc.1.2.2.1
    have far := mc.2.2.2.2.2 (c2.1 2)
    have n6 := h1.2.1
    refine ⟨by omega, fun e => absurd rfl e, fun _ => ⟨by omega, fun e => absurd (hf.1.trans z) e, fun _ => ⟨by omega, by omega, fun y => ⟨fun _ => ?_, fun e => absurd (hf.1.trans z) e⟩, fun y => ?_⟩⟩⟩
    · have fe : finP n f2 c2 = f2 := if_neg (by have := far.mpr (by omega); omega)
      rw [fe] at q2
      exact q2 z hf.1 hf.2 mc
    · have fe : finP n f2 c2 = note 4 n f2 := if_pos (by
        have : ¬ c2.1 5 < 2 ^ c2.1 2 := fun w => by have := far.mp w; omega
        omega)
      rw [fe] at q1
      rw [t4, jn]
      refine m_also h8 h5 h6 (by omega) (by omega) h7 (fun e => absurd z e) (fun υ f => ?_)
      have ne : (note 4 n f2).1 ≠ 0 := note_ne (by omega)
      have nr := note_rng (k := 4) (a := n) (by omega) h7
      have u5 := f.2.2.2.1
      exact ⟨by omega, fun e => absurd (u5.symm.trans e) ne, fun _ => q1 υ f.fz.fy u5 f.2.2.2.2 ne⟩
  · have fe : finP n f2 c2 = f2 := by unfold finP; rw [note_id z]; split <;> rfl
    rw [fe] at q1
    refine ⟨by omega, fun e => absurd rfl e, fun _ => ⟨by omega, fun e => ⟨fun e2 => absurd e2 e, fun _ => q1 τ FY.rfl hf.1 hf.2 z⟩, fun e => absurd (fun e2 => z (hf.1.symm.trans e2)) e⟩⟩
theorem m_tlQ {γ : Type} {MB : Sg → Prop} {MC : Sg → γ → Prop} {X : PX} {B : Nat → Int} {n a : Nat} {b : Int} {τ : Sg} {b2 : Bool} {j : Nat} {f2 : Int × Int} {c2 : γ} {Q : Option PV → Sg → Prop} (a0 : a ≠ 0) (a3 : a < 3) (gf : GF n f2) (hT : b2 = true → MTk τ B n j f2 ∧ MB τ ∧ kdA B n j = 0 ∧ (f2.1 = 0 → MC τ c2)) (hF : b2 = false → MBk τ j ∧ f2 = (1, (j : Int)))
    (q1 : ∀ υ : Sg, FY τ υ → υ.2 171 5 = f2.1 → υ.2 171 6 = f2.2 → f2.1 ≠ 0 → Q (some (vI (-1))) υ)
    (q2 : f2.1 = 0 → τ.2 171 5 = f2.1 → τ.2 171 6 = f2.2 → MC τ c2 → co78 X a b τ Q) : tl78 X a b τ Q := by
  have hf : τ.2 171 5 = f2.1 ∧ τ.2 171 6 = f2.2 := by
    cases b2 with
    | true => obtain ⟨⟨-, -, -, -, h5, h6, -⟩, -⟩ := hT rfl; exact ⟨h5, h6⟩
    | false => obtain ⟨⟨h8, h5, h6⟩, e⟩ := hF rfl; rw [e]; exact ⟨h5, h6⟩
  have gr := gf.1
  unfold tl78
  refine ⟨by omega, fun _ => ⟨by omega, fun z => ?_, fun z => q1 τ FY.rfl hf.1 hf.2 (fun e => z (hf.1.trans e))⟩, fun e => absurd (by omega) e⟩
  have z2 : f2.1 = 0 := hf.1.symm.trans z
  have bt : b2 = true := by
    cases b2 with
    | true => rfl
    | false => rw [(hF rfl).2] at z2; exact absurd z2 (by dsimp only; omega)
  exact q2 z2 hf.1 hf.2 ((hT bt).2.2.2 z2)
