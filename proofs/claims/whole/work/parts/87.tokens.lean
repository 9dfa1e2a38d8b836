/-! TOKENS: the pure scanner, and both sides' scanners against it -/
def isBl (c : Int) : Bool := decide (c = 10 ∨ c = 32)
def isLt (c : Int) : Bool := decide (97 ≤ c ∧ c ≤ 122)
def isDg (c : Int) : Bool := decide (48 ≤ c ∧ c ≤ 57)
def bAt (B : Nat → Int) (n i : Nat) : Int := if i < n then B i else -1
def rnF (g : Int → Bool) (B : Nat → Int) (n : Nat) : Nat → Nat → Nat
  | 0, i => i
  | d + 1, i => if i < n ∧ g (B i) = true then rnF g B n d (i + 1) else i
def rn (g : Int → Bool) (B : Nat → Int) (n i : Nat) : Nat := rnF g B n (n - i) i
theorem rn_y {g : Int → Bool} {B : Nat → Int} {n i : Nat} (h : i < n) (hg : g (B i) = true) : rn g B n i = rn g B n (i + 1) := by
  unfold rn
  rw [show n - i = (n - (i + 1)) + 1 by omega]
  exact if_pos ⟨h, hg⟩
theorem rn_n {g : Int → Bool} {B : Nat → Int} {n i : Nat} (h : ¬ (i < n ∧ g (B i) = true)) : rn g B n i = i := by
  unfold rn
  by_cases c : i < n
  · rw [show n - i = (n - (i + 1)) + 1 by omega]
    exact if_neg h
  · rw [show n - i = 0 by omega]; rfl
theorem rnF_rng {g : Int → Bool} {B : Nat → Int} {n : Nat} : ∀ d i : Nat, i ≤ rnF g B n d i ∧ (i ≤ n → rnF g B n d i ≤ n)
  | 0, i => ⟨Nat.le_refl _, fun h => h⟩
  | d + 1, i => by
    unfold rnF
    split
    · have := rnF_rng (g := g) (B := B) (n := n) d (i + 1); omega
    · omega
theorem rn_rng {g : Int → Bool} {B : Nat → Int} {n i : Nat} : i ≤ rn g B n i ∧ (i ≤ n → rn g B n i ≤ n) := rnF_rng _ _
theorem rn_gt {g : Int → Bool} {B : Nat → Int} {n i : Nat} (h : i < n) (hg : g (B i) = true) : i + 1 ≤ rn g B n i := by
  rw [rn_y h hg]; exact rn_rng.1
def kdA (B : Nat → Int) (n i : Nat) : Int := if isLt (bAt B n i) = true then 1 else if isDg (bAt B n i) = true then (if 2 < rn isDg B n i - i then 4 else 2) else if bAt B n i = -1 then 0 else if bAt B n i = 59 then 3 else 4
def enA (B : Nat → Int) (n i : Nat) : Nat := if isLt (bAt B n i) = true then rn isLt B n i else if isDg (bAt B n i) = true then rn isDg B n i else i + 1
def vl (B : Nat → Int) (s : Nat) : Nat → Int
  | 0 => 0
  | k + 1 => vl B s k * 10 + B (s + k) - 48
/-! the class -/
def TC (σ : Sg) (B : Nat → Int) (n : Nat) : Prop := σ.1 1 1 = n ∧ n ≤ 600 ∧ ∀ i : Nat, i < n → σ.2 2 i = B i ∧ 0 ≤ B i ∧ B i ≤ 255
def FN (σ τ : Sg) : Prop := (∀ c : Nat, c ≠ 131 → τ.1 c = σ.1 c) ∧ (∀ j : Nat, j < 7 ∨ 10 < j → τ.1 131 j = σ.1 131 j) ∧ τ.2 = σ.2
theorem FN.rfl {σ : Sg} : FN σ σ := ⟨fun _ _ => Eq.refl _, fun _ _ => Eq.refl _, Eq.refl _⟩
theorem FN.trans {σ τ υ : Sg} (h : FN σ τ) (g : FN τ υ) : FN σ υ := ⟨fun c q => (g.1 c q).trans (h.1 c q), fun c q => (g.2.1 c q).trans (h.2.1 c q), g.2.2.trans h.2.2⟩
theorem FN.up {σ : Sg} (j : Nat) (x : Int) (h : 7 ≤ j) (h2 : j ≤ 10) : FN σ (up2 σ.1 131 j x, σ.2) := ⟨fun c hc => up2_ne _ _ _ hc, fun i hi => by dsimp only; rw [up2_if, if_neg (by omega)], Eq.refl _⟩
theorem TC.fn {σ τ : Sg} {B : Nat → Int} {n : Nat} (h : TC σ B n) (f : FN σ τ) : TC τ B n := by
  unfold TC; rw [f.1 1 (by omega), f.2.2]; exact h
theorem bAt_rng {σ : Sg} {B : Nat → Int} {n : Nat} (h : TC σ B n) (i : Nat) : -1 ≤ bAt B n i ∧ bAt B n i ≤ 255 := by
  unfold bAt; split
  · have := h.2.2 i (by assumption); omega
  · omega
theorem c_byte {X : PX} {σ : Sg} {B : Nat → Int} {n i : Nat} {P : Int → Sg → Prop} (h : TC σ B n) (hi : i ≤ 600) (q : P (bAt B n i) σ) : CI X 113 [vR (some 1), vI i] σ P := by
  obtain ⟨h1, h2, h3⟩ := h
  unfold bAt at q
  refine v_113 (by decide) ⟨by omega, fun e => absurd e (by omega), fun _ => ⟨by omega, fun c => ⟨_, rfl, ?_⟩, fun c => ⟨fun e => absurd e (by omega), fun _ => ⟨by omega, _, rfl, ?_⟩⟩⟩⟩
  · rw [if_neg (by omega)] at q; exact q
  · rw [if_pos (by omega)] at q
    rw [Int.toNat_natCast, (h3 i (by omega)).1]; exact q
theorem c_isBl {X : PX} {σ : Sg} {c : Int} {P : Int → Sg → Prop} (h : InR c) (q : P (if isBl c = true then 1 else 0) σ) : CI X 108 [vI c] σ P := by
  unfold isBl at q
  simp only [decide_eq_true_eq] at q
  refine v_108 ⟨h, fun e => ⟨_, rfl, ?_⟩, fun e => ⟨fun e2 => ⟨_, rfl, ?_⟩, fun e2 => ⟨_, rfl, ?_⟩⟩⟩
  · rw [if_pos (by omega)] at q; exact q
  · rw [if_neg (by omega)] at q; exact q
  · rw [if_pos (by omega)] at q; exact q
theorem c_isLt {X : PX} {σ : Sg} {c : Int} {P : Int → Sg → Prop} (h : InR c) (q : P (if isLt c = true then 1 else 0) σ) : CI X 109 [vI c] σ P := by
  unfold isLt at q
  simp only [decide_eq_true_eq] at q
  refine v_109 ⟨h, fun e => ⟨_, rfl, ?_⟩, fun e => ⟨fun e2 => ⟨_, rfl, ?_⟩, fun e2 => ⟨_, rfl, ?_⟩⟩⟩
  · rw [if_neg (by omega)] at q; exact q
  · rw [if_neg (by omega)] at q; exact q
  · rw [if_pos (by omega)] at q; exact q
theorem c_isDg {X : PX} {σ : Sg} {c : Int} {P : Int → Sg → Prop} (h : InR c) (q : P (if isDg c = true then 1 else 0) σ) : CI X 110 [vI c] σ P := by
  unfold isDg at q
  simp only [decide_eq_true_eq] at q
  refine v_110 ⟨h, fun e => ⟨_, rfl, ?_⟩, fun e => ⟨fun e2 => ⟨_, rfl, ?_⟩, fun e2 => ⟨_, rfl, ?_⟩⟩⟩
  · rw [if_neg (by omega)] at q; exact q
  · rw [if_neg (by omega)] at q; exact q
  · rw [if_pos (by omega)] at q; exact q
theorem m_isLt {X : PX} {σ : Sg} {c : Int} {P : Int → Sg → Prop} (h : InR c) (q : P (if isLt c = true then 1 else 0) σ) : CI X 165 [vI c] σ P := by
  unfold isLt at q
  simp only [decide_eq_true_eq] at q
  refine v_165 ⟨h, fun e => ⟨_, rfl, ?_⟩, fun e => ⟨fun e2 => ⟨_, rfl, ?_⟩, fun e2 => ⟨_, rfl, ?_⟩⟩⟩
  · rw [if_neg (by omega)] at q; exact q
  · rw [if_neg (by omega)] at q; exact q
  · rw [if_pos (by omega)] at q; exact q
theorem m_isDg {X : PX} {σ : Sg} {c : Int} {P : Int → Sg → Prop} (h : InR c) (q : P (if isDg c = true then 1 else 0) σ) : CI X 166 [vI c] σ P := by
  unfold isDg at q
  simp only [decide_eq_true_eq] at q
  refine v_166 ⟨h, fun e => ⟨_, rfl, ?_⟩, fun e => ⟨fun e2 => ⟨_, rfl, ?_⟩, fun e2 => ⟨_, rfl, ?_⟩⟩⟩
  · rw [if_neg (by omega)] at q; exact q
  · rw [if_neg (by omega)] at q; exact q
  · rw [if_pos (by omega)] at q; exact q
theorem bAt_in {B : Nat → Int} {n i : Nat} (h : i < n) : bAt B n i = B i := if_pos h
theorem c_letters {X : PX} {B : Nat → Int} {n : Nat} {Q : Option PV → Sg → Prop} : ∀ (d i : Nat) (σ : Sg), TC σ B n → i + d = n → (∀ τ : Sg, FN σ τ → (∀ j : Nat, j ≠ 9 → τ.1 131 j = σ.1 131 j) → τ.1 131 9 = rn isLt B n i → Q none τ) → Ev X 106 30 [some (vR (some 131)), some (vI i), none] [] σ Q := by
  intro d
  induction d with
  | zero =>
    intro i σ h hi k
    have h1 := h.1
    have h2 := h.2.1
    refine v_106_30 ⟨by omega, by omega, fun _ => k _ (FN.up 9 _ (by omega) (by omega)) (fun j hj => ?_) ?_, fun e => absurd (by omega) e⟩
    · dsimp only; rw [up2_if, if_neg hj]
    · dsimp only; rw [up2_get, rn_n (by omega)]
  | succ d ih =>
    intro i σ h hi k
    have h1 := h.1
    have h2 := h.2.1
    have br := bAt_rng h i
    refine v_106_30 ⟨by omega, by omega, fun e => absurd e (by omega), fun _ => c_byte h (by omega) (c_isLt (by omega) ?_)⟩
    rw [bAt_in (show i < n by omega)]
    by_cases c : isLt (B i) = true
    · rw [if_pos c]
      refine ⟨by omega, fun e => absurd e (by omega), fun _ => ?_⟩
      rw [rn_y (show i < n by omega) c] at k
      exact ih (i + 1) σ h (by omega) k
    · rw [if_neg c]
      refine ⟨by omega, fun _ => k _ (FN.up 9 _ (by omega) (by omega)) (fun j hj => ?_) ?_, fun e => absurd rfl e⟩
      · dsimp only; rw [up2_if, if_neg hj]
      · dsimp only; rw [up2_get, rn_n (fun x => c x.2)]
theorem c_digits {X : PX} {B : Nat → Int} {n s : Nat} {Q : Option PV → Sg → Prop} : ∀ (d i : Nat) (σ : Sg), TC σ B n → i + d = n → s ≤ i → σ.1 131 10 = vl B s (i - s) → (∀ τ : Sg, FN σ τ → τ.1 131 8 = σ.1 131 8 → τ.1 131 7 = (if 2 < rn isDg B n i - s then 4 else 2) → τ.1 131 10 = vl B s (rn isDg B n i - s) → Q (some (vI (rn isDg B n i))) τ) → Ev X 107 5 [some (vR (some 131)), some (vI s), some (vI i)] [] σ Q := by
  intro d
  induction d with
  | zero =>
    intro i σ h hi hs h10 k
    have h1 := h.1
    have h2 := h.2.1
    rw [rn_n (show ¬ (i < n ∧ isDg (B i) = true) by omega)] at k
    refine v_107_5 ⟨by omega, by omega, fun _ => ⟨by omega, fun c => k _ (FN.up 7 _ (by omega) (by omega)) ?_ ?_ ?_, fun c => k _ (FN.up 7 _ (by omega) (by omega)) ?_ ?_ ?_⟩, fun e => absurd (by omega) e⟩
    · dsimp only; rw [up2_if, if_neg (by omega)]
    · dsimp only; rw [up2_get, if_pos (by omega)]
    · dsimp only; rw [up2_if, if_neg (by omega)]; exact h10
    · dsimp only; rw [up2_if, if_neg (by omega)]
    · dsimp only; rw [up2_get, if_neg (by omega)]
    · dsimp only; rw [up2_if, if_neg (by omega)]; exact h10
  | succ d ih =>
    intro i σ h hi hs h10 k
    have h1 := h.1
    have h2 := h.2.1
    have br := bAt_rng h i
    refine v_107_5 ⟨by omega, by omega, fun e => absurd e (by omega), fun _ => c_byte h (by omega) (c_isDg (by omega) ?_)⟩
    rw [bAt_in (show i < n by omega)]
    by_cases c : isDg (B i) = true
    · rw [if_pos c]
      refine ⟨by omega, fun e => absurd e (by omega), fun _ => c_byte h (by omega) ?_⟩
      rw [bAt_in (show i < n by omega)]
      rw [rn_y (show i < n by omega) c] at k
      have fu : FN σ (up2 σ.1 131 10 (σ.1 131 10 * 10 + B i - 48), σ.2) := FN.up 10 _ (by omega) (by omega)
      refine ih (i + 1) _ (h.fn fu) (by omega) (by omega) ?_ (fun τ f e8 e7 e10 => k τ (fu.trans f) ?_ e7 e10)
      · dsimp only
        rw [up2_get, h10, show i + 1 - s = (i - s) + 1 by omega]
        show _ = vl B s (i - s) * 10 + B (s + (i - s)) - 48
        rw [show s + (i - s) = i by omega]
      · rw [e8]; dsimp only; rw [up2_if, if_neg (by omega)]
    · rw [if_neg c]
      rw [rn_n (show ¬ (i < n ∧ isDg (B i) = true) from fun x => c x.2)] at k
      refine ⟨by omega, fun _ => ⟨by omega, fun c => k _ (FN.up 7 _ (by omega) (by omega)) ?_ ?_ ?_, fun c => k _ (FN.up 7 _ (by omega) (by omega)) ?_ ?_ ?_⟩, fun e => absurd rfl e⟩
      · dsimp only; rw [up2_if, if_neg (by omega)]
      · dsimp only; rw [up2_get, if_pos (by omega)]
      · dsimp only; rw [up2_if, if_neg (by omega)]; exact h10
      · dsimp only; rw [up2_if, if_neg (by omega)]
      · dsimp only; rw [up2_get, if_neg (by omega)]
      · dsimp only; rw [up2_if, if_neg (by omega)]; exact h10
/-- what a scanner has found: its kind, where it starts and ends, its number -/
def TkC (τ : Sg) (B : Nat → Int) (n i : Nat) : Prop := τ.1 131 7 = kdA B n i ∧ τ.1 131 8 = i ∧ τ.1 131 9 = enA B n i ∧ (kdA B n i = 2 → τ.1 131 10 = vl B i (enA B n i - i))
theorem c_tok {X : PX} {σ : Sg} {B : Nat → Int} {n i : Nat} {Q : Option PV → Sg → Prop} (h : TC σ B n) (hi : i ≤ n) (k : ∀ τ : Sg, FN σ τ → TkC τ B n i → Q none τ) : CI X 113 [vR (some 1), vI i] (up2 σ.1 131 8 i, σ.2) (fun r3 τ1 => CI X 109 [vI r3] τ1 (fun r4 τ2 => InR r4 ∧ (r4 = 0 → CI X 110 [vI r3] τ2 (fun r6 τ3 => InR r6 ∧ (r6 = 0 → InR r3 ∧ (r3 ≠ (-1) → (r3 ≠ 59 → Q none (up2 (up2 τ3.1 131 7 4) 131 9 ((i : Int) + 1), τ3.2)) ∧ (¬ r3 ≠ 59 → Q none (up2 (up2 τ3.1 131 7 3) 131 9 ((i : Int) + 1), τ3.2))) ∧ (¬ r3 ≠ (-1) → Q none (up2 (up2 τ3.1 131 7 0) 131 9 ((i : Int) + 1), τ3.2))) ∧ (¬ r6 = 0 → CI X 107 [vR (some 131), vI i] τ3 (fun r9 τ4 => Q none (up2 τ4.1 131 9 r9, τ4.2))))) ∧ (¬ r4 = 0 → Ev X 106 30 [some (vR (some 131)), some (vI i), none] [] (up2 τ2.1 131 7 1, τ2.2) Q))) := by
  have f8 : FN σ (up2 σ.1 131 8 i, σ.2) := FN.up 8 _ (by omega) (by omega)
  have h8 := h.fn f8
  have n6 := h.2.1
  have br := bAt_rng h i
  refine c_byte h8 (by omega) (c_isLt (by omega) ?_)
  unfold TkC kdA enA at k
  by_cases c : isLt (bAt B n i) = true
  · rw [if_pos c]
    rw [if_pos c, if_pos c] at k
    refine ⟨by omega, fun e => absurd e (by omega), fun _ => ?_⟩
    have f7 : FN (up2 σ.1 131 8 i, σ.2) (up2 (up2 σ.1 131 8 i) 131 7 1, σ.2) := FN.up 7 _ (by omega) (by omega)
    refine c_letters (n - i) i _ (h8.fn f7) (by omega) (fun τ f e e9 => k τ (f8.trans (f7.trans f)) ⟨?_, ?_, e9, fun x => absurd x (by omega)⟩)
    · rw [e 7 (by omega)]; dsimp only; rw [up2_get]
    · rw [e 8 (by omega)]; dsimp only; rw [up2_if, if_neg (by omega), up2_get]
  · rw [if_neg c]
    rw [if_neg c, if_neg c] at k
    refine ⟨by omega, fun _ => c_isDg (by omega) ?_, fun e => absurd rfl e⟩
    by_cases d : isDg (bAt B n i) = true
    · rw [if_pos d]
      rw [if_pos d, if_pos d] at k
      refine ⟨by omega, fun e => absurd e (by omega), fun _ => v_107 ?_⟩
      have f10 : FN (up2 σ.1 131 8 i, σ.2) (up2 (up2 σ.1 131 8 i) 131 10 0, σ.2) := FN.up 10 _ (by omega) (by omega)
      refine c_digits (n - i) i _ (h8.fn f10) (by omega) (Nat.le_refl _) ?_ (fun τ f e8 e7 e10 => ⟨_, rfl, k _ (f8.trans (f10.trans (f.trans (FN.up 9 _ (by omega) (by omega))))) ⟨?_, ?_, ?_, fun x => ?_⟩⟩)
      · dsimp only; rw [up2_get, Nat.sub_self]; rfl
      · dsimp only; rw [up2_if, if_neg (by omega)]; exact e7
      · dsimp only; rw [up2_if, if_neg (by omega), e8]; dsimp only; rw [up2_if, if_neg (by omega), up2_get]
      · dsimp only; rw [up2_get]
      · dsimp only; rw [up2_if, if_neg (by omega)]; exact e10
    · rw [if_neg d]
      rw [if_neg d, if_neg d] at k
      have ff : ∀ x : Int, FN σ (up2 (up2 (up2 σ.1 131 8 i) 131 7 x) 131 9 ((i : Int) + 1), σ.2) := fun x => f8.trans ((FN.up 7 x (by omega) (by omega)).trans (FN.up 9 _ (by omega) (by omega)))
      refine ⟨by omega, fun _ => ⟨by omega, fun e1 => ⟨fun e2 => k _ (ff 4) ?_, fun e2 => k _ (ff 3) ?_⟩, fun e1 => k _ (ff 0) ?_⟩, fun e => absurd rfl e⟩
      · rw [if_neg e1, if_neg e2]
        dsimp only
        simp only [up2_if, Nat.reduceEqDiff, reduceIte]
        exact ⟨trivial, trivial, by omega, fun x => absurd x (by omega)⟩
      · rw [if_neg e1, if_pos (by omega)]
        dsimp only
        simp only [up2_if, Nat.reduceEqDiff, reduceIte]
        exact ⟨trivial, trivial, by omega, fun x => absurd x (by omega)⟩
      · rw [if_pos (by omega)]
        dsimp only
        simp only [up2_if, Nat.reduceEqDiff, reduceIte]
        exact ⟨trivial, trivial, by omega, fun x => absurd x (by omega)⟩
theorem c_next {X : PX} {σ : Sg} {B : Nat → Int} {n e : Nat} {P : Sg → Prop} (h : TC σ B n) (he : σ.1 131 9 = e) (hen : e ≤ n) (k : ∀ τ : Sg, FN σ τ → TkC τ B n (rn isBl B n e) → P τ) : CV X 106 [vR (some 131)] σ P := by
  have n6 := h.2.1
  have h1 := h.1
  have lp : ∀ (d i : Nat), i + d = n → (∀ τ : Sg, FN σ τ → TkC τ B n (rn isBl B n i) → P τ) → Ev X 106 3 [some (vR (some 131)), some (vI i), none] [] σ (fun v τ => v = none ∧ P τ) := by
    intro d
    induction d with
    | zero =>
      intro i hi k
      rw [rn_n (show ¬ (i < n ∧ isBl (B i) = true) by omega)] at k
      exact v_106_3 ⟨by omega, by omega, fun _ => c_tok (i := i) (Q := fun v τ => v = none ∧ P τ) h (by omega) (fun τ f t => ⟨rfl, k τ f t⟩), fun e => absurd (by omega) e⟩
    | succ d ih =>
      intro i hi k
      have br := bAt_rng h i
      refine v_106_3 ⟨by omega, by omega, fun e => absurd e (by omega), fun _ => c_byte h (by omega) (c_isBl (by omega) ?_)⟩
      rw [bAt_in (show i < n by omega)]
      by_cases c : isBl (B i) = true
      · rw [if_pos c]
        rw [rn_y (show i < n by omega) c] at k
        exact ⟨by omega, fun e => absurd e (by omega), fun _ => ih (i + 1) (by omega) k⟩
      · rw [if_neg c]
        rw [rn_n (show ¬ (i < n ∧ isBl (B i) = true) from fun x => c x.2)] at k
        exact ⟨by omega, fun _ => c_tok (i := i) (Q := fun v τ => v = none ∧ P τ) h (by omega) (fun τ f t => ⟨rfl, k τ f t⟩), fun e => absurd rfl e⟩
  refine v_106 ?_
  rw [he]
  exact lp (n - e) e (by omega) k
/-! the words -/
def hs (B : Nat → Int) (s : Nat) : Nat → Int
  | 0 => 0
  | k + 1 => 32 * hs B s k + B (s + k) - 96
/-- a word, its last letter first, as it stands at s -/
def wmt (B : Nat → Int) (s : Nat) : List Int → Nat → Bool
  | [], L => decide (L = 0)
  | _ :: _, 0 => false
  | d :: r, L + 1 => decide (B (s + L) = 96 + d) && wmt B s r L
def hv : List Int → Int
  | [] => 0
  | d :: r => 32 * hv r + d
theorem hs_nn {B : Nat → Int} {s : Nat} : ∀ L : Nat, (∀ i : Nat, i < L → 97 ≤ B (s + i) ∧ B (s + i) ≤ 122) → 0 ≤ hs B s L ∧ (0 < L → 0 < hs B s L)
  | 0, _ => by unfold hs; omega
  | L + 1, h => by
    have := hs_nn L (fun i hi => h i (by omega))
    have := h L (by omega)
    unfold hs; omega
theorem hv_nn : ∀ r : List Int, (∀ d ∈ r, 1 ≤ d ∧ d ≤ 26) → 0 ≤ hv r
  | [], _ => by unfold hv; omega
  | d :: r, h => by
    have := hv_nn r (fun x hx => h x (List.mem_cons_of_mem _ hx))
    have := h d List.mem_cons_self
    unfold hv; omega
theorem hs_iff {B : Nat → Int} {s : Nat} : ∀ (r : List Int) (L : Nat), (∀ d ∈ r, 1 ≤ d ∧ d ≤ 26) → (∀ i : Nat, i < L → 97 ≤ B (s + i) ∧ B (s + i) ≤ 122) → (hs B s L = hv r ↔ wmt B s r L = true)
  | [], L, _, h => by
    have := hs_nn L h
    unfold wmt hv
    simp only [decide_eq_true_eq]
    constructor
    · intro e; omega
    · intro e; rw [e]; rfl
  | d :: r, 0, hd, _ => by
    have a := hv_nn r (fun x hx => hd x (List.mem_cons_of_mem _ hx))
    have b := hd d List.mem_cons_self
    unfold wmt hv hs
    constructor
    · intro e; omega
    · intro e; exact absurd e (by decide)
  | d :: r, L + 1, hd, h => by
    have a := hv_nn r (fun x hx => hd x (List.mem_cons_of_mem _ hx))
    have b := hd d List.mem_cons_self
    have c := hs_nn L (fun i hi => h i (by omega))
    have l := h L (by omega)
    have ih := hs_iff r L (fun x hx => hd x (List.mem_cons_of_mem _ hx)) (fun i hi => h i (by omega))
    unfold wmt hv hs
    simp only [Bool.and_eq_true, decide_eq_true_eq]
    rw [← ih]
    constructor
    · intro e; omega
    · intro e; omega
