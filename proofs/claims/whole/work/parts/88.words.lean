/-! WORDS, and the reference's scanner -/
def w1 : List Int := [5, 3, 9, 6, 6, 15]
def w2 : List Int := [5, 19, 21, 15, 8]
def w3 : List Int := [5, 9, 20]
def w4 : List Int := [20, 3, 1, 16]
def w5 : List Int := [1, 20, 15, 21, 17]
def w6 : List Int := [5, 3, 9, 18, 16]
def w7 : List Int := [18, 1, 5, 25]
def w8 : List Int := [25, 21, 2]
def w9 : List Int := [5, 19, 15, 12]
def w10 : List Int := [20, 21, 3]
def w11 : List Int := [4, 9, 1, 16]
def wid (B : Nat → Int) (s L : Nat) : Int := if wmt B s w1 L = true then 1 else if wmt B s w2 L = true then 2 else if wmt B s w3 L = true then 3 else if wmt B s w4 L = true then 4 else if wmt B s w5 L = true then 5 else if wmt B s w6 L = true then 6 else if wmt B s w7 L = true then 7 else if wmt B s w8 L = true then 8 else if wmt B s w9 L = true then 9 else if wmt B s w10 L = true then 10 else if wmt B s w11 L = true then 11 else 99
theorem wmt_iff {B : Nat → Int} {s : Nat} : ∀ (r : List Int) (L : Nat), wmt B s r L = true ↔ L = r.length ∧ ∀ i : Nat, i < L → B (s + i) = 96 + r.getD (L - 1 - i) 0
  | [], L => by
    unfold wmt
    simp only [decide_eq_true_eq, List.length_nil]
    exact ⟨fun e => ⟨e, fun i hi => absurd hi (by omega)⟩, fun e => e.1⟩
  | d :: r, 0 => by
    unfold wmt
    exact ⟨fun e => absurd e (by decide), fun e => absurd e.1 (by simp)⟩
  | d :: r, L + 1 => by
    unfold wmt
    simp only [Bool.and_eq_true, decide_eq_true_eq, List.length_cons]
    rw [wmt_iff r L]
    constructor
    · rintro ⟨e1, e2, e3⟩
      refine ⟨by omega, fun i hi => ?_⟩
      by_cases c : i = L
      · rw [c, e1, show L + 1 - 1 - L = 0 by omega]; rfl
      · rw [e3 i (by omega), show L + 1 - 1 - i = (L - 1 - i) + 1 by omega, List.getD_cons_succ]
    · rintro ⟨e1, e2⟩
      refine ⟨?_, by omega, fun i hi => ?_⟩
      · have := e2 L (by omega)
        rw [show L + 1 - 1 - L = 0 by omega] at this; exact this
      · have := e2 i (by omega)
        rw [show L + 1 - 1 - i = (L - 1 - i) + 1 by omega, List.getD_cons_succ] at this
        exact this
theorem wid_long {B : Nat → Int} {s L : Nat} (h : 8 < L) : wid B s L = 99 := by
  have n : ∀ r : List Int, r.length ≤ 8 → ¬ wmt B s r L = true := fun r hr e => by
    have := ((wmt_iff r L).mp e).1; omega
  unfold wid
  rw [if_neg (n w1 (by decide)), if_neg (n w2 (by decide)), if_neg (n w3 (by decide)), if_neg (n w4 (by decide)), if_neg (n w5 (by decide)), if_neg (n w6 (by decide)), if_neg (n w7 (by decide)), if_neg (n w8 (by decide)), if_neg (n w9 (by decide)), if_neg (n w10 (by decide)), if_neg (n w11 (by decide))]
theorem wid_rng {B : Nat → Int} {s L : Nat} : wid B s L = 99 ∨ (1 ≤ wid B s L ∧ wid B s L ≤ 11) := by
  unfold wid
  repeat' split
  all_goals omega
theorem hs_lt {B : Nat → Int} {s : Nat} : ∀ L : Nat, (∀ i : Nat, i < L → 97 ≤ B (s + i) ∧ B (s + i) ≤ 122) → hs B s L < ((32 ^ L : Nat) : Int)
  | 0, _ => by unfold hs; decide
  | L + 1, h => by
    have a := hs_lt L (fun i hi => h i (by omega))
    have b := h L (by omega)
    have e : 32 ^ (L + 1) = 32 ^ L * 32 := Nat.pow_succ _ _
    unfold hs; omega
theorem m_four {X : PX} {σ : Sg} {a b c d : Int} {P : Int → Sg → Prop} (q : P (iI2l ((((((a * 32) + b) * 32) + c) * 32) + d)) σ) : CG X 167 [vI a, vI b, vI c, vI d] σ P := v_167 ⟨_, rfl, q⟩
theorem m_eight {X : PX} {σ : Sg} {a b c d a' b' c' d' : Int} {P : Int → Sg → Prop} (q : P (iI2l ((((((a * 32) + b) * 32) + c) * 32) + d) * 1048576 + iI2l ((((((a' * 32) + b') * 32) + c') * 32) + d')) σ) : CG X 168 [vI a, vI b, vI c, vI d, vI a', vI b', vI c', vI d'] σ P := v_168 (m_four (m_four ⟨_, rfl, q⟩))
theorem m_word {X : PX} {σ : Sg} {B : Nat → Int} {s L : Nat} {P : Int → Sg → Prop} (h : ∀ i : Nat, i < L → 97 ≤ B (s + i) ∧ B (s + i) ≤ 122) (hL : L ≤ 8) (q : P (wid B s L) σ) : CI X 169 [vL (hs B s L)] σ P := by
  have hn := (hs_nn L h).1
  have hl := hs_lt L h
  have p8 : 32 ^ L ≤ 32 ^ 8 := Nat.pow_le_pow_right (by omega) hL
  have sw : ∀ (r : List Int) (y : Int), y = hv r → ((∀ d ∈ r, 1 ≤ d ∧ d ≤ 26) ∧ hv r < 9223372036854775808) → InR (lCmp (hs B s L) y) ∧ (lCmp (hs B s L) y = 0 ↔ wmt B s r L = true) := by
    intro r y hy hr
    have h2 := hv_nn r hr.1
    have c := l_cmp (a := (hs B s L).toNat) (b := (hv r).toNat) (by omega) (by omega)
    rw [show (((hs B s L).toNat : Nat) : Int) = hs B s L by omega, show (((hv r).toNat : Nat) : Int) = hv r by omega] at c
    rw [hy]
    refine ⟨c.1, ?_⟩
    rw [c.2, ← hs_iff r L hr.1 h]
    omega
  unfold wid at q
  refine v_169 (m_eight ⟨(sw w1 _ (by decide +kernel) (by decide +kernel)).1, fun c => ?_, fun c => ⟨_, rfl, by rw [if_pos ((sw w1 _ (by decide +kernel) (by decide +kernel)).2.mp (Decidable.not_not.mp c))] at q; exact q⟩⟩)
  rw [if_neg (fun e => c ((sw w1 _ (by decide +kernel) (by decide +kernel)).2.mpr e))] at q
  refine m_eight ⟨(sw w2 _ (by decide +kernel) (by decide +kernel)).1, fun c => ?_, fun c => ⟨_, rfl, by rw [if_pos ((sw w2 _ (by decide +kernel) (by decide +kernel)).2.mp (Decidable.not_not.mp c))] at q; exact q⟩⟩
  rw [if_neg (fun e => c ((sw w2 _ (by decide +kernel) (by decide +kernel)).2.mpr e))] at q
  refine m_four ⟨(sw w3 _ (by decide +kernel) (by decide +kernel)).1, fun c => ?_, fun c => ⟨_, rfl, by rw [if_pos ((sw w3 _ (by decide +kernel) (by decide +kernel)).2.mp (Decidable.not_not.mp c))] at q; exact q⟩⟩
  rw [if_neg (fun e => c ((sw w3 _ (by decide +kernel) (by decide +kernel)).2.mpr e))] at q
  refine m_four ⟨(sw w4 _ (by decide +kernel) (by decide +kernel)).1, fun c => ?_, fun c => ⟨_, rfl, by rw [if_pos ((sw w4 _ (by decide +kernel) (by decide +kernel)).2.mp (Decidable.not_not.mp c))] at q; exact q⟩⟩
  rw [if_neg (fun e => c ((sw w4 _ (by decide +kernel) (by decide +kernel)).2.mpr e))] at q
  refine m_eight ⟨(sw w5 _ (by decide +kernel) (by decide +kernel)).1, fun c => ?_, fun c => ⟨_, rfl, by rw [if_pos ((sw w5 _ (by decide +kernel) (by decide +kernel)).2.mp (Decidable.not_not.mp c))] at q; exact q⟩⟩
  rw [if_neg (fun e => c ((sw w5 _ (by decide +kernel) (by decide +kernel)).2.mpr e))] at q
  refine m_eight ⟨(sw w6 _ (by decide +kernel) (by decide +kernel)).1, fun c => ?_, fun c => ⟨_, rfl, by rw [if_pos ((sw w6 _ (by decide +kernel) (by decide +kernel)).2.mp (Decidable.not_not.mp c))] at q; exact q⟩⟩
  rw [if_neg (fun e => c ((sw w6 _ (by decide +kernel) (by decide +kernel)).2.mpr e))] at q
  refine m_four ⟨(sw w7 _ (by decide +kernel) (by decide +kernel)).1, fun c => ?_, fun c => ⟨_, rfl, by rw [if_pos ((sw w7 _ (by decide +kernel) (by decide +kernel)).2.mp (Decidable.not_not.mp c))] at q; exact q⟩⟩
  rw [if_neg (fun e => c ((sw w7 _ (by decide +kernel) (by decide +kernel)).2.mpr e))] at q
  refine m_four ⟨(sw w8 _ (by decide +kernel) (by decide +kernel)).1, fun c => ?_, fun c => ⟨_, rfl, by rw [if_pos ((sw w8 _ (by decide +kernel) (by decide +kernel)).2.mp (Decidable.not_not.mp c))] at q; exact q⟩⟩
  rw [if_neg (fun e => c ((sw w8 _ (by decide +kernel) (by decide +kernel)).2.mpr e))] at q
  refine m_four ⟨(sw w9 _ (by decide +kernel) (by decide +kernel)).1, fun c => ?_, fun c => ⟨_, rfl, by rw [if_pos ((sw w9 _ (by decide +kernel) (by decide +kernel)).2.mp (Decidable.not_not.mp c))] at q; exact q⟩⟩
  rw [if_neg (fun e => c ((sw w9 _ (by decide +kernel) (by decide +kernel)).2.mpr e))] at q
  refine m_four ⟨(sw w10 _ (by decide +kernel) (by decide +kernel)).1, fun c => ?_, fun c => ⟨_, rfl, by rw [if_pos ((sw w10 _ (by decide +kernel) (by decide +kernel)).2.mp (Decidable.not_not.mp c))] at q; exact q⟩⟩
  rw [if_neg (fun e => c ((sw w10 _ (by decide +kernel) (by decide +kernel)).2.mpr e))] at q
  refine m_four ⟨(sw w11 _ (by decide +kernel) (by decide +kernel)).1, fun c => ⟨_, rfl, ?_⟩, fun c => ⟨_, rfl, by rw [if_pos ((sw w11 _ (by decide +kernel) (by decide +kernel)).2.mp (Decidable.not_not.mp c))] at q; exact q⟩⟩
  rw [if_neg (fun e => c ((sw w11 _ (by decide +kernel) (by decide +kernel)).2.mpr e))] at q
  exact q
def TM (σ : Sg) (B : Nat → Int) (n : Nat) : Prop := σ.1 170 2 = n ∧ n ≤ 600 ∧ ∀ i : Nat, i < n → σ.2 171 (10 + i) = B i ∧ 0 ≤ B i ∧ B i ≤ 255
def FT (σ τ : Sg) : Prop := (∀ c : Nat, c ≠ 170 → τ.1 c = σ.1 c) ∧ (∀ j : Nat, j < 3 ∨ 7 < j → τ.1 170 j = σ.1 170 j) ∧ τ.2 = σ.2
theorem FT.rfl {σ : Sg} : FT σ σ := ⟨fun _ _ => Eq.refl _, fun _ _ => Eq.refl _, Eq.refl _⟩
theorem FT.trans {σ τ υ : Sg} (h : FT σ τ) (g : FT τ υ) : FT σ υ := ⟨fun c q => (g.1 c q).trans (h.1 c q), fun c q => (g.2.1 c q).trans (h.2.1 c q), g.2.2.trans h.2.2⟩
theorem FT.up {σ : Sg} (j : Nat) (x : Int) (h : 3 ≤ j) (h2 : j ≤ 7) : FT σ (up2 σ.1 170 j x, σ.2) := ⟨fun c hc => up2_ne _ _ _ hc, fun i hi => by dsimp only; rw [up2_if, if_neg (by omega)], Eq.refl _⟩
theorem TM.ft {σ τ : Sg} {B : Nat → Int} {n : Nat} (h : TM σ B n) (f : FT σ τ) : TM τ B n := by
  unfold TM; rw [f.2.1 2 (by omega), f.2.2]; exact h
theorem bAt_rgm {σ : Sg} {B : Nat → Int} {n : Nat} (h : TM σ B n) (i : Nat) : -1 ≤ bAt B n i ∧ bAt B n i ≤ 255 := by
  unfold bAt; split
  · have := h.2.2 i (by assumption); omega
  · omega
theorem m_byte {X : PX} {σ : Sg} {B : Nat → Int} {n i : Nat} {P : Int → Sg → Prop} (h : TM σ B n) (hi : i ≤ 600) (q : P (bAt B n i) σ) : CI X 164 [vR (some 170), vI i] σ P := by
  obtain ⟨h1, h2, h3⟩ := h
  unfold bAt at q
  refine v_164 ⟨by omega, by omega, fun c => ⟨_, rfl, ?_⟩, fun c => ⟨by omega, _, rfl, ?_⟩⟩
  · rw [if_neg (by omega)] at q; exact q
  · rw [if_pos (by omega)] at q
    rw [show ((10 : Int) + (i : Int)).toNat = 10 + i by omega, (h3 i (by omega)).1]; exact q
def kdM (B : Nat → Int) (n i : Nat) : Int := if isLt (bAt B n i) = true then (if wid B i (rn isLt B n i - i) = 99 then 4 else 3) else if isDg (bAt B n i) = true then (if 2 < rn isDg B n i - i then 4 else 1) else if bAt B n i = -1 then 0 else if bAt B n i = 59 then 2 else 4
def TkM (τ : Sg) (B : Nat → Int) (n i : Nat) : Prop := τ.1 170 5 = kdM B n i ∧ τ.1 170 4 = i ∧ (bAt B n i ≠ -1 → τ.1 170 3 = enA B n i) ∧ (kdM B n i = 1 → τ.1 170 6 = vl B i (enA B n i - i)) ∧ (isLt (bAt B n i) = true → τ.1 170 7 = wid B i (enA B n i - i))
theorem isLt_r {c : Int} : isLt c = true ↔ 97 ≤ c ∧ c ≤ 122 := by unfold isLt; exact decide_eq_true_iff
theorem isDg_r {c : Int} : isDg c = true ↔ 48 ≤ c ∧ c ≤ 57 := by unfold isDg; exact decide_eq_true_iff
theorem bAt_n {B : Nat → Int} {n i : Nat} (h : ¬ i < n) : bAt B n i = -1 := if_neg h
theorem m_letters {X : PX} {B : Nat → Int} {n s : Nat} {Q : Option PV → Sg → Prop} : ∀ (d i : Nat) (σ : Sg) (x : Int), TM σ B n → i + d = n → s ≤ i → σ.1 170 3 = i → σ.1 170 4 = s → (∀ j : Nat, s ≤ j → j < i → 97 ≤ B j ∧ B j ≤ 122) → (i - s ≤ 8 → x = hs B s (i - s)) → (∀ τ : Sg, FT σ τ → τ.1 170 4 = s → τ.1 170 3 = rn isLt B n i → τ.1 170 7 = wid B s (rn isLt B n i - s) → τ.1 170 5 = (if wid B s (rn isLt B n i - s) = 99 then 4 else 3) → Q none τ) → Ev X 170 39 [some (vR (some 170)), none, some (vL x), none] [] σ Q := by
  have fin : ∀ (i : Nat) (σ : Sg) (x : Int), TM σ B n → i ≤ n → s ≤ i → σ.1 170 3 = i → σ.1 170 4 = s → (∀ j : Nat, s ≤ j → j < i → 97 ≤ B j ∧ B j ≤ 122) → (i - s ≤ 8 → x = hs B s (i - s)) → ¬ (i < n ∧ isLt (B i) = true) → (∀ τ : Sg, FT σ τ → τ.1 170 4 = s → τ.1 170 3 = i → τ.1 170 7 = wid B s (i - s) → τ.1 170 5 = (if wid B s (i - s) = 99 then 4 else 3) → Q none τ) → Ev X 170 39 [some (vR (some 170)), none, some (vL x), none] [] σ Q := by
    intro i σ x h hi hs0 h3 h4 hl hx hne k
    have h2 := h.2.1
    have br := bAt_rgm h i
    refine v_170_39 ?_
    rw [h3]
    refine m_byte h (by omega) (m_isLt (by omega) ?_)
    have z : ¬ isLt (bAt B n i) = true := by
      by_cases c : i < n
      · rw [bAt_in c]; exact fun e => hne ⟨c, e⟩
      · rw [bAt_n c]; decide
    rw [if_neg z, h3, h4]
    have ft : ∀ a b : Int, FT σ (up2 (up2 σ.1 170 7 a) 170 5 b, σ.2) := fun a b => (FT.up 7 a (by omega) (by omega)).trans (FT.up 5 b (by omega) (by omega))
    refine ⟨by omega, fun _ => ⟨by omega, fun c => ?_, fun c => ?_⟩, fun e => absurd rfl e⟩
    · rw [hx (by omega)]
      refine m_word (fun j hj => hl (s + j) (by omega) (by omega)) (by omega) ?_
      have wr := wid_rng (B := B) (s := s) (L := i - s)
      refine ⟨by omega, fun e => k _ (ft _ _) ?_ ?_ ?_ ?_, fun e => k _ (ft _ _) ?_ ?_ ?_ ?_⟩
      all_goals dsimp only; simp only [up2_if, Nat.reduceEqDiff, reduceIte]
      · exact h4
      · exact h3
      · rw [if_neg e]
      · exact h4
      · exact h3
      · rw [if_pos (by omega)]
    · have wl := wid_long (B := B) (s := s) (L := i - s) (by omega)
      rw [wl, if_pos rfl] at k
      refine k _ (ft _ _) ?_ ?_ ?_ ?_
      all_goals dsimp only; simp only [up2_if, Nat.reduceEqDiff, reduceIte]
      · exact h4
      · exact h3
  intro d
  induction d with
  | zero =>
    intro i σ x h hi hs0 h3 h4 hl hx k
    have z : ¬ (i < n ∧ isLt (B i) = true) := by omega
    rw [rn_n z] at k
    exact fin i σ x h (by omega) hs0 h3 h4 hl hx z k
  | succ d ih =>
    intro i σ x h hi hs0 h3 h4 hl hx k
    by_cases c : isLt (B i) = true
    · rw [rn_y (show i < n by omega) c] at k
      have h2 := h.2.1
      have br := bAt_rgm h i
      have bl := isLt_r.mp c
      refine v_170_39 ?_
      rw [h3]
      refine m_byte h (by omega) (m_isLt (by omega) ?_)
      rw [bAt_in (show i < n by omega), if_pos c, h3, h4]
      have fu : FT σ (up2 σ.1 170 3 ((i : Int) + 1), σ.2) := FT.up 3 _ (by omega) (by omega)
      have hl2 : ∀ j : Nat, s ≤ j → j < i + 1 → 97 ≤ B j ∧ B j ≤ 122 := fun j h1 h2 => by
        by_cases e : j = i
        · rw [e]; exact bl
        · exact hl j h1 (by omega)
      refine ⟨by omega, fun e => absurd e (by omega), fun _ => ⟨by omega, fun e => ?_, fun e => m_byte h (by omega) ?_⟩⟩
      · refine ih (i + 1) _ x (h.ft fu) (by omega) (by omega) ?_ ?_ hl2 (fun x => absurd x (by omega)) (fun τ f => k τ (fu.trans f))
        · dsimp only; rw [up2_get]; omega
        · dsimp only; rw [up2_if, if_neg (by omega)]; exact h4
      · rw [bAt_in (show i < n by omega), h3, show iI2l (B i) = B i from ofR (by omega)]
        refine ih (i + 1) _ _ (h.ft fu) (by omega) (by omega) ?_ ?_ hl2 (fun y => ?_) (fun τ f => k τ (fu.trans f))
        · dsimp only; rw [up2_get]; omega
        · dsimp only; rw [up2_if, if_neg (by omega)]; exact h4
        · rw [hx (by omega), show i + 1 - s = (i - s) + 1 by omega]
          show _ = 32 * hs B s (i - s) + B (s + (i - s)) - 96
          rw [show s + (i - s) = i by omega]
    · have z : ¬ (i < n ∧ isLt (B i) = true) := fun e => c e.2
      rw [rn_n z] at k
      exact fin i σ x h (by omega) hs0 h3 h4 hl hx z k
theorem m_digits {X : PX} {B : Nat → Int} {n s : Nat} {Q : Option PV → Sg → Prop} : ∀ (d i : Nat) (σ : Sg), TM σ B n → i + d = n → s ≤ i → σ.1 170 3 = i → σ.1 170 4 = s → (i - s ≤ 2 → σ.1 170 6 = vl B s (i - s)) → (∀ τ : Sg, FT σ τ → τ.1 170 4 = s → τ.1 170 3 = rn isDg B n i → (rn isDg B n i - s ≤ 2 → τ.1 170 6 = vl B s (rn isDg B n i - s)) → τ.1 170 5 = (if 2 < rn isDg B n i - s then 4 else 1) → Q none τ) → Ev X 170 100 [some (vR (some 170)), none, none, none] [] σ Q := by
  have fin : ∀ (i : Nat) (σ : Sg), TM σ B n → i ≤ n → s ≤ i → σ.1 170 3 = i → σ.1 170 4 = s → (i - s ≤ 2 → σ.1 170 6 = vl B s (i - s)) → ¬ (i < n ∧ isDg (B i) = true) → (∀ τ : Sg, FT σ τ → τ.1 170 4 = s → τ.1 170 3 = i → (i - s ≤ 2 → τ.1 170 6 = vl B s (i - s)) → τ.1 170 5 = (if 2 < i - s then 4 else 1) → Q none τ) → Ev X 170 100 [some (vR (some 170)), none, none, none] [] σ Q := by
    intro i σ h hi hs0 h3 h4 hx hne k
    have h2 := h.2.1
    have br := bAt_rgm h i
    refine v_170_100 ?_
    rw [h3]
    refine m_byte h (by omega) (m_isDg (by omega) ?_)
    have z : ¬ isDg (bAt B n i) = true := by
      by_cases c : i < n
      · rw [bAt_in c]; exact fun e => hne ⟨c, e⟩
      · rw [bAt_n c]; decide
    rw [if_neg z, h3, h4]
    refine ⟨by omega, fun _ => ⟨by omega, fun c => k _ (FT.up 5 _ (by omega) (by omega)) ?_ ?_ ?_ ?_, fun c => k _ (FT.up 5 _ (by omega) (by omega)) ?_ ?_ ?_ ?_⟩, fun e => absurd rfl e⟩
    all_goals dsimp only; simp only [up2_if, Nat.reduceEqDiff, reduceIte]
    · exact h4
    · exact h3
    · exact hx
    · rw [if_neg (by omega)]
    · exact h4
    · exact h3
    · exact hx
    · rw [if_pos (by omega)]
  intro d
  induction d with
  | zero =>
    intro i σ h hi hs0 h3 h4 hx k
    have z : ¬ (i < n ∧ isDg (B i) = true) := by omega
    rw [rn_n z] at k
    exact fin i σ h (by omega) hs0 h3 h4 hx z k
  | succ d ih =>
    intro i σ h hi hs0 h3 h4 hx k
    by_cases c : isDg (B i) = true
    · rw [rn_y (show i < n by omega) c] at k
      have h2 := h.2.1
      have br := bAt_rgm h i
      refine v_170_100 ?_
      rw [h3]
      refine m_byte h (by omega) (m_isDg (by omega) ?_)
      rw [bAt_in (show i < n by omega), if_pos c, h3, h4]
      refine ⟨by omega, fun e => absurd e (by omega), fun _ => ⟨by omega, fun e => ?_, fun e => m_byte h (by omega) ?_⟩⟩
      · have fu : FT σ (up2 σ.1 170 3 ((i : Int) + 1), σ.2) := FT.up 3 _ (by omega) (by omega)
        refine ih (i + 1) _ (h.ft fu) (by omega) (by omega) ?_ ?_ (fun x => absurd x (by omega)) (fun τ f => k τ (fu.trans f))
        · dsimp only; rw [up2_get]; omega
        · dsimp only; rw [up2_if, if_neg (by omega)]; exact h4
      · rw [bAt_in (show i < n by omega), h3]
        have fu : FT σ (up2 (up2 σ.1 170 6 (10 * σ.1 170 6 + B i - 48)) 170 3 ((i : Int) + 1), σ.2) := (FT.up 6 _ (by omega) (by omega)).trans (FT.up 3 _ (by omega) (by omega))
        refine ih (i + 1) _ (h.ft fu) (by omega) (by omega) ?_ ?_ (fun y => ?_) (fun τ f => k τ (fu.trans f))
        · dsimp only; rw [up2_get]; omega
        · dsimp only; rw [up2_if, if_neg (by omega), up2_if, if_neg (by omega)]; exact h4
        · dsimp only
          rw [up2_if, if_neg (by omega), up2_get, hx (by omega), show i + 1 - s = (i - s) + 1 by omega]
          show _ = vl B s (i - s) * 10 + B (s + (i - s)) - 48
          rw [show s + (i - s) = i by omega]
          omega
    · have z : ¬ (i < n ∧ isDg (B i) = true) := fun e => c e.2
      rw [rn_n z] at k
      exact fin i σ h (by omega) hs0 h3 h4 hx z k
theorem m_next {X : PX} {B : Nat → Int} {n e : Nat} {σ : Sg} {P : Sg → Prop} (h : TM σ B n) (he : σ.1 170 3 = e) (hen : e ≤ n) (k : ∀ τ : Sg, FT σ τ → TkM τ B n (rn isBl B n e) → P τ) : CV X 170 [vR (some 170)] σ P := by
  have tok : ∀ (i : Nat) (σ : Sg), TM σ B n → i ≤ n → σ.1 170 3 = i → ¬ isBl (bAt B n i) = true → (∀ τ : Sg, FT σ τ → TkM τ B n i → P τ) → Ev X 170 0 [some (vR (some 170)), none, none, none] [] σ (fun v τ => v = none ∧ P τ) := by
    intro i σ h hi h3 hb k
    have n6 := h.2.1
    have br := bAt_rgm h i
    have hb1 : ¬ (bAt B n i = 10 ∨ bAt B n i = 32) := fun e => hb (decide_eq_true e)
    refine v_170_0 ?_
    rw [h3]
    refine m_byte h (by omega) ⟨by omega, fun e => absurd e (by omega), fun _ => ?_⟩
    rw [h3]
    refine m_byte h (by omega) ⟨by omega, fun _ => ?_, fun e => absurd (by omega) e⟩
    rw [h3]
    have f4 : FT σ (up2 σ.1 170 4 (i : Int), σ.2) := FT.up 4 _ (by omega) (by omega)
    have h4 := h.ft f4
    have g3 : (up2 σ.1 170 4 (i : Int), σ.2).1 170 3 = i := by dsimp only; rw [up2_if, if_neg (by omega)]; exact h3
    have g4 : (up2 σ.1 170 4 (i : Int), σ.2).1 170 4 = i := by dsimp only; rw [up2_get]
    generalize (up2 σ.1 170 4 (i : Int), σ.2) = υ at f4 h4 g3 g4 ⊢
    refine m_byte h4 (by omega) ⟨by omega, fun c0 => m_isLt (by omega) ?_, fun c0 => ⟨rfl, k _ (f4.trans (FT.up 5 _ (by omega) (by omega))) ?_⟩⟩
    · have inn : i < n := by
        by_cases c : i < n
        · exact c
        · rw [bAt_n c] at c0; omega
      have bi : bAt B n i = B i := bAt_in inn
      unfold TkM kdM enA at k
      rw [bi] at k c0 br hb1 ⊢
      by_cases c : isLt (B i) = true
      · rw [if_pos c]
        rw [if_pos c, if_pos c] at k
        refine ⟨by omega, fun e => absurd e (by omega), fun _ => m_letters (s := i) (n - i) i υ 0 h4 (by omega) (Nat.le_refl _) g3 g4 (fun j h1 h2 => absurd h2 (by omega)) (fun _ => ?_) (fun τ f e4 e3 e7 e5 => ⟨rfl, k τ (f4.trans f) ⟨e5, e4, fun _ => e3, fun x => ?_, fun _ => e7⟩⟩)⟩
        · rw [Nat.sub_self]; rfl
        · split at x <;> omega
      · rw [if_neg c]
        rw [if_neg c, if_neg c] at k
        refine ⟨by omega, fun _ => m_isDg (by omega) ?_, fun e => absurd rfl e⟩
        by_cases d : isDg (B i) = true
        · rw [if_pos d]
          rw [if_pos d, if_pos d] at k
          have f6 : FT υ (up2 υ.1 170 6 0, υ.2) := FT.up 6 _ (by omega) (by omega)
          refine ⟨by omega, fun e => absurd e (by omega), fun _ => m_digits (s := i) (n - i) i _ (h4.ft f6) (by omega) (Nat.le_refl _) ?_ ?_ (fun _ => ?_) (fun τ f e4 e3 e6 e5 => ⟨rfl, k τ (f4.trans (f6.trans f)) ⟨e5, e4, fun _ => e3, fun x => e6 ?_, fun x => absurd x c⟩⟩)⟩
          · dsimp only; rw [up2_if, if_neg (by omega)]; exact g3
          · dsimp only; rw [up2_if, if_neg (by omega)]; exact g4
          · dsimp only; rw [up2_get, Nat.sub_self]; rfl
          · split at x <;> omega
        · rw [if_neg d]
          rw [if_neg d, if_neg d, if_neg (show ¬ B i = -1 by omega)] at k
          have ff : ∀ x : Int, FT σ (up2 (up2 υ.1 170 3 ((i : Int) + 1)) 170 5 x, υ.2) := fun x => f4.trans ((FT.up 3 _ (by omega) (by omega)).trans (FT.up 5 x (by omega) (by omega)))
          rw [g3]
          refine ⟨by omega, fun _ => ⟨fun e2 => ⟨rfl, k _ (ff 4) ?_⟩, fun e2 => ⟨rfl, k _ (ff 2) ?_⟩⟩, fun e => absurd rfl e⟩
          · rw [if_neg e2]
            dsimp only
            simp only [up2_if, Nat.reduceEqDiff, reduceIte]
            exact ⟨trivial, g4, fun _ => by omega, fun x => absurd x (by omega), fun x => absurd x c⟩
          · rw [if_pos (by omega)]
            dsimp only
            simp only [up2_if, Nat.reduceEqDiff, reduceIte]
            exact ⟨trivial, g4, fun _ => by omega, fun x => absurd x (by omega), fun x => absurd x c⟩
    · have b1 : bAt B n i = -1 := by omega
      unfold TkM kdM
      rw [b1, if_neg (by decide), if_neg (by decide), if_pos rfl]
      dsimp only
      simp only [up2_if, Nat.reduceEqDiff, reduceIte]
      exact ⟨trivial, g4, fun e => absurd rfl e, fun x => absurd x (by omega), fun x => absurd x (by decide)⟩
  have lp : ∀ (d i : Nat) (σ : Sg), TM σ B n → i + d = n → σ.1 170 3 = i → (∀ τ : Sg, FT σ τ → TkM τ B n (rn isBl B n i) → P τ) → Ev X 170 0 [some (vR (some 170)), none, none, none] [] σ (fun v τ => v = none ∧ P τ) := by
    intro d
    induction d with
    | zero =>
      intro i σ h hi h3 k
      rw [rn_n (show ¬ (i < n ∧ isBl (B i) = true) by omega)] at k
      exact tok i σ h (by omega) h3 (by rw [bAt_n (by omega)]; decide) k
    | succ d ih =>
      intro i σ h hi h3 k
      have n6 := h.2.1
      have br := bAt_rgm h i
      by_cases c : isBl (B i) = true
      · rw [rn_y (show i < n by omega) c] at k
        have c2 : B i = 10 ∨ B i = 32 := of_decide_eq_true c
        have bi : bAt B n i = B i := bAt_in (by omega)
        have fu : FT σ (up2 σ.1 170 3 ((i : Int) + 1), σ.2) := FT.up 3 _ (by omega) (by omega)
        have nx := ih (i + 1) _ (h.ft fu) (by omega) (by dsimp only; rw [up2_get]; omega) (fun τ f => k τ (fu.trans f))
        refine v_170_0 ?_
        rw [h3]
        refine m_byte h (by omega) ⟨by omega, fun e => ?_, fun e => ?_⟩
        · rw [h3]; exact nx
        · rw [h3]
          refine m_byte h (by omega) ⟨by omega, fun e2 => absurd (by omega) e2, fun _ => ?_⟩
          rw [h3]; exact nx
      · rw [rn_n (show ¬ (i < n ∧ isBl (B i) = true) from fun x => c x.2)] at k
        exact tok i σ h (by omega) h3 (by rw [bAt_in (by omega)]; exact c) k
  exact v_170 (lp (n - e) e σ h (by omega) he k)
/-! the class's spelling -/
def wJ : List (List Int) := [w5, w6, w1, w2, w3, w4, w7, w8, w9, w10, w11]
theorem wJ_ok : ∀ j : Nat, j < 11 → sLen.getD j 0 = (wJ.getD j []).length ∧ ∀ i : Nat, i < sLen.getD j 0 → ((sByt.getD j []).getD i 0).toInt = 96 + (wJ.getD j []).getD (sLen.getD j 0 - 1 - i) 0 := by decide +kernel
theorem c_spell {L : Nat} {xs : Nat → Int32} {σ : Sg} {B : Nat → Int} {n s e j : Nat} {P : Int → Sg → Prop} (h : TC σ B n) (hj : j < 11) (h8 : σ.1 131 8 = s) (h9 : σ.1 131 9 = e) (hse : s ≤ e) (hen : e ≤ n) (q : P (if wmt B s (wJ.getD j []) (e - s) = true then 1 else 0) σ) : CI (XX L xs) 103 [vR (some 131), vR (some (PK + j))] σ P := by
  obtain ⟨o1, o2⟩ := wJ_ok j hj
  have n6 := h.2.1
  have l6 : ∀ j : Nat, j < 11 → sLen.getD j 0 ≤ 6 := by decide +kernel
  have l6 := l6 j hj
  have c6 : ∀ j : Nat, j < 11 → ∀ i : Nat, i < 6 → 0 ≤ ((sByt.getD j []).getD i 0).toInt ∧ ((sByt.getD j []).getD i 0).toInt ≤ 255 := by decide +kernel
  have x1 : ((XX L xs) (PK + j - PK)).1 = sLen.getD j 0 := by rw [show PK + j - PK = j by omega]; unfold XX; rw [if_pos hj]
  have x2 : ∀ i : Nat, ((XX L xs) (PK + j - PK)).2 i = ((sByt.getD j []).getD i 0).toInt := fun i => by rw [show PK + j - PK = j by omega]; unfold XX; rw [if_pos hj]
  have wi := wmt_iff (B := B) (s := s) (wJ.getD j []) (e - s)
  rw [← o1] at wi
  refine v_103 (by omega) (by omega) ?_
  rw [x1, h8, h9]
  refine ⟨by omega, by omega, fun c => ?_, fun c => ⟨_, rfl, ?_⟩⟩
  · have el : e - s = sLen.getD j 0 := by omega
    have lp : ∀ (d i : Nat), i + d = sLen.getD j 0 → (∀ m : Nat, m < i → B (s + m) = 96 + (wJ.getD j []).getD (sLen.getD j 0 - 1 - m) 0) → Ev (XX L xs) 103 12 [some (vR (some 131)), some (vR (some (PK + j))), some (vI i)] [] σ (fun v τ => ∃ x, v = some (vI x) ∧ P x τ) := by
      intro d
      induction d with
      | zero =>
        intro i hi hm
        refine v_103_12 (by omega) (by omega) ?_
        rw [x1]
        refine ⟨by omega, by omega, fun _ => ⟨_, rfl, ?_⟩, fun e => absurd (by omega) e⟩
        rw [if_pos (wi.mpr ⟨el, fun m hm2 => by rw [el] at hm2 ⊢; exact hm m (by omega)⟩)] at q
        exact q
      | succ d ih =>
        intro i hi hm
        have ci := c6 j hj i (by omega)
        have br := bAt_rng h (s + i)
        refine v_103_12 (by omega) (by omega) ?_
        rw [x1, x2, h8, Int.toNat_natCast, show (s : Int) + (i : Int) = ((s + i : Nat) : Int) by omega]
        refine ⟨by omega, by omega, fun e => absurd e (by omega), fun _ => c_byte h (by omega) ⟨by omega, by omega, by omega, fun c => ?_, fun c => ⟨_, rfl, ?_⟩⟩⟩
        · rw [bAt_in (by omega), o2 i (by omega)] at c
          refine ih (i + 1) (by omega) (fun m hm2 => ?_)
          by_cases e : m = i
          · rw [e]; exact c
          · exact hm m (by omega)
        · rw [bAt_in (by omega), o2 i (by omega)] at c
          rw [if_neg (fun w => c (by have := (wi.mp w).2 i (by omega); rw [el] at this; exact this))] at q
          exact q
    exact lp (sLen.getD j 0) 0 (by omega) (fun m hm => absurd hm (by omega))
  · rw [if_neg (fun w => c (by have := (wi.mp w).1; omega))] at q
    exact q
