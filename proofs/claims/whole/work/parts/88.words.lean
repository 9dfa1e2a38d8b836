/-! WORDS, and the reference's scanner -/
def w1 : List Int := [5, 3, 9, 6, 6, 15]
def w2 : List Int := [5, 19, 21, 15, 8]
def w3 : List Int := [5, 9, 20]
def w4 : List Int := [20, 3, 1, 16]
def w5 : List Int := [1, 20, 15, 21, 17]
def w6 : List Int := [5, 3, 9, 18, 16]
def w7 : List Int := [18, 1, 5, 25]
def w8 : List Int := [25, 21, 2]
def w9 : List Int := [5, 19, 15, 12]
def w10 : List Int := [20, 21, 3]
def w11 : List Int := [4, 9, 1, 16]
def wid (B : Nat → Int) (s L : Nat) : Int := if wmt B s w1 L = true then 1 else if wmt B s w2 L = true then 2 else if wmt B s w3 L = true then 3 else if wmt B s w4 L = true then 4 else if wmt B s w5 L = true then 5 else if wmt B s w6 L = true then 6 else if wmt B s w7 L = true then 7 else if wmt B s w8 L = true then 8 else if wmt B s w9 L = true then 9 else if wmt B s w10 L = true then 10 else if wmt B s w11 L = true then 11 else 99
theorem wmt_iff {B : Nat → Int} {s : Nat} : ∀ (r : List Int) (L : Nat), wmt B s r L = true ↔ L = r.length ∧ ∀ i : Nat, i < L → B (s + i) = 96 + r.getD (L - 1 - i) 0
  | [], L => by
    unfold wmt
    simp only [decide_eq_true_eq, List.length_nil]
    exact ⟨fun e => ⟨e, fun i hi => absurd hi (by omega)⟩, fun e => e.1⟩
  | d :: r, 0 => by
    unfold wmt
    exact ⟨fun e => absurd e (by decide), fun e => absurd e.1 (by simp)⟩
  | d :: r, L + 1 => by
    unfold wmt
    simp only [Bool.and_eq_true, decide_eq_true_eq, List.length_cons]
    rw [wmt_iff r L]
    constructor
    · rintro ⟨e1, e2, e3⟩
      refine ⟨by omega, fun i hi => ?_⟩
      by_cases c : i = L
      · rw [c, e1, show L + 1 - 1 - L = 0 by omega]; rfl
      · rw [e3 i (by omega), show L + 1 - 1 - i = (L - 1 - i) + 1 by omega, List.getD_cons_succ]
    · rintro ⟨e1, e2⟩
      refine ⟨?_, by omega, fun i hi => ?_⟩
      · have := e2 L (by omega)
        rw [show L + 1 - 1 - L = 0 by omega] at this; exact this
      · have := e2 i (by omega)
        rw [show L + 1 - 1 - i = (L - 1 - i) + 1 by omega, List.getD_cons_succ] at this
        exact this
theorem wid_long {B : Nat → Int} {s L : Nat} (h : 8 < L) : wid B s L = 99 := by
  have n : ∀ r : List Int, r.length ≤ 8 → ¬ wmt B s r L = true := fun r hr e => by
    have := ((wmt_iff r L).mp e).1; omega
  unfold wid
  rw [if_neg (n w1 (by decide)), if_neg (n w2 (by decide)), if_neg (n w3 (by decide)), if_neg (n w4 (by decide)), if_neg (n w5 (by decide)), if_neg (n w6 (by decide)), if_neg (n w7 (by decide)), if_neg (n w8 (by decide)), if_neg (n w9 (by decide)), if_neg (n w10 (by decide)), if_neg (n w11 (by decide))]
theorem wid_rng {B : Nat → Int} {s L : Nat} : wid B s L = 99 ∨ (1 ≤ wid B s L ∧ wid B s L ≤ 11) := by
  unfold wid
  repeat' split
  all_goals omega
theorem hs_lt {B : Nat → Int} {s : Nat} : ∀ L : Nat, (∀ i : Nat, i < L → 97 ≤ B (s + i) ∧ B (s + i) ≤ 122) → hs B s L < ((32 ^ L : Nat) : Int)
  | 0, _ => by unfold hs; decide
  | L + 1, h => by
    have a := hs_lt L (fun i hi => h i (by omega))
    have b := h L (by omega)
    have e : 32 ^ (L + 1) = 32 ^ L * 32 := Nat.pow_succ _ _
    unfold hs; omega
theorem m_four {X : PX} {σ : Sg} {a b c d : Int} {P : Int → Sg → Prop} (q : P (iI2l ((((((a * 32) + b) * 32) + c) * 32) + d)) σ) : CG X 167 [vI a, vI b, vI c, vI d] σ P := v_167 ⟨_, rfl, q⟩
theorem m_eight {X : PX} {σ : Sg} {a b c d a' b' c' d' : Int} {P : Int → Sg → Prop} (q : P (iI2l ((((((a * 32) + b) * 32) + c) * 32) + d) * 1048576 + iI2l ((((((a' * 32) + b') * 32) + c') * 32) + d')) σ) : CG X 168 [vI a, vI b, vI c, vI d, vI a', vI b', vI c', vI d'] σ P := v_168 (m_four (m_four ⟨_, rfl, q⟩))
theorem m_word {X : PX} {σ : Sg} {B : Nat → Int} {s L : Nat} {P : Int → Sg → Prop} (h : ∀ i : Nat, i < L → 97 ≤ B (s + i) ∧ B (s + i) ≤ 122) (hL : L ≤ 8) (q : P (wid B s L) σ) : CI X 169 [vL (hs B s L)] σ P := by
  have hn := (hs_nn L h).1
  have hl := hs_lt L h
  have p8 : 32 ^ L ≤ 32 ^ 8 := Nat.pow_le_pow_right (by omega) hL
  have sw : ∀ (r : List Int) (y : Int), y = hv r → ((∀ d ∈ r, 1 ≤ d ∧ d ≤ 26) ∧ hv r < 9223372036854775808) → InR (lCmp (hs B s L) y) ∧ (lCmp (hs B s L) y = 0 ↔ wmt B s r L = true) := by
    intro r y hy hr
    have h2 := hv_nn r hr.1
    have c := l_cmp (a := (hs B s L).toNat) (b := (hv r).toNat) (by omega) (by omega)
    rw [show (((hs B s L).toNat : Nat) : Int) = hs B s L by omega, show (((hv r).toNat : Nat) : Int) = hv r by omega] at c
    rw [hy]
    refine ⟨c.1, ?_⟩
    rw [c.2, ← hs_iff r L hr.1 h]
    omega
  unfold wid at q
  refine v_169 (m_eight ⟨(sw w1 _ (by decide +kernel) (by decide +kernel)).1, fun c => ?_, fun c => ⟨_, rfl, by rw [if_pos ((sw w1 _ (by decide +kernel) (by decide +kernel)).2.mp (Decidable.not_not.mp c))] at q; exact q⟩⟩)
  rw [if_neg (fun e => c ((sw w1 _ (by decide +kernel) (by decide +kernel)).2.mpr e))] at q
  refine m_eight ⟨(sw w2 _ (by decide +kernel) (by decide +kernel)).1, fun c => ?_, fun c => ⟨_, rfl, by rw [if_pos ((sw w2 _ (by decide +kernel) (by decide +kernel)).2.mp (Decidable.not_not.mp c))] at q; exact q⟩⟩
  rw [if_neg (fun e => c ((sw w2 _ (by decide +kernel) (by decide +kernel)).2.mpr e))] at q
  refine m_four ⟨(sw w3 _ (by decide +kernel) (by decide +kernel)).1, fun c => ?_, fun c => ⟨_, rfl, by rw [if_pos ((sw w3 _ (by decide +kernel) (by decide +kernel)).2.mp (Decidable.not_not.mp c))] at q; exact q⟩⟩
  rw [if_neg (fun e => c ((sw w3 _ (by decide +kernel) (by decide +kernel)).2.mpr e))] at q
  refine m_four ⟨(sw w4 _ (by decide +kernel) (by decide +kernel)).1, fun c => ?_, fun c => ⟨_, rfl, by rw [if_pos ((sw w4 _ (by decide +kernel) (by decide +kernel)).2.mp (Decidable.not_not.mp c))] at q; exact q⟩⟩
  rw [if_neg (fun e => c ((sw w4 _ (by decide +kernel) (by decide +kernel)).2.mpr e))] at q
  refine m_eight ⟨(sw w5 _ (by decide +kernel) (by decide +kernel)).1, fun c => ?_, fun c => ⟨_, rfl, by rw [if_pos ((sw w5 _ (by decide +kernel) (by decide +kernel)).2.mp (Decidable.not_not.mp c))] at q; exact q⟩⟩
  rw [if_neg (fun e => c ((sw w5 _ (by decide +kernel) (by decide +kernel)).2.mpr e))] at q
  refine m_eight ⟨(sw w6 _ (by decide +kernel) (by decide +kernel)).1, fun c => ?_, fun c => ⟨_, rfl, by rw [if_pos ((sw w6 _ (by decide +kernel) (by decide +kernel)).2.mp (Decidable.not_not.mp c))] at q; exact q⟩⟩
  rw [if_neg (fun e => c ((sw w6 _ (by decide +kernel) (by decide +kernel)).2.mpr e))] at q
  refine m_four ⟨(sw w7 _ (by decide +kernel) (by decide +kernel)).1, fun c => ?_, fun c => ⟨_, rfl, by rw [if_pos ((sw w7 _ (by decide +kernel) (by decide +kernel)).2.mp (Decidable.not_not.mp c))] at q; exact q⟩⟩
  rw [if_neg (fun e => c ((sw w7 _ (by decide +kernel) (by decide +kernel)).2.mpr e))] at q
  refine m_four ⟨(sw w8 _ (by decide +kernel) (by decide +kernel)).1, fun c => ?_, fun c => ⟨_, rfl, by rw [if_pos ((sw w8 _ (by decide +kernel) (by decide +kernel)).2.mp (Decidable.not_not.mp c))] at q; exact q⟩⟩
  rw [if_neg (fun e => c ((sw w8 _ (by decide +kernel) (by decide +kernel)).2.mpr e))] at q
  refine m_four ⟨(sw w9 _ (by decide +kernel) (by decide +kernel)).1, fun c => ?_, fun c => ⟨_, rfl, by rw [if_pos ((sw w9 _ (by decide +kernel) (by decide +kernel)).2.mp (Decidable.not_not.mp c))] at q; exact q⟩⟩
  rw [if_neg (fun e => c ((sw w9 _ (by decide +kernel) (by decide +kernel)).2.mpr e))] at q
  refine m_four ⟨(sw w10 _ (by decide +kernel) (by decide +kernel)).1, fun c => ?_, fun c => ⟨_, rfl, by rw [if_pos ((sw w10 _ (by decide +kernel) (by decide +kernel)).2.mp (Decidable.not_not.mp c))] at q; exact q⟩⟩
  rw [if_neg (fun e => c ((sw w10 _ (by decide +kernel) (by decide +kernel)).2.mpr e))] at q
  refine m_four ⟨(sw w11 _ (by decide +kernel) (by decide +kernel)).1, fun c => ⟨_, rfl, ?_⟩, fun c => ⟨_, rfl, by rw [if_pos ((sw w11 _ (by decide +kernel) (by decide +kernel)).2.mp (Decidable.not_not.mp c))] at q; exact q⟩⟩
  rw [if_neg (fun e => c ((sw w11 _ (by decide +kernel) (by decide +kernel)).2.mpr e))] at q
  exact q
def TM (σ : Sg) (B : Nat → Int) (n : Nat) : Prop := σ.1 170 2 = n ∧ n ≤ 600 ∧ ∀ i : Nat, i < n → σ.2 171 (10 + i) = B i ∧ 0 ≤ B i ∧ B i ≤ 255
def FT (σ τ : Sg) : Prop := (∀ c : Nat, c ≠ 170 → τ.1 c = σ.1 c) ∧ (∀ j : Nat, j < 3 ∨ 7 < j → τ.1 170 j = σ.1 170 j) ∧ τ.2 = σ.2
theorem FT.rfl {σ : Sg} : FT σ σ := ⟨fun _ _ => Eq.refl _, fun _ _ => Eq.refl _, Eq.refl _⟩
theorem FT.trans {σ τ υ : Sg} (h : FT σ τ) (g : FT τ υ) : FT σ υ := ⟨fun c q => (g.1 c q).trans (h.1 c q), fun c q => (g.2.1 c q).trans (h.2.1 c q), g.2.2.trans h.2.2⟩
theorem FT.up {σ : Sg} (j : Nat) (x : Int) (h : 3 ≤ j) (h2 : j ≤ 7) : FT σ (up2 σ.1 170 j x, σ.2) := ⟨fun c hc => up2_ne _ _ _ hc, fun i hi => by dsimp only; rw [up2_if, if_neg (by omega)], Eq.refl _⟩
theorem TM.ft {σ τ : Sg} {B : Nat → Int} {n : Nat} (h : TM σ B n) (f : FT σ τ) : TM τ B n := by
  unfold TM; rw [f.2.1 2 (by omega), f.2.2]; exact h
theorem bAt_rgm {σ : Sg} {B : Nat → Int} {n : Nat} (h : TM σ B n) (i : Nat) : -1 ≤ bAt B n i ∧ bAt B n i ≤ 255 := by
  unfold bAt; split
  · have := h.2.2 i (by assumption); omega
  · omega
theorem m_byte {X : PX} {σ : Sg} {B : Nat → Int} {n i : Nat} {P : Int → Sg → Prop} (h : TM σ B n) (hi : i ≤ 600) (q : P (bAt B n i) σ) : CI X 164 [vR (some 170), vI i] σ P := by
  obtain ⟨h1, h2, h3⟩ := h
  unfold bAt at q
  refine v_164 ⟨by omega, by omega, fun c => ⟨_, rfl, ?_⟩, fun c => ⟨by omega, _, rfl, ?_⟩⟩
  · rw [if_neg (by omega)] at q; exact q
  · rw [if_pos (by omega)] at q
    rw [show ((10 : Int) + (i : Int)).toNat = 10 + i by omega, (h3 i (by omega)).1]; exact q
