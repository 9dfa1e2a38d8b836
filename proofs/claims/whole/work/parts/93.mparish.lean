/-! MPARISH: the reference's lines of a parish -/
theorem up_if {α : Type} (f : Nat → α) (k j : Nat) (x : α) : up f k x j = if j = k then x else f j := rfl
/-- what is read of a PARISH: 0 quota, 1 price, 2 how many HOUSES, 3 offices, 4 how many RULES, 5 HOUSES told of; 0 goods, 1 yields, 2 house, 3 patron, 4 second -/
abbrev PCt : Type := (Nat → Nat) × (Nat → Nat → Int)
def fullP (c : PCt) (l : Nat) : Bool := decide ((l = 3 ∧ 7 ≤ c.1 2) ∨ ((l = 4 ∨ l = 5) ∧ 10 ≤ c.1 4))
def kp0 (c : PCt) (v : Int) : PCt := (up c.1 0 v.toNat, c.2)
def kp1 (c : PCt) (v : Int) : PCt := (up c.1 1 v.toNat, c.2)
def kp2 (c : PCt) (v : Int) : PCt := (up (up c.1 3 (c.1 3 ||| 2 ^ v.toNat)) 5 (c.1 5 ||| 2 ^ v.toNat), c.2)
def kp3 (c : PCt) (v w : Int) : PCt := (up c.1 2 (c.1 2 + 1), up2 (up2 c.2 0 (c.1 2) v) 1 (c.1 2) w)
def kp4 (c : PCt) (v w : Int) : PCt := (up (up c.1 4 (c.1 4 + 1)) 5 ((c.1 5 ||| 2 ^ v.toNat) ||| 2 ^ w.toNat), up2 (up2 (up2 c.2 2 (c.1 4) v) 3 (c.1 4) w) 4 (c.1 4) (-1))
def kp5 (c : PCt) (v w x : Int) : PCt := (up (up c.1 4 (c.1 4 + 1)) 5 (((c.1 5 ||| 2 ^ v.toNat) ||| 2 ^ w.toNat) ||| 2 ^ x.toNat), up2 (up2 (up2 c.2 2 (c.1 4) v) 3 (c.1 4) w) 4 (c.1 4) x)
def keepP (c : PCt) (l : Nat) (vs : List Int) : PCt := if l = 0 then kp0 c (vs.getD 0 0) else if l = 1 then kp1 c (vs.getD 0 0) else if l = 2 then kp2 c (vs.getD 0 0) else if l = 3 then kp3 c (vs.getD 0 0) (vs.getD 1 0) else if l = 4 then kp4 c (vs.getD 0 0) (vs.getD 1 0) else kp5 c (vs.getD 0 0) (vs.getD 1 0) (vs.getD 2 0)
def FarR (m : Nat) (x : Int) : Prop := ∀ h : Nat, m < 2 ^ h ↔ x < h
theorem or_lt {a b h : Nat} : (a ||| b) < 2 ^ h ↔ a < 2 ^ h ∧ b < 2 ^ h := ⟨fun e => ⟨Nat.lt_of_le_of_lt Nat.left_le_or e, Nat.lt_of_le_of_lt Nat.right_le_or e⟩, fun e => Nat.or_lt_two_pow e.1 e.2⟩
theorem pw_lt {a h : Nat} : 2 ^ a < 2 ^ h ↔ a < h := Nat.pow_lt_pow_iff_right (by omega)
theorem FarR.or {m : Nat} {x v : Int} (h : FarR m x) (hv : 0 ≤ v) : FarR (m ||| 2 ^ v.toNat) (max x v) := by
  intro k
  rw [or_lt, h k, pw_lt]
  omega
def MCA (A : Nat → Int) (x : Int) (c : PCt) : Prop := (A 0 = c.1 0 ∧ A 1 = c.1 1 ∧ A 2 = c.1 2 ∧ A 3 = c.1 4 ∧ A 4 = c.1 3) ∧ c.1 3 < 128 ∧ (∀ h : Nat, h < c.1 2 → A (5 + 2 * h) = c.2 0 h ∧ A (6 + 2 * h) = c.2 1 h) ∧ (∀ h : Nat, h < 7 → 0 ≤ A (5 + 2 * h) ∧ A (5 + 2 * h) ≤ 99) ∧ (∀ r : Nat, r < c.1 4 → A (19 + 3 * r) = c.2 2 r ∧ A (20 + 3 * r) = c.2 3 r ∧ A (21 + 3 * r) = c.2 4 r) ∧ FarR (c.1 5) x
theorem mca_0 {A : Nat → Int} {x v : Int} {c : PCt} (h : MCA A x c) (hn : c.1 2 ≤ 7) (hv : 0 ≤ v) : MCA (up A 0 v) x (kp0 c v) := by
  obtain ⟨⟨h0, h1, h2, h3, h4⟩, h5, h6, h7, h8, h9⟩ := h
  unfold kp0 MCA
  simp only [up_if, Nat.reduceEqDiff, reduceIte]
  refine ⟨⟨by omega, h1, h2, h3, h4⟩, h5, fun k hk => ?_, fun k hk => ?_, fun k hk => ?_, h9⟩
  · rw [if_neg (by omega), if_neg (by omega)]; exact h6 k hk
  · rw [if_neg (by omega)]; exact h7 k hk
  · rw [if_neg (by omega), if_neg (by omega), if_neg (by omega)]; exact h8 k hk
theorem mca_1 {A : Nat → Int} {x v : Int} {c : PCt} (h : MCA A x c) (hn : c.1 2 ≤ 7) (hv : 0 ≤ v) : MCA (up A 1 v) x (kp1 c v) := by
  obtain ⟨⟨h0, h1, h2, h3, h4⟩, h5, h6, h7, h8, h9⟩ := h
  unfold kp1 MCA
  simp only [up_if, Nat.reduceEqDiff, reduceIte]
  refine ⟨⟨h0, by omega, h2, h3, h4⟩, h5, fun k hk => ?_, fun k hk => ?_, fun k hk => ?_, h9⟩
  · rw [if_neg (by omega), if_neg (by omega)]; exact h6 k hk
  · rw [if_neg (by omega)]; exact h7 k hk
  · rw [if_neg (by omega), if_neg (by omega), if_neg (by omega)]; exact h8 k hk
theorem p7_lt {v : Int} (hv : 0 ≤ v ∧ v ≤ 6) : 2 ^ v.toNat < 2 ^ 7 := pw_lt.mpr (by omega)
theorem b_one' {v : Int} (hv : 0 ≤ v ∧ v ≤ 6) : iShl 1 v = ((2 ^ v.toNat : Nat) : Int) := by
  have := b_one (k := v.toNat) (by omega)
  rw [show ((v.toNat : Nat) : Int) = v by omega] at this
  exact this
theorem mca_2 {A : Nat → Int} {x v : Int} {c : PCt} (h : MCA A x c) (hn : c.1 2 ≤ 7) (hv : 0 ≤ v ∧ v ≤ 6) : MCA (up A 4 (iOr (A 4) (iShl 1 v))) (max x v) (kp2 c v) := by
  obtain ⟨⟨h0, h1, h2, h3, h4⟩, h5, h6, h7, h8, h9⟩ := h
  have p7 := p7_lt hv
  unfold kp2 MCA
  rw [h4, b_one' hv, b_or (by omega) (by omega)]
  simp only [up_if, Nat.reduceEqDiff, reduceIte]
  refine ⟨⟨h0, h1, h2, h3, trivial⟩, Nat.or_lt_two_pow (n := 7) h5 p7, fun k hk => ?_, fun k hk => ?_, fun k hk => ?_, h9.or hv.1⟩
  · rw [if_neg (by omega), if_neg (by omega)]; exact h6 k hk
  · rw [if_neg (by omega)]; exact h7 k hk
  · rw [if_neg (by omega), if_neg (by omega), if_neg (by omega)]; exact h8 k hk
theorem mca_3 {A A' : Nat → Int} {x v w : Int} {c : PCt} (h : MCA A x c) (hn : c.1 2 < 7) (hv : 0 ≤ v ∧ v ≤ 99) (hA : ∀ j : Nat, A' j = if j = 2 then (c.1 2 : Int) + 1 else if j = 6 + 2 * c.1 2 then w else if j = 5 + 2 * c.1 2 then v else A j) : MCA A' x (kp3 c v w) := by
  obtain ⟨⟨h0, h1, h2, h3, h4⟩, h5, h6, h7, h8, h9⟩ := h
  unfold kp3 MCA
  simp only [up_if, Nat.reduceEqDiff, reduceIte]
  refine ⟨⟨?_, ?_, ?_, ?_, ?_⟩, h5, fun k hk => ?_, fun k hk => ?_, fun k hk => ?_, h9⟩
  · rw [hA, if_neg (by omega), if_neg (by omega), if_neg (by omega)]; exact h0
  · rw [hA, if_neg (by omega), if_neg (by omega), if_neg (by omega)]; exact h1
  · rw [hA, if_pos rfl]; omega
  · rw [hA, if_neg (by omega), if_neg (by omega), if_neg (by omega)]; exact h3
  · rw [hA, if_neg (by omega), if_neg (by omega), if_neg (by omega)]; exact h4
  · rw [up2_ne _ _ _ (show (0 : Nat) ≠ 1 by omega), up2_if, up2_if, up2_ne _ _ _ (show (1 : Nat) ≠ 0 by omega), hA, hA]
    by_cases e : k = c.1 2
    · rw [if_pos e, if_pos e, if_neg (by omega), if_neg (by omega), if_pos (by omega), if_neg (by omega), if_pos (by omega)]; exact ⟨rfl, rfl⟩
    · rw [if_neg e, if_neg e, if_neg (by omega), if_neg (by omega), if_neg (by omega), if_neg (by omega), if_neg (by omega), if_neg (by omega)]; exact h6 k (by omega)
  · rw [hA, if_neg (by omega), if_neg (by omega)]
    by_cases e : k = c.1 2
    · rw [if_pos (by omega)]; exact hv
    · rw [if_neg (by omega)]; exact h7 k hk
  · rw [hA, hA, hA, if_neg (by omega), if_neg (by omega), if_neg (by omega), if_neg (by omega), if_neg (by omega), if_neg (by omega), if_neg (by omega), if_neg (by omega), if_neg (by omega)]
    rw [up2_ne _ _ _ (show (2 : Nat) ≠ 1 by omega), up2_ne _ _ _ (show (2 : Nat) ≠ 0 by omega), up2_ne _ _ _ (show (3 : Nat) ≠ 1 by omega), up2_ne _ _ _ (show (3 : Nat) ≠ 0 by omega), up2_ne _ _ _ (show (4 : Nat) ≠ 1 by omega), up2_ne _ _ _ (show (4 : Nat) ≠ 0 by omega)]
    exact h8 k hk
/-- a RULE more, whatever is told of -/
theorem mca_r {A A' : Nat → Int} {x y v w z : Int} {m : Nat} {c : PCt} (h : MCA A x c) (hf : FarR m y) (hn : c.1 2 ≤ 7) (hA : ∀ j : Nat, A' j = if j = 3 then (c.1 4 : Int) + 1 else if j = 21 + 3 * c.1 4 then z else if j = 20 + 3 * c.1 4 then w else if j = 19 + 3 * c.1 4 then v else A j) : MCA A' y (up (up c.1 4 (c.1 4 + 1)) 5 m, up2 (up2 (up2 c.2 2 (c.1 4) v) 3 (c.1 4) w) 4 (c.1 4) z) := by
  obtain ⟨⟨h0, h1, h2, h3, h4⟩, h5, h6, h7, h8, h9⟩ := h
  unfold MCA
  simp only [up_if, Nat.reduceEqDiff, reduceIte]
  have lo : ∀ j : Nat, j < 19 → j ≠ 3 → A' j = A j := fun j h1 h2 => by rw [hA, if_neg h2, if_neg (by omega), if_neg (by omega), if_neg (by omega)]
  refine ⟨⟨?_, ?_, ?_, ?_, ?_⟩, h5, fun k hk => ?_, fun k hk => ?_, fun k hk => ?_, hf⟩
  · rw [lo 0 (by omega) (by omega)]; exact h0
  · rw [lo 1 (by omega) (by omega)]; exact h1
  · rw [lo 2 (by omega) (by omega)]; exact h2
  · rw [hA, if_pos rfl]; omega
  · rw [lo 4 (by omega) (by omega)]; exact h4
  · rw [up2_ne _ _ _ (show (0 : Nat) ≠ 4 by omega), up2_ne _ _ _ (show (0 : Nat) ≠ 3 by omega), up2_ne _ _ _ (show (0 : Nat) ≠ 2 by omega), up2_ne _ _ _ (show (1 : Nat) ≠ 4 by omega), up2_ne _ _ _ (show (1 : Nat) ≠ 3 by omega), up2_ne _ _ _ (show (1 : Nat) ≠ 2 by omega), lo _ (by omega) (by omega), lo _ (by omega) (by omega)]
    exact h6 k hk
  · rw [lo _ (by omega) (by omega)]; exact h7 k hk
  · rw [up2_ne _ _ _ (show (2 : Nat) ≠ 4 by omega), up2_ne _ _ _ (show (2 : Nat) ≠ 3 by omega), up2_ne _ _ _ (show (3 : Nat) ≠ 4 by omega), up2_if, up2_if, up2_if, up2_ne _ _ _ (show (3 : Nat) ≠ 2 by omega), up2_ne _ _ _ (show (4 : Nat) ≠ 3 by omega), up2_ne _ _ _ (show (4 : Nat) ≠ 2 by omega), hA, hA, hA]
    by_cases e : k = c.1 4
    · rw [if_pos e, if_pos e, if_pos e, if_neg (by omega), if_neg (by omega), if_neg (by omega), if_pos (by omega), if_neg (by omega), if_neg (by omega), if_pos (by omega), if_neg (by omega), if_pos (by omega)]
      exact ⟨rfl, rfl, rfl⟩
    · rw [if_neg e, if_neg e, if_neg e, if_neg (by omega), if_neg (by omega), if_neg (by omega), if_neg (by omega), if_neg (by omega), if_neg (by omega), if_neg (by omega), if_neg (by omega), if_neg (by omega), if_neg (by omega), if_neg (by omega), if_neg (by omega)]
      exact h8 k (by omega)
/-! the end of a line, whatever the contents -/
def lnE {γ : Type} (keep : γ → Nat → List Int → γ) (l : Nat) (B : Nat → Int) (n : Nat) (c : γ) : Bool × Nat × (Int × Int) × List Int → Bool × Nat × (Int × Int) × γ
  | (true, j, f2, vs) => if kdA B n j = 3 then (true, nxt B n j, f2, if f2.1 = 0 then keep c l vs else c) else (false, j, (1, (j : Int)), c)
  | (false, j, _, _) => (false, j, (1, (j : Int)), c)
theorem lineP_l {γ : Type} {full : γ → Nat → Bool} {keep : γ → Nat → List Int → γ} {a l i n : Nat} {B : Nat → Int} {fp : Int × Int} {c : γ} (e : lnTk a B n i = (l : Int)) : lineP a full keep B n i fp c = lnE keep l B n c (nms B n (ruL a l) (lms a l) [] (nxt B n i) (if full c l = true then note 3 i fp else fp)) := by
  unfold lineP
  rw [if_neg (by omega), e, Int.toNat_natCast]
  unfold lnE
  rfl
theorem lineP_n {γ : Type} {full : γ → Nat → Bool} {keep : γ → Nat → List Int → γ} {a i n : Nat} {B : Nat → Int} {fp : Int × Int} {c : γ} (e : lnTk a B n i = -1) : lineP a full keep B n i fp c = (false, i, (1, (i : Int)), c) := if_pos e
/-- what must go on behind a line -/
def KL {γ : Type} (B : Nat → Int) (n : Nat) (MB : Sg → Prop) (MC : Sg → γ → Prop) (σ : Sg) (P : Sg → Prop) (r : Bool × Nat × (Int × Int) × γ) : Prop := (∀ τ : Sg, FR σ τ → r.1 = true → MTk τ B n r.2.1 r.2.2.1 → MB τ → (r.2.2.1.1 = 0 → MC τ r.2.2.2) → P τ) ∧ (∀ τ : Sg, FR σ τ → r.1 = false → MBk τ r.2.1 → P τ)
theorem m_eol {γ : Type} {MB : Sg → Prop} {MC : Sg → γ → Prop} {keep : γ → Nat → List Int → γ} {X : PX} {σ ρ : Sg} {B : Nat → Int} {n j l : Nat} {f2 : Int × Int} {c : γ} {vs : List Int} {P : Sg → Prop} (hmb : ∀ σ τ : Sg, FZ σ τ → MB σ → MB τ) (hmc : ∀ (σ τ : Sg) (c : γ), FZ σ τ → MC σ c → MC τ c) (h : MTk ρ B n j f2) (fr : FR σ ρ) (hb : MB ρ) (hc : f2.1 = 0 → MC ρ (keep c l vs)) (K : KL B n MB MC σ P (lnE keep l B n c (true, j, f2, vs))) : CV X 175 [vR (some 170)] ρ (fun τ => (none : Option PV) = none ∧ P τ) := by
  refine m_semi h (fun k3 τ f m => ⟨rfl, ?_⟩) (fun k3 τ f m => ⟨rfl, ?_⟩)
  · have e : lnE keep l B n c (true, j, f2, vs) = (true, nxt B n j, f2, if f2.1 = 0 then keep c l vs else c) := if_pos k3
    rw [e] at K
    refine K.1 τ (fr.trans f.fy.fr) rfl m (hmb ρ τ f hb) (fun z => ?_)
    dsimp only at z ⊢
    rw [if_pos z]; exact hmc ρ τ _ f (hc z)
  · have e : lnE keep l B n c (true, j, f2, vs) = (false, j, (1, (j : Int)), c) := if_neg k3
    rw [e] at K
    exact K.2 τ (fr.trans f.fy.fr) rfl m
theorem m_eolB {γ : Type} {MB : Sg → Prop} {MC : Sg → γ → Prop} {keep : γ → Nat → List Int → γ} {X : PX} {σ ρ : Sg} {B : Nat → Int} {n j l : Nat} {f2 : Int × Int} {c : γ} {vs : List Int} {P : Sg → Prop} (h : MBk ρ j) (fr : FR σ ρ) (K : KL B n MB MC σ P (lnE keep l B n c (false, j, f2, vs))) : CV X 175 [vR (some 170)] ρ (fun τ => (none : Option PV) = none ∧ P τ) := m_semiB h ⟨rfl, K.2 ρ fr rfl h⟩
def MBP (σ : Sg) : Prop := (0 ≤ σ.2 173 2 ∧ σ.2 173 2 ≤ 7) ∧ (0 ≤ σ.2 173 3 ∧ σ.2 173 3 ≤ 10) ∧ H9 σ
def MCP (σ : Sg) (c : PCt) : Prop := MCA (σ.2 173) (σ.1 170 9) c
theorem MBP.fz {σ τ : Sg} (f : FZ σ τ) (h : MBP σ) : MBP τ := by
  unfold MBP H9 at h ⊢; rw [f.2.2.1 173 (by omega), f.2.1 9 (by omega)]; exact h
theorem MCP.fz {σ τ : Sg} {c : PCt} (f : FZ σ τ) (h : MCP σ c) : MCP τ c := by
  unfold MCP at h ⊢; rw [f.2.2.1 173 (by omega), f.2.1 9 (by omega)]; exact h
abbrev KP (B : Nat → Int) (n : Nat) (σ : Sg) (P : Sg → Prop) (r : Bool × Nat × (Int × Int) × PCt) : Prop := KL B n MBP MCP σ P r
/-- two numbers -/
theorem m_two {X : PX} {σ : Sg} {B : Nat → Int} {n i : Nat} {fp : Int × Int} {l m : Int} {R : Int → Int → Sg → Prop} (h : MTk σ B n i fp) (hl : 0 ≤ l ∧ l ≤ 99) (hm : 0 ≤ m ∧ m ≤ 99)
    (qT : kdA B n i = 2 → kdA B n (nxt B n i) = 2 → ∀ τ : Sg, FZ σ τ → MTk τ B n (nxt B n (nxt B n i)) (nmF B n false m [vA B n i] (nxt B n i) (nmF B n false l [] i fp)) → R (nV B n l i) (nV B n m (nxt B n i)) τ)
    (q1 : kdA B n i ≠ 2 → ∀ τ : Sg, FZ σ τ → MBk τ i → R 0 0 τ)
    (q2 : kdA B n i = 2 → kdA B n (nxt B n i) ≠ 2 → ∀ τ : Sg, FZ σ τ → MBk τ (nxt B n i) → ∀ r : Int, R r 0 τ) : CI X 173 [vR (some 170), vI 0, vI l] σ (fun r1 τ1 => CI X 173 [vR (some 170), vI 0, vI m] τ1 (fun r2 τ2 => R r1 r2 τ2)) := by
  refine m_num h hl (fun k1 τ f mt => ?_) (fun k1 τ f mb => m_numB mb (q1 k1 τ f mb))
  refine m_num mt hm (fun k2 υ g mu => ?_) (fun k2 υ g mb => q2 k1 k2 υ (f.trans g) mb _)
  refine qT k1 k2 υ (f.trans g) ?_
  rw [nmF_nr, nmF_nr]; exact mu
