/-! MLINE: the reference's numbers and houses in a line -/
theorem note_id {k : Int} {a : Nat} {fp : Int × Int} (h : fp.1 ≠ 0) : note k a fp = fp := if_neg h
theorem note_ne {k : Int} {a : Nat} {fp : Int × Int} (hk : k ≠ 0) : (note k a fp).1 ≠ 0 := by
  unfold note; split
  · exact hk
  · assumption
def nmF (B : Nat → Int) (n : Nat) (ru : Bool) (l : Int) (pv : List Int) (i : Nat) (fp : Int × Int) : Int × Int := if l < vA B n i ∨ (ru = true ∧ inL (vA B n i) pv = true) then note 2 i fp else fp
def nV (B : Nat → Int) (n : Nat) (l : Int) (i : Nat) : Int := if l < vA B n i then 0 else vA B n i
theorem nms_c {B : Nat → Int} {n : Nat} {ru : Bool} {l : Int} {ls pv : List Int} {i : Nat} {fp : Int × Int} : nms B n ru (l :: ls) pv i fp = if kdA B n i = 2 then nms B n ru ls (pv ++ [vA B n i]) (nxt B n i) (nmF B n ru l pv i fp) else (false, i, fp, pv) := rfl
theorem nms_e {B : Nat → Int} {n : Nat} {ru : Bool} {pv : List Int} {i : Nat} {fp : Int × Int} : nms B n ru [] pv i fp = (true, i, fp, pv) := rfl
theorem nmF_nil {B : Nat → Int} {n : Nat} {ru : Bool} {l : Int} {i : Nat} {fp : Int × Int} : nmF B n ru l [] i fp = if l < vA B n i then note 2 i fp else fp := by
  unfold nmF
  have e : inL (vA B n i) [] = false := rfl
  by_cases c : l < vA B n i
  · rw [if_pos (Or.inl c), if_pos c]
  · rw [if_neg (fun z => z.elim c (fun z => by rw [e] at z; exact absurd z.2 (by decide))), if_neg c]
theorem nmF_nr {B : Nat → Int} {n : Nat} {l : Int} {pv : List Int} {i : Nat} {fp : Int × Int} : nmF B n false l pv i fp = if l < vA B n i then note 2 i fp else fp := by
  unfold nmF
  by_cases c : l < vA B n i
  · rw [if_pos (Or.inl c), if_pos c]
  · rw [if_neg (fun z => z.elim c (fun z => absurd z.1 (by decide))), if_neg c]
theorem nmF_0 {B : Nat → Int} {n : Nat} {ru : Bool} {l : Int} {pv : List Int} {i : Nat} {fp : Int × Int} (h : (nmF B n ru l pv i fp).1 = 0) : fp.1 = 0 ∧ vA B n i ≤ l ∧ nV B n l i = vA B n i := by
  unfold nmF at h
  by_cases c : l < vA B n i ∨ (ru = true ∧ inL (vA B n i) pv = true)
  · rw [if_pos c] at h; exact absurd h (note_ne (by omega))
  · rw [if_neg c] at h
    have d : ¬ l < vA B n i := fun z => c (Or.inl z)
    exact ⟨h, by omega, if_neg d⟩
theorem nV_rng {B : Nat → Int} {n : Nat} {l : Int} {i : Nat} (hl : 0 ≤ l) (h : kdA B n i = 2) : 0 ≤ nV B n l i ∧ nV B n l i ≤ l := by
  have := vA_rng h
  unfold nV; split <;> omega
theorem MTk.mv {σ τ : Sg} {B : Nat → Int} {n i : Nat} {fp : Int × Int} (h : MTk σ B n i fp) (f1 : ∀ j : Nat, j < 9 → τ.1 170 j = σ.1 170 j) (f2 : τ.2 171 = σ.2 171) : MTk τ B n i fp := by
  unfold MTk TM TkM at h ⊢
  rw [f2, f1 2 (by omega), f1 3 (by omega), f1 4 (by omega), f1 5 (by omega), f1 6 (by omega), f1 7 (by omega), f1 8 (by omega)]
  exact h
theorem MBk.mv {σ τ : Sg} {i : Nat} (h : MBk σ i) (f1 : τ.1 170 8 = σ.1 170 8) (f2 : τ.2 171 = σ.2 171) : MBk τ i := by
  unfold MBk at h ⊢
  rw [f1, f2]; exact h
theorem MTk.ff {σ τ : Sg} {B : Nat → Int} {n i a : Nat} {k : Int} {fp : Int × Int} (h : MTk σ B n i fp) (f : FF σ τ (note k a fp)) (hk : 1 ≤ k ∧ k ≤ 4) (ha : a < i) : MTk τ B n i (note k a fp) := by
  obtain ⟨h1, h8, ht, hi, h5, h6, h7, h9⟩ := h
  refine ⟨h1.fz f.fz, by rw [f.1]; exact h8, by unfold TkM at ht ⊢; rw [f.1]; exact ht, hi, f.2.2.2.1, f.2.2.2.2, note_rng hk h7, note_pl h9 ha⟩
/-- only the scanner, the farthest HOUSE and the fault -/
def FY (σ τ : Sg) : Prop := (∀ c : Nat, c ≠ 170 → τ.1 c = σ.1 c) ∧ (∀ j : Nat, j < 3 ∨ 9 < j → τ.1 170 j = σ.1 170 j) ∧ (∀ c : Nat, c ≠ 171 → τ.2 c = σ.2 c) ∧ (∀ j : Nat, j ≠ 5 → j ≠ 6 → τ.2 171 j = σ.2 171 j)
theorem FY.rfl {σ : Sg} : FY σ σ := ⟨fun _ _ => Eq.refl _, fun _ _ => Eq.refl _, fun _ _ => Eq.refl _, fun _ _ _ => Eq.refl _⟩
theorem FY.trans {σ τ υ : Sg} (h : FY σ τ) (g : FY τ υ) : FY σ υ := ⟨fun c q => (g.1 c q).trans (h.1 c q), fun c q => (g.2.1 c q).trans (h.2.1 c q), fun c q => (g.2.2.1 c q).trans (h.2.2.1 c q), fun c q r => (g.2.2.2 c q r).trans (h.2.2.2 c q r)⟩
theorem FZ.fy {σ τ : Sg} (h : FZ σ τ) : FY σ τ := ⟨h.1, fun j hj => h.2.1 j (by omega), h.2.2.1, h.2.2.2⟩
theorem FY.up9 {σ : Sg} {x : Int} : FY σ (up2 σ.1 170 9 x, σ.2) := ⟨fun c hc => up2_ne _ _ _ hc, fun j hj => by dsimp only; rw [up2_if, if_neg (by omega)], fun _ _ => Eq.refl _, fun _ _ _ => Eq.refl _⟩
/-- and what is read -/
def FR (σ τ : Sg) : Prop := (∀ c : Nat, c ≠ 170 → τ.1 c = σ.1 c) ∧ (∀ j : Nat, j < 3 ∨ 9 < j → τ.1 170 j = σ.1 170 j) ∧ (∀ c : Nat, c ≠ 171 → c ≠ 173 → τ.2 c = σ.2 c) ∧ (∀ j : Nat, j ≠ 5 → j ≠ 6 → τ.2 171 j = σ.2 171 j)
theorem FR.rfl {σ : Sg} : FR σ σ := ⟨fun _ _ => Eq.refl _, fun _ _ => Eq.refl _, fun _ _ _ => Eq.refl _, fun _ _ _ => Eq.refl _⟩
theorem FR.trans {σ τ υ : Sg} (h : FR σ τ) (g : FR τ υ) : FR σ υ := ⟨fun c q => (g.1 c q).trans (h.1 c q), fun c q => (g.2.1 c q).trans (h.2.1 c q), fun c q r => (g.2.2.1 c q r).trans (h.2.2.1 c q r), fun c q r => (g.2.2.2 c q r).trans (h.2.2.2 c q r)⟩
theorem FY.fr {σ τ : Sg} (h : FY σ τ) : FR σ τ := ⟨h.1, h.2.1, fun c q _ => h.2.2.1 c q, h.2.2.2⟩
theorem FR.up {σ : Sg} {A : Nat → Nat → Int} (h : ∀ c : Nat, c ≠ 173 → A c = σ.2 c) : FR σ (σ.1, A) := ⟨fun _ _ => Eq.refl _, fun _ _ => Eq.refl _, fun c _ q => h c q, fun j _ _ => by dsimp only; rw [h 171 (by omega)]⟩
/-- a number that stands there -/
theorem m_numT {X : PX} {σ : Sg} {B : Nat → Int} {n i : Nat} {fp : Int × Int} {l : Int} {P : Int → Sg → Prop} (h1 : TM σ B n) (h8 : σ.1 170 8 = 0) (ht : TkM σ B n i) (h5 : σ.2 171 5 = fp.1) (h6 : σ.2 171 6 = fp.2) (h7 : 0 ≤ fp.1 ∧ fp.1 ≤ 4) (h9 : fp.1 ≠ 0 → 0 ≤ fp.2 ∧ (fp.2 < i ∨ (fp.2 = i ∧ fp.1 ≤ 2))) (k2 : kdA B n i = 2) (hl : 0 ≤ l ∧ l ≤ 99)
    (q1 : ∀ τ : Sg, FZ σ τ → MTk τ B n (nxt B n i) (if l < vA B n i then note 2 i fp else fp) → P (nV B n l i) τ) : CI X 173 [vR (some 170), vI 0, vI l] σ P := by
  obtain ⟨t5, t4, t3, t6, t7⟩ := ht
  have n6 := h1.2.1
  have km := kd_2.mp k2
  have v := vA_rng k2
  have hin : i < n := kd_in (B := B) (by omega)
  have nr := nxt_rng (B := B) hin
  have e6 : σ.1 170 6 = vA B n i := t6 (by omega)
  have e3 : σ.1 170 3 = enA B n i := t3 (bAt_ge h1 hin)
  unfold nV at q1
  refine v_173 ⟨by omega, fun e => absurd h8 e, fun _ => ⟨by omega, fun c => ?_, fun c => absurd (by omega) c⟩⟩
  rw [e6]
  refine c_isIn (by omega) (by omega) (by omega) ?_
  by_cases d : l < vA B n i
  · rw [if_neg (by omega)]
    rw [if_pos d, if_pos d] at q1
    refine ⟨by omega, fun e => absurd rfl e, fun _ => ?_⟩
    rw [t4]
    refine m_also h8 h5 h6 (by omega) (by omega) h7 h9 (fun τ f => ?_)
    refine m_adv (i := i) (fp := note 2 i fp) (h1.fz f.fz) (by rw [f.1]; exact h8) hin (by rw [f.1]; exact e3) f.2.2.2.1 f.2.2.2.2 (note_rng (by omega) h7) (note_pl (fun e => ⟨(h9 e).1, by have := (h9 e).2; omega⟩) nr.1) (fun υ g m => c_isIn (by omega) (by omega) (by omega) ?_)
    rw [if_neg (by omega)]
    exact ⟨by omega, fun _ => ⟨_, rfl, q1 υ (f.fz.trans g.fz) m⟩, fun e => absurd rfl e⟩
  · rw [if_pos (by omega)]
    rw [if_neg d, if_neg d] at q1
    refine ⟨by omega, fun _ => m_adv (i := i) (fp := fp) h1 h8 hin e3 h5 h6 h7 (fun e => ⟨(h9 e).1, by have := (h9 e).2; omega⟩) (fun υ g m => c_isIn (by omega) (by omega) (by omega) ?_), fun e => absurd (by omega) e⟩
    rw [if_pos (by omega)]
    exact ⟨by omega, fun e => absurd e (by omega), fun _ => ⟨_, rfl, q1 υ g.fz m⟩⟩
def H9 (σ : Sg) : Prop := -1 ≤ σ.1 170 9 ∧ σ.1 170 9 ≤ 6
theorem m_ht {X : PX} {σ τ : Sg} {B : Nat → Int} {n i : Nat} {fp : Int × Int} {r : Int} {Q : Option PV → Sg → Prop} (h9 : H9 σ) (hr : 0 ≤ r ∧ r ≤ 6) (f : FZ σ τ) (q : ∀ υ : Sg, FY σ υ → (∀ j : Nat, j ≠ 9 → υ.1 170 j = τ.1 170 j) → υ.2 = τ.2 → υ.1 170 9 = max (σ.1 170 9) r → Q (some (vI r)) υ) : InR r ∧ InR (τ.1 170 9) ∧ (r ≤ τ.1 170 9 → Q (some (vI r)) (up2 τ.1 170 9 (τ.1 170 9), τ.2)) ∧ (¬ r ≤ τ.1 170 9 → Q (some (vI r)) (up2 τ.1 170 9 r, τ.2)) := by
  unfold H9 at h9
  have e : τ.1 170 9 = σ.1 170 9 := f.2.1 9 (by omega)
  refine ⟨by omega, by omega, fun c => q _ (f.fy.trans FY.up9) (fun j hj => by dsimp only; rw [up2_if, if_neg hj]) rfl ?_, fun c => q _ (f.fy.trans FY.up9) (fun j hj => by dsimp only; rw [up2_if, if_neg hj]) rfl ?_⟩
  · dsimp only; rw [up2_get]; omega
  · dsimp only; rw [up2_get]; omega
theorem m_house {X : PX} {σ : Sg} {B : Nat → Int} {n i : Nat} {fp : Int × Int} {P : Int → Sg → Prop} (h : MTk σ B n i fp) (h9 : H9 σ)
    (q1 : kdA B n i = 2 → ∀ τ : Sg, FY σ τ → MTk τ B n (nxt B n i) (if 6 < vA B n i then note 2 i fp else fp) → H9 τ → τ.1 170 9 = max (σ.1 170 9) (nV B n 6 i) → P (nV B n 6 i) τ)
    (q0 : kdA B n i ≠ 2 → ∀ τ : Sg, FY σ τ → MBk τ i → H9 τ → P 0 τ) : CI X 176 [vR (some 170)] σ P := by
  refine v_176 (m_num h (by omega) (fun k2 τ f m => ?_) (fun k2 τ f m => ?_))
  · have rr := nV_rng (l := 6) (by omega) k2
    have rr' := rr
    unfold nV at rr'
    refine m_ht (X := X) (B := B) (n := n) (i := i) (fp := fp) (Q := fun v τ => ∃ x, v = some (vI x) ∧ P x τ) h9 rr' f (fun υ g e1 e2 e3 => ⟨_, rfl, q1 k2 υ g (m.mv (fun j hj => e1 j (by omega)) (by rw [e2])) ?_ e3⟩)
    unfold H9 at h9 ⊢; omega
  · refine m_ht (X := X) (B := B) (n := n) (i := i) (fp := fp) (Q := fun v τ => ∃ x, v = some (vI x) ∧ P x τ) h9 (by omega) f (fun υ g e1 e2 e3 => ⟨_, rfl, q0 k2 υ g (m.mv (e1 8 (by omega)) (by rw [e2])) ?_⟩)
    unfold H9 at h9 ⊢; omega
theorem m_houseB {X : PX} {σ : Sg} {i : Nat} {P : Int → Sg → Prop} (h : MBk σ i) (h9 : H9 σ) (q : ∀ τ : Sg, FY σ τ → MBk τ i → H9 τ → P 0 τ) : CI X 176 [vR (some 170)] σ P := by
  refine v_176 (m_numB h ?_)
  refine m_ht (X := X) (B := fun _ => 0) (n := 0) (i := i) (fp := (0, 0)) (Q := fun v τ => ∃ x, v = some (vI x) ∧ P x τ) h9 (by omega) FZ.rfl (fun υ g e1 e2 e3 => ⟨_, rfl, q υ g (h.mv (e1 8 (by omega)) (by rw [e2])) ?_⟩)
  unfold H9 at h9 ⊢; omega
theorem m_patron {X : PX} {σ : Sg} {B : Nat → Int} {n i : Nat} {fp : Int × Int} {a b : Int} {pv : List Int} {P : Int → Sg → Prop} (h : MTk σ B n i fp) (h9 : H9 σ) (ha : InR a) (hb : InR b) (hc : kdA B n i = 2 → fp.1 = 0 → (inL (vA B n i) pv = true ↔ (vA B n i = a ∨ vA B n i = b)))
    (q1 : kdA B n i = 2 → ∀ τ : Sg, FY σ τ → MTk τ B n (nxt B n i) (nmF B n true 6 pv i fp) → H9 τ → τ.1 170 9 = max (σ.1 170 9) (nV B n 6 i) → P (nV B n 6 i) τ)
    (q0 : kdA B n i ≠ 2 → ∀ τ : Sg, FY σ τ → MBk τ i → H9 τ → P 0 τ) : CI X 177 [vR (some 170), vI a, vI b] σ P := by
  obtain ⟨h1, h8, ⟨t5, t4, t3, t6, t7⟩, hi, h5, h6, h7, hp⟩ := id h
  have n6 := h1.2.1
  have kr := kdM_rng (B := B) (n := n) (i := i)
  refine v_177 ⟨by omega, fun e => absurd h8 e, fun _ => ⟨by omega, fun c => ?_, fun c => ?_⟩⟩
  · have nk : kdA B n i ≠ 2 := fun e => c (by rw [t5]; exact kd_2.mp e)
    exact m_house h h9 (fun e => absurd e nk) (fun _ τ f m g => ⟨_, rfl, q0 nk τ f m g⟩)
  · have k2 : kdA B n i = 2 := kd_2.mpr (by omega)
    have v := vA_rng k2
    have rr := nV_rng (l := 6) (by omega) k2
    have e6 : σ.1 170 6 = vA B n i := t6 (by omega)
    have hin : i < n := kd_in (B := B) (by omega)
    have hc := hc k2
    have q1 := q1 k2
    have yes : (vA B n i = a ∨ vA B n i = b) → CV X 172 [vR (some 170), vI 2, vI (σ.1 170 4)] σ (fun τ3 => CI X 176 [vR (some 170)] τ3 (fun r7 τ4 => ∃ x, some (vI r7) = some (vI x) ∧ P x τ4)) := by
      intro y
      rw [t4]
      refine m_also h8 h5 h6 (by omega) (by omega) h7 (fun e => ⟨(hp e).1, Or.inl (hp e).2⟩) (fun τ f => ?_)
      have t9 : H9 τ := by unfold H9 at h9 ⊢; rw [f.1]; exact h9
      have en : note 2 i (note 2 i fp) = note 2 i fp := note_id (note_ne (by omega))
      have ee : nmF B n true 6 pv i fp = note 2 i fp := by
        unfold nmF
        by_cases z : fp.1 = 0
        · rw [if_pos (Or.inr ⟨rfl, (hc z).mpr y⟩)]
        · rw [note_id z]; split <;> rfl
      refine v_176 (m_numT (h1.fz f.fz) (by rw [f.1]; exact h8) (by unfold TkM; rw [f.1]; exact ⟨t5, t4, t3, t6, t7⟩) f.2.2.2.1 f.2.2.2.2 (note_rng (by omega) h7) (fun e => ?_) k2 (by omega) (fun υ g m => ?_))
      · unfold note
        by_cases z : fp.1 = 0
        · rw [if_pos z]; dsimp only; omega
        · rw [if_neg z]; have := hp z; omega
      · rw [en, show (if 6 < vA B n i then note 2 i fp else note 2 i fp) = note 2 i fp by split <;> rfl] at m
        refine m_ht (X := X) (B := B) (n := n) (i := i) (fp := fp) (Q := fun v τ => ∃ x, v = some (vI x) ∧ ∃ y, some (vI x) = some (vI y) ∧ P y τ) t9 rr g (fun ω gw e1 e2 e3 => ⟨_, rfl, _, rfl, q1 ω (f.fz.fy.trans gw) ?_ ?_ ?_⟩)
        · rw [ee]; exact m.mv (fun j hj => e1 j (by omega)) (by rw [e2])
        · unfold H9 at t9 ⊢; omega
        · rw [e3, f.1]
    have no : ¬ (vA B n i = a ∨ vA B n i = b) → CI X 176 [vR (some 170)] σ (fun r7 τ4 => ∃ x, some (vI r7) = some (vI x) ∧ P x τ4) := by
      intro y
      have ee : nmF B n true 6 pv i fp = if 6 < vA B n i then note 2 i fp else fp := by
        unfold nmF
        by_cases z : fp.1 = 0
        · have w : ¬ inL (vA B n i) pv = true := fun w => y ((hc z).mp w)
          by_cases u : 6 < vA B n i
          · rw [if_pos (Or.inl u), if_pos u]
          · rw [if_neg (fun z => z.elim u (fun z => w z.2)), if_neg u]
        · rw [note_id z]; split <;> split <;> rfl
      exact m_house h h9 (fun _ τ f m g e => ⟨_, rfl, q1 τ f (by rw [ee]; exact m) g e⟩) (fun e => absurd k2 e)
    rw [e6]
    exact ⟨by omega, ha, fun e => yes (Or.inl e), fun e => ⟨hb, fun e2 => no (fun z => z.elim e e2), fun e2 => yes (Or.inr (Decidable.not_not.mp e2))⟩⟩
theorem m_patronB {X : PX} {σ : Sg} {i : Nat} {a b : Int} {P : Int → Sg → Prop} (h : MBk σ i) (h9 : H9 σ) (q : ∀ τ : Sg, FY σ τ → MBk τ i → H9 τ → P 0 τ) : CI X 177 [vR (some 170), vI a, vI b] σ P := by
  have h8 := h.1
  exact v_177 ⟨by omega, fun _ => m_houseB h h9 (fun τ f m g => ⟨_, rfl, q τ f m g⟩), fun e => absurd (by omega) e⟩
