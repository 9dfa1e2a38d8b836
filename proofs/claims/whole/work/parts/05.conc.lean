/-! FROM THE PURE HEAP TO THE MACHINE'S: places become addresses -/
def adr (base : Nat) (ext : Nat → Nat) (i : Nat) : Nat := if i < PK then base + i else ext (i - PK)
def cV (base : Nat) (ext : Nat → Nat) (v : PV) : Value := match v with
  | .inl x => .int (Int32.ofInt x)
  | .inr (.inl x) => .long (Int64.ofInt x)
  | .inr (.inr none) => .null
  | .inr (.inr (some i)) => .ref (adr base ext i)
def cE (base : Nat) (ext : Nat → Nat) (cid : FieldType → ClassId) (e : PE) : va_E := match e with
  | .inl (t, n, .inl f) => .inl (cid t, n, .inl fun j => Int32.ofInt (f j))
  | .inl (t, n, .inr (.inl f)) => .inl (cid t, n, .inr (.inl fun j => Int64.ofInt (f j)))
  | .inl (t, n, .inr (.inr f)) => .inl (cid t, n, .inr (.inr (.inr (.inr fun j => (f j).map (adr base ext)))))
  | .inr (ci, fs) => .inr (ci, fs.map (cV base ext))
def cW (base : Nat) (ext : Nat → Nat) (cid : FieldType → ClassId) (h : PHp) : va_W := h.mapIdx fun i e => (base + i, cE base ext cid e)
theorem cV_rf (base : Nat) (ext : Nat → Nat) (r : Option Nat) : va_rf (r.map (adr base ext)) = cV base ext (vR r) := by cases r <;> rfl
theorem cW_len {base : Nat} {ext : Nat → Nat} {cid : FieldType → ClassId} {h : PHp} : (cW base ext cid h).length = h.length := by simp [cW]
theorem cW_at {base : Nat} {ext : Nat → Nat} {cid : FieldType → ClassId} {h : PHp} (k : Nat) : (cW base ext cid h)[k]? = (h[k]?).map fun e => (base + k, cE base ext cid e) := by simp [cW]
theorem cW_get {base : Nat} {ext : Nat → Nat} {cid : FieldType → ClassId} {h : PHp} {k : Nat} {e : PE} (he : h[k]? = some e) : (cW base ext cid h)[k]? = some (base + k, cE base ext cid e) := by rw [cW_at, he]; rfl
theorem cW_set {base : Nat} {ext : Nat → Nat} {cid : FieldType → ClassId} {h : PHp} {k : Nat} {e : PE} : (cW base ext cid h).set k (base + k, cE base ext cid e) = cW base ext cid (h.set k e) := by
  apply List.ext_getElem?
  intro j
  rw [cW_at, List.getElem?_set, List.getElem?_set, cW_len, cW_at]
  by_cases hj : k = j
  · subst hj
    by_cases hl : k < h.length <;> simp [hl]
  · simp [hj]
theorem cW_push {base : Nat} {ext : Nat → Nat} {cid : FieldType → ClassId} {h : PHp} {e : PE} : cW base ext cid h ++ [(base + h.length, cE base ext cid e)] = cW base ext cid (h ++ [e]) := by
  apply List.ext_getElem?
  intro j
  rw [cW_at, List.getElem?_append, List.getElem?_append, cW_len, cW_at]
  by_cases hj : j < h.length
  · simp [hj]
  · simp only [hj, if_false]
    by_cases hz : j = h.length
    · subst hz; simp
    · have : 0 < j - h.length := by omega
      rw [List.getElem?_eq_none (by simp; omega), List.getElem?_eq_none (by simp; omega)]; rfl
theorem cW_D {base : Nat} {ext : Nat → Nat} {cid : FieldType → ClassId} {h : PHp} : va_D (fun q => base ≤ q) (cW base ext cid h) := by
  constructor
  · intro i j p q hi hj hpq
    rw [cW_at] at hi hj
    obtain ⟨a, -, ha⟩ := Option.map_eq_some_iff.mp hi
    obtain ⟨b, -, hb⟩ := Option.map_eq_some_iff.mp hj
    rw [← ha, ← hb] at hpq
    dsimp only at hpq
    omega
  · intro k q hk
    rw [cW_at] at hk
    obtain ⟨a, -, ha⟩ := Option.map_eq_some_iff.mp hk
    rw [← ha]
    exact Nat.le_add_right _ _
/-! locals -/
def lvL (base : Nat) (ext : Nat → Nat) (L : PL) : List (Nat × Value) := L.zipIdx.filterMap fun p => p.1.map fun v => (p.2, cV base ext v)
theorem lvL_mem {base : Nat} {ext : Nat → Nat} {L : PL} {j : Nat} {w : Value} : (j, w) ∈ lvL base ext L ↔ ∃ v, L[j]? = some (some v) ∧ w = cV base ext v := by
  unfold lvL
  rw [List.mem_filterMap]
  constructor
  · rintro ⟨⟨a, i⟩, h1, h2⟩
    rw [List.mk_mem_zipIdx_iff_getElem?] at h1
    cases a with
    | none => cases h2
    | some v =>
      simp only [Option.map_some, Option.some.injEq, Prod.mk.injEq] at h2
      obtain ⟨rfl, rfl⟩ := h2
      exact ⟨v, h1, rfl⟩
  · rintro ⟨v, h1, rfl⟩
    exact ⟨(some v, j), List.mk_mem_zipIdx_iff_getElem?.mpr h1, rfl⟩
def LR (base : Nat) (ext : Nat → Nat) (ls : Array Slot) (n : Nat) (L : PL) : Prop := L.length = n ∧ lv_has ls n (lvL base ext L)
theorem LR.at {base : Nat} {ext : Nat → Nat} {ls : Array Slot} {n : Nat} {L : PL} (h : LR base ext ls n L) {j : Nat} {v : PV} (hj : lget L j = some v) : ls[j]? = some (.val (cV base ext v)) := by
  have : L[j]? = some (some v) := by
    unfold lget at hj
    split at hj
    · next w hw => cases hj; exact hw
    · cases hj
  exact h.2.2.2 (j, cV base ext v) (lvL_mem.mpr ⟨v, this, rfl⟩)
theorem lclr_len {L : PL} {i : Nat} : (lclr L i).length = L.length := by
  cases i with
  | zero => rfl
  | succ j => simp only [lclr]; split <;> simp
theorem lclr_at {L : PL} {i j : Nat} {w : PV} (h : (lclr L i)[j]? = some (some w)) : L[j]? = some (some w) ∧ ¬ (j + 1 = i ∧ isLg L[j]? = true) := by
  cases i with
  | zero => exact ⟨h, by omega⟩
  | succ k =>
    simp only [lclr] at h
    split at h
    · next hl =>
      rw [List.getElem?_set] at h
      split at h
      · split at h <;> cases h
      · next hne => exact ⟨h, fun q => hne (by omega)⟩
    · next hl =>
      refine ⟨h, fun q => hl ?_⟩
      have e : j = k := by omega
      subst e
      exact q.2
theorem isLg_cat {base : Nat} {ext : Nat → Nat} {w : PV} (h : (cV base ext w).category = 2) : isLg (some (some w)) = true := by
  match w with
  | .inl x => cases h
  | .inr (.inl x) => rfl
  | .inr (.inr none) => cases h
  | .inr (.inr (some x)) => cases h
theorem LR.st1 {base : Nat} {ext : Nat → Nat} {ls ls' : Array Slot} {n : Nat} {L : PL} {i : Nat} {v : PV} (h : LR base ext ls n L) (hi : i < n) (h2 : lv_has ls' n ((i, cV base ext v) :: (lvL base ext L).filter (fun q => !(q.1 == i) && !(q.1 + 1 == i && q.2.category == 2)))) : LR base ext ls' n (lput L i v) := by
  refine ⟨by rw [lput, List.length_set, lclr_len]; exact h.1, h2.1, h2.2.1, ?_⟩
  rintro ⟨j, w⟩ hq
  obtain ⟨u, hu, rfl⟩ := lvL_mem.mp hq
  apply h2.2.2
  rw [lput, List.getElem?_set] at hu
  split at hu
  · next e =>
    subst e
    split at hu
    · cases hu; exact List.mem_cons_self
    · cases hu
  · next e =>
    obtain ⟨a1, a2⟩ := lclr_at hu
    refine List.mem_cons_of_mem _ (List.mem_filter.mpr ⟨lvL_mem.mpr ⟨u, a1, rfl⟩, ?_⟩)
    simp only [Bool.and_eq_true, Bool.not_eq_true', beq_eq_false_iff_ne, ne_eq, Bool.and_eq_false_iff]
    refine ⟨fun q => e q.symm, ?_⟩
    by_cases hji : j + 1 = i
    · right
      intro hc
      exact a2 ⟨hji, by rw [a1]; exact isLg_cat hc⟩
    · exact Or.inl hji
theorem LR.st2 {base : Nat} {ext : Nat → Nat} {ls ls' : Array Slot} {n : Nat} {L : PL} {i : Nat} {v : PV} (h : LR base ext ls n L) (hi : i + 1 < n) (h2 : lv_has ls' n ((i, cV base ext v) :: (lvL base ext L).filter (fun q => !(q.1 == i) && (!(q.1 == i + 1) && !(q.1 + 1 == i && q.2.category == 2))))) : LR base ext ls' n (lput2 L i v) := by
  refine ⟨by rw [lput2, List.length_set, List.length_set, lclr_len]; exact h.1, h2.1, h2.2.1, ?_⟩
  rintro ⟨j, w⟩ hq
  obtain ⟨u, hu, rfl⟩ := lvL_mem.mp hq
  apply h2.2.2
  rw [lput2, List.getElem?_set] at hu
  split at hu
  · split at hu <;> cases hu
  · next e2 =>
    rw [List.getElem?_set] at hu
    split at hu
    · next e =>
      subst e
      split at hu
      · cases hu; exact List.mem_cons_self
      · cases hu
    · next e =>
      obtain ⟨a1, a2⟩ := lclr_at hu
      refine List.mem_cons_of_mem _ (List.mem_filter.mpr ⟨lvL_mem.mpr ⟨u, a1, rfl⟩, ?_⟩)
      simp only [Bool.and_eq_true, Bool.not_eq_true', beq_eq_false_iff_ne, ne_eq, Bool.and_eq_false_iff]
      refine ⟨fun q => e q.symm, fun q => e2 q.symm, ?_⟩
      by_cases hji : j + 1 = i
      · right
        intro hc
        exact a2 ⟨hji, by rw [a1]; exact isLg_cat hc⟩
      · exact Or.inl hji
/-! numbers -/
theorem o_add (a b : Int) : Int32.ofInt a + Int32.ofInt b = Int32.ofInt (a + b) := (Int32.ofInt_add a b).symm
theorem o_sub (a b : Int) : Int32.ofInt a - Int32.ofInt b = Int32.ofInt (a - b) := (Int32.ofInt_sub a b).symm
theorem o_mul (a b : Int) : Int32.ofInt a * Int32.ofInt b = Int32.ofInt (a * b) := (Int32.ofInt_mul a b).symm
theorem o_neg (a : Int) : -Int32.ofInt a = Int32.ofInt (-a) := (Int32.ofInt_neg a).symm
theorem o_laddn (a b : Int) : Int64.ofInt a + Int64.ofInt b = Int64.ofInt (a + b) := (Int64.ofInt_add a b).symm
theorem o_lsub (a b : Int) : Int64.ofInt a - Int64.ofInt b = Int64.ofInt (a - b) := (Int64.ofInt_sub a b).symm
theorem o_lmul (a b : Int) : Int64.ofInt a * Int64.ofInt b = Int64.ofInt (a * b) := (Int64.ofInt_mul a b).symm
theorem o_t (x : Int32) : Int32.ofInt x.toInt = x := Int32.ofInt_toInt x
theorem o_tl (x : Int64) : Int64.ofInt x.toInt = x := Int64.ofInt_toInt x
theorem o_i2l (a : Int) : (Int32.ofInt a).toInt64 = Int64.ofInt (iI2l a) := by
  unfold iI2l
  rw [← Int64.ofInt_toInt (Int32.ofInt a).toInt64, Int32.toInt_toInt64]
