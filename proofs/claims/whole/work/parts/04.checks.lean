/-! CHECKS (printed by wip/whole/emit_tables.py): each entry of the tables is what the class file and the tables' words say -/
def mKd : List Nat := [2, 1, 1, 1, 0, 0, 0, 0, 0, 0, 0, 0, 0, 0, 0, 0, 0, 2, 1, 1, 1, 1, 1, 1, 1, 1, 1, 1, 2, 1, 1, 1, 1, 1, 1, 1, 1, 1, 1, 1, 1, 2, 1, 1, 1, 1, 1, 1, 1, 1, 1, 1, 1, 2, 1, 1, 1, 2, 1, 1, 1, 1, 1, 1, 1, 1, 1, 1, 1, 1, 1, 1, 2, 1, 1, 1, 1, 2, 1, 1, 1, 1, 1, 1, 1, 1, 1, 1, 1, 1, 1, 2, 1, 1, 1, 1, 1, 1, 1, 1, 1, 1, 1, 1, 1, 1, 1, 1, 0, 0, 0, 2, 1, 1, 1, 1, 1, 1, 1, 2, 1, 1, 1, 1, 1, 1, 1, 1, 1, 1, 1, 1, 1, 1, 1, 1, 1, 1, 1, 1, 1, 1, 1, 1, 1, 1, 1, 1, 1, 1, 1, 1, 1, 1, 1, 1, 1, 1, 0, 0, 2, 0, 1, 1, 1, 0, 0, 0, 0, 0, 1, 1, 1, 1, 1, 1, 1, 1, 1, 1, 1, 0, 1, 1, 0, 0, 1, 1, 1, 1, 1, 1, 1, 1, 1, 0, 1, 1, 1, 1, 1, 1, 1, 1, 1, 1, 1, 1, 1, 1, 1, 1, 1, 0, 0, 1, 1, 1, 1, 1, 1, 1, 1, 1, 1, 1, 1, 1, 1, 1, 1, 1, 1, 1, 1, 1, 1, 1, 1, 1, 1, 1, 1, 1, 1, 1, 1, 1, 1, 1, 1, 1, 1, 1, 1, 1, 1, 1, 1, 1, 1, 1, 1, 1, 1, 1, 1, 1, 1, 1, 1, 1, 1, 1, 1, 1, 1, 1, 1, 1, 1, 1, 1, 0]
def stN : List String := ["quota", "price", "office", "house", "tie", "pact", "year", "buy", "lose", "cut", "paid"]
def srN : List String := ["PARISH_LIMITS", "YEARS_LIMITS", "LOG_LIMITS"]
def vC (ci : Nat) : vw_C := vwCl.getD ci (RX0, TX0, 7)
def yLen : MethodName := ⟨"java/lang/String", "length", "()I"⟩
def yChr : MethodName := ⟨"java/lang/String", "charAt", "(I)C"⟩
/-- the word of a link: (kind, place in the pool, a, b) in class o -/
def lkW (o : Nat) (t : Nat × Nat × Nat × Nat) : Cond := match t with
  | (0, ix, ci, k) => .fieldLink (cN o) ix ((vC ci).2.1 k).1 ((vC ci).2.1 k).2.1 ((vC ci).2.1 k).2.2.1
  | (1, ix, k, _) => .methodLink (cN o) ix (mY k)
  | (2, ix, k, _) => .methodLinkNest (cN o) ix (mY k) "QuotaParish"
  | (3, ix, ci, _) => .classLink (cN o) ix (vC ci).1
  | (4, ix, z, _) => .constant (cN o) ix (Int32.ofInt z)
  | (5, ix, z, _) => .constantLong (cN o) ix (Int64.ofInt z)
  | (6, ix, j, _) => .stringRef (cN o) ix (stN.getD j "")
  | (7, ix, _, _) => .methodLink (cN o) ix objectInit
  | (8, ix, _, _) => .methodLink (cN o) ix arraycopyName
  | (9, ix, _, _) => .methodLink (cN o) ix yLen
  | (10, ix, _, _) => .methodLink (cN o) ix yChr
  | (12, ix, _, _) => .methodLink (cN o) ix ⟨"java/lang/Math", "max", "(II)I"⟩
  | (13, ix, _, _) => .methodLink (cN o) ix ⟨"java/lang/Math", "min", "(II)I"⟩
  | (14, ix, _, _) => .methodLink (cN o) ix ⟨"java/lang/Math", "abs", "(I)I"⟩
  | (_, ix, j, _) => .fieldLink (cN o) ix "QuotaParish$Reader" (srN.getD j "") "[I"
def tyC (ty : Option FieldType) : Nat := match ty with
  | some .int => 0
  | some .boolean => 1
  | some (.object _) => 2
  | some (.array _) => 2
  | _ => 9
def ftC (ci k : Nat) : Nat := tyC (parseFieldDescriptor ((vC ci).2.1 k).2.2.1)
def bpOf (cdl : List PEn) (j : Nat) : Option Nat := (cdl[j]?).map (·.1)
def calC (t : MT) (c n : Nat) : Bool := decide (c < 284) && decide (mFr c + 1 ≤ t.2.2.2.2.2.1) && decide (8 + (mL c + 11) + mLo c ≤ t.2.2.2.2.2.2.1) && decide ((parseMethodDescriptor (mY c).desc).map (fun d => d.parameters.length) = some n)
def ilen (ins : Instr) : Nat := match ins with
  | .bipush _ | .ldc _ | .newarray _ | .iload _ | .istore _ | .aload _ | .astore _ | .lload _ | .lstore _ => 2
  | .sipush _ | .ldc_w _ | .ldc2_w _ | .getfield _ | .putfield _ | .getstatic _ | .new _ | .anewarray _ | .invokevirtual _ | .invokespecial _ | .invokestatic _ | .iinc _ _ => 3
  | _ => 1
def chkI (t : MT) (lk : List (Nat × Nat × Nat × Nat)) (cdl : List PEn) (i : Nat) (e : PEn) : Bool :=
  match e with
  | (bp, ins, ln, ar, z) =>
  match ins with
  | .goto off => decide (ln = 3) && decide ((bpOf cdl (ord ar 0)).map Int.ofNat = some ((bp : Int) + off))
  | .ifCond _ off => decide (ln = 3) && decide ((bpOf cdl (ord ar 0)).map Int.ofNat = some ((bp : Int) + off)) && decide (bpOf cdl (i + 1) = some (bp + 3))
  | .if_icmp _ off => decide (ln = 3) && decide ((bpOf cdl (ord ar 0)).map Int.ofNat = some ((bp : Int) + off)) && decide (bpOf cdl (i + 1) = some (bp + 3))
  | .tableswitch d lo hi offs => decide ((bpOf cdl (ord ar 0)).map Int.ofNat = some ((bp : Int) + d)) && decide (hi - lo + 1 = (offs.toList.length : Int)) && decide (offs.toList.map (fun o => some ((bp : Int) + o)) = (List.range offs.toList.length).map (fun j => (bpOf cdl (ord ar (1 + j))).map Int.ofNat))
  | .lookupswitch d ps => decide ((bpOf cdl (ord ar 0)).map Int.ofNat = some ((bp : Int) + d)) && (ps.toList.zip (ps.toList.drop 1)).all (fun (a, next) => a.1 < next.1) && decide (ps.toList.map (fun o => some ((bp : Int) + o.2)) = (List.range ps.toList.length).map (fun j => (bpOf cdl (ord ar (j + 1))).map Int.ofNat))
  | .ireturn => ((ord ar 0 == 0 && decide (t.2.2.2.1 = some .int)) || (ord ar 0 == 1 && decide (t.2.2.2.1 = some .boolean))) && decide (ord ar 1 = t.2.2.2.2.2.2.2.1) && decide (ord ar 2 = t.2.2.2.2.2.2.2.2) && decide (ln = 1)
  | .lreturn => decide (t.2.2.2.1 = some .long) && decide (ord ar 1 = t.2.2.2.2.2.2.2.1) && decide (ord ar 2 = t.2.2.2.2.2.2.2.2) && decide (ln = 1)
  | .return_ => decide (t.2.2.2.1 = none) && decide (ord ar 1 = t.2.2.2.2.2.2.2.1) && decide (ord ar 2 = t.2.2.2.2.2.2.2.2) && decide (ln = 1)
  | _ => decide (bpOf cdl (i + 1) = some (bp + ln)) && decide (ln = ilen ins) && (match ins with
    | .iconst n => decide (n = z)
    | .bipush n => decide ((Int8.ofInt n).toInt32 = Int32.ofInt z)
    | .sipush n => decide ((Int16.ofInt n).toInt32 = Int32.ofInt z)
    | .lconst n => decide (Int64.ofNat (n : Nat) = Int64.ofInt z)
    | .ldc ix => if ar = [] then decide (0 ≤ z) && lk.contains (4, ix, z.toNat, 0) else lk.contains (6, ix, ord ar 0, 0)
    | .ldc_w ix => decide (0 ≤ z) && lk.contains (4, ix, z.toNat, 0)
    | .ldc2_w ix => decide (0 ≤ z) && lk.contains (5, ix, z.toNat, 0)
    | .getfield ix => lk.contains (0, ix, ord ar 0, ord ar 1) && decide (ord ar 1 < (vC (ord ar 0)).2.2) && decide (ord ar 0 < 12)
    | .putfield ix => lk.contains (0, ix, ord ar 0, ord ar 1) && decide (ord ar 1 < (vC (ord ar 0)).2.2) && decide (ord ar 0 < 12) && decide (ftC (ord ar 0) (ord ar 1) = ord ar 2) && decide (ord ar 2 < 3) && (!((vC (ord ar 0)).2.1 (ord ar 1)).2.2.2 || (decide (t.1.name = "<init>") && decide (((vC (ord ar 0)).2.1 (ord ar 1)).1 = t.1.cls)))
    | .getstatic ix => lk.contains (11, ix, ord ar 0 - 11, 0)
    | .new ix => lk.contains (3, ix, ord ar 0, 0) && decide (ord ar 0 < 12) && decide (ar.drop 1 = (List.range (vC (ord ar 0)).2.2).map (ftC (ord ar 0)))
    | .aaload => decide (ord ar 0 = 6 ∨ ord ar 0 = 7 ∨ ord ar 0 = 9)
    | .aastore => decide (ord ar 0 = 6 ∨ ord ar 0 = 7 ∨ ord ar 0 = 9)
    | .anewarray ix => lk.contains (3, ix, ord ar 0, 0) && decide (ord ar 0 = 6 ∨ ord ar 0 = 7 ∨ ord ar 0 = 9)
    | .invokevirtual ix => if ord ar 0 = 902 then lk.contains (9, ix, 0, 0) && decide (4 ≤ t.2.2.2.2.2.1) && decide (100 ≤ t.2.2.2.2.2.2.1) else if ord ar 0 = 903 then lk.contains (10, ix, 0, 0) && decide (4 ≤ t.2.2.2.2.2.1) && decide (100 ≤ t.2.2.2.2.2.2.1) else lk.contains (1, ix, ord ar 0, 0) && calC t (ord ar 0) (ord ar 1) && decide (mKd.getD (ord ar 0) 0 = 1) && decide ((vC (ord ar 2)).1 = (mY (ord ar 0)).cls) && decide (ord ar 2 < 12)
    | .invokespecial ix => if ord ar 0 = 900 then lk.contains (7, ix, 0, 0) && decide (1 ≤ t.2.2.2.2.2.1) && decide (20 ≤ t.2.2.2.2.2.2.1) else (lk.contains (1, ix, ord ar 0, 0) || lk.contains (2, ix, ord ar 0, 0)) && calC t (ord ar 0) (ord ar 1) && decide (mKd.getD (ord ar 0) 0 = 2)
    | .invokestatic ix => if ord ar 0 = 901 then lk.contains (8, ix, 0, 0) && decide (1 ≤ t.2.2.2.2.2.1) && decide (60 ≤ t.2.2.2.2.2.2.1) else if ord ar 0 = 904 then lk.contains (12, ix, 0, 0) && decide (1 ≤ t.2.2.2.2.2.1) && decide (25 ≤ t.2.2.2.2.2.2.1) else if ord ar 0 = 905 then lk.contains (13, ix, 0, 0) && decide (1 ≤ t.2.2.2.2.2.1) && decide (25 ≤ t.2.2.2.2.2.2.1) else if ord ar 0 = 906 then lk.contains (14, ix, 0, 0) && decide (1 ≤ t.2.2.2.2.2.1) && decide (25 ≤ t.2.2.2.2.2.2.1) else lk.contains (1, ix, ord ar 0, 0) && calC t (ord ar 0) (ord ar 1) && decide (mKd.getD (ord ar 0) 0 = 0)
    | _ => true)
def chkS (t : MT) (lk : List (Nat × Nat × Nat × Nat)) (cdl : List PEn) : Nat → List PEn → Bool
  | _, [] => true
  | i, e :: r => decide (decode t.2.1 e.1 = .ok (e.2.1, e.2.2.1)) && chkI t lk cdl i e && chkS t lk cdl (i + 1) r
/-- what the checks say of one method -/
def okM (t : MT) (lk : List (Nat × Nat × Nat × Nat)) (cdl : List PEn) : Prop := ∀ (i : Nat) (e : PEn), cdl[i]? = some e → decode t.2.1 e.1 = .ok (e.2.1, e.2.2.1) ∧ chkI t lk cdl i e = true
theorem chkS_spec {t : MT} {lk : List (Nat × Nat × Nat × Nat)} {cdl : List PEn} : ∀ (l : List PEn) (b : Nat), chkS t lk cdl b l = true → ∀ (i : Nat) (e : PEn), l[i]? = some e → decode t.2.1 e.1 = .ok (e.2.1, e.2.2.1) ∧ chkI t lk cdl (b + i) e = true
  | [], _, _, i, e, h => by simp at h
  | x :: r, b, hc, i, e, h => by
    simp only [chkS, Bool.and_eq_true, decide_eq_true_eq] at hc
    cases i with
    | zero =>
      simp only [List.getElem?_cons_zero, Option.some.injEq] at h
      subst h
      exact ⟨hc.1.1, hc.1.2⟩
    | succ i =>
      rw [List.getElem?_cons_succ] at h
      have := chkS_spec r (b + 1) hc.2 i e h
      rw [Nat.add_right_comm] at this
      exact this
theorem okM_of {t : MT} {lk : List (Nat × Nat × Nat × Nat)} {cdl : List PEn} (h : chkS t lk cdl 0 cdl = true) : okM t lk cdl := fun i e he => by
  have := chkS_spec cdl 0 h i e he
  rwa [Nat.zero_add] at this
theorem chkS_app {t : MT} {lk : List (Nat × Nat × Nat × Nat)} {cdl : List PEn} : ∀ (a b : List PEn) (n : Nat), chkS t lk cdl n a = true → chkS t lk cdl (n + a.length) b = true → chkS t lk cdl n (a ++ b) = true
  | [], b, n, _, h => h
  | x :: a, b, n, h1, h2 => by
    simp only [chkS, Bool.and_eq_true] at h1
    rw [List.cons_append]
    simp only [chkS, Bool.and_eq_true]
    refine ⟨h1.1, chkS_app a b (n + 1) h1.2 ?_⟩
    rw [List.length_cons] at h2
    rw [show n + 1 + a.length = n + (a.length + 1) by omega]
    exact h2
theorem lk_of {o : Nat} {ps : List Nat} {ts : List (Nat × Nat × Nat × Nat)} (h : ps.map (fun i => lw_tbl[i]?) = ts.map (fun t => some (lkW o t))) (g : ts.all (fun t => t.1 == 2 || (t.1 == 6 || gdW (lkW o t))) = true) {t : Nat × Nat × Nat × Nat} (ht : t ∈ ts) (h2 : t.1 ≠ 2) (h6 : t.1 ≠ 6) : lkW o t ∈ TB := by
  have h1 : some (lkW o t) ∈ ts.map (fun t => some (lkW o t)) := List.mem_map.mpr ⟨t, ht, rfl⟩
  rw [← h] at h1
  obtain ⟨i, -, hi⟩ := List.mem_map.mp h1
  have := List.all_eq_true.mp g t ht
  simp only [Bool.or_eq_true, beq_iff_eq, h2, h6, false_or] at this
  exact TB_at i hi this
theorem lk_tb {o : Nat} {ps : List Nat} {ts : List (Nat × Nat × Nat × Nat)} (h : ps.map (fun i => lw_tbl[i]?) = ts.map (fun t => some (lkW o t))) {t : Nat × Nat × Nat × Nat} (ht : t ∈ ts) : lkW o t ∈ lw_tbl := by
  have h1 : some (lkW o t) ∈ ts.map (fun t => some (lkW o t)) := List.mem_map.mpr ⟨t, ht, rfl⟩
  rw [← h] at h1
  obtain ⟨i, -, hi⟩ := List.mem_map.mp h1
  exact List.mem_of_getElem? hi

theorem lk_0 : lkp_0.map (fun i => lw_tbl[i]?) = lks_0.map (fun t => some (lkW 0 t)) := by decide +kernel
theorem lkg_0 : lks_0.all (fun t => t.1 == 2 || (t.1 == 6 || gdW (lkW 0 t))) = true := by decide +kernel
theorem lk_1 : lkp_1.map (fun i => lw_tbl[i]?) = lks_1.map (fun t => some (lkW 1 t)) := by decide +kernel
theorem lkg_1 : lks_1.all (fun t => t.1 == 2 || (t.1 == 6 || gdW (lkW 1 t))) = true := by decide +kernel
theorem lk_2 : lkp_2.map (fun i => lw_tbl[i]?) = lks_2.map (fun t => some (lkW 2 t)) := by decide +kernel
theorem lkg_2 : lks_2.all (fun t => t.1 == 2 || (t.1 == 6 || gdW (lkW 2 t))) = true := by decide +kernel
theorem lk_3 : lkp_3.map (fun i => lw_tbl[i]?) = lks_3.map (fun t => some (lkW 3 t)) := by decide +kernel
theorem lkg_3 : lks_3.all (fun t => t.1 == 2 || (t.1 == 6 || gdW (lkW 3 t))) = true := by decide +kernel
theorem lk_4 : lkp_4.map (fun i => lw_tbl[i]?) = lks_4.map (fun t => some (lkW 4 t)) := by decide +kernel
theorem lkg_4 : lks_4.all (fun t => t.1 == 2 || (t.1 == 6 || gdW (lkW 4 t))) = true := by decide +kernel
theorem lk_5 : lkp_5.map (fun i => lw_tbl[i]?) = lks_5.map (fun t => some (lkW 5 t)) := by decide +kernel
theorem lkg_5 : lks_5.all (fun t => t.1 == 2 || (t.1 == 6 || gdW (lkW 5 t))) = true := by decide +kernel
theorem lk_6 : lkp_6.map (fun i => lw_tbl[i]?) = lks_6.map (fun t => some (lkW 6 t)) := by decide +kernel
theorem lkg_6 : lks_6.all (fun t => t.1 == 2 || (t.1 == 6 || gdW (lkW 6 t))) = true := by decide +kernel
theorem lk_7 : lkp_7.map (fun i => lw_tbl[i]?) = lks_7.map (fun t => some (lkW 7 t)) := by decide +kernel
theorem lkg_7 : lks_7.all (fun t => t.1 == 2 || (t.1 == 6 || gdW (lkW 7 t))) = true := by decide +kernel
theorem lk_8 : lkp_8.map (fun i => lw_tbl[i]?) = lks_8.map (fun t => some (lkW 8 t)) := by decide +kernel
theorem lkg_8 : lks_8.all (fun t => t.1 == 2 || (t.1 == 6 || gdW (lkW 8 t))) = true := by decide +kernel
theorem lk_9 : lkp_9.map (fun i => lw_tbl[i]?) = lks_9.map (fun t => some (lkW 9 t)) := by decide +kernel
theorem lkg_9 : lks_9.all (fun t => t.1 == 2 || (t.1 == 6 || gdW (lkW 9 t))) = true := by decide +kernel
theorem lk_10 : lkp_10.map (fun i => lw_tbl[i]?) = lks_10.map (fun t => some (lkW 10 t)) := by decide +kernel
theorem lkg_10 : lks_10.all (fun t => t.1 == 2 || (t.1 == 6 || gdW (lkW 10 t))) = true := by decide +kernel
theorem lk_11 : lkp_11.map (fun i => lw_tbl[i]?) = lks_11.map (fun t => some (lkW 11 t)) := by decide +kernel
theorem lkg_11 : lks_11.all (fun t => t.1 == 2 || (t.1 == 6 || gdW (lkW 11 t))) = true := by decide +kernel
theorem lk_12 : lkp_12.map (fun i => lw_tbl[i]?) = lks_12.map (fun t => some (lkW 12 t)) := by decide +kernel
theorem lkg_12 : lks_12.all (fun t => t.1 == 2 || (t.1 == 6 || gdW (lkW 12 t))) = true := by decide +kernel
theorem lk_13 : lkp_13.map (fun i => lw_tbl[i]?) = lks_13.map (fun t => some (lkW 13 t)) := by decide +kernel
theorem lkg_13 : lks_13.all (fun t => t.1 == 2 || (t.1 == 6 || gdW (lkW 13 t))) = true := by decide +kernel
theorem lk_14 : lkp_14.map (fun i => lw_tbl[i]?) = lks_14.map (fun t => some (lkW 14 t)) := by decide +kernel
theorem lkg_14 : lks_14.all (fun t => t.1 == 2 || (t.1 == 6 || gdW (lkW 14 t))) = true := by decide +kernel
theorem lk_ok : ∀ (o : Nat) (t : Nat × Nat × Nat × Nat), t ∈ lks o → t.1 ≠ 2 → t.1 ≠ 6 → lkW o t ∈ TB := by
  intro o t h h2 h6
  match o, h with
  | 0, h => exact lk_of lk_0 lkg_0 h h2 h6
  | 1, h => exact lk_of lk_1 lkg_1 h h2 h6
  | 2, h => exact lk_of lk_2 lkg_2 h h2 h6
  | 3, h => exact lk_of lk_3 lkg_3 h h2 h6
  | 4, h => exact lk_of lk_4 lkg_4 h h2 h6
  | 5, h => exact lk_of lk_5 lkg_5 h h2 h6
  | 6, h => exact lk_of lk_6 lkg_6 h h2 h6
  | 7, h => exact lk_of lk_7 lkg_7 h h2 h6
  | 8, h => exact lk_of lk_8 lkg_8 h h2 h6
  | 9, h => exact lk_of lk_9 lkg_9 h h2 h6
  | 10, h => exact lk_of lk_10 lkg_10 h h2 h6
  | 11, h => exact lk_of lk_11 lkg_11 h h2 h6
  | 12, h => exact lk_of lk_12 lkg_12 h h2 h6
  | 13, h => exact lk_of lk_13 lkg_13 h h2 h6
  | 14, h => exact lk_of lk_14 lkg_14 h h2 h6
  | n + 15, h => exact absurd h (by simp [lks])
theorem lk_in : ∀ (o : Nat) (t : Nat × Nat × Nat × Nat), t ∈ lks o → lkW o t ∈ lw_tbl := by
  intro o t h
  match o, h with
  | 0, h => exact lk_tb lk_0 h
  | 1, h => exact lk_tb lk_1 h
  | 2, h => exact lk_tb lk_2 h
  | 3, h => exact lk_tb lk_3 h
  | 4, h => exact lk_tb lk_4 h
  | 5, h => exact lk_tb lk_5 h
  | 6, h => exact lk_tb lk_6 h
  | 7, h => exact lk_tb lk_7 h
  | 8, h => exact lk_tb lk_8 h
  | 9, h => exact lk_tb lk_9 h
  | 10, h => exact lk_tb lk_10 h
  | 11, h => exact lk_tb lk_11 h
  | 12, h => exact lk_tb lk_12 h
  | 13, h => exact lk_tb lk_13 h
  | 14, h => exact lk_tb lk_14 h
  | n + 15, h => exact absurd h (by simp [lks])
def pCo : List Nat := [458, 838, 888, 907, 998, 1018, 1025, 1028, 1053, 1050, 1058, 1061, 1064, 1067, 1070, 1076, 1073, 409, 934, 939, 949, 953, 961, 970, 991, 974, 979, 984, 335, 785, 790, 943, 852, 856, 866, 862, 871, 875, 879, 883, 899, 490, 1200, 1207, 1213, 1226, 1234, 1230, 1217, 1221, 1247, 1253, 1257, 343, 814, 798, 802, 445, 1143, 1134, 1151, 1176, 1181, 1185, 1192, 1094, 1103, 1113, 1122, 915, 920, 924, 224, 826, 712, 822, 739, 148, 574, 732, 720, 724, 810, 781, 1002, 777, 794, 1080, 1160, 1164, 1168, 282, 570, 599, 708, 716, 682, 686, 704, 694, 603, 607, 669, 612, 678, 690, 578, 595, 585, 588, 591, 139, 550, 582, 566, 1013, 562, 744, 761, 131, 546, 554, 558, 728, 749, 753, 757, 768, 772, 806, 818, 830, 834, 895, 903, 911, 930, 957, 966, 995, 1009, 1022, 1038, 1043, 1047, 1085, 1090, 1099, 1109, 1118, 1130, 1139, 1147, 1156, 1172, 1196, 1238, 1243, 1031, 1034, 1262, 1420, 1409, 1413, 1432, 1435, 1450, 1446, 1443, 1440, 1428, 1462, 1474, 1470, 1458, 1490, 1466, 1486, 1478, 1482, 1454, 1497, 1494, 1501, 1507, 1504, 1424, 1417, 1511, 1519, 1555, 1583, 1527, 1559, 1543, 1586, 1539, 1535, 1547, 1531, 1551, 1523, 1602, 1571, 1575, 1515, 1567, 1563, 1579, 1594, 1590, 1598, 1606, 1616, 1613, 1610, 1624, 1620, 1632, 1628, 1637, 1641, 1645, 1653, 1657, 1665, 1661, 1673, 1669, 1681, 1677, 1649, 1685, 1693, 1689, 1697, 1705, 1701, 1713, 1709, 1725, 1729, 1721, 1717, 1737, 1741, 1745, 1749, 1733, 1757, 1753, 1769, 1781, 1785, 1789, 1793, 1797, 1777, 1773, 1765, 1761, 1805, 1801, 1813, 1809, 1821, 1817, 1833, 1829, 1841, 1837, 1845, 1825, 1849, 1861, 1857, 1853, 1873, 1869, 1865, 1878, 1882, 1886, 842]
def pIn : List Nat := [116, 116, 116, 116, 126, 126, 126, 126, 126, 126, 126, 126, 126, 126, 126, 126, 126, 114, 114, 114, 114, 114, 114, 114, 114, 114, 114, 114, 112, 112, 112, 112, 112, 112, 112, 112, 112, 112, 112, 112, 112, 117, 117, 117, 117, 117, 117, 117, 117, 117, 117, 117, 117, 113, 113, 113, 113, 115, 115, 115, 115, 115, 115, 115, 115, 115, 115, 115, 115, 115, 115, 115, 110, 110, 110, 110, 110, 109, 109, 109, 109, 109, 109, 109, 109, 109, 109, 109, 109, 109, 109, 111, 111, 111, 111, 111, 111, 111, 111, 111, 111, 111, 111, 111, 111, 111, 111, 111, 111, 111, 111, 108, 108, 108, 108, 108, 108, 108, 108, 107, 107, 107, 107, 107, 107, 107, 107, 107, 107, 107, 107, 107, 107, 107, 107, 107, 107, 107, 107, 107, 107, 107, 107, 107, 107, 107, 107, 107, 107, 107, 107, 107, 107, 107, 107, 107, 107, 107, 107, 107, 118, 118, 118, 118, 118, 118, 118, 118, 118, 118, 118, 118, 118, 118, 118, 118, 118, 118, 118, 118, 118, 118, 118, 118, 118, 118, 118, 118, 118, 118, 118, 118, 118, 118, 118, 118, 118, 118, 118, 118, 118, 118, 118, 118, 118, 118, 118, 118, 118, 118, 118, 118, 118, 118, 118, 118, 118, 118, 118, 118, 118, 118, 118, 118, 118, 118, 118, 118, 118, 118, 118, 118, 118, 118, 118, 118, 118, 118, 118, 118, 118, 118, 118, 118, 118, 118, 118, 118, 118, 118, 118, 118, 118, 118, 118, 118, 118, 118, 118, 118, 118, 118, 118, 118, 118, 118, 118, 118, 118, 118, 118, 118, 118, 118, 118, 118, 118, 118, 118, 118, 118, 118, 118, 124]
def pMe : List Nat := [457, 836, 887, 905, 997, 1017, 1024, 1027, 1052, 1049, 1057, 1060, 1063, 1066, 1069, 1075, 1072, 408, 932, 938, 948, 951, 959, 968, 989, 973, 978, 983, 334, 783, 788, 941, 850, 854, 864, 860, 870, 874, 878, 882, 897, 489, 1198, 1206, 1212, 1224, 1232, 1228, 1215, 1220, 1245, 1251, 1255, 342, 812, 796, 801, 444, 1141, 1132, 1149, 1174, 1179, 1183, 1190, 1092, 1101, 1111, 1120, 913, 918, 923, 223, 824, 710, 820, 737, 147, 572, 730, 718, 722, 808, 779, 1000, 775, 792, 1078, 1158, 1162, 1166, 281, 568, 598, 707, 715, 681, 685, 703, 693, 602, 606, 668, 611, 677, 689, 577, 594, 584, 587, 590, 138, 548, 580, 564, 1011, 560, 742, 759, 130, 544, 552, 556, 727, 747, 751, 755, 766, 770, 805, 816, 828, 832, 893, 901, 909, 928, 955, 964, 993, 1007, 1020, 1036, 1041, 1045, 1083, 1088, 1097, 1107, 1116, 1128, 1137, 1145, 1154, 1170, 1194, 1236, 1241, 1030, 1033, 1261, 1419, 1407, 1411, 1431, 1434, 1449, 1445, 1442, 1439, 1427, 1461, 1473, 1469, 1457, 1489, 1465, 1485, 1477, 1481, 1453, 1496, 1493, 1500, 1506, 1503, 1423, 1415, 1509, 1518, 1554, 1582, 1526, 1558, 1542, 1585, 1538, 1534, 1546, 1530, 1550, 1522, 1601, 1570, 1574, 1513, 1566, 1561, 1577, 1593, 1588, 1596, 1604, 1615, 1612, 1608, 1623, 1618, 1631, 1626, 1635, 1639, 1643, 1652, 1656, 1664, 1660, 1672, 1668, 1680, 1676, 1647, 1683, 1692, 1687, 1695, 1704, 1699, 1712, 1707, 1724, 1728, 1720, 1715, 1736, 1740, 1744, 1748, 1731, 1756, 1751, 1768, 1780, 1784, 1788, 1792, 1796, 1776, 1772, 1764, 1759, 1804, 1799, 1812, 1807, 1820, 1815, 1832, 1828, 1840, 1836, 1844, 1823, 1847, 1860, 1856, 1851, 1872, 1868, 1863, 1876, 1880, 1884, 841]
def pSe : List Nat := [0, 837, 22, 906, 0, 0, 0, 0, 0, 0, 0, 0, 0, 0, 0, 0, 0, 0, 933, 24, 25, 952, 960, 969, 990, 26, 27, 28, 0, 784, 789, 942, 851, 855, 865, 861, 18, 19, 20, 21, 898, 0, 1199, 29, 30, 1225, 1233, 1229, 1216, 31, 1246, 1252, 1256, 0, 813, 797, 16, 0, 1142, 1133, 1150, 1175, 1180, 1184, 1191, 1093, 1102, 1112, 1121, 914, 919, 23, 0, 825, 711, 821, 738, 0, 573, 731, 719, 723, 809, 780, 1001, 776, 793, 1079, 1159, 1163, 1167, 0, 569, 2, 13, 14, 8, 9, 12, 11, 3, 4, 6, 5, 7, 10, 0, 1, 0, 0, 0, 0, 549, 581, 565, 1012, 561, 743, 760, 0, 545, 553, 557, 15, 748, 752, 756, 767, 771, 17, 817, 829, 833, 894, 902, 910, 929, 956, 965, 994, 1008, 1021, 1037, 1042, 1046, 1084, 1089, 1098, 1108, 1117, 1129, 1138, 1146, 1155, 1171, 1195, 1237, 1242, 0, 0, 0, 0, 1408, 1412, 34, 0, 0, 0, 0, 0, 33, 37, 40, 39, 36, 44, 38, 43, 41, 42, 35, 0, 45, 46, 0, 0, 32, 1416, 1510, 47, 56, 61, 49, 57, 53, 0, 52, 51, 54, 50, 55, 48, 63, 59, 60, 1514, 58, 1562, 1578, 62, 1589, 1597, 1605, 0, 0, 1609, 64, 1619, 65, 1627, 1636, 1640, 1644, 66, 67, 69, 68, 71, 70, 73, 72, 1648, 1684, 74, 1688, 1696, 75, 1700, 76, 1708, 78, 79, 77, 1716, 80, 81, 82, 83, 1732, 84, 1752, 86, 89, 90, 91, 92, 93, 88, 87, 85, 1760, 94, 1800, 95, 1808, 96, 1816, 98, 97, 100, 99, 101, 1824, 1848, 103, 102, 1852, 105, 104, 1864, 1877, 1881, 1885, 0]
def mK (k : Nat) : Nat := mKd.getD k 0
set_option maxRecDepth 20000 in
theorem mco_0 : Cond.code (mY 0) (mC 0) (mL 0) (mR 0) ∈ lw_tbl := List.mem_append_right _ (List.mem_append_right _ (List.mem_append_left _ (List.mem_of_getElem? (i := 112) rfl)))
set_option maxRecDepth 20000 in
theorem mco_1 : Cond.code (mY 1) (mC 1) (mL 1) (mR 1) ∈ lw_tbl := List.mem_append_right _ (List.mem_append_right _ (List.mem_append_right _ (List.mem_append_right _ (List.mem_append_left _ (List.mem_of_getElem? (i := 12) rfl)))))
set_option maxRecDepth 20000 in
theorem mco_2 : Cond.code (mY 2) (mC 2) (mL 2) (mR 2) ∈ lw_tbl := List.mem_append_right _ (List.mem_append_right _ (List.mem_append_right _ (List.mem_append_right _ (List.mem_append_left _ (List.mem_of_getElem? (i := 62) rfl)))))
set_option maxRecDepth 20000 in
theorem mco_3 : Cond.code (mY 3) (mC 3) (mL 3) (mR 3) ∈ lw_tbl := List.mem_append_right _ (List.mem_append_right _ (List.mem_append_right _ (List.mem_append_right _ (List.mem_append_left _ (List.mem_of_getElem? (i := 81) rfl)))))
set_option maxRecDepth 20000 in
theorem mco_4 : Cond.code (mY 4) (mC 4) (mL 4) (mR 4) ∈ lw_tbl := List.mem_append_right _ (List.mem_append_right _ (List.mem_append_right _ (List.mem_append_right _ (List.mem_append_left _ (List.mem_of_getElem? (i := 172) rfl)))))
set_option maxRecDepth 20000 in
theorem mco_5 : Cond.code (mY 5) (mC 5) (mL 5) (mR 5) ∈ lw_tbl := List.mem_append_right _ (List.mem_append_right _ (List.mem_append_right _ (List.mem_append_right _ (List.mem_append_left _ (List.mem_of_getElem? (i := 192) rfl)))))
set_option maxRecDepth 20000 in
theorem mco_6 : Cond.code (mY 6) (mC 6) (mL 6) (mR 6) ∈ lw_tbl := List.mem_append_right _ (List.mem_append_right _ (List.mem_append_right _ (List.mem_append_right _ (List.mem_append_left _ (List.mem_of_getElem? (i := 199) rfl)))))
set_option maxRecDepth 20000 in
theorem mco_7 : Cond.code (mY 7) (mC 7) (mL 7) (mR 7) ∈ lw_tbl := List.mem_append_right _ (List.mem_append_right _ (List.mem_append_right _ (List.mem_append_right _ (List.mem_append_left _ (List.mem_of_getElem? (i := 202) rfl)))))
set_option maxRecDepth 20000 in
theorem mco_8 : Cond.code (mY 8) (mC 8) (mL 8) (mR 8) ∈ lw_tbl := List.mem_append_right _ (List.mem_append_right _ (List.mem_append_right _ (List.mem_append_right _ (List.mem_append_left _ (List.mem_of_getElem? (i := 227) rfl)))))
set_option maxRecDepth 20000 in
theorem mco_9 : Cond.code (mY 9) (mC 9) (mL 9) (mR 9) ∈ lw_tbl := List.mem_append_right _ (List.mem_append_right _ (List.mem_append_right _ (List.mem_append_right _ (List.mem_append_left _ (List.mem_of_getElem? (i := 224) rfl)))))
set_option maxRecDepth 20000 in
theorem mco_10 : Cond.code (mY 10) (mC 10) (mL 10) (mR 10) ∈ lw_tbl := List.mem_append_right _ (List.mem_append_right _ (List.mem_append_right _ (List.mem_append_right _ (List.mem_append_left _ (List.mem_of_getElem? (i := 232) rfl)))))
set_option maxRecDepth 20000 in
theorem mco_11 : Cond.code (mY 11) (mC 11) (mL 11) (mR 11) ∈ lw_tbl := List.mem_append_right _ (List.mem_append_right _ (List.mem_append_right _ (List.mem_append_right _ (List.mem_append_left _ (List.mem_of_getElem? (i := 235) rfl)))))
set_option maxRecDepth 20000 in
theorem mco_12 : Cond.code (mY 12) (mC 12) (mL 12) (mR 12) ∈ lw_tbl := List.mem_append_right _ (List.mem_append_right _ (List.mem_append_right _ (List.mem_append_right _ (List.mem_append_left _ (List.mem_of_getElem? (i := 238) rfl)))))
set_option maxRecDepth 20000 in
theorem mco_13 : Cond.code (mY 13) (mC 13) (mL 13) (mR 13) ∈ lw_tbl := List.mem_append_right _ (List.mem_append_right _ (List.mem_append_right _ (List.mem_append_right _ (List.mem_append_right _ (List.mem_append_left _ (List.mem_of_getElem? (i := 1) rfl))))))
set_option maxRecDepth 20000 in
theorem mco_14 : Cond.code (mY 14) (mC 14) (mL 14) (mR 14) ∈ lw_tbl := List.mem_append_right _ (List.mem_append_right _ (List.mem_append_right _ (List.mem_append_right _ (List.mem_append_right _ (List.mem_append_left _ (List.mem_of_getElem? (i := 4) rfl))))))
set_option maxRecDepth 20000 in
theorem mco_15 : Cond.code (mY 15) (mC 15) (mL 15) (mR 15) ∈ lw_tbl := List.mem_append_right _ (List.mem_append_right _ (List.mem_append_right _ (List.mem_append_right _ (List.mem_append_right _ (List.mem_append_left _ (List.mem_of_getElem? (i := 10) rfl))))))
set_option maxRecDepth 20000 in
theorem mco_16 : Cond.code (mY 16) (mC 16) (mL 16) (mR 16) ∈ lw_tbl := List.mem_append_right _ (List.mem_append_right _ (List.mem_append_right _ (List.mem_append_right _ (List.mem_append_right _ (List.mem_append_left _ (List.mem_of_getElem? (i := 7) rfl))))))
set_option maxRecDepth 20000 in
theorem mco_17 : Cond.code (mY 17) (mC 17) (mL 17) (mR 17) ∈ lw_tbl := List.mem_append_right _ (List.mem_append_right _ (List.mem_append_left _ (List.mem_of_getElem? (i := 63) rfl)))
set_option maxRecDepth 20000 in
theorem mco_18 : Cond.code (mY 18) (mC 18) (mL 18) (mR 18) ∈ lw_tbl := List.mem_append_right _ (List.mem_append_right _ (List.mem_append_right _ (List.mem_append_right _ (List.mem_append_left _ (List.mem_of_getElem? (i := 108) rfl)))))
set_option maxRecDepth 20000 in
theorem mco_19 : Cond.code (mY 19) (mC 19) (mL 19) (mR 19) ∈ lw_tbl := List.mem_append_right _ (List.mem_append_right _ (List.mem_append_right _ (List.mem_append_right _ (List.mem_append_left _ (List.mem_of_getElem? (i := 113) rfl)))))
set_option maxRecDepth 20000 in
theorem mco_20 : Cond.code (mY 20) (mC 20) (mL 20) (mR 20) ∈ lw_tbl := List.mem_append_right _ (List.mem_append_right _ (List.mem_append_right _ (List.mem_append_right _ (List.mem_append_left _ (List.mem_of_getElem? (i := 123) rfl)))))
set_option maxRecDepth 20000 in
theorem mco_21 : Cond.code (mY 21) (mC 21) (mL 21) (mR 21) ∈ lw_tbl := List.mem_append_right _ (List.mem_append_right _ (List.mem_append_right _ (List.mem_append_right _ (List.mem_append_left _ (List.mem_of_getElem? (i := 127) rfl)))))
set_option maxRecDepth 20000 in
theorem mco_22 : Cond.code (mY 22) (mC 22) (mL 22) (mR 22) ∈ lw_tbl := List.mem_append_right _ (List.mem_append_right _ (List.mem_append_right _ (List.mem_append_right _ (List.mem_append_left _ (List.mem_of_getElem? (i := 135) rfl)))))
set_option maxRecDepth 20000 in
theorem mco_23 : Cond.code (mY 23) (mC 23) (mL 23) (mR 23) ∈ lw_tbl := List.mem_append_right _ (List.mem_append_right _ (List.mem_append_right _ (List.mem_append_right _ (List.mem_append_left _ (List.mem_of_getElem? (i := 144) rfl)))))
set_option maxRecDepth 20000 in
theorem mco_24 : Cond.code (mY 24) (mC 24) (mL 24) (mR 24) ∈ lw_tbl := List.mem_append_right _ (List.mem_append_right _ (List.mem_append_right _ (List.mem_append_right _ (List.mem_append_left _ (List.mem_of_getElem? (i := 165) rfl)))))
set_option maxRecDepth 20000 in
theorem mco_25 : Cond.code (mY 25) (mC 25) (mL 25) (mR 25) ∈ lw_tbl := List.mem_append_right _ (List.mem_append_right _ (List.mem_append_right _ (List.mem_append_right _ (List.mem_append_left _ (List.mem_of_getElem? (i := 148) rfl)))))
set_option maxRecDepth 20000 in
theorem mco_26 : Cond.code (mY 26) (mC 26) (mL 26) (mR 26) ∈ lw_tbl := List.mem_append_right _ (List.mem_append_right _ (List.mem_append_right _ (List.mem_append_right _ (List.mem_append_left _ (List.mem_of_getElem? (i := 153) rfl)))))
set_option maxRecDepth 20000 in
theorem mco_27 : Cond.code (mY 27) (mC 27) (mL 27) (mR 27) ∈ lw_tbl := List.mem_append_right _ (List.mem_append_right _ (List.mem_append_right _ (List.mem_append_right _ (List.mem_append_left _ (List.mem_of_getElem? (i := 158) rfl)))))
set_option maxRecDepth 20000 in
theorem mco_28 : Cond.code (mY 28) (mC 28) (mL 28) (mR 28) ∈ lw_tbl := List.mem_append_right _ (List.mem_append_left _ (List.mem_of_getElem? (i := 229) rfl))
set_option maxRecDepth 20000 in
theorem mco_29 : Cond.code (mY 29) (mC 29) (mL 29) (mR 29) ∈ lw_tbl := List.mem_append_right _ (List.mem_append_right _ (List.mem_append_right _ (List.mem_append_left _ (List.mem_of_getElem? (i := 199) rfl))))
set_option maxRecDepth 20000 in
theorem mco_30 : Cond.code (mY 30) (mC 30) (mL 30) (mR 30) ∈ lw_tbl := List.mem_append_right _ (List.mem_append_right _ (List.mem_append_right _ (List.mem_append_left _ (List.mem_of_getElem? (i := 204) rfl))))
set_option maxRecDepth 20000 in
theorem mco_31 : Cond.code (mY 31) (mC 31) (mL 31) (mR 31) ∈ lw_tbl := List.mem_append_right _ (List.mem_append_right _ (List.mem_append_right _ (List.mem_append_right _ (List.mem_append_left _ (List.mem_of_getElem? (i := 117) rfl)))))
set_option maxRecDepth 20000 in
theorem mco_32 : Cond.code (mY 32) (mC 32) (mL 32) (mR 32) ∈ lw_tbl := List.mem_append_right _ (List.mem_append_right _ (List.mem_append_right _ (List.mem_append_right _ (List.mem_append_left _ (List.mem_of_getElem? (i := 26) rfl)))))
set_option maxRecDepth 20000 in
theorem mco_33 : Cond.code (mY 33) (mC 33) (mL 33) (mR 33) ∈ lw_tbl := List.mem_append_right _ (List.mem_append_right _ (List.mem_append_right _ (List.mem_append_right _ (List.mem_append_left _ (List.mem_of_getElem? (i := 30) rfl)))))
set_option maxRecDepth 20000 in
theorem mco_34 : Cond.code (mY 34) (mC 34) (mL 34) (mR 34) ∈ lw_tbl := List.mem_append_right _ (List.mem_append_right _ (List.mem_append_right _ (List.mem_append_right _ (List.mem_append_left _ (List.mem_of_getElem? (i := 40) rfl)))))
set_option maxRecDepth 20000 in
theorem mco_35 : Cond.code (mY 35) (mC 35) (mL 35) (mR 35) ∈ lw_tbl := List.mem_append_right _ (List.mem_append_right _ (List.mem_append_right _ (List.mem_append_right _ (List.mem_append_left _ (List.mem_of_getElem? (i := 36) rfl)))))
set_option maxRecDepth 20000 in
theorem mco_36 : Cond.code (mY 36) (mC 36) (mL 36) (mR 36) ∈ lw_tbl := List.mem_append_right _ (List.mem_append_right _ (List.mem_append_right _ (List.mem_append_right _ (List.mem_append_left _ (List.mem_of_getElem? (i := 45) rfl)))))
set_option maxRecDepth 20000 in
theorem mco_37 : Cond.code (mY 37) (mC 37) (mL 37) (mR 37) ∈ lw_tbl := List.mem_append_right _ (List.mem_append_right _ (List.mem_append_right _ (List.mem_append_right _ (List.mem_append_left _ (List.mem_of_getElem? (i := 49) rfl)))))
set_option maxRecDepth 20000 in
theorem mco_38 : Cond.code (mY 38) (mC 38) (mL 38) (mR 38) ∈ lw_tbl := List.mem_append_right _ (List.mem_append_right _ (List.mem_append_right _ (List.mem_append_right _ (List.mem_append_left _ (List.mem_of_getElem? (i := 53) rfl)))))
set_option maxRecDepth 20000 in
theorem mco_39 : Cond.code (mY 39) (mC 39) (mL 39) (mR 39) ∈ lw_tbl := List.mem_append_right _ (List.mem_append_right _ (List.mem_append_right _ (List.mem_append_right _ (List.mem_append_left _ (List.mem_of_getElem? (i := 57) rfl)))))
set_option maxRecDepth 20000 in
theorem mco_40 : Cond.code (mY 40) (mC 40) (mL 40) (mR 40) ∈ lw_tbl := List.mem_append_right _ (List.mem_append_right _ (List.mem_append_right _ (List.mem_append_right _ (List.mem_append_left _ (List.mem_of_getElem? (i := 73) rfl)))))
set_option maxRecDepth 20000 in
theorem mco_41 : Cond.code (mY 41) (mC 41) (mL 41) (mR 41) ∈ lw_tbl := List.mem_append_right _ (List.mem_append_right _ (List.mem_append_left _ (List.mem_of_getElem? (i := 144) rfl)))
set_option maxRecDepth 20000 in
theorem mco_42 : Cond.code (mY 42) (mC 42) (mL 42) (mR 42) ∈ lw_tbl := List.mem_append_right _ (List.mem_append_right _ (List.mem_append_right _ (List.mem_append_right _ (List.mem_append_right _ (List.mem_append_left _ (List.mem_of_getElem? (i := 134) rfl))))))
set_option maxRecDepth 20000 in
theorem mco_43 : Cond.code (mY 43) (mC 43) (mL 43) (mR 43) ∈ lw_tbl := List.mem_append_right _ (List.mem_append_right _ (List.mem_append_right _ (List.mem_append_right _ (List.mem_append_right _ (List.mem_append_left _ (List.mem_of_getElem? (i := 141) rfl))))))
set_option maxRecDepth 20000 in
theorem mco_44 : Cond.code (mY 44) (mC 44) (mL 44) (mR 44) ∈ lw_tbl := List.mem_append_right _ (List.mem_append_right _ (List.mem_append_right _ (List.mem_append_right _ (List.mem_append_right _ (List.mem_append_left _ (List.mem_of_getElem? (i := 147) rfl))))))
set_option maxRecDepth 20000 in
theorem mco_45 : Cond.code (mY 45) (mC 45) (mL 45) (mR 45) ∈ lw_tbl := List.mem_append_right _ (List.mem_append_right _ (List.mem_append_right _ (List.mem_append_right _ (List.mem_append_right _ (List.mem_append_left _ (List.mem_of_getElem? (i := 160) rfl))))))
set_option maxRecDepth 20000 in
theorem mco_46 : Cond.code (mY 46) (mC 46) (mL 46) (mR 46) ∈ lw_tbl := List.mem_append_right _ (List.mem_append_right _ (List.mem_append_right _ (List.mem_append_right _ (List.mem_append_right _ (List.mem_append_left _ (List.mem_of_getElem? (i := 168) rfl))))))
set_option maxRecDepth 20000 in
theorem mco_47 : Cond.code (mY 47) (mC 47) (mL 47) (mR 47) ∈ lw_tbl := List.mem_append_right _ (List.mem_append_right _ (List.mem_append_right _ (List.mem_append_right _ (List.mem_append_right _ (List.mem_append_left _ (List.mem_of_getElem? (i := 164) rfl))))))
set_option maxRecDepth 20000 in
theorem mco_48 : Cond.code (mY 48) (mC 48) (mL 48) (mR 48) ∈ lw_tbl := List.mem_append_right _ (List.mem_append_right _ (List.mem_append_right _ (List.mem_append_right _ (List.mem_append_right _ (List.mem_append_left _ (List.mem_of_getElem? (i := 151) rfl))))))
set_option maxRecDepth 20000 in
theorem mco_49 : Cond.code (mY 49) (mC 49) (mL 49) (mR 49) ∈ lw_tbl := List.mem_append_right _ (List.mem_append_right _ (List.mem_append_right _ (List.mem_append_right _ (List.mem_append_right _ (List.mem_append_left _ (List.mem_of_getElem? (i := 155) rfl))))))
set_option maxRecDepth 20000 in
theorem mco_50 : Cond.code (mY 50) (mC 50) (mL 50) (mR 50) ∈ lw_tbl := List.mem_append_right _ (List.mem_append_right _ (List.mem_append_right _ (List.mem_append_right _ (List.mem_append_right _ (List.mem_append_left _ (List.mem_of_getElem? (i := 181) rfl))))))
set_option maxRecDepth 20000 in
theorem mco_51 : Cond.code (mY 51) (mC 51) (mL 51) (mR 51) ∈ lw_tbl := List.mem_append_right _ (List.mem_append_right _ (List.mem_append_right _ (List.mem_append_right _ (List.mem_append_right _ (List.mem_append_left _ (List.mem_of_getElem? (i := 187) rfl))))))
set_option maxRecDepth 20000 in
theorem mco_52 : Cond.code (mY 52) (mC 52) (mL 52) (mR 52) ∈ lw_tbl := List.mem_append_right _ (List.mem_append_right _ (List.mem_append_right _ (List.mem_append_right _ (List.mem_append_right _ (List.mem_append_left _ (List.mem_of_getElem? (i := 191) rfl))))))
set_option maxRecDepth 20000 in
theorem mco_53 : Cond.code (mY 53) (mC 53) (mL 53) (mR 53) ∈ lw_tbl := List.mem_append_right _ (List.mem_append_left _ (List.mem_of_getElem? (i := 237) rfl))
set_option maxRecDepth 20000 in
theorem mco_54 : Cond.code (mY 54) (mC 54) (mL 54) (mR 54) ∈ lw_tbl := List.mem_append_right _ (List.mem_append_right _ (List.mem_append_right _ (List.mem_append_left _ (List.mem_of_getElem? (i := 228) rfl))))
set_option maxRecDepth 20000 in
theorem mco_55 : Cond.code (mY 55) (mC 55) (mL 55) (mR 55) ∈ lw_tbl := List.mem_append_right _ (List.mem_append_right _ (List.mem_append_right _ (List.mem_append_left _ (List.mem_of_getElem? (i := 212) rfl))))
set_option maxRecDepth 20000 in
theorem mco_56 : Cond.code (mY 56) (mC 56) (mL 56) (mR 56) ∈ lw_tbl := List.mem_append_right _ (List.mem_append_right _ (List.mem_append_right _ (List.mem_append_left _ (List.mem_of_getElem? (i := 216) rfl))))
set_option maxRecDepth 20000 in
theorem mco_57 : Cond.code (mY 57) (mC 57) (mL 57) (mR 57) ∈ lw_tbl := List.mem_append_right _ (List.mem_append_right _ (List.mem_append_left _ (List.mem_of_getElem? (i := 99) rfl)))
set_option maxRecDepth 20000 in
theorem mco_58 : Cond.code (mY 58) (mC 58) (mL 58) (mR 58) ∈ lw_tbl := List.mem_append_right _ (List.mem_append_right _ (List.mem_append_right _ (List.mem_append_right _ (List.mem_append_right _ (List.mem_append_left _ (List.mem_of_getElem? (i := 77) rfl))))))
set_option maxRecDepth 20000 in
theorem mco_59 : Cond.code (mY 59) (mC 59) (mL 59) (mR 59) ∈ lw_tbl := List.mem_append_right _ (List.mem_append_right _ (List.mem_append_right _ (List.mem_append_right _ (List.mem_append_right _ (List.mem_append_left _ (List.mem_of_getElem? (i := 68) rfl))))))
set_option maxRecDepth 20000 in
theorem mco_60 : Cond.code (mY 60) (mC 60) (mL 60) (mR 60) ∈ lw_tbl := List.mem_append_right _ (List.mem_append_right _ (List.mem_append_right _ (List.mem_append_right _ (List.mem_append_right _ (List.mem_append_left _ (List.mem_of_getElem? (i := 85) rfl))))))
set_option maxRecDepth 20000 in
theorem mco_61 : Cond.code (mY 61) (mC 61) (mL 61) (mR 61) ∈ lw_tbl := List.mem_append_right _ (List.mem_append_right _ (List.mem_append_right _ (List.mem_append_right _ (List.mem_append_right _ (List.mem_append_left _ (List.mem_of_getElem? (i := 110) rfl))))))
set_option maxRecDepth 20000 in
theorem mco_62 : Cond.code (mY 62) (mC 62) (mL 62) (mR 62) ∈ lw_tbl := List.mem_append_right _ (List.mem_append_right _ (List.mem_append_right _ (List.mem_append_right _ (List.mem_append_right _ (List.mem_append_left _ (List.mem_of_getElem? (i := 115) rfl))))))
set_option maxRecDepth 20000 in
theorem mco_63 : Cond.code (mY 63) (mC 63) (mL 63) (mR 63) ∈ lw_tbl := List.mem_append_right _ (List.mem_append_right _ (List.mem_append_right _ (List.mem_append_right _ (List.mem_append_right _ (List.mem_append_left _ (List.mem_of_getElem? (i := 119) rfl))))))
set_option maxRecDepth 20000 in
theorem mco_64 : Cond.code (mY 64) (mC 64) (mL 64) (mR 64) ∈ lw_tbl := List.mem_append_right _ (List.mem_append_right _ (List.mem_append_right _ (List.mem_append_right _ (List.mem_append_right _ (List.mem_append_left _ (List.mem_of_getElem? (i := 126) rfl))))))
set_option maxRecDepth 20000 in
theorem mco_65 : Cond.code (mY 65) (mC 65) (mL 65) (mR 65) ∈ lw_tbl := List.mem_append_right _ (List.mem_append_right _ (List.mem_append_right _ (List.mem_append_right _ (List.mem_append_right _ (List.mem_append_left _ (List.mem_of_getElem? (i := 28) rfl))))))
set_option maxRecDepth 20000 in
theorem mco_66 : Cond.code (mY 66) (mC 66) (mL 66) (mR 66) ∈ lw_tbl := List.mem_append_right _ (List.mem_append_right _ (List.mem_append_right _ (List.mem_append_right _ (List.mem_append_right _ (List.mem_append_left _ (List.mem_of_getElem? (i := 37) rfl))))))
set_option maxRecDepth 20000 in
theorem mco_67 : Cond.code (mY 67) (mC 67) (mL 67) (mR 67) ∈ lw_tbl := List.mem_append_right _ (List.mem_append_right _ (List.mem_append_right _ (List.mem_append_right _ (List.mem_append_right _ (List.mem_append_left _ (List.mem_of_getElem? (i := 47) rfl))))))
set_option maxRecDepth 20000 in
theorem mco_68 : Cond.code (mY 68) (mC 68) (mL 68) (mR 68) ∈ lw_tbl := List.mem_append_right _ (List.mem_append_right _ (List.mem_append_right _ (List.mem_append_right _ (List.mem_append_right _ (List.mem_append_left _ (List.mem_of_getElem? (i := 56) rfl))))))
set_option maxRecDepth 20000 in
theorem mco_69 : Cond.code (mY 69) (mC 69) (mL 69) (mR 69) ∈ lw_tbl := List.mem_append_right _ (List.mem_append_right _ (List.mem_append_right _ (List.mem_append_right _ (List.mem_append_left _ (List.mem_of_getElem? (i := 89) rfl)))))
set_option maxRecDepth 20000 in
theorem mco_70 : Cond.code (mY 70) (mC 70) (mL 70) (mR 70) ∈ lw_tbl := List.mem_append_right _ (List.mem_append_right _ (List.mem_append_right _ (List.mem_append_right _ (List.mem_append_left _ (List.mem_of_getElem? (i := 94) rfl)))))
set_option maxRecDepth 20000 in
theorem mco_71 : Cond.code (mY 71) (mC 71) (mL 71) (mR 71) ∈ lw_tbl := List.mem_append_right _ (List.mem_append_right _ (List.mem_append_right _ (List.mem_append_right _ (List.mem_append_left _ (List.mem_of_getElem? (i := 98) rfl)))))
set_option maxRecDepth 20000 in
theorem mco_72 : Cond.code (mY 72) (mC 72) (mL 72) (mR 72) ∈ lw_tbl := List.mem_append_right _ (List.mem_append_left _ (List.mem_of_getElem? (i := 118) rfl))
set_option maxRecDepth 20000 in
theorem mco_73 : Cond.code (mY 73) (mC 73) (mL 73) (mR 73) ∈ lw_tbl := List.mem_append_right _ (List.mem_append_right _ (List.mem_append_right _ (List.mem_append_right _ (List.mem_append_left _ (List.mem_of_getElem? (i := 0) rfl)))))
set_option maxRecDepth 20000 in
theorem mco_74 : Cond.code (mY 74) (mC 74) (mL 74) (mR 74) ∈ lw_tbl := List.mem_append_right _ (List.mem_append_right _ (List.mem_append_right _ (List.mem_append_left _ (List.mem_of_getElem? (i := 126) rfl))))
set_option maxRecDepth 20000 in
theorem mco_75 : Cond.code (mY 75) (mC 75) (mL 75) (mR 75) ∈ lw_tbl := List.mem_append_right _ (List.mem_append_right _ (List.mem_append_right _ (List.mem_append_left _ (List.mem_of_getElem? (i := 236) rfl))))
set_option maxRecDepth 20000 in
theorem mco_76 : Cond.code (mY 76) (mC 76) (mL 76) (mR 76) ∈ lw_tbl := List.mem_append_right _ (List.mem_append_right _ (List.mem_append_right _ (List.mem_append_left _ (List.mem_of_getElem? (i := 153) rfl))))
set_option maxRecDepth 20000 in
theorem mco_77 : Cond.code (mY 77) (mC 77) (mL 77) (mR 77) ∈ lw_tbl := List.mem_append_right _ (List.mem_append_left _ (List.mem_of_getElem? (i := 42) rfl))
set_option maxRecDepth 20000 in
theorem mco_78 : Cond.code (mY 78) (mC 78) (mL 78) (mR 78) ∈ lw_tbl := List.mem_append_right _ (List.mem_append_right _ (List.mem_append_left _ (List.mem_of_getElem? (i := 228) rfl)))
set_option maxRecDepth 20000 in
theorem mco_79 : Cond.code (mY 79) (mC 79) (mL 79) (mR 79) ∈ lw_tbl := List.mem_append_right _ (List.mem_append_right _ (List.mem_append_right _ (List.mem_append_left _ (List.mem_of_getElem? (i := 146) rfl))))
set_option maxRecDepth 20000 in
theorem mco_80 : Cond.code (mY 80) (mC 80) (mL 80) (mR 80) ∈ lw_tbl := List.mem_append_right _ (List.mem_append_right _ (List.mem_append_right _ (List.mem_append_left _ (List.mem_of_getElem? (i := 134) rfl))))
set_option maxRecDepth 20000 in
theorem mco_81 : Cond.code (mY 81) (mC 81) (mL 81) (mR 81) ∈ lw_tbl := List.mem_append_right _ (List.mem_append_right _ (List.mem_append_right _ (List.mem_append_left _ (List.mem_of_getElem? (i := 138) rfl))))
set_option maxRecDepth 20000 in
theorem mco_82 : Cond.code (mY 82) (mC 82) (mL 82) (mR 82) ∈ lw_tbl := List.mem_append_right _ (List.mem_append_right _ (List.mem_append_right _ (List.mem_append_left _ (List.mem_of_getElem? (i := 224) rfl))))
set_option maxRecDepth 20000 in
theorem mco_83 : Cond.code (mY 83) (mC 83) (mL 83) (mR 83) ∈ lw_tbl := List.mem_append_right _ (List.mem_append_right _ (List.mem_append_right _ (List.mem_append_left _ (List.mem_of_getElem? (i := 195) rfl))))
set_option maxRecDepth 20000 in
theorem mco_84 : Cond.code (mY 84) (mC 84) (mL 84) (mR 84) ∈ lw_tbl := List.mem_append_right _ (List.mem_append_right _ (List.mem_append_right _ (List.mem_append_right _ (List.mem_append_left _ (List.mem_of_getElem? (i := 176) rfl)))))
set_option maxRecDepth 20000 in
theorem mco_85 : Cond.code (mY 85) (mC 85) (mL 85) (mR 85) ∈ lw_tbl := List.mem_append_right _ (List.mem_append_right _ (List.mem_append_right _ (List.mem_append_left _ (List.mem_of_getElem? (i := 191) rfl))))
set_option maxRecDepth 20000 in
theorem mco_86 : Cond.code (mY 86) (mC 86) (mL 86) (mR 86) ∈ lw_tbl := List.mem_append_right _ (List.mem_append_right _ (List.mem_append_right _ (List.mem_append_left _ (List.mem_of_getElem? (i := 208) rfl))))
set_option maxRecDepth 20000 in
theorem mco_87 : Cond.code (mY 87) (mC 87) (mL 87) (mR 87) ∈ lw_tbl := List.mem_append_right _ (List.mem_append_right _ (List.mem_append_right _ (List.mem_append_right _ (List.mem_append_right _ (List.mem_append_left _ (List.mem_of_getElem? (i := 14) rfl))))))
set_option maxRecDepth 20000 in
theorem mco_88 : Cond.code (mY 88) (mC 88) (mL 88) (mR 88) ∈ lw_tbl := List.mem_append_right _ (List.mem_append_right _ (List.mem_append_right _ (List.mem_append_right _ (List.mem_append_right _ (List.mem_append_left _ (List.mem_of_getElem? (i := 94) rfl))))))
set_option maxRecDepth 20000 in
theorem mco_89 : Cond.code (mY 89) (mC 89) (mL 89) (mR 89) ∈ lw_tbl := List.mem_append_right _ (List.mem_append_right _ (List.mem_append_right _ (List.mem_append_right _ (List.mem_append_right _ (List.mem_append_left _ (List.mem_of_getElem? (i := 98) rfl))))))
set_option maxRecDepth 20000 in
theorem mco_90 : Cond.code (mY 90) (mC 90) (mL 90) (mR 90) ∈ lw_tbl := List.mem_append_right _ (List.mem_append_right _ (List.mem_append_right _ (List.mem_append_right _ (List.mem_append_right _ (List.mem_append_left _ (List.mem_of_getElem? (i := 102) rfl))))))
set_option maxRecDepth 20000 in
theorem mco_91 : Cond.code (mY 91) (mC 91) (mL 91) (mR 91) ∈ lw_tbl := List.mem_append_right _ (List.mem_append_left _ (List.mem_of_getElem? (i := 176) rfl))
set_option maxRecDepth 20000 in
theorem mco_92 : Cond.code (mY 92) (mC 92) (mL 92) (mR 92) ∈ lw_tbl := List.mem_append_right _ (List.mem_append_right _ (List.mem_append_left _ (List.mem_of_getElem? (i := 224) rfl)))
set_option maxRecDepth 20000 in
theorem mco_93 : Cond.code (mY 93) (mC 93) (mL 93) (mR 93) ∈ lw_tbl := List.mem_append_right _ (List.mem_append_right _ (List.mem_append_right _ (List.mem_append_left _ (List.mem_of_getElem? (i := 13) rfl))))
set_option maxRecDepth 20000 in
theorem mco_94 : Cond.code (mY 94) (mC 94) (mL 94) (mR 94) ∈ lw_tbl := List.mem_append_right _ (List.mem_append_right _ (List.mem_append_right _ (List.mem_append_left _ (List.mem_of_getElem? (i := 122) rfl))))
set_option maxRecDepth 20000 in
theorem mco_95 : Cond.code (mY 95) (mC 95) (mL 95) (mR 95) ∈ lw_tbl := List.mem_append_right _ (List.mem_append_right _ (List.mem_append_right _ (List.mem_append_left _ (List.mem_of_getElem? (i := 130) rfl))))
set_option maxRecDepth 20000 in
theorem mco_96 : Cond.code (mY 96) (mC 96) (mL 96) (mR 96) ∈ lw_tbl := List.mem_append_right _ (List.mem_append_right _ (List.mem_append_right _ (List.mem_append_left _ (List.mem_of_getElem? (i := 96) rfl))))
set_option maxRecDepth 20000 in
theorem mco_97 : Cond.code (mY 97) (mC 97) (mL 97) (mR 97) ∈ lw_tbl := List.mem_append_right _ (List.mem_append_right _ (List.mem_append_right _ (List.mem_append_left _ (List.mem_of_getElem? (i := 100) rfl))))
set_option maxRecDepth 20000 in
theorem mco_98 : Cond.code (mY 98) (mC 98) (mL 98) (mR 98) ∈ lw_tbl := List.mem_append_right _ (List.mem_append_right _ (List.mem_append_right _ (List.mem_append_left _ (List.mem_of_getElem? (i := 118) rfl))))
set_option maxRecDepth 20000 in
theorem mco_99 : Cond.code (mY 99) (mC 99) (mL 99) (mR 99) ∈ lw_tbl := List.mem_append_right _ (List.mem_append_right _ (List.mem_append_right _ (List.mem_append_left _ (List.mem_of_getElem? (i := 108) rfl))))
set_option maxRecDepth 20000 in
theorem mco_100 : Cond.code (mY 100) (mC 100) (mL 100) (mR 100) ∈ lw_tbl := List.mem_append_right _ (List.mem_append_right _ (List.mem_append_right _ (List.mem_append_left _ (List.mem_of_getElem? (i := 17) rfl))))
set_option maxRecDepth 20000 in
theorem mco_101 : Cond.code (mY 101) (mC 101) (mL 101) (mR 101) ∈ lw_tbl := List.mem_append_right _ (List.mem_append_right _ (List.mem_append_right _ (List.mem_append_left _ (List.mem_of_getElem? (i := 21) rfl))))
set_option maxRecDepth 20000 in
theorem mco_102 : Cond.code (mY 102) (mC 102) (mL 102) (mR 102) ∈ lw_tbl := List.mem_append_right _ (List.mem_append_right _ (List.mem_append_right _ (List.mem_append_left _ (List.mem_of_getElem? (i := 83) rfl))))
set_option maxRecDepth 20000 in
theorem mco_103 : Cond.code (mY 103) (mC 103) (mL 103) (mR 103) ∈ lw_tbl := List.mem_append_right _ (List.mem_append_right _ (List.mem_append_right _ (List.mem_append_left _ (List.mem_of_getElem? (i := 26) rfl))))
set_option maxRecDepth 20000 in
theorem mco_104 : Cond.code (mY 104) (mC 104) (mL 104) (mR 104) ∈ lw_tbl := List.mem_append_right _ (List.mem_append_right _ (List.mem_append_right _ (List.mem_append_left _ (List.mem_of_getElem? (i := 92) rfl))))
set_option maxRecDepth 20000 in
theorem mco_105 : Cond.code (mY 105) (mC 105) (mL 105) (mR 105) ∈ lw_tbl := List.mem_append_right _ (List.mem_append_right _ (List.mem_append_right _ (List.mem_append_left _ (List.mem_of_getElem? (i := 104) rfl))))
set_option maxRecDepth 20000 in
theorem mco_106 : Cond.code (mY 106) (mC 106) (mL 106) (mR 106) ∈ lw_tbl := List.mem_append_right _ (List.mem_append_right _ (List.mem_append_left _ (List.mem_of_getElem? (i := 232) rfl)))
set_option maxRecDepth 20000 in
theorem mco_107 : Cond.code (mY 107) (mC 107) (mL 107) (mR 107) ∈ lw_tbl := List.mem_append_right _ (List.mem_append_right _ (List.mem_append_right _ (List.mem_append_left _ (List.mem_of_getElem? (i := 9) rfl))))
set_option maxRecDepth 20000 in
theorem mco_108 : Cond.code (mY 108) (mC 108) (mL 108) (mR 108) ∈ lw_tbl := List.mem_append_right _ (List.mem_append_right _ (List.mem_append_left _ (List.mem_of_getElem? (i := 239) rfl)))
set_option maxRecDepth 20000 in
theorem mco_109 : Cond.code (mY 109) (mC 109) (mL 109) (mR 109) ∈ lw_tbl := List.mem_append_right _ (List.mem_append_right _ (List.mem_append_right _ (List.mem_append_left _ (List.mem_of_getElem? (i := 2) rfl))))
set_option maxRecDepth 20000 in
theorem mco_110 : Cond.code (mY 110) (mC 110) (mL 110) (mR 110) ∈ lw_tbl := List.mem_append_right _ (List.mem_append_right _ (List.mem_append_right _ (List.mem_append_left _ (List.mem_of_getElem? (i := 5) rfl))))
set_option maxRecDepth 20000 in
theorem mco_111 : Cond.code (mY 111) (mC 111) (mL 111) (mR 111) ∈ lw_tbl := List.mem_append_right _ (List.mem_append_left _ (List.mem_of_getElem? (i := 33) rfl))
set_option maxRecDepth 20000 in
theorem mco_112 : Cond.code (mY 112) (mC 112) (mL 112) (mR 112) ∈ lw_tbl := List.mem_append_right _ (List.mem_append_right _ (List.mem_append_left _ (List.mem_of_getElem? (i := 204) rfl)))
set_option maxRecDepth 20000 in
theorem mco_113 : Cond.code (mY 113) (mC 113) (mL 113) (mR 113) ∈ lw_tbl := List.mem_append_right _ (List.mem_append_right _ (List.mem_append_left _ (List.mem_of_getElem? (i := 236) rfl)))
set_option maxRecDepth 20000 in
theorem mco_114 : Cond.code (mY 114) (mC 114) (mL 114) (mR 114) ∈ lw_tbl := List.mem_append_right _ (List.mem_append_right _ (List.mem_append_left _ (List.mem_of_getElem? (i := 220) rfl)))
set_option maxRecDepth 20000 in
theorem mco_115 : Cond.code (mY 115) (mC 115) (mL 115) (mR 115) ∈ lw_tbl := List.mem_append_right _ (List.mem_append_right _ (List.mem_append_right _ (List.mem_append_right _ (List.mem_append_left _ (List.mem_of_getElem? (i := 187) rfl)))))
set_option maxRecDepth 20000 in
theorem mco_116 : Cond.code (mY 116) (mC 116) (mL 116) (mR 116) ∈ lw_tbl := List.mem_append_right _ (List.mem_append_right _ (List.mem_append_left _ (List.mem_of_getElem? (i := 216) rfl)))
set_option maxRecDepth 20000 in
theorem mco_117 : Cond.code (mY 117) (mC 117) (mL 117) (mR 117) ∈ lw_tbl := List.mem_append_right _ (List.mem_append_right _ (List.mem_append_right _ (List.mem_append_left _ (List.mem_of_getElem? (i := 158) rfl))))
set_option maxRecDepth 20000 in
theorem mco_118 : Cond.code (mY 118) (mC 118) (mL 118) (mR 118) ∈ lw_tbl := List.mem_append_right _ (List.mem_append_right _ (List.mem_append_right _ (List.mem_append_left _ (List.mem_of_getElem? (i := 175) rfl))))
set_option maxRecDepth 20000 in
theorem mco_119 : Cond.code (mY 119) (mC 119) (mL 119) (mR 119) ∈ lw_tbl := List.mem_append_right _ (List.mem_append_left _ (List.mem_of_getElem? (i := 25) rfl))
set_option maxRecDepth 20000 in
theorem mco_120 : Cond.code (mY 120) (mC 120) (mL 120) (mR 120) ∈ lw_tbl := List.mem_append_right _ (List.mem_append_right _ (List.mem_append_left _ (List.mem_of_getElem? (i := 200) rfl)))
set_option maxRecDepth 20000 in
theorem mco_121 : Cond.code (mY 121) (mC 121) (mL 121) (mR 121) ∈ lw_tbl := List.mem_append_right _ (List.mem_append_right _ (List.mem_append_left _ (List.mem_of_getElem? (i := 208) rfl)))
set_option maxRecDepth 20000 in
theorem mco_122 : Cond.code (mY 122) (mC 122) (mL 122) (mR 122) ∈ lw_tbl := List.mem_append_right _ (List.mem_append_right _ (List.mem_append_left _ (List.mem_of_getElem? (i := 212) rfl)))
set_option maxRecDepth 20000 in
theorem mco_123 : Cond.code (mY 123) (mC 123) (mL 123) (mR 123) ∈ lw_tbl := List.mem_append_right _ (List.mem_append_right _ (List.mem_append_right _ (List.mem_append_left _ (List.mem_of_getElem? (i := 142) rfl))))
set_option maxRecDepth 20000 in
theorem mco_124 : Cond.code (mY 124) (mC 124) (mL 124) (mR 124) ∈ lw_tbl := List.mem_append_right _ (List.mem_append_right _ (List.mem_append_right _ (List.mem_append_left _ (List.mem_of_getElem? (i := 163) rfl))))
set_option maxRecDepth 20000 in
theorem mco_125 : Cond.code (mY 125) (mC 125) (mL 125) (mR 125) ∈ lw_tbl := List.mem_append_right _ (List.mem_append_right _ (List.mem_append_right _ (List.mem_append_left _ (List.mem_of_getElem? (i := 167) rfl))))
set_option maxRecDepth 20000 in
theorem mco_126 : Cond.code (mY 126) (mC 126) (mL 126) (mR 126) ∈ lw_tbl := List.mem_append_right _ (List.mem_append_right _ (List.mem_append_right _ (List.mem_append_left _ (List.mem_of_getElem? (i := 171) rfl))))
set_option maxRecDepth 20000 in
theorem mco_127 : Cond.code (mY 127) (mC 127) (mL 127) (mR 127) ∈ lw_tbl := List.mem_append_right _ (List.mem_append_right _ (List.mem_append_right _ (List.mem_append_left _ (List.mem_of_getElem? (i := 182) rfl))))
set_option maxRecDepth 20000 in
theorem mco_128 : Cond.code (mY 128) (mC 128) (mL 128) (mR 128) ∈ lw_tbl := List.mem_append_right _ (List.mem_append_right _ (List.mem_append_right _ (List.mem_append_left _ (List.mem_of_getElem? (i := 186) rfl))))
set_option maxRecDepth 20000 in
theorem mco_129 : Cond.code (mY 129) (mC 129) (mL 129) (mR 129) ∈ lw_tbl := List.mem_append_right _ (List.mem_append_right _ (List.mem_append_right _ (List.mem_append_left _ (List.mem_of_getElem? (i := 220) rfl))))
set_option maxRecDepth 20000 in
theorem mco_130 : Cond.code (mY 130) (mC 130) (mL 130) (mR 130) ∈ lw_tbl := List.mem_append_right _ (List.mem_append_right _ (List.mem_append_right _ (List.mem_append_left _ (List.mem_of_getElem? (i := 232) rfl))))
set_option maxRecDepth 20000 in
theorem mco_131 : Cond.code (mY 131) (mC 131) (mL 131) (mR 131) ∈ lw_tbl := List.mem_append_right _ (List.mem_append_right _ (List.mem_append_right _ (List.mem_append_right _ (List.mem_append_left _ (List.mem_of_getElem? (i := 4) rfl)))))
set_option maxRecDepth 20000 in
theorem mco_132 : Cond.code (mY 132) (mC 132) (mL 132) (mR 132) ∈ lw_tbl := List.mem_append_right _ (List.mem_append_right _ (List.mem_append_right _ (List.mem_append_right _ (List.mem_append_left _ (List.mem_of_getElem? (i := 8) rfl)))))
set_option maxRecDepth 20000 in
theorem mco_133 : Cond.code (mY 133) (mC 133) (mL 133) (mR 133) ∈ lw_tbl := List.mem_append_right _ (List.mem_append_right _ (List.mem_append_right _ (List.mem_append_right _ (List.mem_append_left _ (List.mem_of_getElem? (i := 69) rfl)))))
set_option maxRecDepth 20000 in
theorem mco_134 : Cond.code (mY 134) (mC 134) (mL 134) (mR 134) ∈ lw_tbl := List.mem_append_right _ (List.mem_append_right _ (List.mem_append_right _ (List.mem_append_right _ (List.mem_append_left _ (List.mem_of_getElem? (i := 77) rfl)))))
set_option maxRecDepth 20000 in
theorem mco_135 : Cond.code (mY 135) (mC 135) (mL 135) (mR 135) ∈ lw_tbl := List.mem_append_right _ (List.mem_append_right _ (List.mem_append_right _ (List.mem_append_right _ (List.mem_append_left _ (List.mem_of_getElem? (i := 85) rfl)))))
set_option maxRecDepth 20000 in
theorem mco_136 : Cond.code (mY 136) (mC 136) (mL 136) (mR 136) ∈ lw_tbl := List.mem_append_right _ (List.mem_append_right _ (List.mem_append_right _ (List.mem_append_right _ (List.mem_append_left _ (List.mem_of_getElem? (i := 104) rfl)))))
set_option maxRecDepth 20000 in
theorem mco_137 : Cond.code (mY 137) (mC 137) (mL 137) (mR 137) ∈ lw_tbl := List.mem_append_right _ (List.mem_append_right _ (List.mem_append_right _ (List.mem_append_right _ (List.mem_append_left _ (List.mem_of_getElem? (i := 131) rfl)))))
set_option maxRecDepth 20000 in
theorem mco_138 : Cond.code (mY 138) (mC 138) (mL 138) (mR 138) ∈ lw_tbl := List.mem_append_right _ (List.mem_append_right _ (List.mem_append_right _ (List.mem_append_right _ (List.mem_append_left _ (List.mem_of_getElem? (i := 140) rfl)))))
set_option maxRecDepth 20000 in
theorem mco_139 : Cond.code (mY 139) (mC 139) (mL 139) (mR 139) ∈ lw_tbl := List.mem_append_right _ (List.mem_append_right _ (List.mem_append_right _ (List.mem_append_right _ (List.mem_append_left _ (List.mem_of_getElem? (i := 169) rfl)))))
set_option maxRecDepth 20000 in
theorem mco_140 : Cond.code (mY 140) (mC 140) (mL 140) (mR 140) ∈ lw_tbl := List.mem_append_right _ (List.mem_append_right _ (List.mem_append_right _ (List.mem_append_right _ (List.mem_append_left _ (List.mem_of_getElem? (i := 183) rfl)))))
set_option maxRecDepth 20000 in
theorem mco_141 : Cond.code (mY 141) (mC 141) (mL 141) (mR 141) ∈ lw_tbl := List.mem_append_right _ (List.mem_append_right _ (List.mem_append_right _ (List.mem_append_right _ (List.mem_append_left _ (List.mem_of_getElem? (i := 196) rfl)))))
set_option maxRecDepth 20000 in
theorem mco_142 : Cond.code (mY 142) (mC 142) (mL 142) (mR 142) ∈ lw_tbl := List.mem_append_right _ (List.mem_append_right _ (List.mem_append_right _ (List.mem_append_right _ (List.mem_append_left _ (List.mem_of_getElem? (i := 212) rfl)))))
set_option maxRecDepth 20000 in
theorem mco_143 : Cond.code (mY 143) (mC 143) (mL 143) (mR 143) ∈ lw_tbl := List.mem_append_right _ (List.mem_append_right _ (List.mem_append_right _ (List.mem_append_right _ (List.mem_append_left _ (List.mem_of_getElem? (i := 217) rfl)))))
set_option maxRecDepth 20000 in
theorem mco_144 : Cond.code (mY 144) (mC 144) (mL 144) (mR 144) ∈ lw_tbl := List.mem_append_right _ (List.mem_append_right _ (List.mem_append_right _ (List.mem_append_right _ (List.mem_append_left _ (List.mem_of_getElem? (i := 221) rfl)))))
set_option maxRecDepth 20000 in
theorem mco_145 : Cond.code (mY 145) (mC 145) (mL 145) (mR 145) ∈ lw_tbl := List.mem_append_right _ (List.mem_append_right _ (List.mem_append_right _ (List.mem_append_right _ (List.mem_append_right _ (List.mem_append_left _ (List.mem_of_getElem? (i := 19) rfl))))))
set_option maxRecDepth 20000 in
theorem mco_146 : Cond.code (mY 146) (mC 146) (mL 146) (mR 146) ∈ lw_tbl := List.mem_append_right _ (List.mem_append_right _ (List.mem_append_right _ (List.mem_append_right _ (List.mem_append_right _ (List.mem_append_left _ (List.mem_of_getElem? (i := 24) rfl))))))
set_option maxRecDepth 20000 in
theorem mco_147 : Cond.code (mY 147) (mC 147) (mL 147) (mR 147) ∈ lw_tbl := List.mem_append_right _ (List.mem_append_right _ (List.mem_append_right _ (List.mem_append_right _ (List.mem_append_right _ (List.mem_append_left _ (List.mem_of_getElem? (i := 33) rfl))))))
set_option maxRecDepth 20000 in
theorem mco_148 : Cond.code (mY 148) (mC 148) (mL 148) (mR 148) ∈ lw_tbl := List.mem_append_right _ (List.mem_append_right _ (List.mem_append_right _ (List.mem_append_right _ (List.mem_append_right _ (List.mem_append_left _ (List.mem_of_getElem? (i := 43) rfl))))))
set_option maxRecDepth 20000 in
theorem mco_149 : Cond.code (mY 149) (mC 149) (mL 149) (mR 149) ∈ lw_tbl := List.mem_append_right _ (List.mem_append_right _ (List.mem_append_right _ (List.mem_append_right _ (List.mem_append_right _ (List.mem_append_left _ (List.mem_of_getElem? (i := 52) rfl))))))
set_option maxRecDepth 20000 in
theorem mco_150 : Cond.code (mY 150) (mC 150) (mL 150) (mR 150) ∈ lw_tbl := List.mem_append_right _ (List.mem_append_right _ (List.mem_append_right _ (List.mem_append_right _ (List.mem_append_right _ (List.mem_append_left _ (List.mem_of_getElem? (i := 64) rfl))))))
set_option maxRecDepth 20000 in
theorem mco_151 : Cond.code (mY 151) (mC 151) (mL 151) (mR 151) ∈ lw_tbl := List.mem_append_right _ (List.mem_append_right _ (List.mem_append_right _ (List.mem_append_right _ (List.mem_append_right _ (List.mem_append_left _ (List.mem_of_getElem? (i := 73) rfl))))))
set_option maxRecDepth 20000 in
theorem mco_152 : Cond.code (mY 152) (mC 152) (mL 152) (mR 152) ∈ lw_tbl := List.mem_append_right _ (List.mem_append_right _ (List.mem_append_right _ (List.mem_append_right _ (List.mem_append_right _ (List.mem_append_left _ (List.mem_of_getElem? (i := 81) rfl))))))
set_option maxRecDepth 20000 in
theorem mco_153 : Cond.code (mY 153) (mC 153) (mL 153) (mR 153) ∈ lw_tbl := List.mem_append_right _ (List.mem_append_right _ (List.mem_append_right _ (List.mem_append_right _ (List.mem_append_right _ (List.mem_append_left _ (List.mem_of_getElem? (i := 90) rfl))))))
set_option maxRecDepth 20000 in
theorem mco_154 : Cond.code (mY 154) (mC 154) (mL 154) (mR 154) ∈ lw_tbl := List.mem_append_right _ (List.mem_append_right _ (List.mem_append_right _ (List.mem_append_right _ (List.mem_append_right _ (List.mem_append_left _ (List.mem_of_getElem? (i := 106) rfl))))))
set_option maxRecDepth 20000 in
theorem mco_155 : Cond.code (mY 155) (mC 155) (mL 155) (mR 155) ∈ lw_tbl := List.mem_append_right _ (List.mem_append_right _ (List.mem_append_right _ (List.mem_append_right _ (List.mem_append_right _ (List.mem_append_left _ (List.mem_of_getElem? (i := 130) rfl))))))
set_option maxRecDepth 20000 in
theorem mco_156 : Cond.code (mY 156) (mC 156) (mL 156) (mR 156) ∈ lw_tbl := List.mem_append_right _ (List.mem_append_right _ (List.mem_append_right _ (List.mem_append_right _ (List.mem_append_right _ (List.mem_append_left _ (List.mem_of_getElem? (i := 172) rfl))))))
set_option maxRecDepth 20000 in
theorem mco_157 : Cond.code (mY 157) (mC 157) (mL 157) (mR 157) ∈ lw_tbl := List.mem_append_right _ (List.mem_append_right _ (List.mem_append_right _ (List.mem_append_right _ (List.mem_append_right _ (List.mem_append_left _ (List.mem_of_getElem? (i := 177) rfl))))))
set_option maxRecDepth 20000 in
theorem mco_158 : Cond.code (mY 158) (mC 158) (mL 158) (mR 158) ∈ lw_tbl := List.mem_append_right _ (List.mem_append_right _ (List.mem_append_right _ (List.mem_append_right _ (List.mem_append_left _ (List.mem_of_getElem? (i := 205) rfl)))))
set_option maxRecDepth 20000 in
theorem mco_159 : Cond.code (mY 159) (mC 159) (mL 159) (mR 159) ∈ lw_tbl := List.mem_append_right _ (List.mem_append_right _ (List.mem_append_right _ (List.mem_append_right _ (List.mem_append_left _ (List.mem_of_getElem? (i := 208) rfl)))))
set_option maxRecDepth 20000 in
theorem mco_160 : Cond.code (mY 160) (mC 160) (mL 160) (mR 160) ∈ lw_tbl := List.mem_append_right _ (List.mem_append_right _ (List.mem_append_right _ (List.mem_append_right _ (List.mem_append_right _ (List.mem_append_left _ (List.mem_of_getElem? (i := 196) rfl))))))
set_option maxRecDepth 20000 in
theorem mco_161 : Cond.code (mY 161) (mC 161) (mL 161) (mR 161) ∈ lw_tbl := List.mem_append_right _ (List.mem_append_right _ (List.mem_append_right _ (List.mem_append_right _ (List.mem_append_right _ (List.mem_append_right _ (List.mem_append_left _ (List.mem_of_getElem? (i := 114) rfl)))))))
set_option maxRecDepth 20000 in
theorem mco_162 : Cond.code (mY 162) (mC 162) (mL 162) (mR 162) ∈ lw_tbl := List.mem_append_right _ (List.mem_append_right _ (List.mem_append_right _ (List.mem_append_right _ (List.mem_append_right _ (List.mem_append_right _ (List.mem_append_left _ (List.mem_of_getElem? (i := 103) rfl)))))))
set_option maxRecDepth 20000 in
theorem mco_163 : Cond.code (mY 163) (mC 163) (mL 163) (mR 163) ∈ lw_tbl := List.mem_append_right _ (List.mem_append_right _ (List.mem_append_right _ (List.mem_append_right _ (List.mem_append_right _ (List.mem_append_right _ (List.mem_append_left _ (List.mem_of_getElem? (i := 107) rfl)))))))
set_option maxRecDepth 20000 in
theorem mco_164 : Cond.code (mY 164) (mC 164) (mL 164) (mR 164) ∈ lw_tbl := List.mem_append_right _ (List.mem_append_right _ (List.mem_append_right _ (List.mem_append_right _ (List.mem_append_right _ (List.mem_append_right _ (List.mem_append_left _ (List.mem_of_getElem? (i := 126) rfl)))))))
set_option maxRecDepth 20000 in
theorem mco_165 : Cond.code (mY 165) (mC 165) (mL 165) (mR 165) ∈ lw_tbl := List.mem_append_right _ (List.mem_append_right _ (List.mem_append_right _ (List.mem_append_right _ (List.mem_append_right _ (List.mem_append_right _ (List.mem_append_left _ (List.mem_of_getElem? (i := 129) rfl)))))))
set_option maxRecDepth 20000 in
theorem mco_166 : Cond.code (mY 166) (mC 166) (mL 166) (mR 166) ∈ lw_tbl := List.mem_append_right _ (List.mem_append_right _ (List.mem_append_right _ (List.mem_append_right _ (List.mem_append_right _ (List.mem_append_right _ (List.mem_append_left _ (List.mem_of_getElem? (i := 144) rfl)))))))
set_option maxRecDepth 20000 in
theorem mco_167 : Cond.code (mY 167) (mC 167) (mL 167) (mR 167) ∈ lw_tbl := List.mem_append_right _ (List.mem_append_right _ (List.mem_append_right _ (List.mem_append_right _ (List.mem_append_right _ (List.mem_append_right _ (List.mem_append_left _ (List.mem_of_getElem? (i := 140) rfl)))))))
set_option maxRecDepth 20000 in
theorem mco_168 : Cond.code (mY 168) (mC 168) (mL 168) (mR 168) ∈ lw_tbl := List.mem_append_right _ (List.mem_append_right _ (List.mem_append_right _ (List.mem_append_right _ (List.mem_append_right _ (List.mem_append_right _ (List.mem_append_left _ (List.mem_of_getElem? (i := 137) rfl)))))))
set_option maxRecDepth 20000 in
theorem mco_169 : Cond.code (mY 169) (mC 169) (mL 169) (mR 169) ∈ lw_tbl := List.mem_append_right _ (List.mem_append_right _ (List.mem_append_right _ (List.mem_append_right _ (List.mem_append_right _ (List.mem_append_right _ (List.mem_append_left _ (List.mem_of_getElem? (i := 134) rfl)))))))
set_option maxRecDepth 20000 in
theorem mco_170 : Cond.code (mY 170) (mC 170) (mL 170) (mR 170) ∈ lw_tbl := List.mem_append_right _ (List.mem_append_right _ (List.mem_append_right _ (List.mem_append_right _ (List.mem_append_right _ (List.mem_append_right _ (List.mem_append_left _ (List.mem_of_getElem? (i := 122) rfl)))))))
set_option maxRecDepth 20000 in
theorem mco_171 : Cond.code (mY 171) (mC 171) (mL 171) (mR 171) ∈ lw_tbl := List.mem_append_right _ (List.mem_append_right _ (List.mem_append_right _ (List.mem_append_right _ (List.mem_append_right _ (List.mem_append_right _ (List.mem_append_left _ (List.mem_of_getElem? (i := 156) rfl)))))))
set_option maxRecDepth 20000 in
theorem mco_172 : Cond.code (mY 172) (mC 172) (mL 172) (mR 172) ∈ lw_tbl := List.mem_append_right _ (List.mem_append_right _ (List.mem_append_right _ (List.mem_append_right _ (List.mem_append_right _ (List.mem_append_right _ (List.mem_append_left _ (List.mem_of_getElem? (i := 168) rfl)))))))
set_option maxRecDepth 20000 in
theorem mco_173 : Cond.code (mY 173) (mC 173) (mL 173) (mR 173) ∈ lw_tbl := List.mem_append_right _ (List.mem_append_right _ (List.mem_append_right _ (List.mem_append_right _ (List.mem_append_right _ (List.mem_append_right _ (List.mem_append_left _ (List.mem_of_getElem? (i := 164) rfl)))))))
set_option maxRecDepth 20000 in
theorem mco_174 : Cond.code (mY 174) (mC 174) (mL 174) (mR 174) ∈ lw_tbl := List.mem_append_right _ (List.mem_append_right _ (List.mem_append_right _ (List.mem_append_right _ (List.mem_append_right _ (List.mem_append_right _ (List.mem_append_left _ (List.mem_of_getElem? (i := 152) rfl)))))))
set_option maxRecDepth 20000 in
theorem mco_175 : Cond.code (mY 175) (mC 175) (mL 175) (mR 175) ∈ lw_tbl := List.mem_append_right _ (List.mem_append_right _ (List.mem_append_right _ (List.mem_append_right _ (List.mem_append_right _ (List.mem_append_right _ (List.mem_append_left _ (List.mem_of_getElem? (i := 184) rfl)))))))
set_option maxRecDepth 20000 in
theorem mco_176 : Cond.code (mY 176) (mC 176) (mL 176) (mR 176) ∈ lw_tbl := List.mem_append_right _ (List.mem_append_right _ (List.mem_append_right _ (List.mem_append_right _ (List.mem_append_right _ (List.mem_append_right _ (List.mem_append_left _ (List.mem_of_getElem? (i := 160) rfl)))))))
set_option maxRecDepth 20000 in
theorem mco_177 : Cond.code (mY 177) (mC 177) (mL 177) (mR 177) ∈ lw_tbl := List.mem_append_right _ (List.mem_append_right _ (List.mem_append_right _ (List.mem_append_right _ (List.mem_append_right _ (List.mem_append_right _ (List.mem_append_left _ (List.mem_of_getElem? (i := 180) rfl)))))))
set_option maxRecDepth 20000 in
theorem mco_178 : Cond.code (mY 178) (mC 178) (mL 178) (mR 178) ∈ lw_tbl := List.mem_append_right _ (List.mem_append_right _ (List.mem_append_right _ (List.mem_append_right _ (List.mem_append_right _ (List.mem_append_right _ (List.mem_append_left _ (List.mem_of_getElem? (i := 172) rfl)))))))
set_option maxRecDepth 20000 in
theorem mco_179 : Cond.code (mY 179) (mC 179) (mL 179) (mR 179) ∈ lw_tbl := List.mem_append_right _ (List.mem_append_right _ (List.mem_append_right _ (List.mem_append_right _ (List.mem_append_right _ (List.mem_append_right _ (List.mem_append_left _ (List.mem_of_getElem? (i := 176) rfl)))))))
set_option maxRecDepth 20000 in
theorem mco_180 : Cond.code (mY 180) (mC 180) (mL 180) (mR 180) ∈ lw_tbl := List.mem_append_right _ (List.mem_append_right _ (List.mem_append_right _ (List.mem_append_right _ (List.mem_append_right _ (List.mem_append_right _ (List.mem_append_left _ (List.mem_of_getElem? (i := 148) rfl)))))))
set_option maxRecDepth 20000 in
theorem mco_181 : Cond.code (mY 181) (mC 181) (mL 181) (mR 181) ∈ lw_tbl := List.mem_append_right _ (List.mem_append_right _ (List.mem_append_right _ (List.mem_append_right _ (List.mem_append_right _ (List.mem_append_right _ (List.mem_append_left _ (List.mem_of_getElem? (i := 191) rfl)))))))
set_option maxRecDepth 20000 in
theorem mco_182 : Cond.code (mY 182) (mC 182) (mL 182) (mR 182) ∈ lw_tbl := List.mem_append_right _ (List.mem_append_right _ (List.mem_append_right _ (List.mem_append_right _ (List.mem_append_right _ (List.mem_append_right _ (List.mem_append_left _ (List.mem_of_getElem? (i := 188) rfl)))))))
set_option maxRecDepth 20000 in
theorem mco_183 : Cond.code (mY 183) (mC 183) (mL 183) (mR 183) ∈ lw_tbl := List.mem_append_right _ (List.mem_append_right _ (List.mem_append_right _ (List.mem_append_right _ (List.mem_append_right _ (List.mem_append_right _ (List.mem_append_left _ (List.mem_of_getElem? (i := 195) rfl)))))))
set_option maxRecDepth 20000 in
theorem mco_184 : Cond.code (mY 184) (mC 184) (mL 184) (mR 184) ∈ lw_tbl := List.mem_append_right _ (List.mem_append_right _ (List.mem_append_right _ (List.mem_append_right _ (List.mem_append_right _ (List.mem_append_right _ (List.mem_append_left _ (List.mem_of_getElem? (i := 201) rfl)))))))
set_option maxRecDepth 20000 in
theorem mco_185 : Cond.code (mY 185) (mC 185) (mL 185) (mR 185) ∈ lw_tbl := List.mem_append_right _ (List.mem_append_right _ (List.mem_append_right _ (List.mem_append_right _ (List.mem_append_right _ (List.mem_append_right _ (List.mem_append_left _ (List.mem_of_getElem? (i := 198) rfl)))))))
set_option maxRecDepth 20000 in
theorem mco_186 : Cond.code (mY 186) (mC 186) (mL 186) (mR 186) ∈ lw_tbl := List.mem_append_right _ (List.mem_append_right _ (List.mem_append_right _ (List.mem_append_right _ (List.mem_append_right _ (List.mem_append_right _ (List.mem_append_left _ (List.mem_of_getElem? (i := 118) rfl)))))))
set_option maxRecDepth 20000 in
theorem mco_187 : Cond.code (mY 187) (mC 187) (mL 187) (mR 187) ∈ lw_tbl := List.mem_append_right _ (List.mem_append_right _ (List.mem_append_right _ (List.mem_append_right _ (List.mem_append_right _ (List.mem_append_right _ (List.mem_append_left _ (List.mem_of_getElem? (i := 111) rfl)))))))
set_option maxRecDepth 20000 in
theorem mco_188 : Cond.code (mY 188) (mC 188) (mL 188) (mR 188) ∈ lw_tbl := List.mem_append_right _ (List.mem_append_right _ (List.mem_append_right _ (List.mem_append_right _ (List.mem_append_right _ (List.mem_append_right _ (List.mem_append_left _ (List.mem_of_getElem? (i := 205) rfl)))))))
set_option maxRecDepth 20000 in
theorem mco_189 : Cond.code (mY 189) (mC 189) (mL 189) (mR 189) ∈ lw_tbl := List.mem_append_right _ (List.mem_append_right _ (List.mem_append_right _ (List.mem_append_right _ (List.mem_append_right _ (List.mem_append_right _ (List.mem_append_left _ (List.mem_of_getElem? (i := 213) rfl)))))))
set_option maxRecDepth 20000 in
theorem mco_190 : Cond.code (mY 190) (mC 190) (mL 190) (mR 190) ∈ lw_tbl := List.mem_append_right _ (List.mem_append_right _ (List.mem_append_right _ (List.mem_append_right _ (List.mem_append_right _ (List.mem_append_right _ (List.mem_append_right _ (List.mem_append_left _ (List.mem_of_getElem? (i := 9) rfl))))))))
set_option maxRecDepth 20000 in
theorem mco_191 : Cond.code (mY 191) (mC 191) (mL 191) (mR 191) ∈ lw_tbl := List.mem_append_right _ (List.mem_append_right _ (List.mem_append_right _ (List.mem_append_right _ (List.mem_append_right _ (List.mem_append_right _ (List.mem_append_right _ (List.mem_append_left _ (List.mem_of_getElem? (i := 37) rfl))))))))
set_option maxRecDepth 20000 in
theorem mco_192 : Cond.code (mY 192) (mC 192) (mL 192) (mR 192) ∈ lw_tbl := List.mem_append_right _ (List.mem_append_right _ (List.mem_append_right _ (List.mem_append_right _ (List.mem_append_right _ (List.mem_append_right _ (List.mem_append_left _ (List.mem_of_getElem? (i := 221) rfl)))))))
set_option maxRecDepth 20000 in
theorem mco_193 : Cond.code (mY 193) (mC 193) (mL 193) (mR 193) ∈ lw_tbl := List.mem_append_right _ (List.mem_append_right _ (List.mem_append_right _ (List.mem_append_right _ (List.mem_append_right _ (List.mem_append_right _ (List.mem_append_right _ (List.mem_append_left _ (List.mem_of_getElem? (i := 13) rfl))))))))
set_option maxRecDepth 20000 in
theorem mco_194 : Cond.code (mY 194) (mC 194) (mL 194) (mR 194) ∈ lw_tbl := List.mem_append_right _ (List.mem_append_right _ (List.mem_append_right _ (List.mem_append_right _ (List.mem_append_right _ (List.mem_append_right _ (List.mem_append_left _ (List.mem_of_getElem? (i := 237) rfl)))))))
set_option maxRecDepth 20000 in
theorem mco_195 : Cond.code (mY 195) (mC 195) (mL 195) (mR 195) ∈ lw_tbl := List.mem_append_right _ (List.mem_append_right _ (List.mem_append_right _ (List.mem_append_right _ (List.mem_append_right _ (List.mem_append_right _ (List.mem_append_right _ (List.mem_append_left _ (List.mem_of_getElem? (i := 40) rfl))))))))
set_option maxRecDepth 20000 in
theorem mco_196 : Cond.code (mY 196) (mC 196) (mL 196) (mR 196) ∈ lw_tbl := List.mem_append_right _ (List.mem_append_right _ (List.mem_append_right _ (List.mem_append_right _ (List.mem_append_right _ (List.mem_append_right _ (List.mem_append_left _ (List.mem_of_getElem? (i := 233) rfl)))))))
set_option maxRecDepth 20000 in
theorem mco_197 : Cond.code (mY 197) (mC 197) (mL 197) (mR 197) ∈ lw_tbl := List.mem_append_right _ (List.mem_append_right _ (List.mem_append_right _ (List.mem_append_right _ (List.mem_append_right _ (List.mem_append_right _ (List.mem_append_left _ (List.mem_of_getElem? (i := 229) rfl)))))))
set_option maxRecDepth 20000 in
theorem mco_198 : Cond.code (mY 198) (mC 198) (mL 198) (mR 198) ∈ lw_tbl := List.mem_append_right _ (List.mem_append_right _ (List.mem_append_right _ (List.mem_append_right _ (List.mem_append_right _ (List.mem_append_right _ (List.mem_append_right _ (List.mem_append_left _ (List.mem_of_getElem? (i := 1) rfl))))))))
set_option maxRecDepth 20000 in
theorem mco_199 : Cond.code (mY 199) (mC 199) (mL 199) (mR 199) ∈ lw_tbl := List.mem_append_right _ (List.mem_append_right _ (List.mem_append_right _ (List.mem_append_right _ (List.mem_append_right _ (List.mem_append_right _ (List.mem_append_left _ (List.mem_of_getElem? (i := 225) rfl)))))))
set_option maxRecDepth 20000 in
theorem mco_200 : Cond.code (mY 200) (mC 200) (mL 200) (mR 200) ∈ lw_tbl := List.mem_append_right _ (List.mem_append_right _ (List.mem_append_right _ (List.mem_append_right _ (List.mem_append_right _ (List.mem_append_right _ (List.mem_append_right _ (List.mem_append_left _ (List.mem_of_getElem? (i := 5) rfl))))))))
set_option maxRecDepth 20000 in
theorem mco_201 : Cond.code (mY 201) (mC 201) (mL 201) (mR 201) ∈ lw_tbl := List.mem_append_right _ (List.mem_append_right _ (List.mem_append_right _ (List.mem_append_right _ (List.mem_append_right _ (List.mem_append_right _ (List.mem_append_left _ (List.mem_of_getElem? (i := 217) rfl)))))))
set_option maxRecDepth 20000 in
theorem mco_202 : Cond.code (mY 202) (mC 202) (mL 202) (mR 202) ∈ lw_tbl := List.mem_append_right _ (List.mem_append_right _ (List.mem_append_right _ (List.mem_append_right _ (List.mem_append_right _ (List.mem_append_right _ (List.mem_append_right _ (List.mem_append_left _ (List.mem_of_getElem? (i := 56) rfl))))))))
set_option maxRecDepth 20000 in
theorem mco_203 : Cond.code (mY 203) (mC 203) (mL 203) (mR 203) ∈ lw_tbl := List.mem_append_right _ (List.mem_append_right _ (List.mem_append_right _ (List.mem_append_right _ (List.mem_append_right _ (List.mem_append_right _ (List.mem_append_right _ (List.mem_append_left _ (List.mem_of_getElem? (i := 25) rfl))))))))
set_option maxRecDepth 20000 in
theorem mco_204 : Cond.code (mY 204) (mC 204) (mL 204) (mR 204) ∈ lw_tbl := List.mem_append_right _ (List.mem_append_right _ (List.mem_append_right _ (List.mem_append_right _ (List.mem_append_right _ (List.mem_append_right _ (List.mem_append_right _ (List.mem_append_left _ (List.mem_of_getElem? (i := 29) rfl))))))))
set_option maxRecDepth 20000 in
theorem mco_205 : Cond.code (mY 205) (mC 205) (mL 205) (mR 205) ∈ lw_tbl := List.mem_append_right _ (List.mem_append_right _ (List.mem_append_right _ (List.mem_append_right _ (List.mem_append_right _ (List.mem_append_right _ (List.mem_append_left _ (List.mem_of_getElem? (i := 209) rfl)))))))
set_option maxRecDepth 20000 in
theorem mco_206 : Cond.code (mY 206) (mC 206) (mL 206) (mR 206) ∈ lw_tbl := List.mem_append_right _ (List.mem_append_right _ (List.mem_append_right _ (List.mem_append_right _ (List.mem_append_right _ (List.mem_append_right _ (List.mem_append_right _ (List.mem_append_left _ (List.mem_of_getElem? (i := 21) rfl))))))))
set_option maxRecDepth 20000 in
theorem mco_207 : Cond.code (mY 207) (mC 207) (mL 207) (mR 207) ∈ lw_tbl := List.mem_append_right _ (List.mem_append_right _ (List.mem_append_right _ (List.mem_append_right _ (List.mem_append_right _ (List.mem_append_right _ (List.mem_append_right _ (List.mem_append_left _ (List.mem_of_getElem? (i := 17) rfl))))))))
set_option maxRecDepth 20000 in
theorem mco_208 : Cond.code (mY 208) (mC 208) (mL 208) (mR 208) ∈ lw_tbl := List.mem_append_right _ (List.mem_append_right _ (List.mem_append_right _ (List.mem_append_right _ (List.mem_append_right _ (List.mem_append_right _ (List.mem_append_right _ (List.mem_append_left _ (List.mem_of_getElem? (i := 33) rfl))))))))
set_option maxRecDepth 20000 in
theorem mco_209 : Cond.code (mY 209) (mC 209) (mL 209) (mR 209) ∈ lw_tbl := List.mem_append_right _ (List.mem_append_right _ (List.mem_append_right _ (List.mem_append_right _ (List.mem_append_right _ (List.mem_append_right _ (List.mem_append_right _ (List.mem_append_left _ (List.mem_of_getElem? (i := 48) rfl))))))))
set_option maxRecDepth 20000 in
theorem mco_210 : Cond.code (mY 210) (mC 210) (mL 210) (mR 210) ∈ lw_tbl := List.mem_append_right _ (List.mem_append_right _ (List.mem_append_right _ (List.mem_append_right _ (List.mem_append_right _ (List.mem_append_right _ (List.mem_append_right _ (List.mem_append_left _ (List.mem_of_getElem? (i := 44) rfl))))))))
set_option maxRecDepth 20000 in
theorem mco_211 : Cond.code (mY 211) (mC 211) (mL 211) (mR 211) ∈ lw_tbl := List.mem_append_right _ (List.mem_append_right _ (List.mem_append_right _ (List.mem_append_right _ (List.mem_append_right _ (List.mem_append_right _ (List.mem_append_right _ (List.mem_append_left _ (List.mem_of_getElem? (i := 52) rfl))))))))
set_option maxRecDepth 20000 in
theorem mco_212 : Cond.code (mY 212) (mC 212) (mL 212) (mR 212) ∈ lw_tbl := List.mem_append_right _ (List.mem_append_right _ (List.mem_append_right _ (List.mem_append_right _ (List.mem_append_right _ (List.mem_append_right _ (List.mem_append_right _ (List.mem_append_left _ (List.mem_of_getElem? (i := 60) rfl))))))))
set_option maxRecDepth 20000 in
theorem mco_213 : Cond.code (mY 213) (mC 213) (mL 213) (mR 213) ∈ lw_tbl := List.mem_append_right _ (List.mem_append_right _ (List.mem_append_right _ (List.mem_append_right _ (List.mem_append_right _ (List.mem_append_right _ (List.mem_append_right _ (List.mem_append_left _ (List.mem_of_getElem? (i := 70) rfl))))))))
set_option maxRecDepth 20000 in
theorem mco_214 : Cond.code (mY 214) (mC 214) (mL 214) (mR 214) ∈ lw_tbl := List.mem_append_right _ (List.mem_append_right _ (List.mem_append_right _ (List.mem_append_right _ (List.mem_append_right _ (List.mem_append_right _ (List.mem_append_right _ (List.mem_append_left _ (List.mem_of_getElem? (i := 67) rfl))))))))
set_option maxRecDepth 20000 in
theorem mco_215 : Cond.code (mY 215) (mC 215) (mL 215) (mR 215) ∈ lw_tbl := List.mem_append_right _ (List.mem_append_right _ (List.mem_append_right _ (List.mem_append_right _ (List.mem_append_right _ (List.mem_append_right _ (List.mem_append_right _ (List.mem_append_left _ (List.mem_of_getElem? (i := 64) rfl))))))))
set_option maxRecDepth 20000 in
theorem mco_216 : Cond.code (mY 216) (mC 216) (mL 216) (mR 216) ∈ lw_tbl := List.mem_append_right _ (List.mem_append_right _ (List.mem_append_right _ (List.mem_append_right _ (List.mem_append_right _ (List.mem_append_right _ (List.mem_append_right _ (List.mem_append_left _ (List.mem_of_getElem? (i := 78) rfl))))))))
set_option maxRecDepth 20000 in
theorem mco_217 : Cond.code (mY 217) (mC 217) (mL 217) (mR 217) ∈ lw_tbl := List.mem_append_right _ (List.mem_append_right _ (List.mem_append_right _ (List.mem_append_right _ (List.mem_append_right _ (List.mem_append_right _ (List.mem_append_right _ (List.mem_append_left _ (List.mem_of_getElem? (i := 74) rfl))))))))
set_option maxRecDepth 20000 in
theorem mco_218 : Cond.code (mY 218) (mC 218) (mL 218) (mR 218) ∈ lw_tbl := List.mem_append_right _ (List.mem_append_right _ (List.mem_append_right _ (List.mem_append_right _ (List.mem_append_right _ (List.mem_append_right _ (List.mem_append_right _ (List.mem_append_left _ (List.mem_of_getElem? (i := 86) rfl))))))))
set_option maxRecDepth 20000 in
theorem mco_219 : Cond.code (mY 219) (mC 219) (mL 219) (mR 219) ∈ lw_tbl := List.mem_append_right _ (List.mem_append_right _ (List.mem_append_right _ (List.mem_append_right _ (List.mem_append_right _ (List.mem_append_right _ (List.mem_append_right _ (List.mem_append_left _ (List.mem_of_getElem? (i := 82) rfl))))))))
set_option maxRecDepth 20000 in
theorem mco_220 : Cond.code (mY 220) (mC 220) (mL 220) (mR 220) ∈ lw_tbl := List.mem_append_right _ (List.mem_append_right _ (List.mem_append_right _ (List.mem_append_right _ (List.mem_append_right _ (List.mem_append_right _ (List.mem_append_right _ (List.mem_append_left _ (List.mem_of_getElem? (i := 91) rfl))))))))
set_option maxRecDepth 20000 in
theorem mco_221 : Cond.code (mY 221) (mC 221) (mL 221) (mR 221) ∈ lw_tbl := List.mem_append_right _ (List.mem_append_right _ (List.mem_append_right _ (List.mem_append_right _ (List.mem_append_right _ (List.mem_append_right _ (List.mem_append_right _ (List.mem_append_left _ (List.mem_of_getElem? (i := 95) rfl))))))))
set_option maxRecDepth 20000 in
theorem mco_222 : Cond.code (mY 222) (mC 222) (mL 222) (mR 222) ∈ lw_tbl := List.mem_append_right _ (List.mem_append_right _ (List.mem_append_right _ (List.mem_append_right _ (List.mem_append_right _ (List.mem_append_right _ (List.mem_append_right _ (List.mem_append_left _ (List.mem_of_getElem? (i := 99) rfl))))))))
set_option maxRecDepth 20000 in
theorem mco_223 : Cond.code (mY 223) (mC 223) (mL 223) (mR 223) ∈ lw_tbl := List.mem_append_right _ (List.mem_append_right _ (List.mem_append_right _ (List.mem_append_right _ (List.mem_append_right _ (List.mem_append_right _ (List.mem_append_right _ (List.mem_append_left _ (List.mem_of_getElem? (i := 107) rfl))))))))
set_option maxRecDepth 20000 in
theorem mco_224 : Cond.code (mY 224) (mC 224) (mL 224) (mR 224) ∈ lw_tbl := List.mem_append_right _ (List.mem_append_right _ (List.mem_append_right _ (List.mem_append_right _ (List.mem_append_right _ (List.mem_append_right _ (List.mem_append_right _ (List.mem_append_left _ (List.mem_of_getElem? (i := 111) rfl))))))))
set_option maxRecDepth 20000 in
theorem mco_225 : Cond.code (mY 225) (mC 225) (mL 225) (mR 225) ∈ lw_tbl := List.mem_append_right _ (List.mem_append_right _ (List.mem_append_right _ (List.mem_append_right _ (List.mem_append_right _ (List.mem_append_right _ (List.mem_append_right _ (List.mem_append_left _ (List.mem_of_getElem? (i := 119) rfl))))))))
set_option maxRecDepth 20000 in
theorem mco_226 : Cond.code (mY 226) (mC 226) (mL 226) (mR 226) ∈ lw_tbl := List.mem_append_right _ (List.mem_append_right _ (List.mem_append_right _ (List.mem_append_right _ (List.mem_append_right _ (List.mem_append_right _ (List.mem_append_right _ (List.mem_append_left _ (List.mem_of_getElem? (i := 115) rfl))))))))
set_option maxRecDepth 20000 in
theorem mco_227 : Cond.code (mY 227) (mC 227) (mL 227) (mR 227) ∈ lw_tbl := List.mem_append_right _ (List.mem_append_right _ (List.mem_append_right _ (List.mem_append_right _ (List.mem_append_right _ (List.mem_append_right _ (List.mem_append_right _ (List.mem_append_left _ (List.mem_of_getElem? (i := 127) rfl))))))))
set_option maxRecDepth 20000 in
theorem mco_228 : Cond.code (mY 228) (mC 228) (mL 228) (mR 228) ∈ lw_tbl := List.mem_append_right _ (List.mem_append_right _ (List.mem_append_right _ (List.mem_append_right _ (List.mem_append_right _ (List.mem_append_right _ (List.mem_append_right _ (List.mem_append_left _ (List.mem_of_getElem? (i := 123) rfl))))))))
set_option maxRecDepth 20000 in
theorem mco_229 : Cond.code (mY 229) (mC 229) (mL 229) (mR 229) ∈ lw_tbl := List.mem_append_right _ (List.mem_append_right _ (List.mem_append_right _ (List.mem_append_right _ (List.mem_append_right _ (List.mem_append_right _ (List.mem_append_right _ (List.mem_append_left _ (List.mem_of_getElem? (i := 135) rfl))))))))
set_option maxRecDepth 20000 in
theorem mco_230 : Cond.code (mY 230) (mC 230) (mL 230) (mR 230) ∈ lw_tbl := List.mem_append_right _ (List.mem_append_right _ (List.mem_append_right _ (List.mem_append_right _ (List.mem_append_right _ (List.mem_append_right _ (List.mem_append_right _ (List.mem_append_left _ (List.mem_of_getElem? (i := 131) rfl))))))))
set_option maxRecDepth 20000 in
theorem mco_231 : Cond.code (mY 231) (mC 231) (mL 231) (mR 231) ∈ lw_tbl := List.mem_append_right _ (List.mem_append_right _ (List.mem_append_right _ (List.mem_append_right _ (List.mem_append_right _ (List.mem_append_right _ (List.mem_append_right _ (List.mem_append_left _ (List.mem_of_getElem? (i := 103) rfl))))))))
set_option maxRecDepth 20000 in
theorem mco_232 : Cond.code (mY 232) (mC 232) (mL 232) (mR 232) ∈ lw_tbl := List.mem_append_right _ (List.mem_append_right _ (List.mem_append_right _ (List.mem_append_right _ (List.mem_append_right _ (List.mem_append_right _ (List.mem_append_right _ (List.mem_append_left _ (List.mem_of_getElem? (i := 139) rfl))))))))
set_option maxRecDepth 20000 in
theorem mco_233 : Cond.code (mY 233) (mC 233) (mL 233) (mR 233) ∈ lw_tbl := List.mem_append_right _ (List.mem_append_right _ (List.mem_append_right _ (List.mem_append_right _ (List.mem_append_right _ (List.mem_append_right _ (List.mem_append_right _ (List.mem_append_left _ (List.mem_of_getElem? (i := 147) rfl))))))))
set_option maxRecDepth 20000 in
theorem mco_234 : Cond.code (mY 234) (mC 234) (mL 234) (mR 234) ∈ lw_tbl := List.mem_append_right _ (List.mem_append_right _ (List.mem_append_right _ (List.mem_append_right _ (List.mem_append_right _ (List.mem_append_right _ (List.mem_append_right _ (List.mem_append_left _ (List.mem_of_getElem? (i := 143) rfl))))))))
set_option maxRecDepth 20000 in
theorem mco_235 : Cond.code (mY 235) (mC 235) (mL 235) (mR 235) ∈ lw_tbl := List.mem_append_right _ (List.mem_append_right _ (List.mem_append_right _ (List.mem_append_right _ (List.mem_append_right _ (List.mem_append_right _ (List.mem_append_right _ (List.mem_append_left _ (List.mem_of_getElem? (i := 151) rfl))))))))
set_option maxRecDepth 20000 in
theorem mco_236 : Cond.code (mY 236) (mC 236) (mL 236) (mR 236) ∈ lw_tbl := List.mem_append_right _ (List.mem_append_right _ (List.mem_append_right _ (List.mem_append_right _ (List.mem_append_right _ (List.mem_append_right _ (List.mem_append_right _ (List.mem_append_left _ (List.mem_of_getElem? (i := 159) rfl))))))))
set_option maxRecDepth 20000 in
theorem mco_237 : Cond.code (mY 237) (mC 237) (mL 237) (mR 237) ∈ lw_tbl := List.mem_append_right _ (List.mem_append_right _ (List.mem_append_right _ (List.mem_append_right _ (List.mem_append_right _ (List.mem_append_right _ (List.mem_append_right _ (List.mem_append_left _ (List.mem_of_getElem? (i := 155) rfl))))))))
set_option maxRecDepth 20000 in
theorem mco_238 : Cond.code (mY 238) (mC 238) (mL 238) (mR 238) ∈ lw_tbl := List.mem_append_right _ (List.mem_append_right _ (List.mem_append_right _ (List.mem_append_right _ (List.mem_append_right _ (List.mem_append_right _ (List.mem_append_right _ (List.mem_append_left _ (List.mem_of_getElem? (i := 167) rfl))))))))
set_option maxRecDepth 20000 in
theorem mco_239 : Cond.code (mY 239) (mC 239) (mL 239) (mR 239) ∈ lw_tbl := List.mem_append_right _ (List.mem_append_right _ (List.mem_append_right _ (List.mem_append_right _ (List.mem_append_right _ (List.mem_append_right _ (List.mem_append_right _ (List.mem_append_left _ (List.mem_of_getElem? (i := 163) rfl))))))))
set_option maxRecDepth 20000 in
theorem mco_240 : Cond.code (mY 240) (mC 240) (mL 240) (mR 240) ∈ lw_tbl := List.mem_append_right _ (List.mem_append_right _ (List.mem_append_right _ (List.mem_append_right _ (List.mem_append_right _ (List.mem_append_right _ (List.mem_append_right _ (List.mem_append_left _ (List.mem_of_getElem? (i := 179) rfl))))))))
set_option maxRecDepth 20000 in
theorem mco_241 : Cond.code (mY 241) (mC 241) (mL 241) (mR 241) ∈ lw_tbl := List.mem_append_right _ (List.mem_append_right _ (List.mem_append_right _ (List.mem_append_right _ (List.mem_append_right _ (List.mem_append_right _ (List.mem_append_right _ (List.mem_append_left _ (List.mem_of_getElem? (i := 183) rfl))))))))
set_option maxRecDepth 20000 in
theorem mco_242 : Cond.code (mY 242) (mC 242) (mL 242) (mR 242) ∈ lw_tbl := List.mem_append_right _ (List.mem_append_right _ (List.mem_append_right _ (List.mem_append_right _ (List.mem_append_right _ (List.mem_append_right _ (List.mem_append_right _ (List.mem_append_left _ (List.mem_of_getElem? (i := 175) rfl))))))))
set_option maxRecDepth 20000 in
theorem mco_243 : Cond.code (mY 243) (mC 243) (mL 243) (mR 243) ∈ lw_tbl := List.mem_append_right _ (List.mem_append_right _ (List.mem_append_right _ (List.mem_append_right _ (List.mem_append_right _ (List.mem_append_right _ (List.mem_append_right _ (List.mem_append_left _ (List.mem_of_getElem? (i := 171) rfl))))))))
set_option maxRecDepth 20000 in
theorem mco_244 : Cond.code (mY 244) (mC 244) (mL 244) (mR 244) ∈ lw_tbl := List.mem_append_right _ (List.mem_append_right _ (List.mem_append_right _ (List.mem_append_right _ (List.mem_append_right _ (List.mem_append_right _ (List.mem_append_right _ (List.mem_append_left _ (List.mem_of_getElem? (i := 191) rfl))))))))
set_option maxRecDepth 20000 in
theorem mco_245 : Cond.code (mY 245) (mC 245) (mL 245) (mR 245) ∈ lw_tbl := List.mem_append_right _ (List.mem_append_right _ (List.mem_append_right _ (List.mem_append_right _ (List.mem_append_right _ (List.mem_append_right _ (List.mem_append_right _ (List.mem_append_left _ (List.mem_of_getElem? (i := 195) rfl))))))))
set_option maxRecDepth 20000 in
theorem mco_246 : Cond.code (mY 246) (mC 246) (mL 246) (mR 246) ∈ lw_tbl := List.mem_append_right _ (List.mem_append_right _ (List.mem_append_right _ (List.mem_append_right _ (List.mem_append_right _ (List.mem_append_right _ (List.mem_append_right _ (List.mem_append_left _ (List.mem_of_getElem? (i := 199) rfl))))))))
set_option maxRecDepth 20000 in
theorem mco_247 : Cond.code (mY 247) (mC 247) (mL 247) (mR 247) ∈ lw_tbl := List.mem_append_right _ (List.mem_append_right _ (List.mem_append_right _ (List.mem_append_right _ (List.mem_append_right _ (List.mem_append_right _ (List.mem_append_right _ (List.mem_append_left _ (List.mem_of_getElem? (i := 203) rfl))))))))
set_option maxRecDepth 20000 in
theorem mco_248 : Cond.code (mY 248) (mC 248) (mL 248) (mR 248) ∈ lw_tbl := List.mem_append_right _ (List.mem_append_right _ (List.mem_append_right _ (List.mem_append_right _ (List.mem_append_right _ (List.mem_append_right _ (List.mem_append_right _ (List.mem_append_left _ (List.mem_of_getElem? (i := 187) rfl))))))))
set_option maxRecDepth 20000 in
theorem mco_249 : Cond.code (mY 249) (mC 249) (mL 249) (mR 249) ∈ lw_tbl := List.mem_append_right _ (List.mem_append_right _ (List.mem_append_right _ (List.mem_append_right _ (List.mem_append_right _ (List.mem_append_right _ (List.mem_append_right _ (List.mem_append_left _ (List.mem_of_getElem? (i := 211) rfl))))))))
set_option maxRecDepth 20000 in
theorem mco_250 : Cond.code (mY 250) (mC 250) (mL 250) (mR 250) ∈ lw_tbl := List.mem_append_right _ (List.mem_append_right _ (List.mem_append_right _ (List.mem_append_right _ (List.mem_append_right _ (List.mem_append_right _ (List.mem_append_right _ (List.mem_append_left _ (List.mem_of_getElem? (i := 207) rfl))))))))
set_option maxRecDepth 20000 in
theorem mco_251 : Cond.code (mY 251) (mC 251) (mL 251) (mR 251) ∈ lw_tbl := List.mem_append_right _ (List.mem_append_right _ (List.mem_append_right _ (List.mem_append_right _ (List.mem_append_right _ (List.mem_append_right _ (List.mem_append_right _ (List.mem_append_left _ (List.mem_of_getElem? (i := 223) rfl))))))))
set_option maxRecDepth 20000 in
theorem mco_252 : Cond.code (mY 252) (mC 252) (mL 252) (mR 252) ∈ lw_tbl := List.mem_append_right _ (List.mem_append_right _ (List.mem_append_right _ (List.mem_append_right _ (List.mem_append_right _ (List.mem_append_right _ (List.mem_append_right _ (List.mem_append_left _ (List.mem_of_getElem? (i := 235) rfl))))))))
set_option maxRecDepth 20000 in
theorem mco_253 : Cond.code (mY 253) (mC 253) (mL 253) (mR 253) ∈ lw_tbl := List.mem_append_right _ (List.mem_append_right _ (List.mem_append_right _ (List.mem_append_right _ (List.mem_append_right _ (List.mem_append_right _ (List.mem_append_right _ (List.mem_append_left _ (List.mem_of_getElem? (i := 239) rfl))))))))
set_option maxRecDepth 20000 in
theorem mco_254 : Cond.code (mY 254) (mC 254) (mL 254) (mR 254) ∈ lw_tbl := List.mem_append_right _ (List.mem_append_right _ (List.mem_append_right _ (List.mem_append_right _ (List.mem_append_right _ (List.mem_append_right _ (List.mem_append_right _ (List.mem_append_right _ (List.mem_of_getElem? (i := 3) rfl))))))))
set_option maxRecDepth 20000 in
theorem mco_255 : Cond.code (mY 255) (mC 255) (mL 255) (mR 255) ∈ lw_tbl := List.mem_append_right _ (List.mem_append_right _ (List.mem_append_right _ (List.mem_append_right _ (List.mem_append_right _ (List.mem_append_right _ (List.mem_append_right _ (List.mem_append_right _ (List.mem_of_getElem? (i := 7) rfl))))))))
set_option maxRecDepth 20000 in
theorem mco_256 : Cond.code (mY 256) (mC 256) (mL 256) (mR 256) ∈ lw_tbl := List.mem_append_right _ (List.mem_append_right _ (List.mem_append_right _ (List.mem_append_right _ (List.mem_append_right _ (List.mem_append_right _ (List.mem_append_right _ (List.mem_append_right _ (List.mem_of_getElem? (i := 11) rfl))))))))
set_option maxRecDepth 20000 in
theorem mco_257 : Cond.code (mY 257) (mC 257) (mL 257) (mR 257) ∈ lw_tbl := List.mem_append_right _ (List.mem_append_right _ (List.mem_append_right _ (List.mem_append_right _ (List.mem_append_right _ (List.mem_append_right _ (List.mem_append_right _ (List.mem_append_left _ (List.mem_of_getElem? (i := 231) rfl))))))))
set_option maxRecDepth 20000 in
theorem mco_258 : Cond.code (mY 258) (mC 258) (mL 258) (mR 258) ∈ lw_tbl := List.mem_append_right _ (List.mem_append_right _ (List.mem_append_right _ (List.mem_append_right _ (List.mem_append_right _ (List.mem_append_right _ (List.mem_append_right _ (List.mem_append_left _ (List.mem_of_getElem? (i := 227) rfl))))))))
set_option maxRecDepth 20000 in
theorem mco_259 : Cond.code (mY 259) (mC 259) (mL 259) (mR 259) ∈ lw_tbl := List.mem_append_right _ (List.mem_append_right _ (List.mem_append_right _ (List.mem_append_right _ (List.mem_append_right _ (List.mem_append_right _ (List.mem_append_right _ (List.mem_append_left _ (List.mem_of_getElem? (i := 219) rfl))))))))
set_option maxRecDepth 20000 in
theorem mco_260 : Cond.code (mY 260) (mC 260) (mL 260) (mR 260) ∈ lw_tbl := List.mem_append_right _ (List.mem_append_right _ (List.mem_append_right _ (List.mem_append_right _ (List.mem_append_right _ (List.mem_append_right _ (List.mem_append_right _ (List.mem_append_left _ (List.mem_of_getElem? (i := 215) rfl))))))))
set_option maxRecDepth 20000 in
theorem mco_261 : Cond.code (mY 261) (mC 261) (mL 261) (mR 261) ∈ lw_tbl := List.mem_append_right _ (List.mem_append_right _ (List.mem_append_right _ (List.mem_append_right _ (List.mem_append_right _ (List.mem_append_right _ (List.mem_append_right _ (List.mem_append_right _ (List.mem_of_getElem? (i := 19) rfl))))))))
set_option maxRecDepth 20000 in
theorem mco_262 : Cond.code (mY 262) (mC 262) (mL 262) (mR 262) ∈ lw_tbl := List.mem_append_right _ (List.mem_append_right _ (List.mem_append_right _ (List.mem_append_right _ (List.mem_append_right _ (List.mem_append_right _ (List.mem_append_right _ (List.mem_append_right _ (List.mem_of_getElem? (i := 15) rfl))))))))
set_option maxRecDepth 20000 in
theorem mco_263 : Cond.code (mY 263) (mC 263) (mL 263) (mR 263) ∈ lw_tbl := List.mem_append_right _ (List.mem_append_right _ (List.mem_append_right _ (List.mem_append_right _ (List.mem_append_right _ (List.mem_append_right _ (List.mem_append_right _ (List.mem_append_right _ (List.mem_of_getElem? (i := 27) rfl))))))))
set_option maxRecDepth 20000 in
theorem mco_264 : Cond.code (mY 264) (mC 264) (mL 264) (mR 264) ∈ lw_tbl := List.mem_append_right _ (List.mem_append_right _ (List.mem_append_right _ (List.mem_append_right _ (List.mem_append_right _ (List.mem_append_right _ (List.mem_append_right _ (List.mem_append_right _ (List.mem_of_getElem? (i := 23) rfl))))))))
set_option maxRecDepth 20000 in
theorem mco_265 : Cond.code (mY 265) (mC 265) (mL 265) (mR 265) ∈ lw_tbl := List.mem_append_right _ (List.mem_append_right _ (List.mem_append_right _ (List.mem_append_right _ (List.mem_append_right _ (List.mem_append_right _ (List.mem_append_right _ (List.mem_append_right _ (List.mem_of_getElem? (i := 35) rfl))))))))
set_option maxRecDepth 20000 in
theorem mco_266 : Cond.code (mY 266) (mC 266) (mL 266) (mR 266) ∈ lw_tbl := List.mem_append_right _ (List.mem_append_right _ (List.mem_append_right _ (List.mem_append_right _ (List.mem_append_right _ (List.mem_append_right _ (List.mem_append_right _ (List.mem_append_right _ (List.mem_of_getElem? (i := 31) rfl))))))))
set_option maxRecDepth 20000 in
theorem mco_267 : Cond.code (mY 267) (mC 267) (mL 267) (mR 267) ∈ lw_tbl := List.mem_append_right _ (List.mem_append_right _ (List.mem_append_right _ (List.mem_append_right _ (List.mem_append_right _ (List.mem_append_right _ (List.mem_append_right _ (List.mem_append_right _ (List.mem_of_getElem? (i := 47) rfl))))))))
set_option maxRecDepth 20000 in
theorem mco_268 : Cond.code (mY 268) (mC 268) (mL 268) (mR 268) ∈ lw_tbl := List.mem_append_right _ (List.mem_append_right _ (List.mem_append_right _ (List.mem_append_right _ (List.mem_append_right _ (List.mem_append_right _ (List.mem_append_right _ (List.mem_append_right _ (List.mem_of_getElem? (i := 43) rfl))))))))
set_option maxRecDepth 20000 in
theorem mco_269 : Cond.code (mY 269) (mC 269) (mL 269) (mR 269) ∈ lw_tbl := List.mem_append_right _ (List.mem_append_right _ (List.mem_append_right _ (List.mem_append_right _ (List.mem_append_right _ (List.mem_append_right _ (List.mem_append_right _ (List.mem_append_right _ (List.mem_of_getElem? (i := 55) rfl))))))))
set_option maxRecDepth 20000 in
theorem mco_270 : Cond.code (mY 270) (mC 270) (mL 270) (mR 270) ∈ lw_tbl := List.mem_append_right _ (List.mem_append_right _ (List.mem_append_right _ (List.mem_append_right _ (List.mem_append_right _ (List.mem_append_right _ (List.mem_append_right _ (List.mem_append_right _ (List.mem_of_getElem? (i := 51) rfl))))))))
set_option maxRecDepth 20000 in
theorem mco_271 : Cond.code (mY 271) (mC 271) (mL 271) (mR 271) ∈ lw_tbl := List.mem_append_right _ (List.mem_append_right _ (List.mem_append_right _ (List.mem_append_right _ (List.mem_append_right _ (List.mem_append_right _ (List.mem_append_right _ (List.mem_append_right _ (List.mem_of_getElem? (i := 59) rfl))))))))
set_option maxRecDepth 20000 in
theorem mco_272 : Cond.code (mY 272) (mC 272) (mL 272) (mR 272) ∈ lw_tbl := List.mem_append_right _ (List.mem_append_right _ (List.mem_append_right _ (List.mem_append_right _ (List.mem_append_right _ (List.mem_append_right _ (List.mem_append_right _ (List.mem_append_right _ (List.mem_of_getElem? (i := 39) rfl))))))))
set_option maxRecDepth 20000 in
theorem mco_273 : Cond.code (mY 273) (mC 273) (mL 273) (mR 273) ∈ lw_tbl := List.mem_append_right _ (List.mem_append_right _ (List.mem_append_right _ (List.mem_append_right _ (List.mem_append_right _ (List.mem_append_right _ (List.mem_append_right _ (List.mem_append_right _ (List.mem_of_getElem? (i := 63) rfl))))))))
set_option maxRecDepth 20000 in
theorem mco_274 : Cond.code (mY 274) (mC 274) (mL 274) (mR 274) ∈ lw_tbl := List.mem_append_right _ (List.mem_append_right _ (List.mem_append_right _ (List.mem_append_right _ (List.mem_append_right _ (List.mem_append_right _ (List.mem_append_right _ (List.mem_append_right _ (List.mem_of_getElem? (i := 75) rfl))))))))
set_option maxRecDepth 20000 in
theorem mco_275 : Cond.code (mY 275) (mC 275) (mL 275) (mR 275) ∈ lw_tbl := List.mem_append_right _ (List.mem_append_right _ (List.mem_append_right _ (List.mem_append_right _ (List.mem_append_right _ (List.mem_append_right _ (List.mem_append_right _ (List.mem_append_right _ (List.mem_of_getElem? (i := 71) rfl))))))))
set_option maxRecDepth 20000 in
theorem mco_276 : Cond.code (mY 276) (mC 276) (mL 276) (mR 276) ∈ lw_tbl := List.mem_append_right _ (List.mem_append_right _ (List.mem_append_right _ (List.mem_append_right _ (List.mem_append_right _ (List.mem_append_right _ (List.mem_append_right _ (List.mem_append_right _ (List.mem_of_getElem? (i := 67) rfl))))))))
set_option maxRecDepth 20000 in
theorem mco_277 : Cond.code (mY 277) (mC 277) (mL 277) (mR 277) ∈ lw_tbl := List.mem_append_right _ (List.mem_append_right _ (List.mem_append_right _ (List.mem_append_right _ (List.mem_append_right _ (List.mem_append_right _ (List.mem_append_right _ (List.mem_append_right _ (List.mem_of_getElem? (i := 87) rfl))))))))
set_option maxRecDepth 20000 in
theorem mco_278 : Cond.code (mY 278) (mC 278) (mL 278) (mR 278) ∈ lw_tbl := List.mem_append_right _ (List.mem_append_right _ (List.mem_append_right _ (List.mem_append_right _ (List.mem_append_right _ (List.mem_append_right _ (List.mem_append_right _ (List.mem_append_right _ (List.mem_of_getElem? (i := 83) rfl))))))))
set_option maxRecDepth 20000 in
theorem mco_279 : Cond.code (mY 279) (mC 279) (mL 279) (mR 279) ∈ lw_tbl := List.mem_append_right _ (List.mem_append_right _ (List.mem_append_right _ (List.mem_append_right _ (List.mem_append_right _ (List.mem_append_right _ (List.mem_append_right _ (List.mem_append_right _ (List.mem_of_getElem? (i := 79) rfl))))))))
set_option maxRecDepth 20000 in
theorem mco_280 : Cond.code (mY 280) (mC 280) (mL 280) (mR 280) ∈ lw_tbl := List.mem_append_right _ (List.mem_append_right _ (List.mem_append_right _ (List.mem_append_right _ (List.mem_append_right _ (List.mem_append_right _ (List.mem_append_right _ (List.mem_append_right _ (List.mem_of_getElem? (i := 92) rfl))))))))
set_option maxRecDepth 20000 in
theorem mco_281 : Cond.code (mY 281) (mC 281) (mL 281) (mR 281) ∈ lw_tbl := List.mem_append_right _ (List.mem_append_right _ (List.mem_append_right _ (List.mem_append_right _ (List.mem_append_right _ (List.mem_append_right _ (List.mem_append_right _ (List.mem_append_right _ (List.mem_of_getElem? (i := 96) rfl))))))))
set_option maxRecDepth 20000 in
theorem mco_282 : Cond.code (mY 282) (mC 282) (mL 282) (mR 282) ∈ lw_tbl := List.mem_append_right _ (List.mem_append_right _ (List.mem_append_right _ (List.mem_append_right _ (List.mem_append_right _ (List.mem_append_right _ (List.mem_append_right _ (List.mem_append_right _ (List.mem_of_getElem? (i := 100) rfl))))))))
set_option maxRecDepth 20000 in
theorem mco_283 : Cond.code (mY 283) (mC 283) (mL 283) (mR 283) ∈ lw_tbl := List.mem_append_right _ (List.mem_append_right _ (List.mem_append_right _ (List.mem_append_right _ (List.mem_append_left _ (List.mem_of_getElem? (i := 16) rfl)))))
theorem mk_co : ∀ k, k < 284 → Cond.code (mY k) (mC k) (mL k) (mR k) ∈ TB := by
  intro k hk
  refine List.mem_filter.mpr ⟨?_, rfl⟩
  match k, hk with
  | 0, _ => exact mco_0
  | 1, _ => exact mco_1
  | 2, _ => exact mco_2
  | 3, _ => exact mco_3
  | 4, _ => exact mco_4
  | 5, _ => exact mco_5
  | 6, _ => exact mco_6
  | 7, _ => exact mco_7
  | 8, _ => exact mco_8
  | 9, _ => exact mco_9
  | 10, _ => exact mco_10
  | 11, _ => exact mco_11
  | 12, _ => exact mco_12
  | 13, _ => exact mco_13
  | 14, _ => exact mco_14
  | 15, _ => exact mco_15
  | 16, _ => exact mco_16
  | 17, _ => exact mco_17
  | 18, _ => exact mco_18
  | 19, _ => exact mco_19
  | 20, _ => exact mco_20
  | 21, _ => exact mco_21
  | 22, _ => exact mco_22
  | 23, _ => exact mco_23
  | 24, _ => exact mco_24
  | 25, _ => exact mco_25
  | 26, _ => exact mco_26
  | 27, _ => exact mco_27
  | 28, _ => exact mco_28
  | 29, _ => exact mco_29
  | 30, _ => exact mco_30
  | 31, _ => exact mco_31
  | 32, _ => exact mco_32
  | 33, _ => exact mco_33
  | 34, _ => exact mco_34
  | 35, _ => exact mco_35
  | 36, _ => exact mco_36
  | 37, _ => exact mco_37
  | 38, _ => exact mco_38
  | 39, _ => exact mco_39
  | 40, _ => exact mco_40
  | 41, _ => exact mco_41
  | 42, _ => exact mco_42
  | 43, _ => exact mco_43
  | 44, _ => exact mco_44
  | 45, _ => exact mco_45
  | 46, _ => exact mco_46
  | 47, _ => exact mco_47
  | 48, _ => exact mco_48
  | 49, _ => exact mco_49
  | 50, _ => exact mco_50
  | 51, _ => exact mco_51
  | 52, _ => exact mco_52
  | 53, _ => exact mco_53
  | 54, _ => exact mco_54
  | 55, _ => exact mco_55
  | 56, _ => exact mco_56
  | 57, _ => exact mco_57
  | 58, _ => exact mco_58
  | 59, _ => exact mco_59
  | 60, _ => exact mco_60
  | 61, _ => exact mco_61
  | 62, _ => exact mco_62
  | 63, _ => exact mco_63
  | 64, _ => exact mco_64
  | 65, _ => exact mco_65
  | 66, _ => exact mco_66
  | 67, _ => exact mco_67
  | 68, _ => exact mco_68
  | 69, _ => exact mco_69
  | 70, _ => exact mco_70
  | 71, _ => exact mco_71
  | 72, _ => exact mco_72
  | 73, _ => exact mco_73
  | 74, _ => exact mco_74
  | 75, _ => exact mco_75
  | 76, _ => exact mco_76
  | 77, _ => exact mco_77
  | 78, _ => exact mco_78
  | 79, _ => exact mco_79
  | 80, _ => exact mco_80
  | 81, _ => exact mco_81
  | 82, _ => exact mco_82
  | 83, _ => exact mco_83
  | 84, _ => exact mco_84
  | 85, _ => exact mco_85
  | 86, _ => exact mco_86
  | 87, _ => exact mco_87
  | 88, _ => exact mco_88
  | 89, _ => exact mco_89
  | 90, _ => exact mco_90
  | 91, _ => exact mco_91
  | 92, _ => exact mco_92
  | 93, _ => exact mco_93
  | 94, _ => exact mco_94
  | 95, _ => exact mco_95
  | 96, _ => exact mco_96
  | 97, _ => exact mco_97
  | 98, _ => exact mco_98
  | 99, _ => exact mco_99
  | 100, _ => exact mco_100
  | 101, _ => exact mco_101
  | 102, _ => exact mco_102
  | 103, _ => exact mco_103
  | 104, _ => exact mco_104
  | 105, _ => exact mco_105
  | 106, _ => exact mco_106
  | 107, _ => exact mco_107
  | 108, _ => exact mco_108
  | 109, _ => exact mco_109
  | 110, _ => exact mco_110
  | 111, _ => exact mco_111
  | 112, _ => exact mco_112
  | 113, _ => exact mco_113
  | 114, _ => exact mco_114
  | 115, _ => exact mco_115
  | 116, _ => exact mco_116
  | 117, _ => exact mco_117
  | 118, _ => exact mco_118
  | 119, _ => exact mco_119
  | 120, _ => exact mco_120
  | 121, _ => exact mco_121
  | 122, _ => exact mco_122
  | 123, _ => exact mco_123
  | 124, _ => exact mco_124
  | 125, _ => exact mco_125
  | 126, _ => exact mco_126
  | 127, _ => exact mco_127
  | 128, _ => exact mco_128
  | 129, _ => exact mco_129
  | 130, _ => exact mco_130
  | 131, _ => exact mco_131
  | 132, _ => exact mco_132
  | 133, _ => exact mco_133
  | 134, _ => exact mco_134
  | 135, _ => exact mco_135
  | 136, _ => exact mco_136
  | 137, _ => exact mco_137
  | 138, _ => exact mco_138
  | 139, _ => exact mco_139
  | 140, _ => exact mco_140
  | 141, _ => exact mco_141
  | 142, _ => exact mco_142
  | 143, _ => exact mco_143
  | 144, _ => exact mco_144
  | 145, _ => exact mco_145
  | 146, _ => exact mco_146
  | 147, _ => exact mco_147
  | 148, _ => exact mco_148
  | 149, _ => exact mco_149
  | 150, _ => exact mco_150
  | 151, _ => exact mco_151
  | 152, _ => exact mco_152
  | 153, _ => exact mco_153
  | 154, _ => exact mco_154
  | 155, _ => exact mco_155
  | 156, _ => exact mco_156
  | 157, _ => exact mco_157
  | 158, _ => exact mco_158
  | 159, _ => exact mco_159
  | 160, _ => exact mco_160
  | 161, _ => exact mco_161
  | 162, _ => exact mco_162
  | 163, _ => exact mco_163
  | 164, _ => exact mco_164
  | 165, _ => exact mco_165
  | 166, _ => exact mco_166
  | 167, _ => exact mco_167
  | 168, _ => exact mco_168
  | 169, _ => exact mco_169
  | 170, _ => exact mco_170
  | 171, _ => exact mco_171
  | 172, _ => exact mco_172
  | 173, _ => exact mco_173
  | 174, _ => exact mco_174
  | 175, _ => exact mco_175
  | 176, _ => exact mco_176
  | 177, _ => exact mco_177
  | 178, _ => exact mco_178
  | 179, _ => exact mco_179
  | 180, _ => exact mco_180
  | 181, _ => exact mco_181
  | 182, _ => exact mco_182
  | 183, _ => exact mco_183
  | 184, _ => exact mco_184
  | 185, _ => exact mco_185
  | 186, _ => exact mco_186
  | 187, _ => exact mco_187
  | 188, _ => exact mco_188
  | 189, _ => exact mco_189
  | 190, _ => exact mco_190
  | 191, _ => exact mco_191
  | 192, _ => exact mco_192
  | 193, _ => exact mco_193
  | 194, _ => exact mco_194
  | 195, _ => exact mco_195
  | 196, _ => exact mco_196
  | 197, _ => exact mco_197
  | 198, _ => exact mco_198
  | 199, _ => exact mco_199
  | 200, _ => exact mco_200
  | 201, _ => exact mco_201
  | 202, _ => exact mco_202
  | 203, _ => exact mco_203
  | 204, _ => exact mco_204
  | 205, _ => exact mco_205
  | 206, _ => exact mco_206
  | 207, _ => exact mco_207
  | 208, _ => exact mco_208
  | 209, _ => exact mco_209
  | 210, _ => exact mco_210
  | 211, _ => exact mco_211
  | 212, _ => exact mco_212
  | 213, _ => exact mco_213
  | 214, _ => exact mco_214
  | 215, _ => exact mco_215
  | 216, _ => exact mco_216
  | 217, _ => exact mco_217
  | 218, _ => exact mco_218
  | 219, _ => exact mco_219
  | 220, _ => exact mco_220
  | 221, _ => exact mco_221
  | 222, _ => exact mco_222
  | 223, _ => exact mco_223
  | 224, _ => exact mco_224
  | 225, _ => exact mco_225
  | 226, _ => exact mco_226
  | 227, _ => exact mco_227
  | 228, _ => exact mco_228
  | 229, _ => exact mco_229
  | 230, _ => exact mco_230
  | 231, _ => exact mco_231
  | 232, _ => exact mco_232
  | 233, _ => exact mco_233
  | 234, _ => exact mco_234
  | 235, _ => exact mco_235
  | 236, _ => exact mco_236
  | 237, _ => exact mco_237
  | 238, _ => exact mco_238
  | 239, _ => exact mco_239
  | 240, _ => exact mco_240
  | 241, _ => exact mco_241
  | 242, _ => exact mco_242
  | 243, _ => exact mco_243
  | 244, _ => exact mco_244
  | 245, _ => exact mco_245
  | 246, _ => exact mco_246
  | 247, _ => exact mco_247
  | 248, _ => exact mco_248
  | 249, _ => exact mco_249
  | 250, _ => exact mco_250
  | 251, _ => exact mco_251
  | 252, _ => exact mco_252
  | 253, _ => exact mco_253
  | 254, _ => exact mco_254
  | 255, _ => exact mco_255
  | 256, _ => exact mco_256
  | 257, _ => exact mco_257
  | 258, _ => exact mco_258
  | 259, _ => exact mco_259
  | 260, _ => exact mco_260
  | 261, _ => exact mco_261
  | 262, _ => exact mco_262
  | 263, _ => exact mco_263
  | 264, _ => exact mco_264
  | 265, _ => exact mco_265
  | 266, _ => exact mco_266
  | 267, _ => exact mco_267
  | 268, _ => exact mco_268
  | 269, _ => exact mco_269
  | 270, _ => exact mco_270
  | 271, _ => exact mco_271
  | 272, _ => exact mco_272
  | 273, _ => exact mco_273
  | 274, _ => exact mco_274
  | 275, _ => exact mco_275
  | 276, _ => exact mco_276
  | 277, _ => exact mco_277
  | 278, _ => exact mco_278
  | 279, _ => exact mco_279
  | 280, _ => exact mco_280
  | 281, _ => exact mco_281
  | 282, _ => exact mco_282
  | 283, _ => exact mco_283
  | n + 284, h => exact absurd h (by omega)
theorem mk_in : pIn.map (fun i => lw_tbl[i]?) = (List.range 284).map (fun k => some (Cond.initialized (mY k).cls)) := by decide +kernel
theorem mk_me : pMe.map (fun i => lw_tbl[i]?) = (List.range 284).map (fun k => some (if mK k = 0 then Cond.static (mY k) else Cond.instanceMethod (mY k))) := by decide +kernel
theorem mk_se : (List.range 284).all (fun k => if mK k = 1 then decide (lw_tbl[pSe.getD k 0]? = some (Cond.selects (mY k).cls (mY k) (mY k))) else true) = true := by decide +kernel
theorem mk_fa : (List.range 284).all (fun k => decide ((mY k).cls ≠ "java/lang/invoke/MethodHandle") && (decide ((mY k).cls ≠ "java/lang/invoke/VarHandle") && (decide (decide (mK k = 2) = decide ((mY k).name = "<init>")) && (decide (cN (mO k) = (mY k).cls) && decide (mO k < 15))))) = true := by decide +kernel
theorem pn_0 : plainName "QuotaParish$Annals" = true := by decide
theorem pn_1 : plainName "QuotaParish$Bonds" = true := by decide
theorem pn_2 : plainName "QuotaParish$Buying" = true := by decide
theorem pn_3 : plainName "QuotaParish$Course" = true := by decide
theorem pn_4 : plainName "QuotaParish$Fitting" = true := by decide
theorem pn_5 : plainName "QuotaParish$Levy" = true := by decide
theorem pn_6 : plainName "QuotaParish$Outlook" = true := by decide
theorem pn_7 : plainName "QuotaParish$Pairs" = true := by decide
theorem pn_8 : plainName "QuotaParish$Parish" = true := by decide
theorem pn_9 : plainName "QuotaParish$Reader" = true := by decide
theorem pn_10 : plainName "QuotaParish$Told" = true := by decide
theorem pn_11 : plainName "QuotaParish" = true := by decide
theorem pn_12 : plainName "QuotaParishModel" = true := by decide
theorem pn_13 : plainName "java/lang/Integer" = true := by decide
theorem pn_14 : plainName "QuotaParishLaw" = true := by decide
theorem pn_all : ∀ o, o < 15 → plainName (cN o) = true := by
  intro o ho
  match o, ho with
  | 0, _ => exact pn_0
  | 1, _ => exact pn_1
  | 2, _ => exact pn_2
  | 3, _ => exact pn_3
  | 4, _ => exact pn_4
  | 5, _ => exact pn_5
  | 6, _ => exact pn_6
  | 7, _ => exact pn_7
  | 8, _ => exact pn_8
  | 9, _ => exact pn_9
  | 10, _ => exact pn_10
  | 11, _ => exact pn_11
  | 12, _ => exact pn_12
  | 13, _ => exact pn_13
  | 14, _ => exact pn_14
  | n + 15, h => exact absurd h (by omega)
theorem uw_0 : ([471, 473, 475, 477, 479, 481, 483] : List Nat).map (fun i => lw_tbl[i]?) = (u_ws (vC 0).1 (vC 0).2.1 (vC 0).2.2).map some := by decide +kernel
theorem uwg_0 : (u_ws (vC 0).1 (vC 0).2.1 (vC 0).2.2).all gdW = true := by decide +kernel
theorem uw_1 : ([424, 426, 428, 430, 432, 434, 436, 438] : List Nat).map (fun i => lw_tbl[i]?) = (u_ws (vC 1).1 (vC 1).2.1 (vC 1).2.2).map some := by decide +kernel
theorem uwg_1 : (u_ws (vC 1).1 (vC 1).2.1 (vC 1).2.2).all gdW = true := by decide +kernel
theorem uw_2 : ([384, 386, 388, 390, 392, 394, 396, 398, 400, 402] : List Nat).map (fun i => lw_tbl[i]?) = (u_ws (vC 2).1 (vC 2).2.1 (vC 2).2.2).map some := by decide +kernel
theorem uwg_2 : (u_ws (vC 2).1 (vC 2).2.1 (vC 2).2.2).all gdW = true := by decide +kernel
theorem uw_3 : ([501, 503, 505, 507, 509, 511] : List Nat).map (fun i => lw_tbl[i]?) = (u_ws (vC 3).1 (vC 3).2.1 (vC 3).2.2).map some := by decide +kernel
theorem uwg_3 : (u_ws (vC 3).1 (vC 3).2.1 (vC 3).2.2).all gdW = true := by decide +kernel
theorem uw_4 : ([350, 352, 354] : List Nat).map (fun i => lw_tbl[i]?) = (u_ws (vC 4).1 (vC 4).2.1 (vC 4).2.2).map some := by decide +kernel
theorem uwg_4 : (u_ws (vC 4).1 (vC 4).2.1 (vC 4).2.2).all gdW = true := by decide +kernel
theorem uw_5 : ([449, 451] : List Nat).map (fun i => lw_tbl[i]?) = (u_ws (vC 5).1 (vC 5).2.1 (vC 5).2.2).map some := by decide +kernel
theorem uwg_5 : (u_ws (vC 5).1 (vC 5).2.1 (vC 5).2.2).all gdW = true := by decide +kernel
theorem uw_6 : ([237, 239, 241] : List Nat).map (fun i => lw_tbl[i]?) = (u_ws (vC 6).1 (vC 6).2.1 (vC 6).2.2).map some := by decide +kernel
theorem uwg_6 : (u_ws (vC 6).1 (vC 6).2.1 (vC 6).2.2).all gdW = true := by decide +kernel
theorem uw_7 : ([197, 199, 201, 203, 205, 207, 209, 211, 213, 215, 217] : List Nat).map (fun i => lw_tbl[i]?) = (u_ws (vC 7).1 (vC 7).2.1 (vC 7).2.2).map some := by decide +kernel
theorem uwg_7 : (u_ws (vC 7).1 (vC 7).2.1 (vC 7).2.2).all gdW = true := by decide +kernel
theorem uw_8 : ([305, 307, 309, 311, 313, 315, 317, 319, 321, 323, 325, 327] : List Nat).map (fun i => lw_tbl[i]?) = (u_ws (vC 8).1 (vC 8).2.1 (vC 8).2.2).map some := by decide +kernel
theorem uwg_8 : (u_ws (vC 8).1 (vC 8).2.1 (vC 8).2.2).all gdW = true := by decide +kernel
theorem uw_9 : ([260, 262, 264, 266, 268, 270, 272, 274] : List Nat).map (fun i => lw_tbl[i]?) = (u_ws (vC 9).1 (vC 9).2.1 (vC 9).2.2).map some := by decide +kernel
theorem uwg_9 : (u_ws (vC 9).1 (vC 9).2.1 (vC 9).2.2).all gdW = true := by decide +kernel
theorem uw_10 : ([524, 526, 528, 530, 532, 534, 536, 538, 540] : List Nat).map (fun i => lw_tbl[i]?) = (u_ws (vC 10).1 (vC 10).2.1 (vC 10).2.2).map some := by decide +kernel
theorem uwg_10 : (u_ws (vC 10).1 (vC 10).2.1 (vC 10).2.2).all gdW = true := by decide +kernel
theorem uw_11 : ([1311, 1313, 1315, 1317, 1319, 1321, 1323, 1325, 1327, 1329, 1331, 1333, 1335, 1337, 1339, 1341, 1343, 1345, 1347, 1349, 1351, 1353, 1355, 1357, 1359, 1361, 1363, 1365, 1367, 1369, 1371, 1373, 1375, 1377, 1379, 1381, 1383, 1385, 1387, 1389, 1391, 1393, 1395, 1397, 1399, 1401, 1403] : List Nat).map (fun i => lw_tbl[i]?) = (u_ws (vC 11).1 (vC 11).2.1 (vC 11).2.2).map some := by decide +kernel
theorem uwg_11 : (u_ws (vC 11).1 (vC 11).2.1 (vC 11).2.2).all gdW = true := by decide +kernel
theorem uw_of {ps : List Nat} {ws : List Cond} (h : ps.map (fun i => lw_tbl[i]?) = ws.map some) (g : ws.all gdW = true) : ∀ w ∈ ws, w ∈ TB := by
  intro w hw
  have h1 : some w ∈ ws.map some := List.mem_map.mpr ⟨w, hw, rfl⟩
  rw [← h] at h1
  obtain ⟨i, -, hi⟩ := List.mem_map.mp h1
  exact TB_at i hi (List.all_eq_true.mp g w hw)
theorem uw_all : ∀ ci, ci < 12 → ∀ w ∈ u_ws (vC ci).1 (vC ci).2.1 (vC ci).2.2, w ∈ TB := by
  intro ci h
  match ci, h with
  | 0, _ => exact uw_of uw_0 uwg_0
  | 1, _ => exact uw_of uw_1 uwg_1
  | 2, _ => exact uw_of uw_2 uwg_2
  | 3, _ => exact uw_of uw_3 uwg_3
  | 4, _ => exact uw_of uw_4 uwg_4
  | 5, _ => exact uw_of uw_5 uwg_5
  | 6, _ => exact uw_of uw_6 uwg_6
  | 7, _ => exact uw_of uw_7 uwg_7
  | 8, _ => exact uw_of uw_8 uwg_8
  | 9, _ => exact uw_of uw_9 uwg_9
  | 10, _ => exact uw_of uw_10 uwg_10
  | 11, _ => exact uw_of uw_11 uwg_11
  | n + 12, h => exact absurd h (by omega)
def tyA (ci : Nat) : Nat → FieldType := [tyX0, tyX2, tyX3, tyX4, tyX5, tyX6, tyX7, tyX8, tyX9, tyX10, tyX11, tyX12].getD ci tyX0
theorem ty_all : ∀ ci, ci < 12 → ∀ k, k < (vC ci).2.2 → parseFieldDescriptor ((vC ci).2.1 k).2.2.1 = some (tyA ci k) := by
  intro ci h
  match ci, h with
  | 0, _ => exact tyX0_ok
  | 1, _ => exact tyX2_ok
  | 2, _ => exact tyX3_ok
  | 3, _ => exact tyX4_ok
  | 4, _ => exact tyX5_ok
  | 5, _ => exact tyX6_ok
  | 6, _ => exact tyX7_ok
  | 7, _ => exact tyX8_ok
  | 8, _ => exact tyX9_ok
  | 9, _ => exact tyX10_ok
  | 10, _ => exact tyX11_ok
  | 11, _ => exact tyX12_ok
  | n + 12, h => exact absurd h (by omega)
theorem nm_all : ∀ ci, ci < 12 → ∀ a, a < (vC ci).2.2 → ∀ b, b < (vC ci).2.2 → a ≠ b → ((vC ci).2.1 a).2.1 ≠ ((vC ci).2.1 b).2.1 := by
  intro ci h
  match ci, h with
  | 0, _ => exact nmX0
  | 1, _ => exact nmX2
  | 2, _ => exact nmX3
  | 3, _ => exact nmX4
  | 4, _ => exact nmX5
  | 5, _ => exact nmX6
  | 6, _ => exact nmX7
  | 7, _ => exact nmX8
  | 8, _ => exact nmX9
  | 9, _ => exact nmX10
  | 10, _ => exact nmX11
  | 11, _ => exact nmX12
  | n + 12, h => exact absurd h (by omega)
theorem vC_at : ∀ ci, ci < 12 → vwCl[ci]? = some (vC ci) := by
  intro ci h
  match ci, h with
  | 0, _ => rfl
  | 1, _ => rfl
  | 2, _ => rfl
  | 3, _ => rfl
  | 4, _ => rfl
  | 5, _ => rfl
  | 6, _ => rfl
  | 7, _ => rfl
  | 8, _ => rfl
  | 9, _ => rfl
  | 10, _ => rfl
  | 11, _ => rfl
  | n + 12, h => exact absurd h (by omega)
theorem cl_in : ([455, 406, 332, 487, 340, 442, 221, 145, 279, 136, 128, 1259] : List Nat).map (fun i => lw_tbl[i]?) = (List.range 12).map (fun ci => some (Cond.instantiable (vC ci).1 (vC ci).2.2)) := by decide +kernel
theorem cl_it : ([116, 114, 112, 117, 113, 115, 110, 109, 111, 108, 107, 118] : List Nat).map (fun i => lw_tbl[i]?) = (List.range 12).map (fun ci => some (Cond.initialized (vC ci).1)) := by decide +kernel
