/-! THE CLAIM OUT OF ONE WALK OF THE LAW'S BODY. Your part is whole_start (and what it stands on); all else here is the same for every law, but numbers. -/
def R_law : String := "QuotaParishLaw"
def lw_P (b : Addr) (xs : List Int32) (args : Array Value) (s : State) : Prop := args = #[.ref b] ∧ s.IntsAt b xs ∧ xs.length ≤ 3072 ∧ (Jvm.Cond.and given_1 narrow_1).before args s = true
def lw_Q (_ : Array Value) (s : State) (o : Outcome) (t : State) : Prop := o = .returned (some (.int 1)) ∧ Framed s o t [] 600000 7302250
def lw_Z (below : List Frame) (a : Array Value) (s : State) : State → Prop := fun t => ∃ o, t.status = .running ∧ Ended t below o ∧ lw_Q a s o t
/-- the law's own end, with 1 on the stack, nothing written that was there before, its room as the claim has it -/
theorem lw_ret {p : Program} {l : Launch} {e : Env} {s : State} {m : MethodId} {below : List Frame} {meth : Method} {c : Code} {b : Nat} (hx : p.tables.exec = Jvm.exec) (hb : c.code = code) (hr : meth.sig.returnType = ret) (hlocks : meth.locks = false) {pc : Nat} {H : Heap} {ls : Array Slot} (hdg : decode code pc = .ok (.ireturn, 1)) : W p l e room_1 s m #[Value.ref b] below meth c H [] 600000 7302250 (lw_Z below #[Value.ref b] s) (F0 m pc ls [.int 1]) := by
  intro T hT X
  obtain ⟨fs, hret, hrun, hended, hW, hframe⟩ := X.leave (v := some (.int 1)) (hlocks := hlocks) (fun h => by rw [hr] at h; cases h)
  have hmeth' : T.vm.method? m = some meth := X.method'
  refine ⟨T.setFrames fs, ?_, .returned (some (.int 1)), hrun, hended, rfl, ⟨_, rfl⟩, hW, hframe⟩
  jvm_step X.here [X.here.top, hx, hb, hdg, hmeth', hr, ret, narrow_b1]
  (try refine ⟨rfl, ?_⟩); (try refine ⟨rfl, ?_⟩)
  first | (intro acts; rw [hret _ acts rfl rfl rfl]) | rw [hret _ _ rfl rfl rfl]
  exact Steps.refl _
/-- what holds at the law's entry: the machine, the code, the tables' words (any of lw_tbl by 'hts w (by decide +kernel)'), the script of L ints xs at the cell b, what the Statement gives of the start (any of its parts by flat_of_before) -/
def lw_At (p : Program) (s : State) (m : MethodId) (meth : Method) (c : Code) (b L : Nat) (xs : Nat → Int32) : Prop :=
  p.tables.exec = Jvm.exec ∧ c.code = code ∧ meth.sig.returnType = ret ∧ c.maxLocals = 4 ∧ s.vm.findClass R_law = some m.cls ∧ (∀ w ∈ lw_tbl, w.before #[Value.ref b] s = true) ∧ va_X b L xs s s.heap ∧ b < s.heap.size ∧ meth.locks = false ∧ (Jvm.Cond.and given_1 narrow_1).before #[Value.ref b] s = true

/-! THE LAW'S ENTRY: what the Statement gives -/
def lmP : List Int := [99, -1, -1, 99, -1, -1, 6, -1, -1, 99, 9, -1, 6, 6, -1, 6, 6, 6]
def lmY : List Int := [-1, -1, -1, 6, -1, -1, 6, -1, -1, 99, -1, -1, 99, -1, -1, 9, -1, -1]
def lmL : List Int := [6, 99, -1]
def XX (L : Nat) (xs : Nat → Int32) : PX := fun j => if j < 11 then (sLen.getD j 0, fun i => ((sByt.getD j []).getD i 0).toInt) else if j = 11 then (18, fun i => lmP.getD i 0) else if j = 12 then (18, fun i => lmY.getD i 0) else if j = 13 then (3, fun i => lmL.getD i 0) else (L, fun i => (xs i).toInt)
abbrev flL : List Cond := flatC (Jvm.Cond.and given_1 narrow_1)
def sIx : List Nat := [155, 156, 157, 159, 161, 163, 165, 167, 169, 171, 149]
def tmS (j : Nat) : Term := .string "QuotaParish$Reader" (sIx.getD j 0)
abbrev tmV (j : Nat) : Term := .field (tmS j) "java/lang/String" "value" "[B"
theorem e_hex : ∀ i : Nat, i < 11 → Cond.exactly (tmS i) "java/lang/String" ∈ flL := by decide +kernel
theorem e_hco : ∀ i : Nat, i < 11 → Cond.eq (.field (tmS i) "java/lang/String" "coder" "B") (.int 0) ∈ flL := by decide +kernel
theorem e_har : ∀ i : Nat, i < 11 → Cond.arrayOf (tmV i) .byte ∈ flL := by decide +kernel
theorem e_hle : ∀ i : Nat, i < 11 → Cond.eq (.length (tmV i)) (.int (Int32.ofNat (sLen.getD i 0))) ∈ flL := by decide +kernel
theorem e_hel : ∀ i : Nat, i < 11 → ∀ j : Nat, j < sLen.getD i 0 → Cond.eq (.elem (tmV i) (.int (Int32.ofNat j))) (.int ((sByt.getD i []).getD j 0)) ∈ flL := by decide +kernel
theorem e_hne : ∀ i : Nat, i < 11 → ∀ j : Nat, j < 11 → i ≠ j → Cond.not (Cond.eq (tmS i) (tmS j)) ∈ flL ∨ Cond.not (Cond.eq (tmS j) (tmS i)) ∈ flL := by decide +kernel
abbrev tmR (j : Nat) : Term := .static "QuotaParish$Reader" (srN.getD j "") "[I"
def lmA (j : Nat) : Nat → Int := fun i => ([lmP, lmY, lmL].getD j []).getD i 0
def lmN : List Nat := [18, 18, 3]
theorem e_lar : ∀ j : Nat, j < 3 → Cond.arrayOf (tmR j) .int ∈ flL := by decide +kernel
theorem e_lle : ∀ j : Nat, j < 3 → Cond.eq (.length (tmR j)) (.int (Int32.ofNat (lmN.getD j 0))) ∈ flL := by decide +kernel
theorem e_lel : ∀ j : Nat, j < 3 → ∀ i : Nat, i < lmN.getD j 0 → Cond.eq (.elem (tmR j) (.int (Int32.ofNat i))) (.int (Int32.ofInt (lmA j i))) ∈ flL := by decide +kernel
theorem e_com : Cond.eq (.static "java/lang/String" "COMPACT_STRINGS" "Z") (.int 1) ∈ flL := by decide +kernel
theorem e_sio : Cond.isRef (.static "jdk/internal/util/Preconditions" "SIOOBE_FORMATTER" "Ljava/util/function/BiFunction;") ∈ flL := by decide +kernel
theorem e_lst : ([696, 698, 700] : List Nat).map (fun i => lw_tbl[i]?) = (List.range 3).map (fun j => some (Cond.laysStatic "QuotaParish$Reader" (srN.getD j "") "[I")) := by decide +kernel
theorem e_six : (lks 9).all (fun t => if t.1 = 6 then decide (sIx.getD t.2.2.1 0 = t.2.1) && decide (t.2.2.1 < 11) else true) = true := by decide +kernel
theorem e_no6 : (List.range 15).all (fun o => if o = 9 then true else (lks o).all (fun t => decide (t.1 ≠ 6))) = true := by decide +kernel
theorem e_ao : ([142, 144, 277] : List Nat).map (fun i => lw_tbl[i]?) = [some (Cond.arrayOver (.object (vC 7).1)), some (Cond.arrayOver (.object (vC 6).1)), some (Cond.arrayOver (.object (vC 9).1))] := by decide +kernel
theorem lks_out {o : Nat} (h : 15 ≤ o) : lks o = [] := by
  unfold lks
  rw [List.getD_eq_getElem?_getD, List.getElem?_eq_none (by simpa using h)]
  rfl
theorem entry_EX {s : State} {b L : Nat} {xs : Nat → Int32} (hL : L ≤ 3072) (hgv : (Jvm.Cond.and given_1 narrow_1).before #[Value.ref b] s = true) (hts : ∀ w ∈ lw_tbl, w.before #[Value.ref b] s = true) (hX : va_X b L xs s s.heap) (hbl : b < s.heap.size) : ∃ ext adV : Nat → Nat, EX s.heap.size ext adV (XX L xs) s ∧ ext 14 = b := by
  have hf := flat_of_before _ hgv
  have hA : ∀ a : Nat, a < s.heap.size → ¬ s.heap.size ≤ a := fun a h => Nat.not_le.mpr h
  obtain ⟨adK, adV, hS, hev⟩ := vk_Sof (N := 11) (tm := tmS) (len := sLen) (byt := sByt) (A := fun q => s.heap.size ≤ q) (args := #[Value.ref b]) (s := s) (by decide +kernel) (fun i hi => hf _ (e_hex i hi)) (fun i hi => hf _ (e_hco i hi)) (fun i hi => hf _ (e_har i hi)) (fun i hi => hf _ (e_hle i hi)) (fun i hi j hj => hf _ (e_hel i hi j hj)) (fun i j hi hj hne => (e_hne i hi j hj hne).imp (hf _) (hf _)) hA
  have hT : ∀ j : Nat, j < 3 → ∃ t : Nat, (tmR j).eval #[Value.ref b] s none [] s = some (.ref t) ∧ va_T .int t (lmN.getD j 0) (fun i => .int (Int32.ofInt (lmA j i))) (fun q => s.heap.size ≤ q) s s.heap := by
    intro j hj
    exact va_Tof ((show ∀ j : Nat, j < 3 → lmN.getD j 0 < 2 ^ 31 by decide) j hj) (hf _ (e_lar j hj)) (va_eqt (hf _ (e_lle j hj))) (fun i hi => va_eqt (hf _ (e_lel j hj i hi))) hA
  obtain ⟨t0, q0, r0⟩ := hT 0 (by decide)
  obtain ⟨t1, q1, r1⟩ := hT 1 (by decide)
  obtain ⟨t2, q2, r2⟩ := hT 2 (by decide)
  refine ⟨fun j => if j < 11 then adK j else if j = 11 then t0 else if j = 12 then t1 else if j = 13 then t2 else b, adV, ⟨?_, ?_, ?_, ?_, ?_, ?_, ?_, ?_, ?_⟩, rfl⟩
  · intro o ix k bb h
    exact va_Nw.of rfl (hts _ (lk_in o _ h))
  · intro o ix j bb h
    by_cases ho : o = 9
    · subst ho
      have h1 := List.all_eq_true.mp e_six _ h
      simp only [if_pos, Bool.and_eq_true, decide_eq_true_eq] at h1
      have hw := hts _ (lk_in 9 _ h)
      dsimp only
      rw [if_pos h1.2]
      refine vk_R.of (A := #[Value.ref b]) hw ?_
      have := hev j h1.2
      unfold tmS at this
      rw [h1.1] at this
      exact this
    · rcases Nat.lt_or_ge o 15 with h16 | h16
      · have h1 := List.all_eq_true.mp e_no6 o (List.mem_range.mpr h16)
        rw [if_neg ho] at h1
        have h2 := List.all_eq_true.mp h1 _ h
        simp at h2
      · rw [lks_out h16] at h
        cases h
  · refine ⟨fun i hi => ?_, fun i j hi hj h => ?_⟩
    · dsimp only
      rw [if_pos hi]
      exact hS.1 i hi
    · dsimp only at h
      rw [if_pos hi, if_pos hj] at h
      exact hS.2 i j hi hj h
  · intro j hj
    have hl : (Cond.laysStatic "QuotaParish$Reader" (srN.getD j "") "[I").before #[Value.ref b] s = true := hts _ (mem_pos (f := fun j => Cond.laysStatic "QuotaParish$Reader" (srN.getD j "") "[I") e_lst hj)
    have hi : (Cond.initialized "QuotaParish$Reader").before #[Value.ref b] s = true := hts _ (List.mem_of_getElem? (i := 111) (by decide +kernel))
    match j, hj with
    | 0, _ => exact va_Zref hl hi q0 hA
    | 1, _ => exact va_Zref hl hi q1 hA
    | 2, _ => exact va_Zref hl hi q2 hA
  · intro j h1 h2
    match j, h1, h2 with
    | 11, _, _ => exact ⟨r0, by show (18 : Nat) < _; omega⟩
    | 12, _, _ => exact ⟨r1, by show (18 : Nat) < _; omega⟩
    | 13, _, _ => exact ⟨r2, by show (3 : Nat) < _; omega⟩
    | 14, _, _ =>
      refine ⟨?_, by show L < _; omega⟩
      obtain ⟨scr, x1, x2, x3, x4, x5⟩ := hX
      refine ⟨scr, x1, x2, x3, by show L ≤ _; omega, by rw [x4]; rfl, fun i hi => ?_, hA b hbl⟩
      show _ = some (Value.int (Int32.ofInt (xs i).toInt))
      rw [o_t]
      exact x5 i hi
    | n + 15, _, h => exact absurd h (by omega)
  · intro ci hc
    have hm : ∀ w, some w ∈ ([142, 144, 277] : List Nat).map (fun i => lw_tbl[i]?) → w.before #[Value.ref b] s = true := by
      intro w hw
      obtain ⟨i, -, hi⟩ := List.mem_map.mp hw
      exact hts _ (List.mem_of_getElem? hi)
    rw [e_ao] at hm
    rcases hc with rfl | rfl | rfl
    · exact va_AO.of (hm _ (by simp))
    · exact va_AO.of (hm _ (by simp))
    · exact va_AO.of (hm _ (by simp))
  · intro j hj
    have : XX L xs j = (sLen.getD j 0, fun i => ((sByt.getD j []).getD i 0).toInt) := if_pos hj
    rw [this]
    exact ⟨rfl, fun i => o_t _⟩
  · exact va_Zof (hts _ (List.mem_of_getElem? (i := 622) (by decide +kernel))) (hts _ (List.mem_of_getElem? (i := 119) (by decide +kernel))) (va_eqt (hf _ e_com)) hA
  · exact va_Zqof (hts _ (List.mem_of_getElem? (i := 638) (by decide +kernel))) (hts _ (List.mem_of_getElem? (i := 121) (by decide +kernel))) (hf _ e_sio) hA
theorem arr_prim {s : State} {args : Array Value} {ty : FieldType} (h : (Cond.arrayClass ty).before args s = true) (hp : refKind ty = false) : ∃ cA : ClassId, ArrOfT s cA ty ∧ va_RA s cA ty := by
  obtain ⟨c, k, comp, h1, h2, h3⟩ := Cond.arrayClass_spec h
  refine ⟨c, fun N z => ⟨(fun k h => by cases h), k, h2, comp, h3⟩, ?_⟩
  cases ty <;> first | exact h1 | cases hp
theorem arr_ref {s : State} {C : String} (h : va_AO C s) : ∃ cA : ClassId, ArrOfT s cA (.object C) ∧ va_RA s cA (.object C) := by
  obtain ⟨comp, c, k, h1, h2, h3, h4, h5⟩ := Cond.arrayOver_spec h
  exact ⟨c, fun N z => ⟨(fun k h => by cases h), k, h3, comp, h4⟩, k, comp, h3, h4, h1, h5⟩
theorem entry_K {s : State} {b L : Nat} {xs : Nat → Int32} {ext adV : Nat → Nat} {base : Nat} {X : PX} (hts : ∀ w ∈ lw_tbl, w.before #[Value.ref b] s = true) (hE : EX base ext adV X s) : ∃ (cid : FieldType → ClassId) (D : va_G), va_K D vwCl (tysL cid) s := by
  have h1 : ∀ k : Nat, ∃ q : ClassId × (Nat → Nat), k < 12 → u_Kn s (vC k).1 (vC k).2.1 (vC k).2.2 q.1 q.2 := by
    intro k
    by_cases hk : k < 12
    · obtain ⟨cC, iS, h⟩ := u_known (n := (vC k).2.2) (fun w hw => hts w hw) (fun w hw => TB_in (uw_all k hk w hw)) (hts _ (TB_in (cl_inst hk)))
      exact ⟨(cC, iS), fun _ => h⟩
    · exact ⟨(0, fun _ => 0), fun q => absurd q hk⟩
  obtain ⟨f, hf⟩ := Classical.axiomOfChoice h1
  have h2 : ∀ ty : FieldType, ∃ cA : ClassId, (ty = .int ∨ ty = .boolean ∨ ty = .long ∨ ty = .object (vC 6).1 ∨ ty = .object (vC 7).1 ∨ ty = .object (vC 9).1) → ArrOfT s cA ty ∧ va_RA s cA ty := by
    intro ty
    by_cases ht : ty = .int ∨ ty = .boolean ∨ ty = .long ∨ ty = .object (vC 6).1 ∨ ty = .object (vC 7).1 ∨ ty = .object (vC 9).1
    · have : ∃ cA : ClassId, ArrOfT s cA ty ∧ va_RA s cA ty := by
        rcases ht with rfl | rfl | rfl | rfl | rfl | rfl
        · exact arr_prim (hts _ (List.mem_of_getElem? (i := 220) (by decide +kernel))) rfl
        · exact arr_prim (hts _ (List.mem_of_getElem? (i := 330) (by decide +kernel))) rfl
        · exact arr_prim (hts _ (List.mem_of_getElem? (i := 514) (by decide +kernel))) rfl
        · exact arr_ref (hE.2.2.2.2.2.1 6 (Or.inl rfl))
        · exact arr_ref (hE.2.2.2.2.2.1 7 (Or.inr (Or.inl rfl)))
        · exact arr_ref (hE.2.2.2.2.2.1 9 (Or.inr (Or.inr rfl)))
      obtain ⟨cA, h⟩ := this
      exact ⟨cA, fun _ => h⟩
    · exact ⟨0, fun q => absurd q ht⟩
  obtain ⟨cid, hc⟩ := Classical.axiomOfChoice h2
  refine ⟨cid, (fun k => (f k).1, fun k => (f k).2), fun k q hq => ?_, fun k q hq => ?_⟩
  · have hk : k < 12 := (List.getElem?_eq_some_iff.mp hq).1
    have e := vC_at k hk
    rw [hq] at e
    cases e
    exact hf k hk
  · match k, hq with
    | 0, hq => cases hq; exact hc _ (Or.inl rfl)
    | 1, hq => cases hq; exact hc _ (Or.inr (Or.inl rfl))
    | 2, hq => cases hq; exact hc _ (Or.inr (Or.inr (Or.inl rfl)))
    | 3, hq => cases hq; exact hc _ (Or.inr (Or.inr (Or.inr (Or.inl rfl))))
    | 4, hq => cases hq; exact hc _ (Or.inr (Or.inr (Or.inr (Or.inr (Or.inl rfl)))))
    | 5, hq => cases hq; exact hc _ (Or.inr (Or.inr (Or.inr (Or.inr (Or.inr rfl)))))
    | n + 6, hq => simp [tysL] at hq
/-- the law's run of the pure machine, for every script -/
def LawRuns : Prop := ∀ (L : Nat) (xs : Nat → Int32), L ≤ 3072 → ∃ (n : Nat) (h2 : PHp), run (XX L xs) cds mi n 284 (0, pent 4 [vR (some (PK + 14))], [], [], 0, 0) = some (some (vI 1), h2)
theorem whole_of (hrun : LawRuns) {p : Program} {e : Env} {s : State} {m : MethodId} {below : List Frame} {meth : Method} {c : Code} (l : Launch) {b L : Nat} {xs : Nat → Int32} (hL : L ≤ 3072) (C0 : lw_At p s m meth c b L xs) : W p l e room_1 s m #[Value.ref b] below meth c s.heap [] 0 0 (lw_Z below #[Value.ref b] s) (entryFrame m ([Value.ref b] : List Value).toArray 4) := by
  obtain ⟨hx, hb, hr, hml, hown, hts, hX, hbl, hlocks, hgv⟩ := id C0
  obtain ⟨ext, adV, hE, h14⟩ := entry_EX hL hgv hts hX hbl
  obtain ⟨cid, D, hK⟩ := entry_K (L := L) (xs := xs) hts hE
  obtain ⟨n, h2, hr2⟩ := hrun L xs hL
  have hF : Fx s.heap.size ext adV cid D (XX L xs) 284 p s m #[Value.ref b] meth c := ⟨hx, hb, hml, hown, fun w hw => hts w (TB_in hw), hK, hE, fun q => absurd q (by decide +kernel), Nat.le_refl _⟩
  have hret : ∀ (i : Nat) (L2 : PL) (st : List PV) (cs sl : Nat) (en : PEn), (cds 284)[i]? = some en → stp (XX L xs) en (i, L2, st, h2, cs, sl) = some (.inr (.inl (some (vI 1)))) → Gw s.heap.size ext cid D 284 p l e room_1 s m #[Value.ref b] below meth c (lw_Z below #[Value.ref b] s) en.1 L2 st h2 cs sl := by
    intro i L2 st cs sl en hen hst
    obtain ⟨bp, ins, ln, ar, z⟩ := en
    have ok := ok_all 284 (by omega) i _ hen
    have hend := stp_inr hst
    cases ins <;> first | (cases hend; done) | skip
    case ireturn =>
      have hY := (Bool.and_eq_true _ _).mp ok.2
      have hZ := (Bool.and_eq_true _ _).mp hY.1
      have hW := (Bool.and_eq_true _ _).mp hZ.1
      have hln := of_decide_eq_true hY.2
      have hms := of_decide_eq_true hZ.2
      have hmc := of_decide_eq_true hW.2
      have hd := ok.1
      dsimp only at hln hd
      subst hln
      dsimp only [stp] at hst
      split at hst
      · next x =>
        split at hst
        · next hq =>
          cases hst
          intro H locs ls hL hP hsz hS hcs
          rw [hmc] at hq
          rw [hms] at hq
          obtain ⟨q1, q2, q3⟩ := hq
          have e1 : (mt 284).2.2.2.2.2.2.2.1 = 185 := by decide +kernel
          have e2 : (mt 284).2.2.2.2.2.2.2.2 = 10002 := by decide +kernel
          rw [e1] at q1
          rw [e2] at q2
          refine W.widen (k := 600000) (n := 7302250) (by omega) (by omega) ?_
          refine W.forget (locs := []) (L := locs) (fun q hq => hS.2.2 q hq) ?_
          exact lw_ret hx hb hr hlocks hd
        · cases hst
      · cases hst
    all_goals
      exfalso
      have hc := ok.2
      first
        | (have hY := (Bool.and_eq_true _ _).mp hc
           have hZ := (Bool.and_eq_true _ _).mp hY.1
           have hW := (Bool.and_eq_true _ _).mp hZ.1
           exact absurd (of_decide_eq_true hW.1) (by decide +kernel))
        | (dsimp only [stp] at hst
           repeat' split at hst
           all_goals first | (cases hst; done) | (simp [nx] at hst; done) | (obtain ⟨x, hi, hst⟩ := Option.bind_eq_some_iff.mp hst; simp [nx] at hst; done) | (obtain ⟨x, hi, hst⟩ := Option.bind_eq_some_iff.mp hst; obtain ⟨y, hj, hst⟩ := Option.bind_eq_some_iff.mp hst; split at hst <;> first | (cases hst; done) | (simp [nx] at hst; done)))
  have hb0 : bpOf (cds 284) 0 = some 0 := of_decide_eq_true (List.all_eq_true.mp bp_0 284 (List.mem_range.mpr (by omega)))
  have G := snd_all ok_all str_ok n 284 (by omega) 0 _ [] [] 0 0 _ h2 hr2 p e room_1 s m #[Value.ref b] below meth c _ hF (by decide +kernel) ⟨Nat.zero_le _, Nat.zero_le _⟩ hret 0 hb0
  rw [lg_entry_eq]
  have hlr : LR s.heap.size ext ((lg_sl (([vR (some (PK + 14))] : List PV).map (cV s.heap.size ext)) ++ List.replicate (4 - (lg_sl (([vR (some (PK + 14))] : List PV).map (cV s.heap.size ext))).length) Slot.unset).toArray) 4 (pent 4 [vR (some (PK + 14))]) := LR_entry (by decide)
  have hv : ([vR (some (PK + 14))] : List PV).map (cV s.heap.size ext) = [Value.ref b] := by
    show [Value.ref (if PK + 14 < PK then _ else _)] = _
    rw [if_neg (by omega), Nat.add_sub_cancel_left, h14]
  rw [hv] at hlr
  exact G s.heap [] _ hlr (fun k q h => by simp [cW] at h) rfl va_S.rf (by rw [Nat.add_zero])
