/-! ONE STEP OF THE PURE MACHINE IS A STEP OF THE MACHINE -/
theorem nx_inj {i i2 : Nat} {L L2 : PL} {st st2 : List PV} {h h2 : PHp} {cs sl cs2 sl2 : Nat} (q : nx i L st h cs sl = some (.inl (i2, L2, st2, h2, cs2, sl2))) : i2 = i ∧ L2 = L ∧ st2 = st ∧ h2 = h ∧ cs2 = cs ∧ sl2 = sl := by
  unfold nx at q
  simp only [Option.some.injEq, Sum.inl.injEq, Prod.mk.injEq] at q
  obtain ⟨q1, q2, q3, q4, q5, q6⟩ := q
  exact ⟨q1.symm, q2.symm, q3.symm, q4.symm, q5.symm, q6.symm⟩
theorem i2_spec {st : List PV} {f : Int → Int → Option PV} {g : List PV → Option PO} {r : PO} (q : (i2 st f).bind g = some r) : ∃ x y r0 v, st = vI y :: vI x :: r0 ∧ f x y = some v ∧ g (v :: r0) = some r := by
  obtain ⟨a, h1, h2⟩ := Option.bind_eq_some_iff.mp q
  unfold i2 at h1
  split at h1
  · next y x r0 =>
    obtain ⟨v, h3, h4⟩ := Option.map_eq_some_iff.mp h1
    exact ⟨x, y, r0, v, rfl, h3, by rw [h4]; exact h2⟩
  · cases h1
theorem l2_spec {st : List PV} {f : Int → Int → Option PV} {g : List PV → Option PO} {r : PO} (q : (l2 st f).bind g = some r) : ∃ x y r0 v, st = vL y :: vL x :: r0 ∧ f x y = some v ∧ g (v :: r0) = some r := by
  obtain ⟨a, h1, h2⟩ := Option.bind_eq_some_iff.mp q
  unfold l2 at h1
  split at h1
  · next y x r0 =>
    obtain ⟨v, h3, h4⟩ := Option.map_eq_some_iff.mp h1
    exact ⟨x, y, r0, v, rfl, h3, by rw [h4]; exact h2⟩
  · cases h1
theorem li2_spec {st : List PV} {f : Int → Int → Option PV} {g : List PV → Option PO} {r : PO} (q : (li2 st f).bind g = some r) : ∃ x y r0 v, st = vI y :: vL x :: r0 ∧ f x y = some v ∧ g (v :: r0) = some r := by
  obtain ⟨a, h1, h2⟩ := Option.bind_eq_some_iff.mp q
  unfold li2 at h1
  split at h1
  · next y x r0 =>
    obtain ⟨v, h3, h4⟩ := Option.map_eq_some_iff.mp h1
    exact ⟨x, y, r0, v, rfl, h3, by rw [h4]; exact h2⟩
  · cases h1
theorem ld_spec {L : PL} {kd j : Nat} {g : PV → Option PO} {r : PO} (q : (ld L kd j).bind g = some r) : (∃ x, kd = 0 ∧ lget L j = some (vI x) ∧ g (vI x) = some r) ∨ (∃ x, kd = 1 ∧ lget L j = some (vL x) ∧ g (vL x) = some r) ∨ (∃ x, kd = 2 ∧ lget L j = some (vR (some x)) ∧ g (vR (some x)) = some r) := by
  obtain ⟨a, h1, h2⟩ := Option.bind_eq_some_iff.mp q
  unfold ld at h1
  split at h1
  · next x hx =>
    split at h1
    · next hk => cases h1; exact Or.inl ⟨x, hk, hx, h2⟩
    · cases h1
  · next x hx =>
    split at h1
    · next hk => cases h1; exact Or.inr (Or.inl ⟨x, hk, hx, h2⟩)
    · cases h1
  · next x hx =>
    split at h1
    · next hk => cases h1; exact Or.inr (Or.inr ⟨x, hk, hx, h2⟩)
    · cases h1
  · cases h1
def defI (ins : Instr) : Bool := match ins with
  | .goto _ | .ifCond _ _ | .if_icmp _ _ | .tableswitch _ _ _ _ | .lookupswitch _ _ | .ireturn | .lreturn | .return_ => false
  | _ => true
theorem chk_def {t : MT} {lk : List (Nat × Nat × Nat × Nat)} {cdl : List PEn} {i bp ln : Nat} {ins : Instr} {ar : List Nat} {z : Int} (h : chkI t lk cdl i (bp, ins, ln, ar, z) = true) (hd : defI ins = true) : bpOf cdl (i + 1) = some (bp + ln) ∧ ln = ilen ins := by
  cases ins <;> first | (cases hd; done) | exact ⟨of_decide_eq_true ((Bool.and_eq_true _ _).mp ((Bool.and_eq_true _ _).mp h).1).1, of_decide_eq_true ((Bool.and_eq_true _ _).mp ((Bool.and_eq_true _ _).mp h).1).2⟩
theorem ofN {o : Option Nat} {z : Int} (h : o.map Int.ofNat = some z) : ∃ t : Nat, o = some t ∧ z = (t : Int) := by
  obtain ⟨t, h1, h2⟩ := Option.map_eq_some_iff.mp h
  exact ⟨t, h1, h2.symm⟩
theorem ty679 {cid : FieldType → ClassId} {ci : Nat} (h : ci = 6 ∨ ci = 7 ∨ ci = 9) : ∃ t0 : Nat, (tysL cid)[t0]? = some (cid (.object (vC ci).1), .object (vC ci).1) := by
  rcases h with rfl | rfl | rfl
  · exact ⟨3, rfl⟩
  · exact ⟨4, rfl⟩
  · exact ⟨5, rfl⟩
def rmS : Room := { frames := 3, cells := 0, slots := 0, locals := 75 }
def wLen : List Cond := Cond.code yLen cJ0_length_8abf5 1 (some .int) :: TB
def wChr : List Cond := Cond.code yChr cJ0_charAt_5068e 2 (some .char) :: TB
/-- the two methods of String constants -/
def StrOk (base : Nat) (ext adV : Nat → Nat) (cid : FieldType → ClassId) (D : va_G) (X : PX) (l : Launch) : Prop :=
  (∀ (h : PHp) (j : Nat), j < 11 → MetP base ext adV cid D X l yLen wLen rmS 0 0 [vR (some (PK + j))] h (some (vI (X j).1)) h) ∧
  (∀ (h : PHp) (j : Nat) (i : Int), j < 11 → 0 ≤ i → i < (X j).1 → MetP base ext adV cid D X l yChr wChr rmS 0 0 [vR (some (PK + j)), vI i] h (some (vI ((X j).2 i.toNat))) h)
theorem off_idx (d x : Int) : ∀ l : List (Int × Int), (∃ k q, l.findIdx? (fun p => p.1 == x) = some k ∧ l[k]? = some q ∧ Op.lookupswitch.offset l d x = q.2) ∨ (l.findIdx? (fun p => p.1 == x) = none ∧ Op.lookupswitch.offset l d x = d)
  | [] => Or.inr ⟨rfl, rfl⟩
  | (a, o) :: r => by
    rw [List.findIdx?_cons, Op.lookupswitch.offset_cons]
    by_cases h : a = x
    · left
      exact ⟨0, (a, o), by simp [h], rfl, by simp [h]⟩
    · rcases off_idx d x r with ⟨k, q, h1, h2, h3⟩ | ⟨h1, h2⟩
      · left
        exact ⟨k + 1, q, by simp [h, h1], h2, by simp [h, h3]⟩
      · right
        exact ⟨by simp [h, h1], by simp [h, h2]⟩
theorem look_ok {ar : List Nat} {bp : Nat} {cdl : List PEn} {d : Int} {ps : Array (Int × Int)} {tg : Nat} (ht1 : bpOf cdl (ord ar 0) = some tg) (ht2 : (bp : Int) + d = (tg : Int)) (hof : ps.toList.map (fun o => some ((bp : Int) + o.2)) = (List.range ps.toList.length).map (fun j => (bpOf cdl (ord ar (j + 1))).map Int.ofNat)) (x : Int) : ∃ tg2 : Nat, bpOf cdl (match ps.toList.findIdx? (fun p => p.1 == x) with
      | some k => ord ar (k + 1)
      | none => ord ar 0) = some tg2 ∧ (bp : Int) + Op.lookupswitch.offset ps.toList d x = (tg2 : Int) := by
  rcases off_idx d x ps.toList with ⟨k, q, h1, h2, h3⟩ | ⟨h1, h2⟩
  · rw [h1, h3]
    have hk := (List.getElem?_eq_some_iff.mp h2).1
    have e1 : (ps.toList.map (fun o => some ((bp : Int) + o.2)))[k]? = some (some ((bp : Int) + q.2)) := by rw [List.getElem?_map, h2]; rfl
    rw [hof, List.getElem?_map, List.getElem?_range hk] at e1
    obtain ⟨t, h4, h5⟩ := ofN (Option.some.inj e1)
    exact ⟨t, h4, h5⟩
  · rw [h1, h2]
    exact ⟨tg, ht1, ht2⟩
theorem own_of {k : Nat} (hk : k < 285) : cN (mO k) = (mY k).cls := by
  rcases Nat.lt_or_ge k 284 with q | q
  · exact (me_fa q).2.2.2.1
  · rw [show k = 284 by omega]
    decide +kernel
theorem own_fin {k ci j : Nat} (hk : k < 285) (h : ((vC ci).2.1 j).2.2.2 = false ∨ ((mt k).1.name = "<init>" ∧ ((vC ci).2.1 j).1 = (mt k).1.cls)) : ((vC ci).2.1 j).2.2.2 = false ∨ ((mY k).name = "<init>" ∧ ((vC ci).2.1 j).1 = cN (mO k)) := by
  rcases h with h | h
  · exact Or.inl h
  · exact Or.inr ⟨h.1, h.2.trans (own_of hk).symm⟩
section STEP
variable {base : Nat} {ext adV : Nat → Nat} {cid : FieldType → ClassId} {D : va_G} {X : PX} {k : Nat} {p : Program} {l : Launch} {e : Env} {R : Room} {s : State} {m : MethodId} {args : Array Value} {below : List Frame} {meth : Method} {c : Code} {Q : State → Prop} {bp : Nat} {L : PL} {st : List PV} {h : PHp} {cs sl : Nat}
theorem g_strl (hF : Fx base ext adV cid D X k p s m args meth c) (hSt : StrOk base ext adV cid D X l) {ix c0 : Nat} (hd : decode (mC k) bp = .ok (.invokevirtual ix, 3)) (hl : (9, ix, 0, 0) ∈ lks (mO k)) (hfr : 4 ≤ R.frames) (hlo : 100 ≤ R.locals) (h1 : PK ≤ c0) (h2 : c0 < PK + 11) (hc8 : catS st ≤ 8) (hrc : cs ≤ R.cells) (hrs : sl ≤ R.slots) (g : Gw base ext cid D k p l e R s m args below meth c Q (bp + 3) L (vI (X (c0 - PK)).1 :: st) h cs sl) : Gw base ext cid D k p l e R s m args below meth c Q bp L (vR (some c0) :: st) h cs sl := by
  obtain ⟨hx, hb, hml, hown, hts, hK, hE, hnm⟩ := hF
  intro H locs ls hL hP hsz hS hcs
  have hM := hSt.1 h (c0 - PK) (by omega)
  rw [show PK + (c0 - PK) = c0 by omega] at hM
  have hcode : Cond.code yLen cJ0_length_8abf5 1 (some .int) ∈ TB := List.mem_filter.mpr ⟨List.mem_append_right _ (List.mem_append_right _ (List.mem_append_right _ (List.mem_append_left _ (List.mem_of_getElem? (i := 30) rfl)))), rfl⟩
  have hG : GoodIn TB (wsV (cN (mO k)) ix "java/lang/String" yLen wLen) := by
    intro w hw
    have : w ∈ TB := by
      rcases List.mem_append.mp hw with hw | hw
      · simp only [List.mem_cons, List.not_mem_nil, or_false] at hw
        rcases hw with rfl | rfl | rfl | rfl
        · exact lk_ok (mO k) _ hl (by simp) (by simp)
        · exact TB_at 614 (by decide +kernel) (by decide +kernel)
        · exact TB_at 615 (by decide +kernel) (by decide +kernel)
        · exact TB_at 119 (by decide +kernel) (by decide +kernel)
      · rcases List.mem_cons.mp hw with rfl | hw
        · exact hcode
        · exact hw
    exact ⟨this, TB_gd this⟩
  exact va_callg (va_runV (As := []) (C := "java/lang/String") ⟨hx, hb, hml, hown, hts⟩ hM (cwV 0 hts hG rfl rfl rfl (by decide +kernel) ⟨hfr, by show 8 + (1 + 11) + 75 ≤ _; omega⟩) ⟨PreP.blind, by
      have := vk_recv hE.2.2.1 (show c0 - PK < 11 by omega) hS
      rw [adr_ge (by omega)]
      exact this, fun U hU hW => ⟨rfl, pre_of hK hE hP hsz hS hU hW⟩⟩ rfl rfl hL.2.1 rfl (lv_room (cat8 hc8)) hd ⟨hrc, hrs⟩) hS (after_call (mc := 0) (ms := 0) (v := some _) g hL hsz hcs)
theorem g_chr (hF : Fx base ext adV cid D X k p s m args meth c) (hSt : StrOk base ext adV cid D X l) {ix c0 : Nat} {i x : Int} (hd : decode (mC k) bp = .ok (.invokevirtual ix, 3)) (hl : (10, ix, 0, 0) ∈ lks (mO k)) (hfr : 4 ≤ R.frames) (hlo : 100 ≤ R.locals) (h1 : PK ≤ c0) (h2 : c0 < PK + 11) (hc8 : catS st ≤ 8) (hrc : cs ≤ R.cells) (hrs : sl ≤ R.slots) (hi : at2 (X (c0 - PK)).1 (X (c0 - PK)).2 i = some x) (g : Gw base ext cid D k p l e R s m args below meth c Q (bp + 3) L (vI x :: st) h cs sl) : Gw base ext cid D k p l e R s m args below meth c Q bp L (vI i :: vR (some c0) :: st) h cs sl := by
  obtain ⟨hx, hb, hml, hown, hts, hK, hE, hnm⟩ := hF
  intro H locs ls hL hP hsz hS hcs
  unfold at2 at hi
  split at hi
  · next hr =>
    cases hi
    have hM := hSt.2 h (c0 - PK) i (by omega) hr.1 hr.2
    rw [show PK + (c0 - PK) = c0 by omega] at hM
    have hcode : Cond.code yChr cJ0_charAt_5068e 2 (some .char) ∈ TB := List.mem_filter.mpr ⟨List.mem_append_right _ (List.mem_append_right _ (List.mem_append_right _ (List.mem_append_left _ (List.mem_of_getElem? (i := 40) rfl)))), rfl⟩
    have hG : GoodIn TB (wsV (cN (mO k)) ix "java/lang/String" yChr wChr) := by
      intro w hw
      have : w ∈ TB := by
        rcases List.mem_append.mp hw with hw | hw
        · simp only [List.mem_cons, List.not_mem_nil, or_false] at hw
          rcases hw with rfl | rfl | rfl | rfl
          · exact lk_ok (mO k) _ hl (by simp) (by simp)
          · exact TB_at 624 (by decide +kernel) (by decide +kernel)
          · exact TB_at 625 (by decide +kernel) (by decide +kernel)
          · exact TB_at 119 (by decide +kernel) (by decide +kernel)
        · rcases List.mem_cons.mp hw with rfl | hw
          · exact hcode
          · exact hw
      exact ⟨this, TB_gd this⟩
    exact va_callg (va_runV (As := [cV base ext (vI i)]) (C := "java/lang/String") ⟨hx, hb, hml, hown, hts⟩ hM (cwV 1 hts hG rfl rfl rfl (by decide +kernel) ⟨hfr, by show 8 + (2 + 11) + 75 ≤ _; omega⟩) ⟨PreP.blind, by
        have := vk_recv hE.2.2.1 (show c0 - PK < 11 by omega) hS
        rw [adr_ge (by omega)]
        exact this, fun U hU hW => ⟨rfl, pre_of hK hE hP hsz hS hU hW⟩⟩ rfl rfl hL.2.1 rfl (lv_room (cat8 hc8)) hd ⟨hrc, hrs⟩) hS (after_call (mc := 0) (ms := 0) (v := some _) g hL hsz hcs)
  · cases hi

set_option maxHeartbeats 4000000 in
set_option maxRecDepth 20000 in
theorem stp_next (hk0 : k < 285) (hF : Fx base ext adV cid D X k p s m args meth c) (hSt : StrOk base ext adV cid D X l) (hR : mFr k ≤ R.frames ∧ mLo k ≤ R.locals ∧ mMc k ≤ R.cells ∧ mMs k ≤ R.slots) {i ln : Nat} {ins : Instr} {ar : List Nat} {z : Int} (hd : decode (mC k) bp = .ok (ins, ln)) (hI : chkI (mt k) (lks (mO k)) (cds k) i (bp, ins, ln, ar, z) = true) {i2 : Nat} {L2 : PL} {st2 : List PV} {h2 : PHp} {cs2 sl2 : Nat} (hs : stp X (bp, ins, ln, ar, z) (i, L, st, h, cs, sl) = some (.inl (i2, L2, st2, h2, cs2, sl2))) (hb0 : cs ≤ mMc k ∧ sl ≤ mMs k) (hb2 : cs2 ≤ mMc k ∧ sl2 ≤ mMs k) (hg : ∀ bp2, bpOf (cds k) i2 = some bp2 → Gw base ext cid D k p l e R s m args below meth c Q bp2 L2 st2 h2 cs2 sl2) : Gw base ext cid D k p l e R s m args below meth c Q bp L st h cs sl := by
  have hdef := fun q => chk_def hI q
  cases ins with
  | iconst n =>
    have hX := ((Bool.and_eq_true _ _).mp hI).2
    obtain ⟨hn, hln⟩ := hdef rfl
    subst hln
    obtain ⟨rfl, rfl, rfl, rfl, rfl, rfl⟩ := nx_inj hs
    exact g_iconst hF hd (of_decide_eq_true hX) (hg _ hn)
  | bipush n =>
    have hX := ((Bool.and_eq_true _ _).mp hI).2
    obtain ⟨hn, hln⟩ := hdef rfl
    subst hln
    obtain ⟨rfl, rfl, rfl, rfl, rfl, rfl⟩ := nx_inj hs
    exact g_bipush hF hd (of_decide_eq_true hX) (hg _ hn)
  | sipush n =>
    have hX := ((Bool.and_eq_true _ _).mp hI).2
    obtain ⟨hn, hln⟩ := hdef rfl
    subst hln
    obtain ⟨rfl, rfl, rfl, rfl, rfl, rfl⟩ := nx_inj hs
    exact g_sipush hF hd (of_decide_eq_true hX) (hg _ hn)
  | lconst n =>
    have hX := ((Bool.and_eq_true _ _).mp hI).2
    obtain ⟨hn, hln⟩ := hdef rfl
    subst hln
    obtain ⟨rfl, rfl, rfl, rfl, rfl, rfl⟩ := nx_inj hs
    exact g_lconst hF hd (of_decide_eq_true hX) (hg _ hn)
  | ldc ix =>
    have hX := ((Bool.and_eq_true _ _).mp hI).2
    obtain ⟨hn, hln⟩ := hdef rfl
    subst hln
    dsimp only [stp] at hs
    dsimp only at hX
    split at hs
    · next ha =>
      rw [if_pos ha] at hX
      have hY := (Bool.and_eq_true _ _).mp hX
      obtain ⟨rfl, rfl, rfl, rfl, rfl, rfl⟩ := nx_inj hs
      exact g_ldc hF hd (List.contains_iff_mem.mp hY.2) (of_decide_eq_true hY.1) (hg _ hn)
    · next ha =>
      rw [if_neg ha] at hX
      split at hs
      · next hj =>
        obtain ⟨rfl, rfl, rfl, rfl, rfl, rfl⟩ := nx_inj hs
        exact g_ldcS hF hd (List.contains_iff_mem.mp hX) hj (hg _ hn)
      · cases hs
  | ldc_w ix =>
    have hX := ((Bool.and_eq_true _ _).mp hI).2
    obtain ⟨hn, hln⟩ := hdef rfl
    subst hln
    have hY := (Bool.and_eq_true _ _).mp hX
    obtain ⟨rfl, rfl, rfl, rfl, rfl, rfl⟩ := nx_inj hs
    exact g_ldcw hF hd (List.contains_iff_mem.mp hY.2) (of_decide_eq_true hY.1) (hg _ hn)
  | ldc2_w ix =>
    have hX := ((Bool.and_eq_true _ _).mp hI).2
    obtain ⟨hn, hln⟩ := hdef rfl
    subst hln
    have hY := (Bool.and_eq_true _ _).mp hX
    obtain ⟨rfl, rfl, rfl, rfl, rfl, rfl⟩ := nx_inj hs
    exact g_ldc2 hF hd (List.contains_iff_mem.mp hY.2) (of_decide_eq_true hY.1) (hg _ hn)
  | iload_n j =>
    obtain ⟨hn, hln⟩ := hdef rfl
    subst hln
    rcases ld_spec hs with ⟨x, hk, hx, hs⟩ | ⟨x, hk, hx, hs⟩ | ⟨x, hk, hx, hs⟩
    · obtain ⟨rfl, rfl, rfl, rfl, rfl, rfl⟩ := nx_inj hs
      exact g_iload_n hF hd hx (hg _ hn)
    · cases hk
    · cases hk
  | iload j =>
    obtain ⟨hn, hln⟩ := hdef rfl
    subst hln
    rcases ld_spec hs with ⟨x, hk, hx, hs⟩ | ⟨x, hk, hx, hs⟩ | ⟨x, hk, hx, hs⟩
    · obtain ⟨rfl, rfl, rfl, rfl, rfl, rfl⟩ := nx_inj hs
      exact g_iload hF hd hx (hg _ hn)
    · cases hk
    · cases hk
  | lload_n j =>
    obtain ⟨hn, hln⟩ := hdef rfl
    subst hln
    rcases ld_spec hs with ⟨x, hk, hx, hs⟩ | ⟨x, hk, hx, hs⟩ | ⟨x, hk, hx, hs⟩
    · cases hk
    · obtain ⟨rfl, rfl, rfl, rfl, rfl, rfl⟩ := nx_inj hs
      exact g_lload_n hF hd hx (hg _ hn)
    · cases hk
  | lload j =>
    obtain ⟨hn, hln⟩ := hdef rfl
    subst hln
    rcases ld_spec hs with ⟨x, hk, hx, hs⟩ | ⟨x, hk, hx, hs⟩ | ⟨x, hk, hx, hs⟩
    · cases hk
    · obtain ⟨rfl, rfl, rfl, rfl, rfl, rfl⟩ := nx_inj hs
      exact g_lload hF hd hx (hg _ hn)
    · cases hk
  | aload_n j =>
    obtain ⟨hn, hln⟩ := hdef rfl
    subst hln
    rcases ld_spec hs with ⟨x, hk, hx, hs⟩ | ⟨x, hk, hx, hs⟩ | ⟨x, hk, hx, hs⟩
    · cases hk
    · cases hk
    · obtain ⟨rfl, rfl, rfl, rfl, rfl, rfl⟩ := nx_inj hs
      exact g_aload_n hF hd hx (hg _ hn)
  | aload j =>
    obtain ⟨hn, hln⟩ := hdef rfl
    subst hln
    rcases ld_spec hs with ⟨x, hk, hx, hs⟩ | ⟨x, hk, hx, hs⟩ | ⟨x, hk, hx, hs⟩
    · cases hk
    · cases hk
    · obtain ⟨rfl, rfl, rfl, rfl, rfl, rfl⟩ := nx_inj hs
      exact g_aload hF hd hx (hg _ hn)
  | istore_n j =>
    obtain ⟨hn, hln⟩ := hdef rfl
    subst hln
    dsimp only [stp] at hs
    split at hs
    · split at hs
      · next hj =>
        obtain ⟨rfl, rfl, rfl, rfl, rfl, rfl⟩ := nx_inj hs
        exact g_istore_n hF hd hj (hg _ hn)
      · cases hs
    · cases hs
  | istore j =>
    obtain ⟨hn, hln⟩ := hdef rfl
    subst hln
    dsimp only [stp] at hs
    split at hs
    · split at hs
      · next hj =>
        obtain ⟨rfl, rfl, rfl, rfl, rfl, rfl⟩ := nx_inj hs
        exact g_istore hF hd hj (hg _ hn)
      · cases hs
    · cases hs
  | lstore_n j =>
    obtain ⟨hn, hln⟩ := hdef rfl
    subst hln
    dsimp only [stp] at hs
    split at hs
    · split at hs
      · next hj =>
        obtain ⟨rfl, rfl, rfl, rfl, rfl, rfl⟩ := nx_inj hs
        exact g_lstore_n hF hd hj (hg _ hn)
      · cases hs
    · cases hs
  | lstore j =>
    obtain ⟨hn, hln⟩ := hdef rfl
    subst hln
    dsimp only [stp] at hs
    split at hs
    · split at hs
      · next hj =>
        obtain ⟨rfl, rfl, rfl, rfl, rfl, rfl⟩ := nx_inj hs
        exact g_lstore hF hd hj (hg _ hn)
      · cases hs
    · cases hs
  | astore_n j =>
    obtain ⟨hn, hln⟩ := hdef rfl
    subst hln
    dsimp only [stp] at hs
    split at hs
    · split at hs
      · next hj =>
        obtain ⟨rfl, rfl, rfl, rfl, rfl, rfl⟩ := nx_inj hs
        exact g_astore_n hF hd hj (hg _ hn)
      · cases hs
    · cases hs
  | astore j =>
    obtain ⟨hn, hln⟩ := hdef rfl
    subst hln
    dsimp only [stp] at hs
    split at hs
    · split at hs
      · next hj =>
        obtain ⟨rfl, rfl, rfl, rfl, rfl, rfl⟩ := nx_inj hs
        exact g_astore hF hd hj (hg _ hn)
      · cases hs
    · cases hs
  | iinc j n =>
    obtain ⟨hn, hln⟩ := hdef rfl
    subst hln
    dsimp only [stp] at hs
    split at hs
    · next x hx =>
      obtain ⟨rfl, rfl, rfl, rfl, rfl, rfl⟩ := nx_inj hs
      exact g_iinc hF hd hx (hg _ hn)
    · cases hs
  | iadd  =>
    obtain ⟨hn, hln⟩ := hdef rfl
    subst hln
    obtain ⟨x, y, r, w, rfl, hf, hs⟩ := i2_spec hs
    cases hf
    obtain ⟨rfl, rfl, rfl, rfl, rfl, rfl⟩ := nx_inj hs
    exact g_iadd hF hd (hg _ hn)
  | isub  =>
    obtain ⟨hn, hln⟩ := hdef rfl
    subst hln
    obtain ⟨x, y, r, w, rfl, hf, hs⟩ := i2_spec hs
    cases hf
    obtain ⟨rfl, rfl, rfl, rfl, rfl, rfl⟩ := nx_inj hs
    exact g_isub hF hd (hg _ hn)
  | imul  =>
    obtain ⟨hn, hln⟩ := hdef rfl
    subst hln
    obtain ⟨x, y, r, w, rfl, hf, hs⟩ := i2_spec hs
    cases hf
    obtain ⟨rfl, rfl, rfl, rfl, rfl, rfl⟩ := nx_inj hs
    exact g_imul hF hd (hg _ hn)
  | iand  =>
    obtain ⟨hn, hln⟩ := hdef rfl
    subst hln
    obtain ⟨x, y, r, w, rfl, hf, hs⟩ := i2_spec hs
    cases hf
    obtain ⟨rfl, rfl, rfl, rfl, rfl, rfl⟩ := nx_inj hs
    exact g_iand hF hd (hg _ hn)
  | ior  =>
    obtain ⟨hn, hln⟩ := hdef rfl
    subst hln
    obtain ⟨x, y, r, w, rfl, hf, hs⟩ := i2_spec hs
    cases hf
    obtain ⟨rfl, rfl, rfl, rfl, rfl, rfl⟩ := nx_inj hs
    exact g_ior hF hd (hg _ hn)
  | ixor  =>
    obtain ⟨hn, hln⟩ := hdef rfl
    subst hln
    obtain ⟨x, y, r, w, rfl, hf, hs⟩ := i2_spec hs
    cases hf
    obtain ⟨rfl, rfl, rfl, rfl, rfl, rfl⟩ := nx_inj hs
    exact g_ixor hF hd (hg _ hn)
  | ishl  =>
    obtain ⟨hn, hln⟩ := hdef rfl
    subst hln
    obtain ⟨x, y, r, w, rfl, hf, hs⟩ := i2_spec hs
    cases hf
    obtain ⟨rfl, rfl, rfl, rfl, rfl, rfl⟩ := nx_inj hs
    exact g_ishl hF hd (hg _ hn)
  | ishr  =>
    obtain ⟨hn, hln⟩ := hdef rfl
    subst hln
    obtain ⟨x, y, r, w, rfl, hf, hs⟩ := i2_spec hs
    cases hf
    obtain ⟨rfl, rfl, rfl, rfl, rfl, rfl⟩ := nx_inj hs
    exact g_ishr hF hd (hg _ hn)
  | iushr  =>
    obtain ⟨hn, hln⟩ := hdef rfl
    subst hln
    obtain ⟨x, y, r, w, rfl, hf, hs⟩ := i2_spec hs
    cases hf
    obtain ⟨rfl, rfl, rfl, rfl, rfl, rfl⟩ := nx_inj hs
    exact g_iushr hF hd (hg _ hn)
  | idiv  =>
    obtain ⟨hn, hln⟩ := hdef rfl
    subst hln
    obtain ⟨x, y, r, w, rfl, hf, hs⟩ := i2_spec hs
    split at hf
    · cases hf
    · next hne =>
      cases hf
      obtain ⟨rfl, rfl, rfl, rfl, rfl, rfl⟩ := nx_inj hs
      exact g_idiv hF hd hne (hg _ hn)
  | irem  =>
    obtain ⟨hn, hln⟩ := hdef rfl
    subst hln
    obtain ⟨x, y, r, w, rfl, hf, hs⟩ := i2_spec hs
    split at hf
    · cases hf
    · next hne =>
      cases hf
      obtain ⟨rfl, rfl, rfl, rfl, rfl, rfl⟩ := nx_inj hs
      exact g_irem hF hd hne (hg _ hn)
  | ladd  =>
    obtain ⟨hn, hln⟩ := hdef rfl
    subst hln
    obtain ⟨x, y, r, w, rfl, hf, hs⟩ := l2_spec hs
    cases hf
    obtain ⟨rfl, rfl, rfl, rfl, rfl, rfl⟩ := nx_inj hs
    exact g_ladd hF hd (hg _ hn)
  | lsub  =>
    obtain ⟨hn, hln⟩ := hdef rfl
    subst hln
    obtain ⟨x, y, r, w, rfl, hf, hs⟩ := l2_spec hs
    cases hf
    obtain ⟨rfl, rfl, rfl, rfl, rfl, rfl⟩ := nx_inj hs
    exact g_lsub hF hd (hg _ hn)
  | lmul  =>
    obtain ⟨hn, hln⟩ := hdef rfl
    subst hln
    obtain ⟨x, y, r, w, rfl, hf, hs⟩ := l2_spec hs
    cases hf
    obtain ⟨rfl, rfl, rfl, rfl, rfl, rfl⟩ := nx_inj hs
    exact g_lmul hF hd (hg _ hn)
  | lor  =>
    obtain ⟨hn, hln⟩ := hdef rfl
    subst hln
    obtain ⟨x, y, r, w, rfl, hf, hs⟩ := l2_spec hs
    cases hf
    obtain ⟨rfl, rfl, rfl, rfl, rfl, rfl⟩ := nx_inj hs
    exact g_lor hF hd (hg _ hn)
  | lcmp  =>
    obtain ⟨hn, hln⟩ := hdef rfl
    subst hln
    obtain ⟨x, y, r, w, rfl, hf, hs⟩ := l2_spec hs
    cases hf
    obtain ⟨rfl, rfl, rfl, rfl, rfl, rfl⟩ := nx_inj hs
    exact g_lcmp hF hd (hg _ hn)
  | lshl  =>
    obtain ⟨hn, hln⟩ := hdef rfl
    subst hln
    obtain ⟨x, y, r, w, rfl, hf, hs⟩ := li2_spec hs
    cases hf
    obtain ⟨rfl, rfl, rfl, rfl, rfl, rfl⟩ := nx_inj hs
    exact g_lshl hF hd (hg _ hn)
  | lshr  =>
    obtain ⟨hn, hln⟩ := hdef rfl
    subst hln
    obtain ⟨x, y, r, w, rfl, hf, hs⟩ := li2_spec hs
    cases hf
    obtain ⟨rfl, rfl, rfl, rfl, rfl, rfl⟩ := nx_inj hs
    exact g_lshr hF hd (hg _ hn)
  | ineg  =>
    obtain ⟨hn, hln⟩ := hdef rfl
    subst hln
    dsimp only [stp] at hs
    split at hs
    · obtain ⟨rfl, rfl, rfl, rfl, rfl, rfl⟩ := nx_inj hs
      exact g_ineg hF hd (hg _ hn)
    · cases hs
  | i2l  =>
    obtain ⟨hn, hln⟩ := hdef rfl
    subst hln
    dsimp only [stp] at hs
    split at hs
    · obtain ⟨rfl, rfl, rfl, rfl, rfl, rfl⟩ := nx_inj hs
      exact g_i2l hF hd (hg _ hn)
    · cases hs
  | l2i  =>
    obtain ⟨hn, hln⟩ := hdef rfl
    subst hln
    dsimp only [stp] at hs
    split at hs
    · obtain ⟨rfl, rfl, rfl, rfl, rfl, rfl⟩ := nx_inj hs
      exact g_l2i hF hd (hg _ hn)
    · cases hs
  | pop  =>
    obtain ⟨hn, hln⟩ := hdef rfl
    subst hln
    dsimp only [stp] at hs
    split at hs
    · obtain ⟨rfl, rfl, rfl, rfl, rfl, rfl⟩ := nx_inj hs
      exact g_pop hF hd (hg _ hn)
    · cases hs
  | dup  =>
    obtain ⟨hn, hln⟩ := hdef rfl
    subst hln
    dsimp only [stp] at hs
    split at hs
    · obtain ⟨rfl, rfl, rfl, rfl, rfl, rfl⟩ := nx_inj hs
      exact g_dupI hF hd (hg _ hn)
    · obtain ⟨rfl, rfl, rfl, rfl, rfl, rfl⟩ := nx_inj hs
      exact g_dupR hF hd (hg _ hn)
    · cases hs
  | dup2  =>
    obtain ⟨hn, hln⟩ := hdef rfl
    subst hln
    dsimp only [stp] at hs
    split at hs
    · obtain ⟨rfl, rfl, rfl, rfl, rfl, rfl⟩ := nx_inj hs
      exact g_dup2 hF hd (hg _ hn)
    · cases hs
  | goto off =>
    have hW := (Bool.and_eq_true _ _).mp hI
    have hln := of_decide_eq_true hW.1
    subst hln
    obtain ⟨tg, ht1, ht2⟩ := ofN (of_decide_eq_true hW.2)
    obtain ⟨rfl, rfl, rfl, rfl, rfl, rfl⟩ := nx_inj hs
    exact g_goto hF hd ht2 (hg _ ht1)
  | ifCond cd off =>
    have hY := (Bool.and_eq_true _ _).mp hI
    have hW := (Bool.and_eq_true _ _).mp hY.1
    have hln := of_decide_eq_true hW.1
    subst hln
    obtain ⟨tg, ht1, ht2⟩ := ofN (of_decide_eq_true hW.2)
    have hn := of_decide_eq_true hY.2
    dsimp only [stp] at hs
    split at hs
    · obtain ⟨rfl, rfl, rfl, rfl, rfl, rfl⟩ := nx_inj hs
      refine g_if hF hd ht2 (fun q => hg tg ?_) (fun q => hg (bp + 3) ?_)
      · rw [if_pos q]; exact ht1
      · rw [if_neg q]; exact hn
    · cases hs
  | if_icmp cd off =>
    have hY := (Bool.and_eq_true _ _).mp hI
    have hW := (Bool.and_eq_true _ _).mp hY.1
    have hln := of_decide_eq_true hW.1
    subst hln
    obtain ⟨tg, ht1, ht2⟩ := ofN (of_decide_eq_true hW.2)
    have hn := of_decide_eq_true hY.2
    dsimp only [stp] at hs
    split at hs
    · obtain ⟨rfl, rfl, rfl, rfl, rfl, rfl⟩ := nx_inj hs
      refine g_icmp hF hd ht2 (fun q => hg tg ?_) (fun q => hg (bp + 3) ?_)
      · rw [if_pos q]; exact ht1
      · rw [if_neg q]; exact hn
    · cases hs
  | tableswitch d lo hi offs =>
    have hY := (Bool.and_eq_true _ _).mp hI
    have hZ := (Bool.and_eq_true _ _).mp hY.1
    obtain ⟨tg, ht1, ht2⟩ := ofN (of_decide_eq_true hZ.1)
    have hsz := of_decide_eq_true hZ.2
    have hof := of_decide_eq_true hY.2
    dsimp only [stp] at hs
    split at hs
    · next x r =>
      obtain ⟨rfl, rfl, rfl, rfl, rfl, rfl⟩ := nx_inj hs
      by_cases hq : (Int32.ofInt x).toInt < lo ∨ hi < (Int32.ofInt x).toInt
      · rw [if_pos hq] at hg
        exact g_table hF hd (Or.inl ⟨hq, ht2⟩) (hg _ ht1)
      · rw [if_neg hq] at hg
        have hj : ((Int32.ofInt x).toInt - lo).toNat < offs.toList.length := by omega
        have e1 : (offs.toList.map (fun o => some ((bp : Int) + o)))[((Int32.ofInt x).toInt - lo).toNat]? = some (some ((bp : Int) + offs.toList[((Int32.ofInt x).toInt - lo).toNat])) := by rw [List.getElem?_map, List.getElem?_eq_getElem hj]; rfl
        rw [hof, List.getElem?_map, List.getElem?_range hj] at e1
        obtain ⟨tg2, ht3, ht4⟩ := ofN (Option.some.inj e1)
        exact g_table hF hd (Or.inr ⟨hq, _, by rw [← Array.getElem?_toList, List.getElem?_eq_getElem hj], ht4⟩) (hg _ ht3)
    · cases hs
  | lookupswitch d ps =>
    have hY := (Bool.and_eq_true _ _).mp hI
    have hZ := (Bool.and_eq_true _ _).mp hY.1
    obtain ⟨tg, ht1, ht2⟩ := ofN (of_decide_eq_true hZ.1)
    have hso := hZ.2
    have hof := of_decide_eq_true hY.2
    dsimp only [stp] at hs
    split at hs
    · next x r =>
      obtain ⟨rfl, rfl, rfl, rfl, rfl, rfl⟩ := nx_inj hs
      obtain ⟨tg2, hb3, ho3⟩ := look_ok (ar := ar) (bp := bp) (cdl := cds k) ht1 ht2 hof (Int32.ofInt x).toInt
      exact g_lookup hF hd hso ho3 (hg _ hb3)
    · cases hs
  | getfield ix =>
    have hX := ((Bool.and_eq_true _ _).mp hI).2
    obtain ⟨hn, hln⟩ := hdef rfl
    subst hln
    have hY := (Bool.and_eq_true _ _).mp hX
    have hZ := (Bool.and_eq_true _ _).mp hY.1
    dsimp only [stp] at hs
    split at hs
    · obtain ⟨fs, ho, hs⟩ := Option.bind_eq_some_iff.mp hs
      split at hs
      · next v hv =>
        obtain ⟨rfl, rfl, rfl, rfl, rfl, rfl⟩ := nx_inj hs
        exact g_getf hF hd (List.contains_iff_mem.mp hZ.1) (of_decide_eq_true hZ.2) (of_decide_eq_true hY.2) ho hv (hg _ hn)
      · cases hs
    · cases hs
  | putfield ix =>
    have hX := ((Bool.and_eq_true _ _).mp hI).2
    obtain ⟨hn, hln⟩ := hdef rfl
    subst hln
    simp only [Bool.and_eq_true, Bool.or_eq_true, decide_eq_true_eq, Bool.not_eq_true'] at hX
    obtain ⟨⟨⟨⟨⟨hX1, hX2⟩, hX3⟩, hX4⟩, hX5⟩, hX6⟩ := hX
    dsimp only [stp] at hs
    split at hs
    · obtain ⟨fs, ho, hs⟩ := Option.bind_eq_some_iff.mp hs
      split at hs
      · next hv =>
        obtain ⟨rfl, rfl, rfl, rfl, rfl, rfl⟩ := nx_inj hs
        exact g_putf hF hd (List.contains_iff_mem.mp hX1) hX2 hX3 hX4 hX5 (own_fin hk0 hX6) ho hv.1 hv.2 (hg _ hn)
      · cases hs
    · cases hs
  | getstatic ix =>
    have hX := ((Bool.and_eq_true _ _).mp hI).2
    obtain ⟨hn, hln⟩ := hdef rfl
    subst hln
    dsimp only [stp] at hs
    split at hs
    · next hj =>
      obtain ⟨rfl, rfl, rfl, rfl, rfl, rfl⟩ := nx_inj hs
      have hX := List.contains_iff_mem.mp hX
      have hgg := hg _ hn
      rw [show ord ar 0 = 11 + (ord ar 0 - 11) by omega] at hgg
      exact g_gets hF hd hX (by omega) hgg
    · cases hs
  | iaload  =>
    obtain ⟨hn, hln⟩ := hdef rfl
    subst hln
    dsimp only [stp] at hs
    split at hs
    · obtain ⟨a, ho, hs⟩ := Option.bind_eq_some_iff.mp hs
      obtain ⟨x, hi, hs⟩ := Option.bind_eq_some_iff.mp hs
      obtain ⟨rfl, rfl, rfl, rfl, rfl, rfl⟩ := nx_inj hs
      exact g_iald hF hd ho hi (hg _ hn)
    · cases hs
  | baload  =>
    obtain ⟨hn, hln⟩ := hdef rfl
    subst hln
    dsimp only [stp] at hs
    split at hs
    · obtain ⟨a, ho, hs⟩ := Option.bind_eq_some_iff.mp hs
      obtain ⟨x, hi, hs⟩ := Option.bind_eq_some_iff.mp hs
      obtain ⟨rfl, rfl, rfl, rfl, rfl, rfl⟩ := nx_inj hs
      exact g_zald hF hd ho hi (hg _ hn)
    · cases hs
  | laload  =>
    obtain ⟨hn, hln⟩ := hdef rfl
    subst hln
    dsimp only [stp] at hs
    split at hs
    · obtain ⟨a, ho, hs⟩ := Option.bind_eq_some_iff.mp hs
      obtain ⟨x, hi, hs⟩ := Option.bind_eq_some_iff.mp hs
      obtain ⟨rfl, rfl, rfl, rfl, rfl, rfl⟩ := nx_inj hs
      exact g_lald hF hd ho hi (hg _ hn)
    · cases hs
  | aaload  =>
    have hX := ((Bool.and_eq_true _ _).mp hI).2
    obtain ⟨hn, hln⟩ := hdef rfl
    subst hln
    obtain ⟨t0, ht0⟩ := ty679 (cid := cid) (of_decide_eq_true hX)
    dsimp only [stp] at hs
    split at hs
    · obtain ⟨⟨aty, an, af⟩, ho, hs⟩ := Option.bind_eq_some_iff.mp hs
      split at hs
      · next hr =>
        obtain ⟨rfl, rfl, rfl, rfl, rfl, rfl⟩ := nx_inj hs
        obtain ⟨r1, r2, r3⟩ := hr
        dsimp only at r1 r2 r3
        subst r3
        exact g_aald hF hd ho ht0 r1 r2 (hg _ hn)
      · cases hs
    · cases hs
  | aastore  =>
    have hX := ((Bool.and_eq_true _ _).mp hI).2
    obtain ⟨hn, hln⟩ := hdef rfl
    subst hln
    obtain ⟨t0, ht0⟩ := ty679 (cid := cid) (of_decide_eq_true hX)
    dsimp only [stp] at hs
    split at hs
    · obtain ⟨⟨aty, an, af⟩, ho, hs⟩ := Option.bind_eq_some_iff.mp hs
      split at hs
      · next hr =>
        obtain ⟨rfl, rfl, rfl, rfl, rfl, rfl⟩ := nx_inj hs
        obtain ⟨r1, r2, r3, r4, r5⟩ := hr
        dsimp only at r1 r2 r3 r4
        subst r4
        exact g_aast hF hd ho r5 r3 ht0 r1 r2 (hg _ hn)
      · cases hs
    · cases hs
  | iastore  =>
    obtain ⟨hn, hln⟩ := hdef rfl
    subst hln
    dsimp only [stp] at hs
    split at hs
    · obtain ⟨a, ho, hs⟩ := Option.bind_eq_some_iff.mp hs
      split at hs
      · next hr =>
        obtain ⟨rfl, rfl, rfl, rfl, rfl, rfl⟩ := nx_inj hs
        exact g_iast hF hd ho hr.1 hr.2 (hg _ hn)
      · cases hs
    · cases hs
  | lastore  =>
    obtain ⟨hn, hln⟩ := hdef rfl
    subst hln
    dsimp only [stp] at hs
    split at hs
    · obtain ⟨a, ho, hs⟩ := Option.bind_eq_some_iff.mp hs
      split at hs
      · next hr =>
        obtain ⟨rfl, rfl, rfl, rfl, rfl, rfl⟩ := nx_inj hs
        exact g_last hF hd ho hr.1 hr.2 (hg _ hn)
      · cases hs
    · cases hs
  | bastore  =>
    obtain ⟨hn, hln⟩ := hdef rfl
    subst hln
    dsimp only [stp] at hs
    split at hs
    · obtain ⟨a, ho, hs⟩ := Option.bind_eq_some_iff.mp hs
      split at hs
      · next hr =>
        obtain ⟨rfl, rfl, rfl, rfl, rfl, rfl⟩ := nx_inj hs
        exact g_zast hF hd ho hr.1 hr.2.1 hr.2.2 (hg _ hn)
      · cases hs
    · cases hs
  | arraylength  =>
    obtain ⟨hn, hln⟩ := hdef rfl
    subst hln
    dsimp only [stp] at hs
    split at hs
    · obtain ⟨a, ho, hs⟩ := Option.bind_eq_some_iff.mp hs
      obtain ⟨rfl, rfl, rfl, rfl, rfl, rfl⟩ := nx_inj hs
      exact g_alen hF hd ho (hg _ hn)
    · cases hs
  | newarray at_ =>
    obtain ⟨hn, hln⟩ := hdef rfl
    subst hln
    dsimp only [stp] at hs
    split at hs
    · split at hs
      · next hr =>
        cases at_ with
        | int =>
          obtain ⟨rfl, rfl, rfl, rfl, rfl, rfl⟩ := nx_inj hs
          exact g_newi hF hd hr.1 hr.2.1 hr.2.2 (by omega) (by omega) (hg _ hn)
        | boolean =>
          obtain ⟨rfl, rfl, rfl, rfl, rfl, rfl⟩ := nx_inj hs
          exact g_newz hF hd hr.1 hr.2.1 hr.2.2 (by omega) (by omega) (hg _ hn)
        | long =>
          obtain ⟨rfl, rfl, rfl, rfl, rfl, rfl⟩ := nx_inj hs
          exact g_newl hF hd hr.1 hr.2.1 hr.2.2 (by omega) (by omega) (hg _ hn)
        | _ => cases hs
      · cases hs
    · cases hs
  | anewarray ix =>
    have hX := ((Bool.and_eq_true _ _).mp hI).2
    obtain ⟨hn, hln⟩ := hdef rfl
    subst hln
    have hY := (Bool.and_eq_true _ _).mp hX
    obtain ⟨t0, ht0⟩ := ty679 (cid := cid) (of_decide_eq_true hY.2)
    dsimp only [stp] at hs
    split at hs
    · split at hs
      · next hr =>
        obtain ⟨rfl, rfl, rfl, rfl, rfl, rfl⟩ := nx_inj hs
        exact g_anew hF hd (List.contains_iff_mem.mp hY.1) (of_decide_eq_true hY.2) ht0 hr.1 hr.2.1 hr.2.2.1 (by omega) (by omega) (hg _ hn)
      · cases hs
    · cases hs
  | new ix =>
    have hX := ((Bool.and_eq_true _ _).mp hI).2
    obtain ⟨hn, hln⟩ := hdef rfl
    subst hln
    have hY := (Bool.and_eq_true _ _).mp hX
    have hZ := (Bool.and_eq_true _ _).mp hY.1
    dsimp only [stp] at hs
    split at hs
    · next hr =>
      obtain ⟨rfl, rfl, rfl, rfl, rfl, rfl⟩ := nx_inj hs
      exact g_new hF hd (List.contains_iff_mem.mp hZ.1) (of_decide_eq_true hZ.2) (of_decide_eq_true hY.2) hr (by omega) (by omega) (hg _ hn)
    · cases hs
  | invokevirtual ix =>
    have hX := ((Bool.and_eq_true _ _).mp hI).2
    obtain ⟨hn, hln⟩ := hdef rfl
    subst hln
    dsimp only at hX
    dsimp only [stp] at hs
    split at hs
    · next h9 =>
      rw [if_pos h9] at hX
      have hY := (Bool.and_eq_true _ _).mp hX
      have hZ := (Bool.and_eq_true _ _).mp hY.1
      have a1 := of_decide_eq_true hZ.2
      have a2 := of_decide_eq_true hY.2
      split at hs
      · split at hs
        · next hr =>
          obtain ⟨rfl, rfl, rfl, rfl, rfl, rfl⟩ := nx_inj hs
          exact g_strl hF hSt hd (List.contains_iff_mem.mp hZ.1) (Nat.le_trans a1 hR.1) (Nat.le_trans a2 hR.2.1) hr.1 hr.2.1 hr.2.2 (by omega) (by omega) (hg _ hn)
        · cases hs
      · cases hs
    · next h9 =>
      rw [if_neg h9] at hX
      split at hs
      · next h8 =>
        rw [if_pos h8] at hX
        have hY := (Bool.and_eq_true _ _).mp hX
        have hZ := (Bool.and_eq_true _ _).mp hY.1
        have a1 := of_decide_eq_true hZ.2
        have a2 := of_decide_eq_true hY.2
        split at hs
        · split at hs
          · next hr =>
            obtain ⟨x, hi, hs⟩ := Option.bind_eq_some_iff.mp hs
            obtain ⟨rfl, rfl, rfl, rfl, rfl, rfl⟩ := nx_inj hs
            exact g_chr hF hSt hd (List.contains_iff_mem.mp hZ.1) (Nat.le_trans a1 hR.1) (Nat.le_trans a2 hR.2.1) hr.1 hr.2.1 hr.2.2 (by omega) (by omega) hi (hg _ hn)
          · cases hs
        · cases hs
      · split at hs
        · split at hs <;> cases hs
        · cases hs
  | invokespecial ix =>
    have hX := ((Bool.and_eq_true _ _).mp hI).2
    obtain ⟨hn, hln⟩ := hdef rfl
    subst hln
    dsimp only at hX
    dsimp only [stp] at hs
    split at hs
    · next c0 r hdr =>
      split at hs
      · next h9 =>
        rw [if_pos h9] at hX
        have hY := (Bool.and_eq_true _ _).mp hX
        have hZ := (Bool.and_eq_true _ _).mp hY.1
        have a1 := of_decide_eq_true hZ.2
        have a2 := of_decide_eq_true hY.2
        split at hs
        · next hr =>
          obtain ⟨rfl, rfl, rfl, rfl, rfl, rfl⟩ := nx_inj hs
          rw [hr.2, List.drop_zero] at hdr
          subst hdr
          exact g_objInit hF hd (List.contains_iff_mem.mp hZ.1) hr.1 (Nat.le_trans a1 hR.1) (Nat.le_trans a2 hR.2.1) (hg _ hn)
        · cases hs
      · split at hs <;> cases hs
    · cases hs
  | invokestatic ix =>
    have hX := ((Bool.and_eq_true _ _).mp hI).2
    obtain ⟨hn, hln⟩ := hdef rfl
    subst hln
    dsimp only at hX
    dsimp only [stp] at hs
    split at hs
    · next h9 =>
      rw [if_pos h9] at hX
      have hY := (Bool.and_eq_true _ _).mp hX
      have hZ := (Bool.and_eq_true _ _).mp hY.1
      have a1 := of_decide_eq_true hZ.2
      have a2 := of_decide_eq_true hY.2
      split at hs
      · obtain ⟨a, ha, hs⟩ := Option.bind_eq_some_iff.mp hs
        obtain ⟨b, hb3, hs⟩ := Option.bind_eq_some_iff.mp hs
        split at hs
        · next hr =>
          obtain ⟨rfl, rfl, rfl, rfl, rfl, rfl⟩ := nx_inj hs
          exact g_copy hF hd (List.contains_iff_mem.mp hZ.1) ha hb3 hr.1 hr.2.1 hr.2.2.1 hr.2.2.2.1 hr.2.2.2.2.1 hr.2.2.2.2.2.2.2 (Nat.le_trans a1 hR.1) (Nat.le_trans a2 hR.2.1) (hg _ hn)
        · cases hs
      · cases hs
    · next h9 =>
      rw [if_neg h9] at hX
      split at hs
      · next h4 =>
        rw [if_pos h4] at hX
        have hY := (Bool.and_eq_true _ _).mp hX
        have hZ := (Bool.and_eq_true _ _).mp hY.1
        have a1 := of_decide_eq_true hZ.2
        have a2 := of_decide_eq_true hY.2
        split at hs
        · split at hs
          · next hr =>
            obtain ⟨rfl, rfl, rfl, rfl, rfl, rfl⟩ := nx_inj hs
            exact g_max hF hd (List.contains_iff_mem.mp hZ.1) hr (Nat.le_trans a1 hR.1) (Nat.le_trans a2 hR.2.1) (by omega) (by omega) (hg _ hn)
          · cases hs
        · cases hs
      · next h4 =>
        rw [if_neg h4] at hX
        split at hs
        · next h5 =>
          rw [if_pos h5] at hX
          have hY := (Bool.and_eq_true _ _).mp hX
          have hZ := (Bool.and_eq_true _ _).mp hY.1
          have a1 := of_decide_eq_true hZ.2
          have a2 := of_decide_eq_true hY.2
          split at hs
          · split at hs
            · next hr =>
              obtain ⟨rfl, rfl, rfl, rfl, rfl, rfl⟩ := nx_inj hs
              exact g_min hF hd (List.contains_iff_mem.mp hZ.1) hr (Nat.le_trans a1 hR.1) (Nat.le_trans a2 hR.2.1) (by omega) (by omega) (hg _ hn)
            · cases hs
          · cases hs
        · next h5 =>
          rw [if_neg h5] at hX
          split at hs
          · next h6 =>
            rw [if_pos h6] at hX
            have hY := (Bool.and_eq_true _ _).mp hX
            have hZ := (Bool.and_eq_true _ _).mp hY.1
            have a1 := of_decide_eq_true hZ.2
            have a2 := of_decide_eq_true hY.2
            split at hs
            · split at hs
              · next hr =>
                obtain ⟨rfl, rfl, rfl, rfl, rfl, rfl⟩ := nx_inj hs
                exact g_abs hF hd (List.contains_iff_mem.mp hZ.1) hr (Nat.le_trans a1 hR.1) (Nat.le_trans a2 hR.2.1) (by omega) (by omega) (hg _ hn)
              · cases hs
            · cases hs
          · split at hs <;> cases hs
  | ireturn  =>
    dsimp only [stp] at hs
    split at hs
    · split at hs <;> cases hs
    · cases hs
  | lreturn  =>
    dsimp only [stp] at hs
    split at hs
    · split at hs <;> cases hs
    · cases hs
  | return_  =>
    dsimp only [stp] at hs
    split at hs
    · split at hs <;> cases hs
    · cases hs
  | _ => cases hs
end STEP
