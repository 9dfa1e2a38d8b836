/-! CALLS AND ENDS -/
section SND
variable {base : Nat} {ext adV : Nat → Nat} {cid : FieldType → ClassId} {D : va_G} {X : PX} {k : Nat} {p : Program} {l : Launch} {e : Env} {R : Room} {s : State} {m : MethodId} {args : Array Value} {below : List Frame} {meth : Method} {c : Code} {Q : State → Prop} {bp : Nat} {L : PL} {st : List PV} {h : PHp} {cs sl : Nat}
theorem after_call {v : Option PV} {h2 : PHp} {r : List PV} {bp2 mc ms : Nat} (g : Gw base ext cid D k p l e R s m args below meth c Q bp2 L (v.toList ++ r) h2 (cs + mc) (sl + ms)) {H : Heap} {ls : Array Slot} (hL : LR base ext ls (mL k) L) (hsz : H.size = base + h.length) (hcs : s.heap.size + cs = H.size) : ∀ (H1 : Heap) (locs1 : List Loc), (∃ t : State, t.heap = H1 ∧ PosP base ext cid D (h.length + mc) h2 t) → va_S (fun q => base ≤ q) s.heap H1 locs1 → W p l e R s m args below meth c H1 locs1 (cs + mc) (sl + ms) Q (F0 m bp2 ls ((v.map (cV base ext)).toList ++ r.map (cV base ext))) := by
  rintro H1 locs1 ⟨t, rfl, q1, q2, q3⟩ hS1
  have hg := g t.heap locs1 ls hL q1 q2 hS1 (by omega)
  rw [List.map_append, show v.toList.map (cV base ext) = (v.map (cV base ext)).toList from by cases v <;> rfl] at hg
  exact hg
theorem pre_of (hK : va_K D vwCl (tysL cid) s) (hE : EX base ext adV X s) {H : Heap} {locs : List Loc} (hP : va_P D vwCl (cW base ext cid h) H) (hsz : H.size = base + h.length) (hS : va_S (fun q => base ≤ q) s.heap H locs) {U : State} (hU : U.heap = H) (hW : s.WarmedH U.vm) : PreP base ext adV cid D X h U :=
  ⟨by rw [hU]; exact hP, by rw [hU]; exact hsz, va_K.moved hW.alike hK, hE.go hW (fun a h1 h2 => by rw [hU]; exact hS.2.1 a h1 h2)⟩
theorem st_split {n c0 : Nat} {r : List PV} (hdrop : st.drop n = vR (some c0) :: r) : st.map (cV base ext) = (((st.take n).reverse).map (cV base ext)).reverse ++ Value.ref (adr base ext c0) :: r.map (cV base ext) ∧ (((st.take n).reverse).map (cV base ext)).length = n := by
  have hlt : n < st.length := by
    rcases Nat.lt_or_ge n st.length with q | q
    · exact q
    · rw [List.drop_eq_nil_of_le q] at hdrop; cases hdrop
  constructor
  · rw [← List.map_reverse, List.reverse_reverse]
    have e1 : st = st.take n ++ st.drop n := (List.take_append_drop n st).symm
    rw [e1, hdrop, List.map_append]
    simp only [List.map_cons]
    rw [show List.take n (List.take n st ++ vR (some c0) :: r) = List.take n st from by rw [List.take_append_of_le_length (by rw [List.length_take]; omega), List.take_take, Nat.min_self]]
    rfl
  · rw [List.length_map, List.length_reverse, List.length_take]; omega
theorem cat8 {r : List PV} (h8 : catS r ≤ 8) : ((r.map (cV base ext)).map fun v => v.category).sum ≤ 8 := by rw [cat_sum]; exact h8
/-- invokevirtual -/
theorem g_virt (hF : Fx base ext adV cid D X k p s m args meth c) {ix k2 n ci c0 : Nat} {r : List PV} {v : Option PV} {h2 : PHp} (hd : decode (mC k) bp = .ok (.invokevirtual ix, 3)) (hl : (1, ix, k2, 0) ∈ lks (mO k)) (hk2 : k2 < 284) (hkd : mK k2 = 1) (hcls : (vC ci).1 = (mY k2).cls) (hci : ci < 12) (hpar : (parseMethodDescriptor (mY k2).desc).map (fun d => d.parameters.length) = some n) (hfr : mFr k2 + 1 ≤ R.frames) (hlo : 8 + (mL k2 + 11) + mLo k2 ≤ R.locals) (hdrop : st.drop n = vR (some c0) :: r) (hrec : (hObj h c0 ci).isSome = true) (hc8 : catS r ≤ 8) (hrc : cs + mMc k2 ≤ R.cells) (hrs : sl + mMs k2 ≤ R.slots) (hM : MetP base ext adV cid D X l (mY k2) (mW k2) (mRm k2) (mMc k2) (mMs k2) (vR (some c0) :: (st.take n).reverse) h v h2) (g : Gw base ext cid D k p l e R s m args below meth c Q (bp + 3) L (v.toList ++ r) h2 (cs + mMc k2) (sl + mMs k2)) : Gw base ext cid D k p l e R s m args below meth c Q bp L st h cs sl := by
  obtain ⟨hx, hb, hml, hown, hts, hK, hE, hnm⟩ := hF
  intro H locs ls hL hP hsz hS hcs
  obtain ⟨fs, hfs⟩ := Option.isSome_iff_exists.mp hrec
  obtain ⟨hvc, hvh⟩ := hObj_spec hfs
  have hst := st_split (base := base) (ext := ext) hdrop
  have hfa := me_fa hk2
  have hG : GoodIn TB (wsV (cN (mO k)) ix (mY k2).cls (mY k2) (mW k2)) := by
    intro w hw
    have : w ∈ TB := by
      rcases List.mem_append.mp hw with hw | hw
      · simp only [List.mem_cons, List.not_mem_nil, or_false] at hw
        rcases hw with rfl | rfl | rfl | rfl
        · exact lk_ok (mO k) _ hl (by simp) (by simp)
        · exact me_inst hk2 (by omega)
        · exact me_sel hk2 hkd
        · exact me_init hk2
      · exact (mW_good hk2 w hw).1
    exact ⟨this, TB_gd this⟩
  rw [hst.1]
  exact va_callg (va_runV (C := (mY k2).cls) ⟨hx, hb, hml, hown, hts⟩ hM (cwV n hts hG rfl rfl rfl ⟨rfl, hfa.1, hfa.2.1, hpar⟩ ⟨hfr, hlo⟩) ⟨PreP.blind, by
      have := va_recv hK hP (vC_at ci hci) (cW_get hvh)
      rw [hcls] at this
      rw [adr_lt hvc]
      exact this, fun U hU hW => ⟨rfl, pre_of hK hE hP hsz hS hU hW⟩⟩ rfl hst.2 hL.2.1 rfl (lv_room (cat8 hc8)) hd ⟨hrc, hrs⟩) hS (after_call g hL hsz hcs)
/-- invokespecial of a constructor -/
theorem g_spec (hF : Fx base ext adV cid D X k p s m args meth c) {ix k2 n c0 : Nat} {r : List PV} {v : Option PV} {h2 : PHp} (hd : decode (mC k) bp = .ok (.invokespecial ix, 3)) (hl : (1, ix, k2, 0) ∈ lks (mO k) ∨ (2, ix, k2, 0) ∈ lks (mO k)) (hk2 : k2 < 284) (hkd : mK k2 = 2) (hret : mR k2 = none) (hpar : (parseMethodDescriptor (mY k2).desc).map (fun d => d.parameters.length) = some n) (hfr : mFr k2 + 1 ≤ R.frames) (hlo : 8 + (mL k2 + 11) + mLo k2 ≤ R.locals) (hdrop : st.drop n = vR (some c0) :: r) (hc8 : catS r ≤ 8) (hrc : cs + mMc k2 ≤ R.cells) (hrs : sl + mMs k2 ≤ R.slots) (hM : MetP base ext adV cid D X l (mY k2) (mW k2) (mRm k2) (mMc k2) (mMs k2) (vR (some c0) :: (st.take n).reverse) h v h2) (g : Gw base ext cid D k p l e R s m args below meth c Q (bp + 3) L (v.toList ++ r) h2 (cs + mMc k2) (sl + mMs k2)) : Gw base ext cid D k p l e R s m args below meth c Q bp L st h cs sl := by
  obtain ⟨hx, hb, hml, hown, hts, hK, hE, hnm⟩ := hF
  intro H locs ls hL hP hsz hS hcs
  have hst := st_split (base := base) (ext := ext) hdrop
  have hfa := me_fa hk2
  have hini := hts _ (me_init hk2)
  have hins := hts _ (me_inst hk2 (by omega))
  have hwe : mW k2 = Cond.code (mY k2) (mC k2) (mL k2) none :: TB := by rw [mW, hret]
  rw [hst.1]
  rcases hl with hl | hl
  · exact va_callg (va_runI ⟨hx, hb, hml, hown, hts⟩ hM (cwI n hts (mW_good hk2) hwe rfl rfl hini (hts _ (lk_ok (mO k) _ hl (by simp) (by simp))) hins (hfa.2.2.1.mp hkd) ⟨hfa.1, hfa.2.1, hpar⟩ ⟨hfr, hlo⟩) ⟨PreP.blind, fun U hU hW => ⟨rfl, pre_of hK hE hP hsz hS hU hW⟩⟩ rfl hst.2 hL.2.1 rfl (lv_room (cat8 hc8)) hd ⟨hrc, hrs⟩) hS (after_call g hL hsz hcs)
  · exact va_callg (va_runIN (host := "QuotaParish") ⟨hx, hb, hml, hown, hts⟩ hM ⟨va_cnB n hts (mW_good hk2) hwe rfl rfl (hE.1 (mO k) ix k2 0 hl) hini ⟨hfa.1, hfa.2.1, hpar⟩ ⟨hfr, hlo⟩, hfa.2.2.1.mp hkd, hins⟩ ⟨PreP.blind, fun U hU hW => ⟨rfl, pre_of hK hE hP hsz hS hU hW⟩⟩ rfl hst.2 hL.2.1 rfl (lv_room (cat8 hc8)) hd ⟨hrc, hrs⟩) hS (after_call g hL hsz hcs)
/-- invokestatic -/
theorem g_stat (hF : Fx base ext adV cid D X k p s m args meth c) {ix k2 n : Nat} {v : Option PV} {h2 : PHp} (hd : decode (mC k) bp = .ok (.invokestatic ix, 3)) (hl : (1, ix, k2, 0) ∈ lks (mO k)) (hk2 : k2 < 284) (hkd : mK k2 = 0) (hpar : (parseMethodDescriptor (mY k2).desc).map (fun d => d.parameters.length) = some n) (hfr : mFr k2 + 1 ≤ R.frames) (hlo : 8 + (mL k2 + 11) + mLo k2 ≤ R.locals) (hn : n ≤ st.length) (hc8 : catS (st.drop n) ≤ 8) (hrc : cs + mMc k2 ≤ R.cells) (hrs : sl + mMs k2 ≤ R.slots) (hM : MetP base ext adV cid D X l (mY k2) (mW k2) (mRm k2) (mMc k2) (mMs k2) ((st.take n).reverse) h v h2) (g : Gw base ext cid D k p l e R s m args below meth c Q (bp + 3) L (v.toList ++ st.drop n) h2 (cs + mMc k2) (sl + mMs k2)) : Gw base ext cid D k p l e R s m args below meth c Q bp L st h cs sl := by
  obtain ⟨hx, hb, hml, hown, hts, hK, hE, hnm⟩ := hF
  intro H locs ls hL hP hsz hS hcs
  have hfa := me_fa hk2
  have hst : st.map (cV base ext) = (((st.take n).reverse).map (cV base ext)).reverse ++ (st.drop n).map (cV base ext) := by
    rw [← List.map_reverse, List.reverse_reverse, ← List.map_append, List.take_append_drop]
  have hG : GoodIn TB (va_wsS (cN (mO k)) ix (mY k2) (mW k2)) := by
    intro w hw
    have : w ∈ TB := by
      rcases List.mem_append.mp hw with hw | hw
      · simp only [List.mem_cons, List.not_mem_nil, or_false] at hw
        rcases hw with rfl | rfl | rfl
        · exact lk_ok (mO k) _ hl (by simp) (by simp)
        · exact me_static hk2 hkd
        · exact me_init hk2
      · exact (mW_good hk2 w hw).1
    exact ⟨this, TB_gd this⟩
  rw [hst]
  exact va_callg (va_runS ⟨hx, hb, hml, hown, hts⟩ hM (va_cwS n hts hG rfl rfl rfl ⟨hfa.1, hfa.2.1, hpar⟩ ⟨hfr, hlo⟩) ⟨PreP.blind, fun U hU hW => ⟨rfl, pre_of hK hE hP hsz hS hU hW⟩⟩ rfl (by rw [List.length_map, List.length_reverse, List.length_take]; omega) hL.2.1 rfl (lv_room (cat8 hc8)) hd ⟨hrc, hrs⟩) hS (after_call g hL hsz hcs)
/-- the contract's end -/
abbrev QE (base : Nat) (ext : Nat → Nat) (cid : FieldType → ClassId) (D : va_G) (args : Array Value) (s : State) (below : List Frame) (n cs sl : Nat) (v : Option PV) (h : PHp) : State → Prop := MQ below (Qg (v.map (cV base ext)) (PosP base ext cid D n h) (fun q => base ≤ q)) args s cs sl (fun q => base ≤ q)
theorem g_iret (hF : Fx base ext adV cid D X k p s m args meth c) {x : Int} {n0 : Nat} (hr : meth.sig.returnType = mR k) (hlk : meth.locks = false) (hd : decode (mC k) bp = .ok (.ireturn, 1)) (hty : mR k = some .int ∨ mR k = some .boolean ∧ (x = 0 ∨ x = 1)) (hs0 : s.heap.size = base + n0) : Gw base ext cid D k p l e R s m args below meth c (QE base ext cid D args s below (n0 + cs) cs sl (some (vI x)) h) bp L [vI x] h cs sl := by
  obtain ⟨hx, hb, hml, hown, hts, hK, hE, hnm⟩ := hF
  intro H locs ls hL hP hsz hS hcs
  rcases hty with hty | ⟨hty, h01⟩
  · exact W.iret hx hb (hr.trans hty) (fun t ht hW => ⟨⟨rfl, by rw [ht]; exact hP, by rw [ht]; exact hsz, by omega⟩, hS.F ht⟩) (fun q hq => hS.2.2 q hq) hd hlk
  · exact W.zret hx hb (hr.trans hty) (by rcases h01 with rfl | rfl <;> rfl) (fun t ht hW => ⟨⟨rfl, by rw [ht]; exact hP, by rw [ht]; exact hsz, by omega⟩, hS.F ht⟩) (fun q hq => hS.2.2 q hq) hd hlk
theorem g_lret (hF : Fx base ext adV cid D X k p s m args meth c) {x : Int} {n0 : Nat} (hr : meth.sig.returnType = mR k) (hlk : meth.locks = false) (hd : decode (mC k) bp = .ok (.lreturn, 1)) (hty : mR k = some .long) (hs0 : s.heap.size = base + n0) : Gw base ext cid D k p l e R s m args below meth c (QE base ext cid D args s below (n0 + cs) cs sl (some (vL x)) h) bp L [vL x] h cs sl := by
  obtain ⟨hx, hb, hml, hown, hts, hK, hE, hnm⟩ := hF
  intro H locs ls hL hP hsz hS hcs
  exact W.lret hx hb (hr.trans hty) (fun t ht hW => ⟨⟨rfl, by rw [ht]; exact hP, by rw [ht]; exact hsz, by omega⟩, hS.F ht⟩) (fun q hq => hS.2.2 q hq) hd hlk
theorem g_vret (hF : Fx base ext adV cid D X k p s m args meth c) {n0 : Nat} (hr : meth.sig.returnType = mR k) (hlk : meth.locks = false) (hd : decode (mC k) bp = .ok (.return_, 1)) (hty : mR k = none) (hs0 : s.heap.size = base + n0) : Gw base ext cid D k p l e R s m args below meth c (QE base ext cid D args s below (n0 + cs) cs sl none h) bp L [] h cs sl := by
  obtain ⟨hx, hb, hml, hown, hts, hK, hE, hnm⟩ := hF
  intro H locs ls hL hP hsz hS hcs
  exact W.vret hx hb (hr.trans hty) (fun t ht hW => ⟨⟨rfl, by rw [ht]; exact hP, by rw [ht]; exact hsz, by omega⟩, hS.F ht⟩) (fun q hq => hS.2.2 q hq) hd hlk
end SND
/-! the locals at the entry -/
theorem pargs_mem {base : Nat} {ext : Nat → Nat} : ∀ (as : List PV) (o j : Nat) (v : PV), (pargs as)[j]? = some (some v) → (o + j, cV base ext v) ∈ lv_args o (as.map (cV base ext))
  | [], o, j, v, h => by simp [pargs] at h
  | .inr (.inl x) :: r, o, j, v, h => by
    simp only [pargs] at h
    show _ ∈ (o, cV base ext (vL x)) :: lv_args (o + 2) (r.map (cV base ext))
    match j, h with
    | 0, h => cases h; exact List.mem_cons_self
    | 1, h => cases h
    | j + 2, h =>
      have := pargs_mem (base := base) (ext := ext) r (o + 2) j v h
      rw [show o + (j + 2) = o + 2 + j by omega]
      exact List.mem_cons_of_mem _ this
  | .inl x :: r, o, j, v, h => by
    simp only [pargs] at h
    show _ ∈ (o, cV base ext (vI x)) :: lv_args (o + 1) (r.map (cV base ext))
    match j, h with
    | 0, h => cases h; exact List.mem_cons_self
    | j + 1, h =>
      have := pargs_mem (base := base) (ext := ext) r (o + 1) j v h
      rw [show o + (j + 1) = o + 1 + j by omega]
      exact List.mem_cons_of_mem _ this
  | .inr (.inr none) :: r, o, j, v, h => by
    simp only [pargs] at h
    show _ ∈ (o, cV base ext (vR none)) :: lv_args (o + 1) (r.map (cV base ext))
    match j, h with
    | 0, h => cases h; exact List.mem_cons_self
    | j + 1, h =>
      have := pargs_mem (base := base) (ext := ext) r (o + 1) j v h
      rw [show o + (j + 1) = o + 1 + j by omega]
      exact List.mem_cons_of_mem _ this
  | .inr (.inr (some x)) :: r, o, j, v, h => by
    simp only [pargs] at h
    show _ ∈ (o, cV base ext (vR (some x))) :: lv_args (o + 1) (r.map (cV base ext))
    match j, h with
    | 0, h => cases h; exact List.mem_cons_self
    | j + 1, h =>
      have := pargs_mem (base := base) (ext := ext) r (o + 1) j v h
      rw [show o + (j + 1) = o + 1 + j by omega]
      exact List.mem_cons_of_mem _ this
theorem pargs_len {base : Nat} {ext : Nat → Nat} : ∀ (as : List PV), (lg_sl (as.map (cV base ext))).length = (pargs as).length
  | [] => rfl
  | .inr (.inl x) :: r => by
    have := pargs_len (base := base) (ext := ext) r
    simp only [lg_sl, List.map_cons, List.flatMap_cons, List.length_append, pargs, List.length_cons] at this ⊢
    rw [this]
    show 2 + _ = _
    omega
  | .inl x :: r => by
    have := pargs_len (base := base) (ext := ext) r
    simp only [lg_sl, List.map_cons, List.flatMap_cons, List.length_append, pargs, List.length_cons] at this ⊢
    rw [this]
    show 1 + _ = _
    omega
  | .inr (.inr none) :: r => by
    have := pargs_len (base := base) (ext := ext) r
    simp only [lg_sl, List.map_cons, List.flatMap_cons, List.length_append, pargs, List.length_cons] at this ⊢
    rw [this]
    show 1 + _ = _
    omega
  | .inr (.inr (some x)) :: r => by
    have := pargs_len (base := base) (ext := ext) r
    simp only [lg_sl, List.map_cons, List.flatMap_cons, List.length_append, pargs, List.length_cons] at this ⊢
    rw [this]
    show 1 + _ = _
    omega
theorem LR_entry {base : Nat} {ext : Nat → Nat} {n : Nat} {as : List PV} (h : (pargs as).length ≤ n) : LR base ext ((lg_sl (as.map (cV base ext)) ++ List.replicate (n - (lg_sl (as.map (cV base ext))).length) Slot.unset).toArray) n (pent n as) := by
  have h1 := lv_entry (as.map (cV base ext)) (n := n) (by rw [pargs_len]; exact h)
  refine ⟨by simp [pent]; omega, h1.1, h1.2.1, ?_⟩
  rintro ⟨j, w⟩ hq
  obtain ⟨v, hv, rfl⟩ := lvL_mem.mp hq
  apply h1.2.2
  have hv2 : (pargs as)[j]? = some (some v) := by
    unfold pent at hv
    rw [List.getElem?_append] at hv
    split at hv
    · exact hv
    · rw [List.getElem?_replicate] at hv
      split at hv <;> cases hv
  have := pargs_mem (base := base) (ext := ext) as 0 j v hv2
  rw [Nat.zero_add] at this
  exact this
