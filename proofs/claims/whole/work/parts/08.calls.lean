/-! MAKING, CALLING, RETURNING -/
theorem mem_pos {ps : List Nat} {f : Nat → Cond} {n : Nat} (h : ps.map (fun i => lw_tbl[i]?) = (List.range n).map (fun k => some (f k))) {k : Nat} (hk : k < n) : f k ∈ lw_tbl := by
  have h1 : some (f k) ∈ (List.range n).map (fun k => some (f k)) := List.mem_map.mpr ⟨k, List.mem_range.mpr hk, rfl⟩
  rw [← h] at h1
  obtain ⟨i, -, hi⟩ := List.mem_map.mp h1
  exact List.mem_of_getElem? hi
theorem cl_inst {ci : Nat} (h : ci < 12) : Cond.instantiable (vC ci).1 (vC ci).2.2 ∈ TB := List.mem_filter.mpr ⟨mem_pos (f := fun ci => Cond.instantiable (vC ci).1 (vC ci).2.2) cl_in h, rfl⟩
theorem cl_init {ci : Nat} (h : ci < 12) : Cond.initialized (vC ci).1 ∈ TB := List.mem_filter.mpr ⟨mem_pos (f := fun ci => Cond.initialized (vC ci).1) cl_it h, rfl⟩
theorem me_init {k : Nat} (h : k < 284) : Cond.initialized (mY k).cls ∈ TB := List.mem_filter.mpr ⟨mem_pos (f := fun k => Cond.initialized (mY k).cls) mk_in h, rfl⟩
theorem me_static {k : Nat} (h : k < 284) (h0 : mK k = 0) : Cond.static (mY k) ∈ TB := by
  have h1 := mem_pos (f := fun k => if mK k = 0 then Cond.static (mY k) else Cond.instanceMethod (mY k)) mk_me h
  rw [if_pos h0] at h1
  exact List.mem_filter.mpr ⟨h1, rfl⟩
theorem me_inst {k : Nat} (h : k < 284) (h0 : ¬ mK k = 0) : Cond.instanceMethod (mY k) ∈ TB := by
  have h1 := mem_pos (f := fun k => if mK k = 0 then Cond.static (mY k) else Cond.instanceMethod (mY k)) mk_me h
  rw [if_neg h0] at h1
  exact List.mem_filter.mpr ⟨h1, rfl⟩
theorem me_sel {k : Nat} (h : k < 284) (h1 : mK k = 1) : Cond.selects (mY k).cls (mY k) (mY k) ∈ TB := by
  have h2 := List.all_eq_true.mp mk_se k (List.mem_range.mpr h)
  rw [if_pos h1] at h2
  exact List.mem_filter.mpr ⟨List.mem_of_getElem? (of_decide_eq_true h2), rfl⟩
theorem me_fa {k : Nat} (h : k < 284) : (mY k).cls ≠ "java/lang/invoke/MethodHandle" ∧ (mY k).cls ≠ "java/lang/invoke/VarHandle" ∧ (mK k = 2 ↔ (mY k).name = "<init>") ∧ cN (mO k) = (mY k).cls ∧ plainName (mY k).cls = true := by
  have h2 := List.all_eq_true.mp mk_fa k (List.mem_range.mpr h)
  simp only [Bool.and_eq_true, decide_eq_true_eq] at h2
  obtain ⟨a1, a2, a3, a4, a5⟩ := h2
  refine ⟨a1, a2, ?_, a4, ?_⟩
  · constructor
    · intro q
      rw [decide_eq_true q] at a3
      exact of_decide_eq_true a3.symm
    · intro q
      rw [decide_eq_true q] at a3
      exact of_decide_eq_true a3
  · rw [← a4]
    exact pn_all _ a5
def mW (k : Nat) : List Cond := Cond.code (mY k) (mC k) (mL k) (mR k) :: TB
theorem mW_good {k : Nat} (h : k < 284) : GoodIn TB (mW k) := by
  intro w hw
  rcases List.mem_cons.mp hw with rfl | hw
  · exact ⟨mk_co k h, TB_gd (mk_co k h)⟩
  · exact ⟨hw, TB_gd hw⟩
theorem ft_all : (List.range 12).all (fun ci => (List.range (vC ci).2.2).all fun j => decide (ftC ci j < 3)) = true := by decide +kernel
theorem cat_sum {base : Nat} {ext : Nat → Nat} : ∀ (r : List PV), ((r.map (cV base ext)).map fun v => v.category).sum = catS r
  | [] => rfl
  | .inl x :: r => by
    have := cat_sum (base := base) (ext := ext) r
    simp only [List.map_cons, List.sum_cons, catS] at this ⊢
    rw [this]; rfl
  | .inr (.inl x) :: r => by
    have := cat_sum (base := base) (ext := ext) r
    simp only [List.map_cons, List.sum_cons, catS] at this ⊢
    rw [this]; rfl
  | .inr (.inr none) :: r => by
    have := cat_sum (base := base) (ext := ext) r
    simp only [List.map_cons, List.sum_cons, catS] at this ⊢
    rw [this]; rfl
  | .inr (.inr (some x)) :: r => by
    have := cat_sum (base := base) (ext := ext) r
    simp only [List.map_cons, List.sum_cons, catS] at this ⊢
    rw [this]; rfl
section CALLS
variable {base : Nat} {ext adV : Nat → Nat} {cid : FieldType → ClassId} {D : va_G} {X : PX} {k : Nat} {p : Program} {l : Launch} {e : Env} {R : Room} {s : State} {m : MethodId} {args : Array Value} {below : List Frame} {meth : Method} {c : Code} {Q : State → Prop} {bp : Nat} {L : PL} {st : List PV} {h : PHp} {cs sl : Nat}
theorem g_newa (hF : Fx base ext adV cid D X k p s m args meth c) {at_ : ArrayType} {ty : FieldType} {n : Int} {t0 : Nat} {e1 : PE} {a0 : vp_A} (hd : decode (mC k) bp = .ok (.newarray at_, 2)) (hty : newarray.typeOf at_ = ty) (hprim : ∀ (U : State) (cA : ClassId), va_RA U cA ty → U.vm.findClass ("[" ++ ty.toString) = some cA) (harr : Cond.arrayClass ty ∈ TB) (ht : (tysL cid)[t0]? = some (cid ty, ty)) (hE1 : cE base ext cid e1 = .inl (cid ty, a0)) (ha : ∀ cA : ClassId, vp_cell cA a0 = arrV cA n.toNat (fun _ => defaultValue ty)) (h0 : 0 ≤ n) (hn : n ≤ 100000) (hb4 : componentBytes ty ≤ 8) (hk : h.length < PK) (hc1 : cs + 1 ≤ R.cells) (hs1 : sl + n.toNat ≤ R.slots) (g : Gw base ext cid D k p l e R s m args below meth c Q (bp + 2) L (vR (some h.length) :: st) (h ++ [e1]) (cs + 1) (sl + n.toNat)) : Gw base ext cid D k p l e R s m args below meth c Q bp L (vI n :: st) h cs sl := by
  obtain ⟨hx, hb, hml, hown, hts, hK, hE, hnm⟩ := hF
  intro H locs ls hL hP hsz hS hcs
  have en : (Int32.ofInt n).toInt = n := Int32.toInt_ofInt_of_le (by omega) (by omega)
  refine va_newa (a0 := a0) (N' := n.toNat) hx hb (by rw [hty]; exact hts _ harr) hty hK hP cW_D hS (fun q hq => by
      have := hnm.2
      show base ≤ q
      omega) ha (by rw [Int32.lt_iff_toInt_lt, en, Int32.toInt_zero]; omega) (by rw [Int32.toNatClampNeg, en]) (Nat.le_trans (Nat.mul_le_mul_left _ hb4) (by omega)) hc1 hs1 hd (fun q cA H1 hK1 hP1 hD1 hS1 => ?_)
  have e2 : cA = cid ty := by
    have r1 := hprim _ _ (hK1.2 (tysL cid).length (cA, ty) (by rw [List.getElem?_append_right (Nat.le_refl _), Nat.sub_self]; rfl)).2
    have r2 := hprim _ _ (hK.2 t0 _ ht).2
    exact Option.some.inj (r1.symm.trans r2)
  subst e2
  exact new_on g hk hL hsz hcs hE1 H1 locs hP1 hD1 hS1
theorem g_newi (hF : Fx base ext adV cid D X k p s m args meth c) {n : Int} (hd : decode (mC k) bp = .ok (.newarray .int, 2)) (h0 : 0 ≤ n) (hn : n ≤ 100000) (hk : h.length < PK) (hc1 : cs + 1 ≤ R.cells) (hs1 : sl + n.toNat ≤ R.slots) (g : Gw base ext cid D k p l e R s m args below meth c Q (bp + 2) L (vR (some h.length) :: st) (h ++ [.inl (.int, n.toNat, .inl fun _ => 0)]) (cs + 1) (sl + n.toNat)) : Gw base ext cid D k p l e R s m args below meth c Q bp L (vI n :: st) h cs sl :=
  g_newa hF hd rfl (fun _ _ q => q) (TB_at 220 (by decide +kernel) (by decide +kernel)) (t0 := 0) rfl (a0 := (n.toNat, .inl fun _ => 0)) rfl (fun _ => rfl) h0 hn (by decide) hk hc1 hs1 g
theorem g_newz (hF : Fx base ext adV cid D X k p s m args meth c) {n : Int} (hd : decode (mC k) bp = .ok (.newarray .boolean, 2)) (h0 : 0 ≤ n) (hn : n ≤ 100000) (hk : h.length < PK) (hc1 : cs + 1 ≤ R.cells) (hs1 : sl + n.toNat ≤ R.slots) (g : Gw base ext cid D k p l e R s m args below meth c Q (bp + 2) L (vR (some h.length) :: st) (h ++ [.inl (.boolean, n.toNat, .inl fun _ => 0)]) (cs + 1) (sl + n.toNat)) : Gw base ext cid D k p l e R s m args below meth c Q bp L (vI n :: st) h cs sl :=
  g_newa hF hd rfl (fun _ _ q => q) (TB_at 330 (by decide +kernel) (by decide +kernel)) (t0 := 1) rfl (a0 := (n.toNat, .inl fun _ => 0)) rfl (fun _ => rfl) h0 hn (by decide) hk hc1 hs1 g
theorem g_newl (hF : Fx base ext adV cid D X k p s m args meth c) {n : Int} (hd : decode (mC k) bp = .ok (.newarray .long, 2)) (h0 : 0 ≤ n) (hn : n ≤ 100000) (hk : h.length < PK) (hc1 : cs + 1 ≤ R.cells) (hs1 : sl + n.toNat ≤ R.slots) (g : Gw base ext cid D k p l e R s m args below meth c Q (bp + 2) L (vR (some h.length) :: st) (h ++ [.inl (.long, n.toNat, .inr (.inl fun _ => 0))]) (cs + 1) (sl + n.toNat)) : Gw base ext cid D k p l e R s m args below meth c Q bp L (vI n :: st) h cs sl :=
  g_newa hF hd rfl (fun _ _ q => q) (TB_at 514 (by decide +kernel) (by decide +kernel)) (t0 := 2) rfl (a0 := (n.toNat, .inr (.inl fun _ => 0))) rfl (fun _ => rfl) h0 hn (by decide) hk hc1 hs1 g
theorem g_anew (hF : Fx base ext adV cid D X k p s m args meth c) {ix ci t0 : Nat} {n : Int} (hd : decode (mC k) bp = .ok (.anewarray ix, 3)) (hl : (3, ix, ci, 0) ∈ lks (mO k)) (hci : ci = 6 ∨ ci = 7 ∨ ci = 9) (ht : (tysL cid)[t0]? = some (cid (.object (vC ci).1), .object (vC ci).1)) (h0 : 0 ≤ n) (hn : n ≤ 100000) (hk : h.length < PK) (hc1 : cs + 1 ≤ R.cells) (hs1 : sl + n.toNat ≤ R.slots) (g : Gw base ext cid D k p l e R s m args below meth c Q (bp + 3) L (vR (some h.length) :: st) (h ++ [.inl (.object (vC ci).1, n.toNat, .inr (.inr fun _ => none))]) (cs + 1) (sl + n.toNat)) : Gw base ext cid D k p l e R s m args below meth c Q bp L (vI n :: st) h cs sl := by
  obtain ⟨hx, hb, hml, hown, hts, hK, hE, hnm⟩ := hF
  intro H locs ls hL hP hsz hS hcs
  have en : (Int32.ofInt n).toInt = n := Int32.toInt_ofInt_of_le (by omega) (by omega)
  refine va_newq (C := (vC ci).1) (N' := n.toNat) hx hb hown (hts _ (lk_ok (mO k) _ hl (by simp) (by simp))) (hE.2.2.2.2.2.1 ci hci) hK hP cW_D hS (fun q hq => by
      have := hnm.2
      show base ≤ q
      omega) (by rw [Int32.lt_iff_toInt_lt, en, Int32.toInt_zero]; omega) (by rw [Int32.toNatClampNeg, en]) (by omega) hc1 hs1 hd (fun q cA H1 hK1 hP1 hD1 hS1 => ?_)
  have e2 : cA = cid (.object (vC ci).1) := by
    obtain ⟨kA, comp, -, -, -, r1⟩ := (hK1.2 (tysL cid).length (cA, .object (vC ci).1) (by rw [List.getElem?_append_right (Nat.le_refl _), Nat.sub_self]; rfl)).2
    obtain ⟨kA2, comp2, -, -, -, r2⟩ := (hK.2 t0 _ ht).2
    exact Option.some.inj (r1.symm.trans r2)
  subst e2
  exact new_on g hk hL hsz hcs rfl H1 locs hP1 hD1 hS1
theorem dv_ok {base : Nat} {ext : Nat → Nat} {ty : FieldType} (h : tyC (some ty) < 3) : defaultValue ty = cV base ext (if tyC (some ty) = 2 then vR none else vI 0) := by
  cases ty <;> first | rfl | (simp [tyC] at h; done)
theorem g_new (hF : Fx base ext adV cid D X k p s m args meth c) {ix ci : Nat} {ts : List Nat} (hd : decode (mC k) bp = .ok (.new ix, 3)) (hl : (3, ix, ci, 0) ∈ lks (mO k)) (hci : ci < 12) (hts2 : ts = (List.range (vC ci).2.2).map (ftC ci)) (hk : h.length < PK) (hc1 : cs + 1 ≤ R.cells) (hs1 : sl + ts.length ≤ R.slots) (g : Gw base ext cid D k p l e R s m args below meth c Q (bp + 3) L (vR (some h.length) :: st) (h ++ [.inr (ci, fdef ts)]) (cs + 1) (sl + ts.length)) : Gw base ext cid D k p l e R s m args below meth c Q bp L st h cs sl := by
  obtain ⟨hx, hb, hml, hown, hts, hK, hE, hnm⟩ := hF
  intro H locs ls hL hP hsz hS hcs
  have hlen : ts.length = (vC ci).2.2 := by rw [hts2]; simp
  rw [hlen] at hs1 g
  refine va_new (C := (vC ci).1) (T := (vC ci).2.1) (N := (vC ci).2.2) (fs := (fdef ts).map (cV base ext)) hx hb hts (uw_all ci hci) (tyA ci) (ty_all ci hci) hown (hts _ (lk_ok (mO k) _ hl (by simp) (by simp))) (hts _ (cl_inst hci)) (hts _ (cl_init hci)) hK hP cW_D hS (fun q hq => by
      have := hnm.2
      show base ≤ q
      omega) (vC_at ci hci) (fun j hj => ?_) hc1 hs1 hd (fun q H1 hP1 hD1 hS1 => ?_)
  · have hf : ftC ci j < 3 := of_decide_eq_true (List.all_eq_true.mp (List.all_eq_true.mp ft_all ci (List.mem_range.mpr hci)) j (List.mem_range.mpr hj))
    have hpd := ty_all ci hci j hj
    have hfe : ftC ci j = tyC (some (tyA ci j)) := by rw [ftC, hpd]
    rw [hfe] at hf
    rw [dv_ok (base := base) (ext := ext) hf, ← hfe]
    have hj2 : ts[j]? = some (ftC ci j) := by rw [hts2, List.getElem?_map, List.getElem?_range hj]; rfl
    simp [vp_V, fdef, hj2]
  · exact new_on g hk hL hsz hcs rfl H1 locs hP1 hD1 hS1
theorem g_objInit (hF : Fx base ext adV cid D X k p s m args meth c) {ix c0 : Nat} (hd : decode (mC k) bp = .ok (.invokespecial ix, 3)) (hl : (7, ix, 0, 0) ∈ lks (mO k)) (hc8 : catS st ≤ 8) (hfr : 1 ≤ R.frames) (hlo : 20 ≤ R.locals) (g : Gw base ext cid D k p l e R s m args below meth c Q (bp + 3) L st h cs sl) : Gw base ext cid D k p l e R s m args below meth c Q bp L (vR (some c0) :: st) h cs sl := by
  obtain ⟨hx, hb, hml, hown, hts, hK, hE, hnm⟩ := hF
  intro H locs ls hL hP hsz hS hcs
  refine W.objInit (idx := ix) hx hb hown (hts _ (lk_ok (mO k) _ hl (by simp) (by simp))) (hts _ (TB_at 133 (by decide +kernel) (by decide +kernel))) (hts _ (TB_at 134 (by decide +kernel) (by decide +kernel))) rfl (hL.2.1.trans hml.symm) rfl hd hfr ?_ (g H locs ls hL hP hsz hS hcs)
  show 2 * 0 + ((st.map (cV base ext)).map fun v => v.category).sum + 12 ≤ R.locals
  rw [cat_sum]
  omega
theorem nn_of {n : Int} (h0 : 0 ≤ n) (hn : n ≤ 200000) : ¬ Int32.ofInt n < 0 ∧ (Int32.ofInt n).toNatClampNeg = n.toNat := by
  have en : (Int32.ofInt n).toInt = n := Int32.toInt_ofInt_of_le (by omega) (by omega)
  exact ⟨by rw [Int32.lt_iff_toInt_lt, en, Int32.toInt_zero]; omega, by rw [Int32.toNatClampNeg, en]⟩
theorem cpy_int (f g : Nat → Int) (a b n : Nat) : (fun j => Int32.ofInt (cpy f g a b n j)) = va_cpy (fun j => Int32.ofInt (f j)) (fun j => Int32.ofInt (g j)) a b n := by
  funext j
  unfold cpy va_cpy
  split <;> rfl
theorem g_copy (hF : Fx base ext adV cid D X k p s m args meth c) {ix s0 d0 : Nat} {sp dp n : Int} {a b : Nat × (Nat → Int)} (hd : decode (mC k) bp = .ok (.invokestatic ix, 3)) (hl : (8, ix, 0, 0) ∈ lks (mO k)) (ha : hInt .int h s0 = some a) (hb2 : hInt .int h d0 = some b) (h1 : 0 ≤ sp) (h2 : 0 ≤ dp) (h3 : 0 ≤ n) (h4 : sp + n ≤ a.1) (h5 : dp + n ≤ b.1) (hc8 : catS st ≤ 8) (hfr : 1 ≤ R.frames) (hlo : 60 ≤ R.locals) (g : Gw base ext cid D k p l e R s m args below meth c Q (bp + 3) L st (h.set d0 (.inl (.int, b.1, .inl (cpy a.2 b.2 sp.toNat dp.toNat n.toNat)))) cs sl) : Gw base ext cid D k p l e R s m args below meth c Q bp L (vI n :: vI dp :: vR (some d0) :: vI sp :: vR (some s0) :: st) h cs sl := by
  obtain ⟨hx, hb, hml, hown, hts, hK, hE, hnm⟩ := hF
  intro H locs ls hL hP hsz hS hcs
  obtain ⟨hca, hha, hna⟩ := hInt_spec ha
  obtain ⟨hcb, hhb, hnb⟩ := hInt_spec hb2
  have q1 := nn_of h1 (by omega)
  have q2 := nn_of h2 (by omega)
  have q3 := nn_of h3 (by omega)
  show W _ _ _ _ _ _ _ _ _ _ _ _ _ _ _ (F0 m bp ls (.int (Int32.ofInt n) :: .int (Int32.ofInt dp) :: .ref (adr base ext d0) :: .int (Int32.ofInt sp) :: .ref (adr base ext s0) :: _))
  rw [adr_lt hca, adr_lt hcb]
  refine va_copyi (ty := .int) hx hb (hml.trans hL.2.1.symm) hown (hts _ (lk_ok (mO k) _ hl (by simp) (by simp))) (hts _ (TB_at 735 (by decide +kernel) (by decide +kernel))) (hts _ (TB_at 734 (by decide +kernel) (by decide +kernel))) (hts _ (TB_at 123 (by decide +kernel) (by decide +kernel))) hK hP cW_D hS s0 d0 0 0 (cW_get hha) (cW_get hhb) rfl rfl rfl q1.1 q2.1 q3.1 (by rw [q1.2, q3.2]; omega) (by rw [q2.2, q3.2]; omega) (fun _ _ => rfl) hfr ?_ hd (wr_on g (pos_of hhb) hL hsz hcs ?_)
  · rw [cat_sum, show nativeFrameWords "java/lang/System" "arraycopy" 5 = 7 from by decide]
    omega
  · rw [q1.2, q2.2, q3.2, ← cpy_int]
    rfl
theorem g_max (hF : Fx base ext adV cid D X k p s m args meth c) {ix : Nat} {x y : Int} (hd : decode (mC k) bp = .ok (.invokestatic ix, 3)) (hl : (12, ix, 0, 0) ∈ lks (mO k)) (hc8 : catS st ≤ 8) (hfr : 1 ≤ R.frames) (hlo : 25 ≤ R.locals) (hc1 : cs ≤ R.cells) (hs1 : sl ≤ R.slots) (g : Gw base ext cid D k p l e R s m args below meth c Q (bp + 3) L (vI (if Int32.ofInt x < Int32.ofInt y then y else x) :: st) h cs sl) : Gw base ext cid D k p l e R s m args below meth c Q bp L (vI y :: vI x :: st) h cs sl := by
  obtain ⟨hx, hb, hml, hown, hts, hK, hE, hnm⟩ := hF
  intro H locs ls hL hP hsz hS hcs
  have hg := g H locs ls hL hP hsz hS hcs
  have q : cV base ext (vI (if Int32.ofInt x < Int32.ofInt y then y else x)) = .int (if Int32.ofInt x < Int32.ofInt y then Int32.ofInt y else Int32.ofInt x) := by
    split <;> rfl
  rw [List.map_cons, q] at hg
  refine va_mmax hx hb (hml.trans hL.2.1.symm) hown (hts _ (lk_ok (mO k) _ hl (by simp) (by simp))) (hts _ (TB_at 890 (by decide +kernel) (by decide +kernel))) (hts _ (TB_at 125 (by decide +kernel) (by decide +kernel))) (hts _ (TB_at 891 (by decide +kernel) (by decide +kernel))) hfr ?_ hc1 hs1 hd hg
  rw [cat_sum]
  omega
theorem g_min (hF : Fx base ext adV cid D X k p s m args meth c) {ix : Nat} {x y : Int} (hd : decode (mC k) bp = .ok (.invokestatic ix, 3)) (hl : (13, ix, 0, 0) ∈ lks (mO k)) (hc8 : catS st ≤ 8) (hfr : 1 ≤ R.frames) (hlo : 25 ≤ R.locals) (hc1 : cs ≤ R.cells) (hs1 : sl ≤ R.slots) (g : Gw base ext cid D k p l e R s m args below meth c Q (bp + 3) L (vI (if Int32.ofInt y < Int32.ofInt x then y else x) :: st) h cs sl) : Gw base ext cid D k p l e R s m args below meth c Q bp L (vI y :: vI x :: st) h cs sl := by
  obtain ⟨hx, hb, hml, hown, hts, hK, hE, hnm⟩ := hF
  intro H locs ls hL hP hsz hS hcs
  have hg := g H locs ls hL hP hsz hS hcs
  have q : cV base ext (vI (if Int32.ofInt y < Int32.ofInt x then y else x)) = .int (if Int32.ofInt y < Int32.ofInt x then Int32.ofInt y else Int32.ofInt x) := by
    split <;> rfl
  rw [List.map_cons, q] at hg
  refine va_mmin hx hb (hml.trans hL.2.1.symm) hown (hts _ (lk_ok (mO k) _ hl (by simp) (by simp))) (hts _ (TB_at 847 (by decide +kernel) (by decide +kernel))) (hts _ (TB_at 125 (by decide +kernel) (by decide +kernel))) (hts _ (TB_at 848 (by decide +kernel) (by decide +kernel))) hfr ?_ hc1 hs1 hd hg
  rw [cat_sum]
  omega
theorem g_abs (hF : Fx base ext adV cid D X k p s m args meth c) {ix : Nat} {x : Int} (hd : decode (mC k) bp = .ok (.invokestatic ix, 3)) (hl : (14, ix, 0, 0) ∈ lks (mO k)) (hc8 : catS st ≤ 8) (hfr : 1 ≤ R.frames) (hlo : 25 ≤ R.locals) (hc1 : cs ≤ R.cells) (hs1 : sl ≤ R.slots) (g : Gw base ext cid D k p l e R s m args below meth c Q (bp + 3) L (vI (if Int32.ofInt x < 0 then -x else x) :: st) h cs sl) : Gw base ext cid D k p l e R s m args below meth c Q bp L (vI x :: st) h cs sl := by
  obtain ⟨hx, hb, hml, hown, hts, hK, hE, hnm⟩ := hF
  intro H locs ls hL hP hsz hS hcs
  have hg := g H locs ls hL hP hsz hS hcs
  have q : cV base ext (vI (if Int32.ofInt x < 0 then -x else x)) = .int (if 0 ≤ Int32.ofInt x then Int32.ofInt x else 0 - Int32.ofInt x) := by
    by_cases h0 : Int32.ofInt x < 0
    · rw [if_pos h0, if_neg (by rw [Int32.not_le]; exact h0)]
      show Value.int (Int32.ofInt (-x)) = _
      rw [← o_neg, Int32.zero_sub]
    · rw [if_neg h0, if_pos (Int32.not_lt.mp h0)]
      rfl
  rw [List.map_cons, q] at hg
  refine va_mabs hx hb (hml.trans hL.2.1.symm) hown (hts _ (lk_ok (mO k) _ hl (by simp) (by simp))) (hts _ (TB_at 1125 (by decide +kernel) (by decide +kernel))) (hts _ (TB_at 125 (by decide +kernel) (by decide +kernel))) (hts _ (TB_at 1126 (by decide +kernel) (by decide +kernel))) hfr ?_ hc1 hs1 hd hg
  rw [cat_sum]
  omega
end CALLS
