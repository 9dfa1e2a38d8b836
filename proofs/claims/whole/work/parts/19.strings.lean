/-! THE METHODS OF STRING CONSTANTS -/
theorem dJ0_length_8abf5_0 : decode cJ0_length_8abf5 0 = .ok (.aload_n 0, 1) := by decide +kernel
theorem dJ0_length_8abf5_1 : decode cJ0_length_8abf5 1 = .ok (.getfield 9, 3) := by decide +kernel
theorem dJ0_length_8abf5_4 : decode cJ0_length_8abf5 4 = .ok (.arraylength, 1) := by decide +kernel
theorem dJ0_length_8abf5_5 : decode cJ0_length_8abf5 5 = .ok (.aload_n 0, 1) := by decide +kernel
theorem dJ0_length_8abf5_6 : decode cJ0_length_8abf5 6 = .ok (.invokevirtual 335, 3) := by decide +kernel
theorem dJ0_length_8abf5_9 : decode cJ0_length_8abf5 9 = .ok (.ishr, 1) := by decide +kernel
theorem dJ0_length_8abf5_10 : decode cJ0_length_8abf5 10 = .ok (.ireturn, 1) := by decide +kernel
set_option maxRecDepth 20000 in
theorem jc_J0_length : Cond.code yJ0_length_8abf5 cJ0_length_8abf5 1 (some .int) ∈ TB := List.mem_filter.mpr ⟨List.mem_append_right _ (List.mem_append_right _ (List.mem_append_right _ (List.mem_append_left _ (List.mem_of_getElem? (i := 30) rfl)))), rfl⟩
theorem dJ0_coder_7d493_0 : decode cJ0_coder_7d493 0 = .ok (.getstatic 38, 3) := by decide +kernel
theorem dJ0_coder_7d493_3 : decode cJ0_coder_7d493 3 = .ok (.ifCond .eq 10, 3) := by decide +kernel
theorem dJ0_coder_7d493_6 : decode cJ0_coder_7d493 6 = .ok (.aload_n 0, 1) := by decide +kernel
theorem dJ0_coder_7d493_7 : decode cJ0_coder_7d493 7 = .ok (.getfield 15, 3) := by decide +kernel
theorem dJ0_coder_7d493_10 : decode cJ0_coder_7d493 10 = .ok (.goto 4, 3) := by decide +kernel
theorem dJ0_coder_7d493_13 : decode cJ0_coder_7d493 13 = .ok (.iconst 1, 1) := by decide +kernel
theorem dJ0_coder_7d493_14 : decode cJ0_coder_7d493 14 = .ok (.ireturn, 1) := by decide +kernel
set_option maxRecDepth 20000 in
theorem jc_J0_coder : Cond.code yJ0_coder_7d493 cJ0_coder_7d493 1 (some .byte) ∈ TB := List.mem_filter.mpr ⟨List.mem_append_right _ (List.mem_append_right _ (List.mem_append_right _ (List.mem_append_left _ (List.mem_of_getElem? (i := 34) rfl)))), rfl⟩
theorem dJ0_charAt_5068e_0 : decode cJ0_charAt_5068e 0 = .ok (.aload_n 0, 1) := by decide +kernel
theorem dJ0_charAt_5068e_1 : decode cJ0_charAt_5068e 1 = .ok (.invokevirtual 492, 3) := by decide +kernel
theorem dJ0_charAt_5068e_4 : decode cJ0_charAt_5068e 4 = .ok (.ifCond .eq 12, 3) := by decide +kernel
theorem dJ0_charAt_5068e_7 : decode cJ0_charAt_5068e 7 = .ok (.aload_n 0, 1) := by decide +kernel
theorem dJ0_charAt_5068e_8 : decode cJ0_charAt_5068e 8 = .ok (.getfield 9, 3) := by decide +kernel
theorem dJ0_charAt_5068e_11 : decode cJ0_charAt_5068e 11 = .ok (.iload_n 1, 1) := by decide +kernel
theorem dJ0_charAt_5068e_12 : decode cJ0_charAt_5068e 12 = .ok (.invokestatic 495, 3) := by decide +kernel
theorem dJ0_charAt_5068e_15 : decode cJ0_charAt_5068e 15 = .ok (.ireturn, 1) := by decide +kernel
theorem dJ0_charAt_5068e_16 : decode cJ0_charAt_5068e 16 = .ok (.aload_n 0, 1) := by decide +kernel
theorem dJ0_charAt_5068e_17 : decode cJ0_charAt_5068e 17 = .ok (.getfield 9, 3) := by decide +kernel
theorem dJ0_charAt_5068e_20 : decode cJ0_charAt_5068e 20 = .ok (.iload_n 1, 1) := by decide +kernel
theorem dJ0_charAt_5068e_21 : decode cJ0_charAt_5068e 21 = .ok (.invokestatic 498, 3) := by decide +kernel
theorem dJ0_charAt_5068e_24 : decode cJ0_charAt_5068e 24 = .ok (.ireturn, 1) := by decide +kernel
set_option maxRecDepth 20000 in
theorem jc_J0_charAt : Cond.code yJ0_charAt_5068e cJ0_charAt_5068e 2 (some .char) ∈ TB := List.mem_filter.mpr ⟨List.mem_append_right _ (List.mem_append_right _ (List.mem_append_right _ (List.mem_append_left _ (List.mem_of_getElem? (i := 40) rfl)))), rfl⟩
theorem dJ0_isLatin1_aae02_0 : decode cJ0_isLatin1_aae02 0 = .ok (.getstatic 38, 3) := by decide +kernel
theorem dJ0_isLatin1_aae02_3 : decode cJ0_isLatin1_aae02 3 = .ok (.ifCond .eq 14, 3) := by decide +kernel
theorem dJ0_isLatin1_aae02_6 : decode cJ0_isLatin1_aae02 6 = .ok (.aload_n 0, 1) := by decide +kernel
theorem dJ0_isLatin1_aae02_7 : decode cJ0_isLatin1_aae02 7 = .ok (.getfield 15, 3) := by decide +kernel
theorem dJ0_isLatin1_aae02_10 : decode cJ0_isLatin1_aae02 10 = .ok (.ifCond .ne 7, 3) := by decide +kernel
theorem dJ0_isLatin1_aae02_13 : decode cJ0_isLatin1_aae02 13 = .ok (.iconst 1, 1) := by decide +kernel
theorem dJ0_isLatin1_aae02_14 : decode cJ0_isLatin1_aae02 14 = .ok (.goto 4, 3) := by decide +kernel
theorem dJ0_isLatin1_aae02_17 : decode cJ0_isLatin1_aae02 17 = .ok (.iconst 0, 1) := by decide +kernel
theorem dJ0_isLatin1_aae02_18 : decode cJ0_isLatin1_aae02 18 = .ok (.ireturn, 1) := by decide +kernel
set_option maxRecDepth 20000 in
theorem jc_J0_isLatin1 : Cond.code yJ0_isLatin1_aae02 cJ0_isLatin1_aae02 1 (some .boolean) ∈ TB := List.mem_filter.mpr ⟨List.mem_append_right _ (List.mem_append_right _ (List.mem_append_right _ (List.mem_append_left _ (List.mem_of_getElem? (i := 44) rfl)))), rfl⟩
theorem dJ1_charAt_3b067_0 : decode cJ1_charAt_3b067 0 = .ok (.iload_n 1, 1) := by decide +kernel
theorem dJ1_charAt_3b067_1 : decode cJ1_charAt_3b067 1 = .ok (.aload_n 0, 1) := by decide +kernel
theorem dJ1_charAt_3b067_2 : decode cJ1_charAt_3b067 2 = .ok (.arraylength, 1) := by decide +kernel
theorem dJ1_charAt_3b067_3 : decode cJ1_charAt_3b067 3 = .ok (.invokestatic 9, 3) := by decide +kernel
theorem dJ1_charAt_3b067_6 : decode cJ1_charAt_3b067 6 = .ok (.aload_n 0, 1) := by decide +kernel
theorem dJ1_charAt_3b067_7 : decode cJ1_charAt_3b067 7 = .ok (.iload_n 1, 1) := by decide +kernel
theorem dJ1_charAt_3b067_8 : decode cJ1_charAt_3b067 8 = .ok (.baload, 1) := by decide +kernel
theorem dJ1_charAt_3b067_9 : decode cJ1_charAt_3b067 9 = .ok (.sipush 255, 3) := by decide +kernel
theorem dJ1_charAt_3b067_12 : decode cJ1_charAt_3b067 12 = .ok (.iand, 1) := by decide +kernel
theorem dJ1_charAt_3b067_13 : decode cJ1_charAt_3b067 13 = .ok (.i2c, 1) := by decide +kernel
theorem dJ1_charAt_3b067_14 : decode cJ1_charAt_3b067 14 = .ok (.ireturn, 1) := by decide +kernel
set_option maxRecDepth 20000 in
theorem jc_J1_charAt : Cond.code yJ1_charAt_3b067 cJ1_charAt_3b067 2 (some .char) ∈ TB := List.mem_filter.mpr ⟨List.mem_append_right _ (List.mem_append_right _ (List.mem_append_right _ (List.mem_append_left _ (List.mem_of_getElem? (i := 47) rfl)))), rfl⟩
theorem dJ0_checkIndex_df160_0 : decode cJ0_checkIndex_df160 0 = .ok (.iload_n 0, 1) := by decide +kernel
theorem dJ0_checkIndex_df160_1 : decode cJ0_checkIndex_df160 1 = .ok (.iload_n 1, 1) := by decide +kernel
theorem dJ0_checkIndex_df160_2 : decode cJ0_checkIndex_df160 2 = .ok (.getstatic 1053, 3) := by decide +kernel
theorem dJ0_checkIndex_df160_5 : decode cJ0_checkIndex_df160 5 = .ok (.invokestatic 1059, 3) := by decide +kernel
theorem dJ0_checkIndex_df160_8 : decode cJ0_checkIndex_df160 8 = .ok (.pop, 1) := by decide +kernel
theorem dJ0_checkIndex_df160_9 : decode cJ0_checkIndex_df160 9 = .ok (.return_, 1) := by decide +kernel
set_option maxRecDepth 20000 in
theorem jc_J0_checkIndex : Cond.code yJ0_checkIndex_df160 cJ0_checkIndex_df160 2 none ∈ TB := List.mem_filter.mpr ⟨List.mem_append_right _ (List.mem_append_right _ (List.mem_append_right _ (List.mem_append_left _ (List.mem_of_getElem? (i := 50) rfl)))), rfl⟩
theorem dJ3_checkIndex_8e157_0 : decode cJ3_checkIndex_8e157 0 = .ok (.iload_n 0, 1) := by decide +kernel
theorem dJ3_checkIndex_8e157_1 : decode cJ3_checkIndex_8e157 1 = .ok (.ifCond .lt 8, 3) := by decide +kernel
theorem dJ3_checkIndex_8e157_4 : decode cJ3_checkIndex_8e157 4 = .ok (.iload_n 0, 1) := by decide +kernel
theorem dJ3_checkIndex_8e157_5 : decode cJ3_checkIndex_8e157 5 = .ok (.iload_n 1, 1) := by decide +kernel
theorem dJ3_checkIndex_8e157_6 : decode cJ3_checkIndex_8e157 6 = .ok (.if_icmp .lt 10, 3) := by decide +kernel
theorem dJ3_checkIndex_8e157_9 : decode cJ3_checkIndex_8e157 9 = .ok (.aload_n 2, 1) := by decide +kernel
theorem dJ3_checkIndex_8e157_10 : decode cJ3_checkIndex_8e157 10 = .ok (.iload_n 0, 1) := by decide +kernel
theorem dJ3_checkIndex_8e157_11 : decode cJ3_checkIndex_8e157 11 = .ok (.iload_n 1, 1) := by decide +kernel
theorem dJ3_checkIndex_8e157_12 : decode cJ3_checkIndex_8e157 12 = .ok (.invokestatic 95, 3) := by decide +kernel
theorem dJ3_checkIndex_8e157_15 : decode cJ3_checkIndex_8e157 15 = .ok (.athrow, 1) := by decide +kernel
theorem dJ3_checkIndex_8e157_16 : decode cJ3_checkIndex_8e157 16 = .ok (.iload_n 0, 1) := by decide +kernel
theorem dJ3_checkIndex_8e157_17 : decode cJ3_checkIndex_8e157 17 = .ok (.ireturn, 1) := by decide +kernel
set_option maxRecDepth 20000 in
theorem jc_J3_checkIndex : Cond.code yJ3_checkIndex_8e157 cJ3_checkIndex_8e157 3 (some .int) ∈ TB := List.mem_filter.mpr ⟨List.mem_append_right _ (List.mem_append_right _ (List.mem_append_right _ (List.mem_append_left _ (List.mem_of_getElem? (i := 55) rfl)))), rfl⟩
def MJ (base : Nat) (ext adV : Nat → Nat) (cid : FieldType → ClassId) (D : va_G) (X : PX) (l : Launch) (y : MethodName) (cc : ByteArray) (ml : Nat) (ret : Option FieldType) (rm : Room) (vs : List Value) (v : Option Value) (h : PHp) : Prop :=
  Met l y (Cond.code y cc ml ret :: TB) rm (va_Pc vs (PreP base ext adV cid D X h)) (Qg v (PosP base ext cid D h.length h) (fun q => base ≤ q)) 0 0 (fun q => base ≤ q)
theorem blindV {base : Nat} {ext adV : Nat → Nat} {cid : FieldType → ClassId} {D : va_G} {X : PX} {h : PHp} {vs : List Value} : FrameBlind (va_Pc vs (PreP base ext adV cid D X h)) := by
  intro a U g mk q
  obtain ⟨q0, q1, q2, q3, q4⟩ := q
  exact ⟨q0, q1, q2, va_K.moved (u := U) (U := U.calling g mk a) (Vm.Alike.refl U.vm) q3, q4.calling g mk a⟩
theorem goodJ {pre : List Cond} {y : MethodName} {cc : ByteArray} {ml : Nat} {ret : Option FieldType} (hp : ∀ w ∈ pre, w ∈ TB) (hc : Cond.code y cc ml ret ∈ TB) : GoodIn TB (pre ++ Cond.code y cc ml ret :: TB) := by
  intro w hw
  have : w ∈ TB := by
    rcases List.mem_append.mp hw with hw | hw
    · exact hp w hw
    · rcases List.mem_cons.mp hw with rfl | hw
      · exact hc
      · exact hw
  exact ⟨this, TB_gd this⟩
section STR
variable {base : Nat} {ext adV : Nat → Nat} {cid : FieldType → ClassId} {D : va_G} {X : PX} {l : Launch} {h : PHp}
theorem j_coder {j : Nat} (hj : j < 11) : MJ base ext adV cid D X l yJ0_coder_7d493 cJ0_coder_7d493 1 (some .byte) { frames := 0, cells := 0, slots := 0, locals := 0 } [.ref (ext j)] (some (.int 0)) h := by
  refine Met.ofW (cc := cJ0_coder_7d493) (maxL := 1) (ret := (some .byte)) (by decide) rfl ?_
  intro p e s m args below meth c s₁ B hml hv
  obtain ⟨rfl, hP, hsz, hK, hE⟩ := hv
  have hx := B.exec
  have hb := B.bytes
  have hr := B.returns
  have hts0 := atoms_spec (ws := _) B.pre
  have hts : ∀ w ∈ TB, w.before ([.ref (ext j)] : List Value).toArray s = true := fun w hw => hts0 w (List.mem_cons_of_mem _ hw)
  have hown : s.vm.findClass RJ0 = some m.cls := findClass_of_methodNamed B.named
  have hlocks := B.notSynchronized
  have hS : va_S (fun q => base ≤ q) s.heap s.heap [] := va_S.rf
  have hl := lv_entry ([.ref (ext j)]) (n := 1) (Nat.le_of_ble_eq_true rfl)
  rw [lg_entry_eq]
  generalize (lg_sl ([.ref (ext j)]) ++ List.replicate (1 - (lg_sl ([.ref (ext j)])).length) Slot.unset).toArray = ls at hl ⊢
  obtain ⟨hO, hco, hva, hTv⟩ := hE.2.2.1.1 j hj
  refine va_gets hx hb hE.2.2.2.2.2.2.2.1 hS hown (hts _ (TB_at 621 (by decide +kernel) (by decide +kernel))) (fun x hx => hx) dJ0_coder_7d493_0 ?_
  refine lv_if_eq (tgt := 13) hx hb dJ0_coder_7d493_3 (by decide) (fun q => absurd q (by decide)) (fun _ => ?_)
  refine lv_aload_n hx hb dJ0_coder_7d493_6 rfl (lv_at hl 0 rfl) ?_
  refine vk_getf hx hb hco hS hown (hts _ (TB_at 1888 (by decide +kernel) (by decide +kernel))) (fun x hx => hx) dJ0_coder_7d493_7 ?_
  refine lv_goto (tgt := 14) hx hb dJ0_coder_7d493_10 (by decide) ?_
  exact W.zret hx hb hr rfl (fun t ht hW => ⟨⟨rfl, by rw [ht]; exact hP, by rw [ht]; exact hsz, rfl⟩, hS.F ht⟩) (fun q hq => hS.2.2 q hq) dJ0_coder_7d493_14
theorem j_latin {j : Nat} (hj : j < 11) : MJ base ext adV cid D X l yJ0_isLatin1_aae02 cJ0_isLatin1_aae02 1 (some .boolean) { frames := 0, cells := 0, slots := 0, locals := 0 } [.ref (ext j)] (some (.int 1)) h := by
  refine Met.ofW (cc := cJ0_isLatin1_aae02) (maxL := 1) (ret := (some .boolean)) (by decide) rfl ?_
  intro p e s m args below meth c s₁ B hml hv
  obtain ⟨rfl, hP, hsz, hK, hE⟩ := hv
  have hx := B.exec
  have hb := B.bytes
  have hr := B.returns
  have hts0 := atoms_spec (ws := _) B.pre
  have hts : ∀ w ∈ TB, w.before ([.ref (ext j)] : List Value).toArray s = true := fun w hw => hts0 w (List.mem_cons_of_mem _ hw)
  have hown : s.vm.findClass RJ0 = some m.cls := findClass_of_methodNamed B.named
  have hlocks := B.notSynchronized
  have hS : va_S (fun q => base ≤ q) s.heap s.heap [] := va_S.rf
  have hl := lv_entry ([.ref (ext j)]) (n := 1) (Nat.le_of_ble_eq_true rfl)
  rw [lg_entry_eq]
  generalize (lg_sl ([.ref (ext j)]) ++ List.replicate (1 - (lg_sl ([.ref (ext j)])).length) Slot.unset).toArray = ls at hl ⊢
  obtain ⟨hO, hco, hva, hTv⟩ := hE.2.2.1.1 j hj
  refine va_gets hx hb hE.2.2.2.2.2.2.2.1 hS hown (hts _ (TB_at 621 (by decide +kernel) (by decide +kernel))) (fun x hx => hx) dJ0_isLatin1_aae02_0 ?_
  refine lv_if_eq (tgt := 17) hx hb dJ0_isLatin1_aae02_3 (by decide) (fun q => absurd q (by decide)) (fun _ => ?_)
  refine lv_aload_n hx hb dJ0_isLatin1_aae02_6 rfl (lv_at hl 0 rfl) ?_
  refine vk_getf hx hb hco hS hown (hts _ (TB_at 1888 (by decide +kernel) (by decide +kernel))) (fun x hx => hx) dJ0_isLatin1_aae02_7 ?_
  refine lv_if_ne (tgt := 17) hx hb dJ0_isLatin1_aae02_10 (by decide) (fun q => absurd rfl q) (fun _ => ?_)
  refine lv_iconst (v := 1) hx hb dJ0_isLatin1_aae02_13 (by decide) ?_
  refine lv_goto (tgt := 18) hx hb dJ0_isLatin1_aae02_14 (by decide) ?_
  exact W.zret hx hb hr rfl (fun t ht hW => ⟨⟨rfl, by rw [ht]; exact hP, by rw [ht]; exact hsz, rfl⟩, hS.F ht⟩) (fun q hq => hS.2.2 q hq) dJ0_isLatin1_aae02_18
theorem sh_len : ∀ j : Nat, j < 11 → Int32.ofNat (sLen.getD j 0) >>> ((0 : Int32) &&& 31) = Int32.ofInt (sLen.getD j 0) := by decide +kernel
theorem j_len {j : Nat} (hj : j < 11) : MJ base ext adV cid D X l yJ0_length_8abf5 cJ0_length_8abf5 1 (some .int) rmS [.ref (ext j)] (some (.int (Int32.ofInt (X j).1))) h := by
  refine Met.ofW (cc := cJ0_length_8abf5) (maxL := 1) (ret := (some .int)) (by decide) rfl ?_
  intro p e s m args below meth c s₁ B hml hv
  obtain ⟨rfl, hP, hsz, hK, hE⟩ := hv
  have hx := B.exec
  have hb := B.bytes
  have hr := B.returns
  have hts0 := atoms_spec (ws := _) B.pre
  have hts : ∀ w ∈ TB, w.before ([.ref (ext j)] : List Value).toArray s = true := fun w hw => hts0 w (List.mem_cons_of_mem _ hw)
  have hown : s.vm.findClass RJ0 = some m.cls := findClass_of_methodNamed B.named
  have hlocks := B.notSynchronized
  have hS : va_S (fun q => base ≤ q) s.heap s.heap [] := va_S.rf
  have hl := lv_entry ([.ref (ext j)]) (n := 1) (Nat.le_of_ble_eq_true rfl)
  rw [lg_entry_eq]
  generalize (lg_sl ([.ref (ext j)]) ++ List.replicate (1 - (lg_sl ([.ref (ext j)])).length) Slot.unset).toArray = ls at hl ⊢
  obtain ⟨hO, hco, hva, hTv⟩ := hE.2.2.1.1 j hj
  refine lv_aload_n hx hb dJ0_length_8abf5_0 rfl (lv_at hl 0 rfl) ?_
  refine vk_getf hx hb hva hS hown (hts _ (TB_at 1887 (by decide +kernel) (by decide +kernel))) (fun x hx => hx) dJ0_length_8abf5_1 ?_
  refine va_tlen hx hb hTv hS rfl dJ0_length_8abf5_4 ?_
  refine lv_aload_n hx hb dJ0_length_8abf5_5 rfl (lv_at hl 0 rfl) ?_
  refine va_callg (va_runV (As := []) (C := "java/lang/String") ⟨hx, hb, hml, hown, hts⟩ (j_coder (cid := cid) (D := D) (X := X) (adV := adV) (base := base) (l := l) (h := h) hj) (cwV 0 hts (goodJ (pre := [.methodLink _ 335 yJ0_coder_7d493, .instanceMethod yJ0_coder_7d493, .selects "java/lang/String" yJ0_coder_7d493 yJ0_coder_7d493, .initialized "java/lang/String"]) (fun w hw => by
    simp only [List.mem_cons, List.not_mem_nil, or_false] at hw
    rcases hw with rfl | rfl | rfl | rfl
    · exact TB_at 617 (by decide +kernel) (by decide +kernel)
    · exact TB_at 618 (by decide +kernel) (by decide +kernel)
    · exact TB_at 619 (by decide +kernel) (by decide +kernel)
    · exact TB_at 119 (by decide +kernel) (by decide +kernel)) jc_J0_coder) rfl rfl rfl (by decide +kernel) ⟨Nat.le_of_ble_eq_true rfl, Nat.le_of_ble_eq_true rfl⟩) ⟨blindV, vk_recv hE.2.2.1 hj hS, fun U hU hW => ⟨rfl, pre_of hK hE hP hsz hS hU hW⟩⟩ rfl rfl hl.1 rfl (lv_room (Nat.le_of_ble_eq_true rfl)) dJ0_length_8abf5_6 ⟨Nat.le_refl _, Nat.le_refl _⟩) hS (fun H1 locs1 hpos hS1 => ?_)
  obtain ⟨t, rfl, hP1, hsz1, -⟩ := hpos
  refine lv_ishr hx hb dJ0_length_8abf5_9 ?_
  rw [sh_len j hj, ← (hE.2.2.2.2.2.2.1 j hj).1]
  exact W.iret hx hb hr (fun t2 ht hW => ⟨⟨rfl, by rw [ht]; exact hP1, by rw [ht]; exact hsz1, rfl⟩, hS1.F ht⟩) (fun q hq => hS1.2.2 q hq) dJ0_length_8abf5_10
theorem j_pre {i n : Int32} {q : Value} (hq : q = .null ∨ ∃ t, q = .ref t) (h0 : ¬ i < 0) (h1 : i < n) : MJ base ext adV cid D X l yJ3_checkIndex_8e157 cJ3_checkIndex_8e157 3 (some .int) { frames := 0, cells := 0, slots := 0, locals := 0 } [.int i, .int n, q] (some (.int i)) h := by
  refine Met.ofW (cc := cJ3_checkIndex_8e157) (maxL := 3) (ret := (some .int)) (by decide) rfl ?_
  intro p e s m args below meth c s₁ B hml hv
  obtain ⟨rfl, hP, hsz, hK, hE⟩ := hv
  have hx := B.exec
  have hb := B.bytes
  have hr := B.returns
  have hts0 := atoms_spec (ws := _) B.pre
  have hts : ∀ w ∈ TB, w.before ([.int i, .int n, q] : List Value).toArray s = true := fun w hw => hts0 w (List.mem_cons_of_mem _ hw)
  have hown : s.vm.findClass RJ3 = some m.cls := findClass_of_methodNamed B.named
  have hlocks := B.notSynchronized
  have hS : va_S (fun q => base ≤ q) s.heap s.heap [] := va_S.rf
  have hl := lv_entry ([.int i, .int n, q]) (n := 3) (by rcases hq with rfl | ⟨t, rfl⟩ <;> exact Nat.le_of_ble_eq_true rfl)
  rw [lg_entry_eq]
  generalize (lg_sl ([.int i, .int n, q]) ++ List.replicate (3 - (lg_sl ([.int i, .int n, q])).length) Slot.unset).toArray = ls at hl ⊢
  refine lv_iload_n hx hb dJ3_checkIndex_8e157_0 rfl (lv_at hl 0 rfl) ?_
  refine lv_if_lt (tgt := 9) hx hb dJ3_checkIndex_8e157_1 (by decide) (fun q => absurd q h0) (fun _ => ?_)
  refine lv_iload_n hx hb dJ3_checkIndex_8e157_4 rfl (lv_at hl 0 rfl) ?_
  refine lv_iload_n hx hb dJ3_checkIndex_8e157_5 rfl (lv_at hl 1 rfl) ?_
  refine lv_icmp_lt (tgt := 16) hx hb dJ3_checkIndex_8e157_6 (by decide) (fun _ => ?_) (fun q => absurd h1 q)
  refine lv_iload_n hx hb dJ3_checkIndex_8e157_16 rfl (lv_at hl 0 rfl) ?_
  exact W.iret hx hb hr (fun t ht hW => ⟨⟨rfl, by rw [ht]; exact hP, by rw [ht]; exact hsz, rfl⟩, hS.F ht⟩) (fun q hq => hS.2.2 q hq) dJ3_checkIndex_8e157_17
theorem j_chk {i n : Int32} (h0 : ¬ i < 0) (h1 : i < n) : MJ base ext adV cid D X l yJ0_checkIndex_df160 cJ0_checkIndex_df160 2 none { frames := 1, cells := 0, slots := 0, locals := 22 } [.int i, .int n] none h := by
  refine Met.ofW (cc := cJ0_checkIndex_df160) (maxL := 2) (ret := none) (by decide) rfl ?_
  intro p e s m args below meth c s₁ B hml hv
  obtain ⟨rfl, hP, hsz, hK, hE⟩ := hv
  have hx := B.exec
  have hb := B.bytes
  have hr := B.returns
  have hts0 := atoms_spec (ws := _) B.pre
  have hts : ∀ w ∈ TB, w.before ([.int i, .int n] : List Value).toArray s = true := fun w hw => hts0 w (List.mem_cons_of_mem _ hw)
  have hown : s.vm.findClass RJ0 = some m.cls := findClass_of_methodNamed B.named
  have hlocks := B.notSynchronized
  have hS : va_S (fun q => base ≤ q) s.heap s.heap [] := va_S.rf
  have hl := lv_entry ([.int i, .int n]) (n := 2) (Nat.le_of_ble_eq_true rfl)
  rw [lg_entry_eq]
  generalize (lg_sl ([.int i, .int n]) ++ List.replicate (2 - (lg_sl ([.int i, .int n])).length) Slot.unset).toArray = ls at hl ⊢
  refine lv_iload_n hx hb dJ0_checkIndex_df160_0 rfl (lv_at hl 0 rfl) ?_
  refine lv_iload_n hx hb dJ0_checkIndex_df160_1 rfl (lv_at hl 1 rfl) ?_
  rcases hE.2.2.2.2.2.2.2.2 with hz | ⟨t0, hz⟩
  · skip
    refine va_gets hx hb hz hS hown (hts _ (TB_at 637 (by decide +kernel) (by decide +kernel))) (fun x hx => hx) dJ0_checkIndex_df160_2 ?_
    refine va_callg (va_runS (As := [.int i, .int n, .null]) ⟨hx, hb, hml, hown, hts⟩ (j_pre (cid := cid) (D := D) (X := X) (adV := adV) (ext := ext) (base := base) (l := l) (h := h) (q := .null) (Or.inl rfl) h0 h1) (va_cwS 3 hts (goodJ (pre := [.methodLink _ 1059 yJ3_checkIndex_8e157, .static yJ3_checkIndex_8e157, .initialized yJ3_checkIndex_8e157.cls]) (fun w hw => by
      simp only [List.mem_cons, List.not_mem_nil, or_false] at hw
      rcases hw with rfl | rfl | rfl
      · exact TB_at 639 (by decide +kernel) (by decide +kernel)
      · exact TB_at 640 (by decide +kernel) (by decide +kernel)
      · exact TB_at 121 (by decide +kernel) (by decide +kernel)) jc_J3_checkIndex) rfl rfl rfl (by decide +kernel) ⟨Nat.le_of_ble_eq_true rfl, Nat.le_of_ble_eq_true rfl⟩) ⟨blindV, fun U hU hW => ⟨rfl, pre_of hK hE hP hsz hS hU hW⟩⟩ rfl rfl hl.1 rfl (lv_room (Nat.le_of_ble_eq_true rfl)) dJ0_checkIndex_df160_5 ⟨Nat.le_refl _, Nat.le_refl _⟩) hS (fun H1 locs1 hpos hS1 => ?_)
    obtain ⟨t, rfl, hP1, hsz1, -⟩ := hpos
    refine lv_pop hx hb dJ0_checkIndex_df160_8 rfl ?_
    exact W.vret hx hb hr (fun t2 ht hW => ⟨⟨rfl, by rw [ht]; exact hP1, by rw [ht]; exact hsz1, rfl⟩, hS1.F ht⟩) (fun q hq => hS1.2.2 q hq) dJ0_checkIndex_df160_9
  · skip
    refine va_gets hx hb hz hS hown (hts _ (TB_at 637 (by decide +kernel) (by decide +kernel))) (fun x hx => hx) dJ0_checkIndex_df160_2 ?_
    refine va_callg (va_runS (As := [.int i, .int n, .ref t0]) ⟨hx, hb, hml, hown, hts⟩ (j_pre (cid := cid) (D := D) (X := X) (adV := adV) (ext := ext) (base := base) (l := l) (h := h) (q := .ref t0) (Or.inr ⟨t0, rfl⟩) h0 h1) (va_cwS 3 hts (goodJ (pre := [.methodLink _ 1059 yJ3_checkIndex_8e157, .static yJ3_checkIndex_8e157, .initialized yJ3_checkIndex_8e157.cls]) (fun w hw => by
      simp only [List.mem_cons, List.not_mem_nil, or_false] at hw
      rcases hw with rfl | rfl | rfl
      · exact TB_at 639 (by decide +kernel) (by decide +kernel)
      · exact TB_at 640 (by decide +kernel) (by decide +kernel)
      · exact TB_at 121 (by decide +kernel) (by decide +kernel)) jc_J3_checkIndex) rfl rfl rfl (by decide +kernel) ⟨Nat.le_of_ble_eq_true rfl, Nat.le_of_ble_eq_true rfl⟩) ⟨blindV, fun U hU hW => ⟨rfl, pre_of hK hE hP hsz hS hU hW⟩⟩ rfl rfl hl.1 rfl (lv_room (Nat.le_of_ble_eq_true rfl)) dJ0_checkIndex_df160_5 ⟨Nat.le_refl _, Nat.le_refl _⟩) hS (fun H1 locs1 hpos hS1 => ?_)
    obtain ⟨t, rfl, hP1, hsz1, -⟩ := hpos
    refine lv_pop hx hb dJ0_checkIndex_df160_8 rfl ?_
    exact W.vret hx hb hr (fun t2 ht hW => ⟨⟨rfl, by rw [ht]; exact hP1, by rw [ht]; exact hsz1, rfl⟩, hS1.F ht⟩) (fun q hq => hS1.2.2 q hq) dJ0_checkIndex_df160_9
theorem ch_ok : ∀ j : Nat, j < 11 → ∀ i : Nat, i < sLen.getD j 0 → ((((sByt.getD j []).getD i 0) &&& 255).toUInt32 % 65536).toInt32 = (sByt.getD j []).getD i 0 ∧ narrow .char (.int ((sByt.getD j []).getD i 0)) = .int ((sByt.getD j []).getD i 0) := by decide +kernel
theorem j_chl {j : Nat} {i : Int} (hj : j < 11) (h0 : 0 ≤ i) (h1 : i < (X j).1) : MJ base ext adV cid D X l yJ1_charAt_3b067 cJ1_charAt_3b067 2 (some .char) { frames := 2, cells := 0, slots := 0, locals := 43 } [.ref (adV j), .int (Int32.ofInt i)] (some (.int (Int32.ofInt ((X j).2 i.toNat)))) h := by
  refine Met.ofW (cc := cJ1_charAt_3b067) (maxL := 2) (ret := (some .char)) (by decide) rfl ?_
  intro p e s m args below meth c s₁ B hml hv
  obtain ⟨rfl, hP, hsz, hK, hE⟩ := hv
  have hx := B.exec
  have hb := B.bytes
  have hr := B.returns
  have hts0 := atoms_spec (ws := _) B.pre
  have hts : ∀ w ∈ TB, w.before ([.ref (adV j), .int (Int32.ofInt i)] : List Value).toArray s = true := fun w hw => hts0 w (List.mem_cons_of_mem _ hw)
  have hown : s.vm.findClass RJ1 = some m.cls := findClass_of_methodNamed B.named
  have hlocks := B.notSynchronized
  have hS : va_S (fun q => base ≤ q) s.heap s.heap [] := va_S.rf
  have hl := lv_entry ([.ref (adV j), .int (Int32.ofInt i)]) (n := 2) (Nat.le_of_ble_eq_true rfl)
  rw [lg_entry_eq]
  generalize (lg_sl ([.ref (adV j), .int (Int32.ofInt i)]) ++ List.replicate (2 - (lg_sl ([.ref (adV j), .int (Int32.ofInt i)])).length) Slot.unset).toArray = ls at hl ⊢
  obtain ⟨hO, hco, hva, hTv⟩ := hE.2.2.1.1 j hj
  obtain ⟨hX1, hX2⟩ := hE.2.2.2.2.2.2.1 j hj
  rw [hX1] at h1
  have hle : sLen.getD j 0 ≤ 6 := (show ∀ j : Nat, j < 11 → sLen.getD j 0 ≤ 6 by decide) j hj
  have hin := ix_in h0 h1 (by omega)
  have en : (Int32.ofInt i).toInt = i := Int32.toInt_ofInt_of_le (by omega) (by omega)
  have e2 : (Int32.ofNat (sLen.getD j 0)).toInt = (sLen.getD j 0 : Nat) := Int32.toInt_ofNat_of_lt (by omega)
  have q0 : ¬ Int32.ofInt i < 0 := by rw [Int32.lt_iff_toInt_lt, en, Int32.toInt_zero]; omega
  have q1 : Int32.ofInt i < Int32.ofNat (sLen.getD j 0) := by rw [Int32.lt_iff_toInt_lt, en, e2]; omega
  have hc := ch_ok j hj i.toNat (by omega)
  rw [hX2 i.toNat]
  refine lv_iload_n hx hb dJ1_charAt_3b067_0 rfl (lv_at hl 1 rfl) ?_
  refine lv_aload_n hx hb dJ1_charAt_3b067_1 rfl (lv_at hl 0 rfl) ?_
  refine va_tlen hx hb hTv hS rfl dJ1_charAt_3b067_2 ?_
  refine va_callg (va_runS (As := [.int (Int32.ofInt i), .int (Int32.ofNat (sLen.getD j 0))]) ⟨hx, hb, hml, hown, hts⟩ (j_chk (cid := cid) (D := D) (X := X) (adV := adV) (ext := ext) (base := base) (l := l) (h := h) q0 q1) (va_cwS 2 hts (goodJ (pre := [.methodLink _ 9 yJ0_checkIndex_df160, .static yJ0_checkIndex_df160, .initialized yJ0_checkIndex_df160.cls]) (fun w hw => by
    simp only [List.mem_cons, List.not_mem_nil, or_false] at hw
    rcases hw with rfl | rfl | rfl
    · exact TB_at 634 (by decide +kernel) (by decide +kernel)
    · exact TB_at 635 (by decide +kernel) (by decide +kernel)
    · exact TB_at 119 (by decide +kernel) (by decide +kernel)) jc_J0_checkIndex) rfl rfl rfl (by decide +kernel) ⟨Nat.le_of_ble_eq_true rfl, Nat.le_of_ble_eq_true rfl⟩) ⟨blindV, fun U hU hW => ⟨rfl, pre_of hK hE hP hsz hS hU hW⟩⟩ rfl rfl hl.1 rfl (lv_room (Nat.le_of_ble_eq_true rfl)) dJ1_charAt_3b067_3 ⟨Nat.le_refl _, Nat.le_refl _⟩) hS (fun H1 locs1 hpos hS1 => ?_)
  obtain ⟨t, rfl, hP1, hsz1, -⟩ := hpos
  refine lv_aload_n hx hb dJ1_charAt_3b067_6 rfl (lv_at hl 0 rfl) ?_
  refine lv_iload_n hx hb dJ1_charAt_3b067_7 rfl (lv_at hl 1 rfl) ?_
  refine va_tb hx hb hTv hS1 hin.1 (v := .int ((sByt.getD j []).getD i.toNat 0)) (by rw [hin.2]) dJ1_charAt_3b067_8 ?_
  refine lv_sipush (v := 255) hx hb dJ1_charAt_3b067_9 (by decide) ?_
  refine lv_iand hx hb dJ1_charAt_3b067_12 ?_
  refine lv_i2c (v := (sByt.getD j []).getD i.toNat 0) hx hb dJ1_charAt_3b067_13 hc.1 ?_
  exact W.zret hx hb hr hc.2 (fun t2 ht hW => ⟨⟨rfl, by rw [ht]; exact hP1, by rw [ht]; exact hsz1, rfl⟩, hS1.F ht⟩) (fun q hq => hS1.2.2 q hq) dJ1_charAt_3b067_14
theorem j_char {j : Nat} {i : Int} (hj : j < 11) (h0 : 0 ≤ i) (h1 : i < (X j).1) : MJ base ext adV cid D X l yJ0_charAt_5068e cJ0_charAt_5068e 2 (some .char) rmS [.ref (ext j), .int (Int32.ofInt i)] (some (.int (Int32.ofInt ((X j).2 i.toNat)))) h := by
  refine Met.ofW (cc := cJ0_charAt_5068e) (maxL := 2) (ret := (some .char)) (by decide) rfl ?_
  intro p e s m args below meth c s₁ B hml hv
  obtain ⟨rfl, hP, hsz, hK, hE⟩ := hv
  have hx := B.exec
  have hb := B.bytes
  have hr := B.returns
  have hts0 := atoms_spec (ws := _) B.pre
  have hts : ∀ w ∈ TB, w.before ([.ref (ext j), .int (Int32.ofInt i)] : List Value).toArray s = true := fun w hw => hts0 w (List.mem_cons_of_mem _ hw)
  have hown : s.vm.findClass RJ0 = some m.cls := findClass_of_methodNamed B.named
  have hlocks := B.notSynchronized
  have hS : va_S (fun q => base ≤ q) s.heap s.heap [] := va_S.rf
  have hl := lv_entry ([.ref (ext j), .int (Int32.ofInt i)]) (n := 2) (Nat.le_of_ble_eq_true rfl)
  rw [lg_entry_eq]
  generalize (lg_sl ([.ref (ext j), .int (Int32.ofInt i)]) ++ List.replicate (2 - (lg_sl ([.ref (ext j), .int (Int32.ofInt i)])).length) Slot.unset).toArray = ls at hl ⊢
  obtain ⟨hO, hco, hva, hTv⟩ := hE.2.2.1.1 j hj
  obtain ⟨hX1, hX2⟩ := hE.2.2.2.2.2.2.1 j hj
  have hc := ch_ok j hj i.toNat (by rw [hX1] at h1; omega)
  rw [← hX2 i.toNat] at hc
  refine lv_aload_n hx hb dJ0_charAt_5068e_0 rfl (lv_at hl 0 rfl) ?_
  refine va_callg (va_runV (As := []) (C := "java/lang/String") ⟨hx, hb, hml, hown, hts⟩ (j_latin (cid := cid) (D := D) (X := X) (adV := adV) (base := base) (l := l) (h := h) hj) (cwV 0 hts (goodJ (pre := [.methodLink _ 492 yJ0_isLatin1_aae02, .instanceMethod yJ0_isLatin1_aae02, .selects "java/lang/String" yJ0_isLatin1_aae02 yJ0_isLatin1_aae02, .initialized "java/lang/String"]) (fun w hw => by
    simp only [List.mem_cons, List.not_mem_nil, or_false] at hw
    rcases hw with rfl | rfl | rfl | rfl
    · exact TB_at 627 (by decide +kernel) (by decide +kernel)
    · exact TB_at 628 (by decide +kernel) (by decide +kernel)
    · exact TB_at 629 (by decide +kernel) (by decide +kernel)
    · exact TB_at 119 (by decide +kernel) (by decide +kernel)) jc_J0_isLatin1) rfl rfl rfl (by decide +kernel) ⟨Nat.le_of_ble_eq_true rfl, Nat.le_of_ble_eq_true rfl⟩) ⟨blindV, vk_recv hE.2.2.1 hj hS, fun U hU hW => ⟨rfl, pre_of hK hE hP hsz hS hU hW⟩⟩ rfl rfl hl.1 rfl (lv_room (Nat.le_of_ble_eq_true rfl)) dJ0_charAt_5068e_1 ⟨Nat.le_refl _, Nat.le_refl _⟩) hS (fun H1 locs1 hpos hS1 => ?_)
  obtain ⟨t, rfl, hP1, hsz1, -⟩ := hpos
  refine lv_if_eq (tgt := 16) hx hb dJ0_charAt_5068e_4 (by decide) (fun q => absurd q (by decide)) (fun _ => ?_)
  refine lv_aload_n hx hb dJ0_charAt_5068e_7 rfl (lv_at hl 0 rfl) ?_
  refine vk_getf hx hb hva hS1 hown (hts _ (TB_at 1887 (by decide +kernel) (by decide +kernel))) (fun x hx => hx) dJ0_charAt_5068e_8 ?_
  refine lv_iload_n hx hb dJ0_charAt_5068e_11 rfl (lv_at hl 1 rfl) ?_
  refine va_callg (va_runS (As := [.ref (adV j), .int (Int32.ofInt i)]) ⟨hx, hb, hml, hown, hts⟩ (j_chl (cid := cid) (D := D) (X := X) (adV := adV) (ext := ext) (base := base) (l := l) (h := h) hj h0 h1) (va_cwS 2 hts (goodJ (pre := [.methodLink _ 495 yJ1_charAt_3b067, .static yJ1_charAt_3b067, .initialized yJ1_charAt_3b067.cls]) (fun w hw => by
    simp only [List.mem_cons, List.not_mem_nil, or_false] at hw
    rcases hw with rfl | rfl | rfl
    · exact TB_at 631 (by decide +kernel) (by decide +kernel)
    · exact TB_at 632 (by decide +kernel) (by decide +kernel)
    · exact TB_at 120 (by decide +kernel) (by decide +kernel)) jc_J1_charAt) rfl rfl rfl (by decide +kernel) ⟨Nat.le_of_ble_eq_true rfl, Nat.le_of_ble_eq_true rfl⟩) ⟨blindV, fun U hU hW => ⟨rfl, pre_of hK hE hP1 hsz1 hS1 hU hW⟩⟩ rfl rfl hl.1 rfl (lv_room (Nat.le_of_ble_eq_true rfl)) dJ0_charAt_5068e_12 ⟨Nat.le_refl _, Nat.le_refl _⟩) hS1 (fun H2 locs2 hpos hS2 => ?_)
  obtain ⟨t2, rfl, hP2, hsz2, -⟩ := hpos
  exact W.zret hx hb hr hc.2 (fun t3 ht hW => ⟨⟨rfl, by rw [ht]; exact hP2, by rw [ht]; exact hsz2, rfl⟩, hS2.F ht⟩) (fun q hq => hS2.2.2 q hq) dJ0_charAt_5068e_15
theorem str_ok : StrOk base ext adV cid D X l := ⟨fun h j hj => by
    have := j_len (ext := ext) (adV := adV) (cid := cid) (D := D) (X := X) (base := base) (l := l) (h := h) hj
    show Met _ _ _ _ (va_Pc [cV base ext (vR (some (PK + j)))] _) _ _ _ _
    rw [show cV base ext (vR (some (PK + j))) = .ref (ext j) from by show Value.ref (if PK + j < PK then _ else _) = _; rw [if_neg (by omega), Nat.add_sub_cancel_left]]
    exact this, fun h j i hj h0 h1 => by
    have := j_char (ext := ext) (adV := adV) (cid := cid) (D := D) (X := X) (base := base) (l := l) (h := h) hj h0 h1
    show Met _ _ _ _ (va_Pc [cV base ext (vR (some (PK + j))), cV base ext (vI i)] _) _ _ _ _
    rw [show cV base ext (vR (some (PK + j))) = .ref (ext j) from by show Value.ref (if PK + j < PK then _ else _) = _; rw [if_neg (by omega), Nat.add_sub_cancel_left]]
    exact this⟩
end STR
