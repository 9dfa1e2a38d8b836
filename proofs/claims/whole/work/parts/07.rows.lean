/-! ROW BY ROW: an instruction of the pure machine is one of the machine -/
section ROWS
variable {base : Nat} {ext adV : Nat → Nat} {cid : FieldType → ClassId} {D : va_G} {X : PX} {k : Nat} {p : Program} {l : Launch} {e : Env} {R : Room} {s : State} {m : MethodId} {args : Array Value} {below : List Frame} {meth : Method} {c : Code} {Q : State → Prop} {bp : Nat} {L : PL} {st : List PV} {h : PHp} {cs sl : Nat}
theorem g_iconst (hF : Fx base ext adV cid D X k p s m args meth c) {n z : Int} (hd : decode (mC k) bp = .ok (.iconst n, 1)) (hz : n = z) (g : Gw base ext cid D k p l e R s m args below meth c Q (bp + 1) L (vI z :: st) h cs sl) : Gw base ext cid D k p l e R s m args below meth c Q bp L st h cs sl := by
  obtain ⟨hx, hb, hml, hown, hts, hK, hE, hnm⟩ := hF
  intro H locs ls hL hP hsz hS hcs
  subst hz
  exact lv_iconst hx hb hd rfl (g H locs ls hL hP hsz hS hcs)
theorem g_bipush (hF : Fx base ext adV cid D X k p s m args meth c) {n z : Int} (hd : decode (mC k) bp = .ok (.bipush n, 2)) (hz : (Int8.ofInt n).toInt32 = Int32.ofInt z) (g : Gw base ext cid D k p l e R s m args below meth c Q (bp + 2) L (vI z :: st) h cs sl) : Gw base ext cid D k p l e R s m args below meth c Q bp L st h cs sl := by
  obtain ⟨hx, hb, hml, hown, hts, hK, hE, hnm⟩ := hF
  intro H locs ls hL hP hsz hS hcs
  exact lv_bipush hx hb hd hz (g H locs ls hL hP hsz hS hcs)
theorem g_sipush (hF : Fx base ext adV cid D X k p s m args meth c) {n z : Int} (hd : decode (mC k) bp = .ok (.sipush n, 3)) (hz : (Int16.ofInt n).toInt32 = Int32.ofInt z) (g : Gw base ext cid D k p l e R s m args below meth c Q (bp + 3) L (vI z :: st) h cs sl) : Gw base ext cid D k p l e R s m args below meth c Q bp L st h cs sl := by
  obtain ⟨hx, hb, hml, hown, hts, hK, hE, hnm⟩ := hF
  intro H locs ls hL hP hsz hS hcs
  exact lv_sipush hx hb hd hz (g H locs ls hL hP hsz hS hcs)
theorem g_lconst (hF : Fx base ext adV cid D X k p s m args meth c) {n : Fin 2} {z : Int} (hd : decode (mC k) bp = .ok (.lconst n, 1)) (hz : Int64.ofNat (n : Nat) = Int64.ofInt z) (g : Gw base ext cid D k p l e R s m args below meth c Q (bp + 1) L (vL z :: st) h cs sl) : Gw base ext cid D k p l e R s m args below meth c Q bp L st h cs sl := by
  obtain ⟨hx, hb, hml, hown, hts, hK, hE, hnm⟩ := hF
  intro H locs ls hL hP hsz hS hcs
  exact lv_lconst hx hb hd hz (g H locs ls hL hP hsz hS hcs)
theorem g_ldc (hF : Fx base ext adV cid D X k p s m args meth c) {ix : Nat} {z : Int} (hd : decode (mC k) bp = .ok (.ldc ix, 2)) (hl : (4, ix, z.toNat, 0) ∈ lks (mO k)) (hz : 0 ≤ z) (g : Gw base ext cid D k p l e R s m args below meth c Q (bp + 2) L (vI z :: st) h cs sl) : Gw base ext cid D k p l e R s m args below meth c Q bp L st h cs sl := by
  obtain ⟨hx, hb, hml, hown, hts, hK, hE, hnm⟩ := hF
  intro H locs ls hL hP hsz hS hcs
  have hw : (Cond.constant (cN (mO k)) ix (Int32.ofInt (z.toNat : Int))).before args s = true := hts _ (lk_ok (mO k) _ hl (by simp) (by simp))
  rw [Int.toNat_of_nonneg hz] at hw
  exact lv_ldc hx hb hown hw hd (g H locs ls hL hP hsz hS hcs)
theorem g_ldcw (hF : Fx base ext adV cid D X k p s m args meth c) {ix : Nat} {z : Int} (hd : decode (mC k) bp = .ok (.ldc_w ix, 3)) (hl : (4, ix, z.toNat, 0) ∈ lks (mO k)) (hz : 0 ≤ z) (g : Gw base ext cid D k p l e R s m args below meth c Q (bp + 3) L (vI z :: st) h cs sl) : Gw base ext cid D k p l e R s m args below meth c Q bp L st h cs sl := by
  obtain ⟨hx, hb, hml, hown, hts, hK, hE, hnm⟩ := hF
  intro H locs ls hL hP hsz hS hcs
  have hw : (Cond.constant (cN (mO k)) ix (Int32.ofInt (z.toNat : Int))).before args s = true := hts _ (lk_ok (mO k) _ hl (by simp) (by simp))
  rw [Int.toNat_of_nonneg hz] at hw
  exact lv_ldcw hx hb hown hw hd (g H locs ls hL hP hsz hS hcs)
theorem g_ldc2 (hF : Fx base ext adV cid D X k p s m args meth c) {ix : Nat} {z : Int} (hd : decode (mC k) bp = .ok (.ldc2_w ix, 3)) (hl : (5, ix, z.toNat, 0) ∈ lks (mO k)) (hz : 0 ≤ z) (g : Gw base ext cid D k p l e R s m args below meth c Q (bp + 3) L (vL z :: st) h cs sl) : Gw base ext cid D k p l e R s m args below meth c Q bp L st h cs sl := by
  obtain ⟨hx, hb, hml, hown, hts, hK, hE, hnm⟩ := hF
  intro H locs ls hL hP hsz hS hcs
  have hw : (Cond.constantLong (cN (mO k)) ix (Int64.ofInt (z.toNat : Int))).before args s = true := hts _ (lk_ok (mO k) _ hl (by simp) (by simp))
  rw [Int.toNat_of_nonneg hz] at hw
  exact lv_ldc2 hx hb hown hw hd (g H locs ls hL hP hsz hS hcs)
theorem g_ldcS (hF : Fx base ext adV cid D X k p s m args meth c) {ix j : Nat} (hd : decode (mC k) bp = .ok (.ldc ix, 2)) (hl : (6, ix, j, 0) ∈ lks (mO k)) (hj : j < 11) (g : Gw base ext cid D k p l e R s m args below meth c Q (bp + 2) L (vR (some (PK + j)) :: st) h cs sl) : Gw base ext cid D k p l e R s m args below meth c Q bp L st h cs sl := by
  obtain ⟨hx, hb, hml, hown, hts, hK, hE, hnm⟩ := hF
  intro H locs ls hL hP hsz hS hcs
  have hg := g H locs ls hL hP hsz hS hcs
  rw [List.map_cons, show cV base ext (vR (some (PK + j))) = .ref (ext j) from by show Value.ref (if PK + j < PK then _ else _) = _; rw [if_neg (by omega), Nat.add_sub_cancel_left]] at hg
  exact va_ldcS hx hb hown (hE.2.1 (mO k) ix j 0 hl) hd hg
theorem g_iload_n (hF : Fx base ext adV cid D X k p s m args meth c) {j : Fin 4} {x : Int} (hd : decode (mC k) bp = .ok (.iload_n j, 1)) (hj : lget L j = some (vI x)) (g : Gw base ext cid D k p l e R s m args below meth c Q (bp + 1) L (vI x :: st) h cs sl) : Gw base ext cid D k p l e R s m args below meth c Q bp L st h cs sl := by
  obtain ⟨hx, hb, hml, hown, hts, hK, hE, hnm⟩ := hF
  intro H locs ls hL hP hsz hS hcs
  exact lv_iload_n hx hb hd rfl (hL.at hj) (g H locs ls hL hP hsz hS hcs)
theorem g_iload (hF : Fx base ext adV cid D X k p s m args meth c) {j : Nat} {x : Int} (hd : decode (mC k) bp = .ok (.iload j, 2)) (hj : lget L j = some (vI x)) (g : Gw base ext cid D k p l e R s m args below meth c Q (bp + 2) L (vI x :: st) h cs sl) : Gw base ext cid D k p l e R s m args below meth c Q bp L st h cs sl := by
  obtain ⟨hx, hb, hml, hown, hts, hK, hE, hnm⟩ := hF
  intro H locs ls hL hP hsz hS hcs
  exact lv_iload hx hb hd (hL.at hj) (g H locs ls hL hP hsz hS hcs)
theorem g_lload_n (hF : Fx base ext adV cid D X k p s m args meth c) {j : Fin 4} {x : Int} (hd : decode (mC k) bp = .ok (.lload_n j, 1)) (hj : lget L j = some (vL x)) (g : Gw base ext cid D k p l e R s m args below meth c Q (bp + 1) L (vL x :: st) h cs sl) : Gw base ext cid D k p l e R s m args below meth c Q bp L st h cs sl := by
  obtain ⟨hx, hb, hml, hown, hts, hK, hE, hnm⟩ := hF
  intro H locs ls hL hP hsz hS hcs
  exact lv_lload_n hx hb hd rfl (hL.at hj) (g H locs ls hL hP hsz hS hcs)
theorem g_lload (hF : Fx base ext adV cid D X k p s m args meth c) {j : Nat} {x : Int} (hd : decode (mC k) bp = .ok (.lload j, 2)) (hj : lget L j = some (vL x)) (g : Gw base ext cid D k p l e R s m args below meth c Q (bp + 2) L (vL x :: st) h cs sl) : Gw base ext cid D k p l e R s m args below meth c Q bp L st h cs sl := by
  obtain ⟨hx, hb, hml, hown, hts, hK, hE, hnm⟩ := hF
  intro H locs ls hL hP hsz hS hcs
  exact lv_lload hx hb hd (hL.at hj) (g H locs ls hL hP hsz hS hcs)
theorem g_aload_n (hF : Fx base ext adV cid D X k p s m args meth c) {j : Fin 4} {x : Nat} (hd : decode (mC k) bp = .ok (.aload_n j, 1)) (hj : lget L j = some (vR (some x))) (g : Gw base ext cid D k p l e R s m args below meth c Q (bp + 1) L (vR (some x) :: st) h cs sl) : Gw base ext cid D k p l e R s m args below meth c Q bp L st h cs sl := by
  obtain ⟨hx, hb, hml, hown, hts, hK, hE, hnm⟩ := hF
  intro H locs ls hL hP hsz hS hcs
  exact lv_aload_n hx hb hd rfl (hL.at hj) (g H locs ls hL hP hsz hS hcs)
theorem g_aload (hF : Fx base ext adV cid D X k p s m args meth c) {j : Nat} {x : Nat} (hd : decode (mC k) bp = .ok (.aload j, 2)) (hj : lget L j = some (vR (some x))) (g : Gw base ext cid D k p l e R s m args below meth c Q (bp + 2) L (vR (some x) :: st) h cs sl) : Gw base ext cid D k p l e R s m args below meth c Q bp L st h cs sl := by
  obtain ⟨hx, hb, hml, hown, hts, hK, hE, hnm⟩ := hF
  intro H locs ls hL hP hsz hS hcs
  exact lv_aload hx hb hd (hL.at hj) (g H locs ls hL hP hsz hS hcs)
theorem g_istore_n (hF : Fx base ext adV cid D X k p s m args meth c) {j : Fin 4} {x : Int} (hd : decode (mC k) bp = .ok (.istore_n j, 1)) (hj : (j : Nat) < L.length) (g : Gw base ext cid D k p l e R s m args below meth c Q (bp + 1) (lput L j (vI x)) st h cs sl) : Gw base ext cid D k p l e R s m args below meth c Q bp L (vI x :: st) h cs sl := by
  obtain ⟨hx, hb, hml, hown, hts, hK, hE, hnm⟩ := hF
  intro H locs ls hL hP hsz hS hcs
  rw [hL.1] at hj
  exact lv_istore_n hx hb hd rfl hL.2 hj rfl (fun ls2 h2 => g H locs ls2 (hL.st1 hj h2) hP hsz hS hcs)
theorem g_istore (hF : Fx base ext adV cid D X k p s m args meth c) {j : Nat} {x : Int} (hd : decode (mC k) bp = .ok (.istore j, 2)) (hj : (j : Nat) < L.length) (g : Gw base ext cid D k p l e R s m args below meth c Q (bp + 2) (lput L j (vI x)) st h cs sl) : Gw base ext cid D k p l e R s m args below meth c Q bp L (vI x :: st) h cs sl := by
  obtain ⟨hx, hb, hml, hown, hts, hK, hE, hnm⟩ := hF
  intro H locs ls hL hP hsz hS hcs
  rw [hL.1] at hj
  exact lv_istore hx hb hd hL.2 hj rfl (fun ls2 h2 => g H locs ls2 (hL.st1 hj h2) hP hsz hS hcs)
theorem g_lstore_n (hF : Fx base ext adV cid D X k p s m args meth c) {j : Fin 4} {x : Int} (hd : decode (mC k) bp = .ok (.lstore_n j, 1)) (hj : (j : Nat) + 1 < L.length) (g : Gw base ext cid D k p l e R s m args below meth c Q (bp + 1) (lput2 L j (vL x)) st h cs sl) : Gw base ext cid D k p l e R s m args below meth c Q bp L (vL x :: st) h cs sl := by
  obtain ⟨hx, hb, hml, hown, hts, hK, hE, hnm⟩ := hF
  intro H locs ls hL hP hsz hS hcs
  rw [hL.1] at hj
  exact lv_lstore_n hx hb hd rfl hL.2 hj rfl (fun ls2 h2 => g H locs ls2 (hL.st2 hj h2) hP hsz hS hcs)
theorem g_lstore (hF : Fx base ext adV cid D X k p s m args meth c) {j : Nat} {x : Int} (hd : decode (mC k) bp = .ok (.lstore j, 2)) (hj : (j : Nat) + 1 < L.length) (g : Gw base ext cid D k p l e R s m args below meth c Q (bp + 2) (lput2 L j (vL x)) st h cs sl) : Gw base ext cid D k p l e R s m args below meth c Q bp L (vL x :: st) h cs sl := by
  obtain ⟨hx, hb, hml, hown, hts, hK, hE, hnm⟩ := hF
  intro H locs ls hL hP hsz hS hcs
  rw [hL.1] at hj
  exact lv_lstore hx hb hd hL.2 hj rfl (fun ls2 h2 => g H locs ls2 (hL.st2 hj h2) hP hsz hS hcs)
theorem g_astore_n (hF : Fx base ext adV cid D X k p s m args meth c) {j : Fin 4} {x : Nat} (hd : decode (mC k) bp = .ok (.astore_n j, 1)) (hj : (j : Nat) < L.length) (g : Gw base ext cid D k p l e R s m args below meth c Q (bp + 1) (lput L j (vR (some x))) st h cs sl) : Gw base ext cid D k p l e R s m args below meth c Q bp L (vR (some x) :: st) h cs sl := by
  obtain ⟨hx, hb, hml, hown, hts, hK, hE, hnm⟩ := hF
  intro H locs ls hL hP hsz hS hcs
  rw [hL.1] at hj
  exact lv_astore_n hx hb hd rfl hL.2 hj rfl (fun ls2 h2 => g H locs ls2 (hL.st1 hj h2) hP hsz hS hcs)
theorem g_astore (hF : Fx base ext adV cid D X k p s m args meth c) {j : Nat} {x : Nat} (hd : decode (mC k) bp = .ok (.astore j, 2)) (hj : (j : Nat) < L.length) (g : Gw base ext cid D k p l e R s m args below meth c Q (bp + 2) (lput L j (vR (some x))) st h cs sl) : Gw base ext cid D k p l e R s m args below meth c Q bp L (vR (some x) :: st) h cs sl := by
  obtain ⟨hx, hb, hml, hown, hts, hK, hE, hnm⟩ := hF
  intro H locs ls hL hP hsz hS hcs
  rw [hL.1] at hj
  exact lv_astore hx hb hd hL.2 hj rfl (fun ls2 h2 => g H locs ls2 (hL.st1 hj h2) hP hsz hS hcs)
theorem g_iinc (hF : Fx base ext adV cid D X k p s m args meth c) {j : Nat} {n x : Int} (hd : decode (mC k) bp = .ok (.iinc j n, 3)) (hj : lget L j = some (vI x)) (g : Gw base ext cid D k p l e R s m args below meth c Q (bp + 3) (lput L j (vI (x + n))) st h cs sl) : Gw base ext cid D k p l e R s m args below meth c Q bp L st h cs sl := by
  obtain ⟨hx, hb, hml, hown, hts, hK, hE, hnm⟩ := hF
  intro H locs ls hL hP hsz hS hcs
  have hjL : L[j]? = some (some (vI x)) := by
    unfold lget at hj
    split at hj
    · next w hw => cases hj; exact hw
    · cases hj
  have hjn : j < mL k := by rw [← hL.1]; exact (List.getElem?_eq_some_iff.mp hjL).1
  obtain ⟨q, hq⟩ := List.getElem?_of_mem (lvL_mem (base := base) (ext := ext).mpr ⟨_, hjL, rfl⟩)
  exact lv_iinc hx hb hd hL.2 hq (o_add x n) hjn rfl (fun ls2 h2 => g H locs ls2 (hL.st1 hjn h2) hP hsz hS hcs)
theorem g_iadd (hF : Fx base ext adV cid D X k p s m args meth c) {x y : Int} (hd : decode (mC k) bp = .ok (.iadd, 1)) (g : Gw base ext cid D k p l e R s m args below meth c Q (bp + 1) L (vI (x + y) :: st) h cs sl) : Gw base ext cid D k p l e R s m args below meth c Q bp L (vI y :: vI x :: st) h cs sl := by
  obtain ⟨hx, hb, hml, hown, hts, hK, hE, hnm⟩ := hF
  intro H locs ls hL hP hsz hS hcs
  refine lv_iadd hx hb hd ?_
  rw [o_add]
  exact g H locs ls hL hP hsz hS hcs
theorem g_isub (hF : Fx base ext adV cid D X k p s m args meth c) {x y : Int} (hd : decode (mC k) bp = .ok (.isub, 1)) (g : Gw base ext cid D k p l e R s m args below meth c Q (bp + 1) L (vI (x - y) :: st) h cs sl) : Gw base ext cid D k p l e R s m args below meth c Q bp L (vI y :: vI x :: st) h cs sl := by
  obtain ⟨hx, hb, hml, hown, hts, hK, hE, hnm⟩ := hF
  intro H locs ls hL hP hsz hS hcs
  refine lv_isub hx hb hd ?_
  rw [o_sub]
  exact g H locs ls hL hP hsz hS hcs
theorem g_imul (hF : Fx base ext adV cid D X k p s m args meth c) {x y : Int} (hd : decode (mC k) bp = .ok (.imul, 1)) (g : Gw base ext cid D k p l e R s m args below meth c Q (bp + 1) L (vI (x * y) :: st) h cs sl) : Gw base ext cid D k p l e R s m args below meth c Q bp L (vI y :: vI x :: st) h cs sl := by
  obtain ⟨hx, hb, hml, hown, hts, hK, hE, hnm⟩ := hF
  intro H locs ls hL hP hsz hS hcs
  refine lv_imul hx hb hd ?_
  rw [o_mul]
  exact g H locs ls hL hP hsz hS hcs
theorem g_ladd (hF : Fx base ext adV cid D X k p s m args meth c) {x y : Int} (hd : decode (mC k) bp = .ok (.ladd, 1)) (g : Gw base ext cid D k p l e R s m args below meth c Q (bp + 1) L (vL (x + y) :: st) h cs sl) : Gw base ext cid D k p l e R s m args below meth c Q bp L (vL y :: vL x :: st) h cs sl := by
  obtain ⟨hx, hb, hml, hown, hts, hK, hE, hnm⟩ := hF
  intro H locs ls hL hP hsz hS hcs
  refine lv_ladd hx hb hd ?_
  rw [o_laddn]
  exact g H locs ls hL hP hsz hS hcs
theorem g_lsub (hF : Fx base ext adV cid D X k p s m args meth c) {x y : Int} (hd : decode (mC k) bp = .ok (.lsub, 1)) (g : Gw base ext cid D k p l e R s m args below meth c Q (bp + 1) L (vL (x - y) :: st) h cs sl) : Gw base ext cid D k p l e R s m args below meth c Q bp L (vL y :: vL x :: st) h cs sl := by
  obtain ⟨hx, hb, hml, hown, hts, hK, hE, hnm⟩ := hF
  intro H locs ls hL hP hsz hS hcs
  refine lv_lsub hx hb hd ?_
  rw [o_lsub]
  exact g H locs ls hL hP hsz hS hcs
theorem g_lmul (hF : Fx base ext adV cid D X k p s m args meth c) {x y : Int} (hd : decode (mC k) bp = .ok (.lmul, 1)) (g : Gw base ext cid D k p l e R s m args below meth c Q (bp + 1) L (vL (x * y) :: st) h cs sl) : Gw base ext cid D k p l e R s m args below meth c Q bp L (vL y :: vL x :: st) h cs sl := by
  obtain ⟨hx, hb, hml, hown, hts, hK, hE, hnm⟩ := hF
  intro H locs ls hL hP hsz hS hcs
  refine lv_lmul hx hb hd ?_
  rw [o_lmul]
  exact g H locs ls hL hP hsz hS hcs
theorem g_iand (hF : Fx base ext adV cid D X k p s m args meth c) {x y : Int} (hd : decode (mC k) bp = .ok (.iand, 1)) (g : Gw base ext cid D k p l e R s m args below meth c Q (bp + 1) L (vI (iAnd x y) :: st) h cs sl) : Gw base ext cid D k p l e R s m args below meth c Q bp L (vI y :: vI x :: st) h cs sl := by
  obtain ⟨hx, hb, hml, hown, hts, hK, hE, hnm⟩ := hF
  intro H locs ls hL hP hsz hS hcs
  have q : Int32.ofInt (iAnd x y) = Int32.ofInt x &&& Int32.ofInt y := o_t _
  refine lv_iand hx hb hd ?_
  rw [← q]
  exact g H locs ls hL hP hsz hS hcs
theorem g_ior (hF : Fx base ext adV cid D X k p s m args meth c) {x y : Int} (hd : decode (mC k) bp = .ok (.ior, 1)) (g : Gw base ext cid D k p l e R s m args below meth c Q (bp + 1) L (vI (iOr x y) :: st) h cs sl) : Gw base ext cid D k p l e R s m args below meth c Q bp L (vI y :: vI x :: st) h cs sl := by
  obtain ⟨hx, hb, hml, hown, hts, hK, hE, hnm⟩ := hF
  intro H locs ls hL hP hsz hS hcs
  have q : Int32.ofInt (iOr x y) = Int32.ofInt x ||| Int32.ofInt y := o_t _
  refine lv_ior hx hb hd ?_
  rw [← q]
  exact g H locs ls hL hP hsz hS hcs
theorem g_ixor (hF : Fx base ext adV cid D X k p s m args meth c) {x y : Int} (hd : decode (mC k) bp = .ok (.ixor, 1)) (g : Gw base ext cid D k p l e R s m args below meth c Q (bp + 1) L (vI (iXor x y) :: st) h cs sl) : Gw base ext cid D k p l e R s m args below meth c Q bp L (vI y :: vI x :: st) h cs sl := by
  obtain ⟨hx, hb, hml, hown, hts, hK, hE, hnm⟩ := hF
  intro H locs ls hL hP hsz hS hcs
  have q : Int32.ofInt (iXor x y) = Int32.ofInt x ^^^ Int32.ofInt y := o_t _
  refine lv_ixor hx hb hd ?_
  rw [← q]
  exact g H locs ls hL hP hsz hS hcs
theorem g_ishl (hF : Fx base ext adV cid D X k p s m args meth c) {x y : Int} (hd : decode (mC k) bp = .ok (.ishl, 1)) (g : Gw base ext cid D k p l e R s m args below meth c Q (bp + 1) L (vI (iShl x y) :: st) h cs sl) : Gw base ext cid D k p l e R s m args below meth c Q bp L (vI y :: vI x :: st) h cs sl := by
  obtain ⟨hx, hb, hml, hown, hts, hK, hE, hnm⟩ := hF
  intro H locs ls hL hP hsz hS hcs
  have q : Int32.ofInt (iShl x y) = Int32.ofInt x <<< (Int32.ofInt y &&& 31) := o_t _
  refine lv_ishl hx hb hd ?_
  rw [← q]
  exact g H locs ls hL hP hsz hS hcs
theorem g_ishr (hF : Fx base ext adV cid D X k p s m args meth c) {x y : Int} (hd : decode (mC k) bp = .ok (.ishr, 1)) (g : Gw base ext cid D k p l e R s m args below meth c Q (bp + 1) L (vI (iShr x y) :: st) h cs sl) : Gw base ext cid D k p l e R s m args below meth c Q bp L (vI y :: vI x :: st) h cs sl := by
  obtain ⟨hx, hb, hml, hown, hts, hK, hE, hnm⟩ := hF
  intro H locs ls hL hP hsz hS hcs
  have q : Int32.ofInt (iShr x y) = Int32.ofInt x >>> (Int32.ofInt y &&& 31) := o_t _
  refine lv_ishr hx hb hd ?_
  rw [← q]
  exact g H locs ls hL hP hsz hS hcs
theorem g_iushr (hF : Fx base ext adV cid D X k p s m args meth c) {x y : Int} (hd : decode (mC k) bp = .ok (.iushr, 1)) (g : Gw base ext cid D k p l e R s m args below meth c Q (bp + 1) L (vI (iUshr x y) :: st) h cs sl) : Gw base ext cid D k p l e R s m args below meth c Q bp L (vI y :: vI x :: st) h cs sl := by
  obtain ⟨hx, hb, hml, hown, hts, hK, hE, hnm⟩ := hF
  intro H locs ls hL hP hsz hS hcs
  exact lv_iushr hx hb hd (o_t _).symm (g H locs ls hL hP hsz hS hcs)
theorem g_idiv (hF : Fx base ext adV cid D X k p s m args meth c) {x y : Int} (hd : decode (mC k) bp = .ok (.idiv, 1)) (hne : ¬ Int32.ofInt y = 0) (g : Gw base ext cid D k p l e R s m args below meth c Q (bp + 1) L (vI (iDiv x y) :: st) h cs sl) : Gw base ext cid D k p l e R s m args below meth c Q bp L (vI y :: vI x :: st) h cs sl := by
  obtain ⟨hx, hb, hml, hown, hts, hK, hE, hnm⟩ := hF
  intro H locs ls hL hP hsz hS hcs
  have q : Int32.ofInt (iDiv x y) = Int32.ofInt x / Int32.ofInt y := o_t _
  refine lv_idiv hx hb hd hne ?_
  rw [← q]
  exact g H locs ls hL hP hsz hS hcs
theorem g_irem (hF : Fx base ext adV cid D X k p s m args meth c) {x y : Int} (hd : decode (mC k) bp = .ok (.irem, 1)) (hne : ¬ Int32.ofInt y = 0) (g : Gw base ext cid D k p l e R s m args below meth c Q (bp + 1) L (vI (iRem x y) :: st) h cs sl) : Gw base ext cid D k p l e R s m args below meth c Q bp L (vI y :: vI x :: st) h cs sl := by
  obtain ⟨hx, hb, hml, hown, hts, hK, hE, hnm⟩ := hF
  intro H locs ls hL hP hsz hS hcs
  have q : Int32.ofInt (iRem x y) = Int32.ofInt x - Int32.ofInt x / Int32.ofInt y * Int32.ofInt y := o_t _
  refine lv_irem hx hb hd hne ?_
  rw [← q]
  exact g H locs ls hL hP hsz hS hcs
theorem g_lor (hF : Fx base ext adV cid D X k p s m args meth c) {x y : Int} (hd : decode (mC k) bp = .ok (.lor, 1)) (g : Gw base ext cid D k p l e R s m args below meth c Q (bp + 1) L (vL (lOr x y) :: st) h cs sl) : Gw base ext cid D k p l e R s m args below meth c Q bp L (vL y :: vL x :: st) h cs sl := by
  obtain ⟨hx, hb, hml, hown, hts, hK, hE, hnm⟩ := hF
  intro H locs ls hL hP hsz hS hcs
  have q : Int64.ofInt (lOr x y) = Int64.ofInt x ||| Int64.ofInt y := o_tl _
  refine lv_lor hx hb hd ?_
  rw [← q]
  exact g H locs ls hL hP hsz hS hcs
theorem g_lshl (hF : Fx base ext adV cid D X k p s m args meth c) {x y : Int} (hd : decode (mC k) bp = .ok (.lshl, 1)) (g : Gw base ext cid D k p l e R s m args below meth c Q (bp + 1) L (vL (lShl x y) :: st) h cs sl) : Gw base ext cid D k p l e R s m args below meth c Q bp L (vI y :: vL x :: st) h cs sl := by
  obtain ⟨hx, hb, hml, hown, hts, hK, hE, hnm⟩ := hF
  intro H locs ls hL hP hsz hS hcs
  exact lv_lshl hx hb hd (o_tl _).symm (g H locs ls hL hP hsz hS hcs)
theorem g_lshr (hF : Fx base ext adV cid D X k p s m args meth c) {x y : Int} (hd : decode (mC k) bp = .ok (.lshr, 1)) (g : Gw base ext cid D k p l e R s m args below meth c Q (bp + 1) L (vL (lShr x y) :: st) h cs sl) : Gw base ext cid D k p l e R s m args below meth c Q bp L (vI y :: vL x :: st) h cs sl := by
  obtain ⟨hx, hb, hml, hown, hts, hK, hE, hnm⟩ := hF
  intro H locs ls hL hP hsz hS hcs
  exact lv_lshr hx hb hd (o_tl _).symm (g H locs ls hL hP hsz hS hcs)
theorem g_lcmp (hF : Fx base ext adV cid D X k p s m args meth c) {x y : Int} (hd : decode (mC k) bp = .ok (.lcmp, 1)) (g : Gw base ext cid D k p l e R s m args below meth c Q (bp + 1) L (vI (lCmp x y) :: st) h cs sl) : Gw base ext cid D k p l e R s m args below meth c Q bp L (vL y :: vL x :: st) h cs sl := by
  obtain ⟨hx, hb, hml, hown, hts, hK, hE, hnm⟩ := hF
  intro H locs ls hL hP hsz hS hcs
  have q : Int32.ofInt (lCmp x y) = lg_cmp (Int64.ofInt x) (Int64.ofInt y) := by
    unfold lCmp lg_cmp
    have h3 := @Int64.lt_iff_toInt_lt (Int64.ofInt x) (Int64.ofInt y)
    have h4 := @Int64.lt_iff_toInt_lt (Int64.ofInt y) (Int64.ofInt x)
    by_cases h2 : Int64.ofInt x = Int64.ofInt y
    · rw [h2]; simp
    · have h5 : (Int64.ofInt x).toInt ≠ (Int64.ofInt y).toInt := fun q => h2 (Int64.toInt_inj.mp q)
      by_cases h1 : Int64.ofInt x < Int64.ofInt y
      · have h6 : ¬ Int64.ofInt y < Int64.ofInt x := by rw [h4]; rw [h3] at h1; omega
        rw [if_pos h1, if_neg h6, if_neg h2]; rfl
      · have h6 : Int64.ofInt y < Int64.ofInt x := by rw [h4]; rw [h3] at h1; omega
        rw [if_neg h1, if_pos h6, if_neg h2]; rfl
  refine W.lcmp hx hb hd ?_
  rw [← q]
  exact g H locs ls hL hP hsz hS hcs
theorem g_ineg (hF : Fx base ext adV cid D X k p s m args meth c) {x : Int} (hd : decode (mC k) bp = .ok (.ineg, 1)) (g : Gw base ext cid D k p l e R s m args below meth c Q (bp + 1) L (vI (-x) :: st) h cs sl) : Gw base ext cid D k p l e R s m args below meth c Q bp L (vI x :: st) h cs sl := by
  obtain ⟨hx, hb, hml, hown, hts, hK, hE, hnm⟩ := hF
  intro H locs ls hL hP hsz hS hcs
  refine lv_ineg hx hb hd ?_
  rw [o_neg]
  exact g H locs ls hL hP hsz hS hcs
theorem g_i2l (hF : Fx base ext adV cid D X k p s m args meth c) {x : Int} (hd : decode (mC k) bp = .ok (.i2l, 1)) (g : Gw base ext cid D k p l e R s m args below meth c Q (bp + 1) L (vL (iI2l x) :: st) h cs sl) : Gw base ext cid D k p l e R s m args below meth c Q bp L (vI x :: st) h cs sl := by
  obtain ⟨hx, hb, hml, hown, hts, hK, hE, hnm⟩ := hF
  intro H locs ls hL hP hsz hS hcs
  exact lv_i2l hx hb hd (o_i2l x) (g H locs ls hL hP hsz hS hcs)
theorem g_l2i (hF : Fx base ext adV cid D X k p s m args meth c) {x : Int} (hd : decode (mC k) bp = .ok (.l2i, 1)) (g : Gw base ext cid D k p l e R s m args below meth c Q (bp + 1) L (vI (iL2i x) :: st) h cs sl) : Gw base ext cid D k p l e R s m args below meth c Q bp L (vL x :: st) h cs sl := by
  obtain ⟨hx, hb, hml, hown, hts, hK, hE, hnm⟩ := hF
  intro H locs ls hL hP hsz hS hcs
  exact lv_l2i hx hb hd (o_t _).symm (g H locs ls hL hP hsz hS hcs)
theorem g_dupI (hF : Fx base ext adV cid D X k p s m args meth c) {x : Int} (hd : decode (mC k) bp = .ok (.dup, 1)) (g : Gw base ext cid D k p l e R s m args below meth c Q (bp + 1) L (vI x :: vI x :: st) h cs sl) : Gw base ext cid D k p l e R s m args below meth c Q bp L (vI x :: st) h cs sl := by
  obtain ⟨hx, hb, hml, hown, hts, hK, hE, hnm⟩ := hF
  intro H locs ls hL hP hsz hS hcs
  exact lv_dup hx hb hd rfl (g H locs ls hL hP hsz hS hcs)
theorem g_dupR (hF : Fx base ext adV cid D X k p s m args meth c) {x : Nat} (hd : decode (mC k) bp = .ok (.dup, 1)) (g : Gw base ext cid D k p l e R s m args below meth c Q (bp + 1) L (vR (some x) :: vR (some x) :: st) h cs sl) : Gw base ext cid D k p l e R s m args below meth c Q bp L (vR (some x) :: st) h cs sl := by
  obtain ⟨hx, hb, hml, hown, hts, hK, hE, hnm⟩ := hF
  intro H locs ls hL hP hsz hS hcs
  exact lv_dup hx hb hd rfl (g H locs ls hL hP hsz hS hcs)
theorem g_dup2 (hF : Fx base ext adV cid D X k p s m args meth c) {x : Int} {y : Nat} (hd : decode (mC k) bp = .ok (.dup2, 1)) (g : Gw base ext cid D k p l e R s m args below meth c Q (bp + 1) L (vI x :: vR (some y) :: vI x :: vR (some y) :: st) h cs sl) : Gw base ext cid D k p l e R s m args below meth c Q bp L (vI x :: vR (some y) :: st) h cs sl := by
  obtain ⟨hx, hb, hml, hown, hts, hK, hE, hnm⟩ := hF
  intro H locs ls hL hP hsz hS hcs
  exact lv_dup2_11 hx hb hd rfl rfl (g H locs ls hL hP hsz hS hcs)
theorem g_pop (hF : Fx base ext adV cid D X k p s m args meth c) {x : Int} (hd : decode (mC k) bp = .ok (.pop, 1)) (g : Gw base ext cid D k p l e R s m args below meth c Q (bp + 1) L st h cs sl) : Gw base ext cid D k p l e R s m args below meth c Q bp L (vI x :: st) h cs sl := by
  obtain ⟨hx, hb, hml, hown, hts, hK, hE, hnm⟩ := hF
  intro H locs ls hL hP hsz hS hcs
  exact lv_pop hx hb hd rfl (g H locs ls hL hP hsz hS hcs)
theorem g_goto (hF : Fx base ext adV cid D X k p s m args meth c) {off : Int} {tgt : Nat} (hd : decode (mC k) bp = .ok (.goto off, 3)) (ht : (bp : Int) + off = (tgt : Int)) (g : Gw base ext cid D k p l e R s m args below meth c Q tgt L st h cs sl) : Gw base ext cid D k p l e R s m args below meth c Q bp L st h cs sl := by
  obtain ⟨hx, hb, hml, hown, hts, hK, hE, hnm⟩ := hF
  intro H locs ls hL hP hsz hS hcs
  exact lv_goto hx hb hd ht (g H locs ls hL hP hsz hS hcs)
theorem g_if (hF : Fx base ext adV cid D X k p s m args meth c) {cd : ClassFile.Cond} {off : Int} {tgt : Nat} {x : Int} (hd : decode (mC k) bp = .ok (.ifCond cd off, 3)) (ht : (bp : Int) + off = (tgt : Int)) (g1 : iCmp cd x 0 = true → Gw base ext cid D k p l e R s m args below meth c Q tgt L st h cs sl) (g2 : ¬ iCmp cd x 0 = true → Gw base ext cid D k p l e R s m args below meth c Q (bp + 3) L st h cs sl) : Gw base ext cid D k p l e R s m args below meth c Q bp L (vI x :: st) h cs sl := by
  obtain ⟨hx, hb, hml, hown, hts, hK, hE, hnm⟩ := hF
  intro H locs ls hL hP hsz hS hcs
  have z0 : Int32.ofInt 0 = 0 := rfl
  cases cd with
  | eq => exact lv_if_eq hx hb hd ht (fun q => g1 (by simpa [iCmp] using q) H locs ls hL hP hsz hS hcs) (fun q => g2 (by simpa [iCmp] using q) H locs ls hL hP hsz hS hcs)
  | ne => exact lv_if_ne hx hb hd ht (fun q => g1 (by simpa [iCmp] using q) H locs ls hL hP hsz hS hcs) (fun q => g2 (by simpa [iCmp] using q) H locs ls hL hP hsz hS hcs)
  | lt => exact lv_if_lt hx hb hd ht (fun q => g1 (by simpa [iCmp] using q) H locs ls hL hP hsz hS hcs) (fun q => g2 (by simpa [iCmp] using q) H locs ls hL hP hsz hS hcs)
  | ge => exact lv_if_ge hx hb hd ht (fun q => g1 (by simpa [iCmp, Int32.not_lt] using q) H locs ls hL hP hsz hS hcs) (fun q => g2 (by simpa [iCmp, Int32.not_lt] using q) H locs ls hL hP hsz hS hcs)
  | gt => exact lv_if_gt hx hb hd ht (fun q => g1 (by simpa [iCmp] using q) H locs ls hL hP hsz hS hcs) (fun q => g2 (by simpa [iCmp] using q) H locs ls hL hP hsz hS hcs)
  | le => exact lv_if_le hx hb hd ht (fun q => g1 (by simpa [iCmp, Int32.not_lt] using q) H locs ls hL hP hsz hS hcs) (fun q => g2 (by simpa [iCmp, Int32.not_lt] using q) H locs ls hL hP hsz hS hcs)
theorem g_icmp (hF : Fx base ext adV cid D X k p s m args meth c) {cd : ClassFile.Cond} {off : Int} {tgt : Nat} {x y : Int} (hd : decode (mC k) bp = .ok (.if_icmp cd off, 3)) (ht : (bp : Int) + off = (tgt : Int)) (g1 : iCmp cd x y = true → Gw base ext cid D k p l e R s m args below meth c Q tgt L st h cs sl) (g2 : ¬ iCmp cd x y = true → Gw base ext cid D k p l e R s m args below meth c Q (bp + 3) L st h cs sl) : Gw base ext cid D k p l e R s m args below meth c Q bp L (vI y :: vI x :: st) h cs sl := by
  obtain ⟨hx, hb, hml, hown, hts, hK, hE, hnm⟩ := hF
  intro H locs ls hL hP hsz hS hcs
  cases cd with
  | eq => exact lv_icmp_eq hx hb hd ht (fun q => g1 (by simpa [iCmp] using q) H locs ls hL hP hsz hS hcs) (fun q => g2 (by simpa [iCmp] using q) H locs ls hL hP hsz hS hcs)
  | ne => exact lv_icmp_ne hx hb hd ht (fun q => g1 (by simpa [iCmp] using q) H locs ls hL hP hsz hS hcs) (fun q => g2 (by simpa [iCmp] using q) H locs ls hL hP hsz hS hcs)
  | lt => exact lv_icmp_lt hx hb hd ht (fun q => g1 (by simpa [iCmp] using q) H locs ls hL hP hsz hS hcs) (fun q => g2 (by simpa [iCmp] using q) H locs ls hL hP hsz hS hcs)
  | ge => exact lv_icmp_ge hx hb hd ht (fun q => g1 (by simpa [iCmp, Int32.not_lt] using q) H locs ls hL hP hsz hS hcs) (fun q => g2 (by simpa [iCmp, Int32.not_lt] using q) H locs ls hL hP hsz hS hcs)
  | gt => exact lv_icmp_gt hx hb hd ht (fun q => g1 (by simpa [iCmp] using q) H locs ls hL hP hsz hS hcs) (fun q => g2 (by simpa [iCmp] using q) H locs ls hL hP hsz hS hcs)
  | le => exact lv_icmp_le hx hb hd ht (fun q => g1 (by simpa [iCmp, Int32.not_lt] using q) H locs ls hL hP hsz hS hcs) (fun q => g2 (by simpa [iCmp, Int32.not_lt] using q) H locs ls hL hP hsz hS hcs)
theorem g_table (hF : Fx base ext adV cid D X k p s m args meth c) {dflt lo hi : Int} {offs : Array Int} {len tgt : Nat} {x : Int} (hd : decode (mC k) bp = .ok (.tableswitch dflt lo hi offs, len)) (ht : ((Int32.ofInt x).toInt < lo ∨ hi < (Int32.ofInt x).toInt) ∧ (bp : Int) + dflt = (tgt : Int) ∨ ¬ ((Int32.ofInt x).toInt < lo ∨ hi < (Int32.ofInt x).toInt) ∧ ∃ off, offs[((Int32.ofInt x).toInt - lo).toNat]? = some off ∧ (bp : Int) + off = (tgt : Int)) (g : Gw base ext cid D k p l e R s m args below meth c Q tgt L st h cs sl) : Gw base ext cid D k p l e R s m args below meth c Q bp L (vI x :: st) h cs sl := by
  obtain ⟨hx, hb, hml, hown, hts, hK, hE, hnm⟩ := hF
  intro H locs ls hL hP hsz hS hcs
  rcases ht with ⟨h1, h2⟩ | ⟨h1, off, h2, h3⟩
  · exact lv_tableOut hx hb hd h1 h2 (g H locs ls hL hP hsz hS hcs)
  · exact lv_tableIn hx hb hd (fun q => h1 (Or.inl q)) (fun q => h1 (Or.inr q)) h2 h3 (g H locs ls hL hP hsz hS hcs)
theorem g_lookup (hF : Fx base ext adV cid D X k p s m args meth c) {dflt : Int} {ps : Array (Int × Int)} {len tgt : Nat} {x : Int} (hd : decode (mC k) bp = .ok (.lookupswitch dflt ps, len)) (hp : (ps.toList.zip (ps.toList.drop 1)).all (fun (a, next) => a.1 < next.1) = true) (ht : (bp : Int) + Op.lookupswitch.offset ps.toList dflt (Int32.ofInt x).toInt = (tgt : Int)) (g : Gw base ext cid D k p l e R s m args below meth c Q tgt L st h cs sl) : Gw base ext cid D k p l e R s m args below meth c Q bp L (vI x :: st) h cs sl := by
  obtain ⟨hx, hb, hml, hown, hts, hK, hE, hnm⟩ := hF
  intro H locs ls hL hP hsz hS hcs
  exact lv_lookup hx hb hd hp rfl ht (g H locs ls hL hP hsz hS hcs)
theorem adr_lt {base : Nat} {ext : Nat → Nat} {i : Nat} (h : i < PK) : adr base ext i = base + i := if_pos h
theorem adr_ge {base : Nat} {ext : Nat → Nat} {i : Nat} (h : ¬ i < PK) : adr base ext i = ext (i - PK) := if_neg h
theorem hObj_spec {h : PHp} {c ci : Nat} {fs : List PV} (q : hObj h c ci = some fs) : c < PK ∧ h[c]? = some (.inr (ci, fs)) := by
  unfold hObj at q
  split at q
  · next hc =>
    refine ⟨hc, ?_⟩
    split at q
    · next cj gs hg =>
      split at q
      · next e => cases q; subst e; exact hg
      · cases q
    · cases q
  · cases q
theorem hInt_spec {ty : FieldType} {h : PHp} {c : Nat} {a : Nat × (Nat → Int)} (q : hInt ty h c = some a) : c < PK ∧ h[c]? = some (.inl (ty, a.1, .inl a.2)) ∧ a.1 ≤ 100000 := by
  unfold hInt at q
  split at q
  · next hc =>
    refine ⟨hc, ?_⟩
    split at q
    · next t n f hg =>
      split at q
      · next e => cases q; obtain ⟨e, e2⟩ := e; subst e; exact ⟨hg, e2⟩
      · cases q
    · cases q
  · cases q
theorem hLong_spec {h : PHp} {c : Nat} {a : Nat × (Nat → Int)} (q : hLong h c = some a) : c < PK ∧ h[c]? = some (.inl (.long, a.1, .inr (.inl a.2))) ∧ a.1 ≤ 100000 := by
  unfold hLong at q
  split at q
  · next hc =>
    refine ⟨hc, ?_⟩
    split at q
    · next t n f hg =>
      split at q
      · next e => cases q; obtain ⟨e, e2⟩ := e; subst e; exact ⟨hg, e2⟩
      · cases q
    · cases q
  · cases q
theorem hRef_spec {h : PHp} {c : Nat} {a : FieldType × Nat × (Nat → Option Nat)} (q : hRef h c = some a) : c < PK ∧ h[c]? = some (.inl (a.1, a.2.1, .inr (.inr a.2.2))) ∧ a.2.1 ≤ 100000 := by
  unfold hRef at q
  split at q
  · next hc =>
    refine ⟨hc, ?_⟩
    split at q
    · next t n f hg =>
      split at q
      · next e => cases q; exact ⟨hg, e⟩
      · cases q
    · cases q
  · cases q
/-- an index in its row -/
theorem ix_in {n : Nat} {i : Int} (h0 : 0 ≤ i) (h1 : i < n) (hn : n ≤ 2147483648) : vp_in (Int32.ofInt i) n ∧ (Int32.ofInt i).toNatClampNeg = i.toNat := by
  have e : (Int32.ofInt i).toInt = i := Int32.toInt_ofInt_of_le (by omega) (by omega)
  constructor
  · rw [vp_in_iff, e]; omega
  · rw [Int32.toNatClampNeg, e]
/-- an index that is in the row of a cell is a small number -/
theorem sz_le {D : va_G} {ws : va_W} {H : Heap} {h : PHp} {base : Nat} {ext : Nat → Nat} {cid : FieldType → ClassId} (hP : va_P D vwCl (cW base ext cid h) H) (h0 : 0 < h.length) : base + h.length ≤ H.size := by
  have hl : h.length - 1 < h.length := by omega
  have := (hP (h.length - 1) _ (cW_get (List.getElem?_eq_getElem hl))).lt
  dsimp only at this
  omega
theorem g_getf (hF : Fx base ext adV cid D X k p s m args meth c) {ix ci j c0 : Nat} {fs : List PV} {v : PV} (hd : decode (mC k) bp = .ok (.getfield ix, 3)) (hl : (0, ix, ci, j) ∈ lks (mO k)) (hj : j < (vC ci).2.2) (hci : ci < 12) (ho : hObj h c0 ci = some fs) (hv : fs[j]? = some v) (g : Gw base ext cid D k p l e R s m args below meth c Q (bp + 3) L (v :: st) h cs sl) : Gw base ext cid D k p l e R s m args below meth c Q bp L (vR (some c0) :: st) h cs sl := by
  obtain ⟨hx, hb, hml, hown, hts, hK, hE, hnm⟩ := hF
  intro H locs ls hL hP hsz hS hcs
  obtain ⟨hc0, hh⟩ := hObj_spec ho
  have he := cW_get (base := base) (ext := ext) (cid := cid) hh
  have hw := hts _ (lk_ok (mO k) _ hl (by simp) (by simp))
  have hg := g H locs ls hL hP hsz hS hcs
  show W _ _ _ _ _ _ _ _ _ _ _ _ _ _ _ (F0 m bp ls (.ref (adr base ext c0) :: _))
  rw [adr_lt hc0]
  exact va_get (C := (vC ci).1) (T := (vC ci).2.1) (N := (vC ci).2.2) hx hb hts (uw_all ci hci) hown hK hP c0 he (vC_at ci hci) j hj hw (fun x hx => hx) (by rw [List.getElem?_map, hv]; rfl) hd hg
theorem fit_ok {base : Nat} {ext : Nat → Nat} {ty : FieldType} {t : Nat} {v : PV} (h1 : tyC (some ty) = t) (h2 : t < 3) (h3 : fitF t v = true) : narrow ty (cV base ext v) = cV base ext v ∧ fits ty (cV base ext v) = true := by
  subst h1
  cases ty with
  | int =>
    match v, h3 with
    | .inl x, _ => exact ⟨rfl, rfl⟩
  | boolean =>
    match v, h3 with
    | .inl x, h3 =>
      have : x = 0 ∨ x = 1 := by simpa [fitF, tyC] using h3
      rcases this with rfl | rfl <;> exact ⟨rfl, rfl⟩
  | object C =>
    match v, h3 with
    | .inr (.inr (some x)), _ => exact ⟨rfl, rfl⟩
    | .inl x, h3 => simp [fitF, tyC] at h3
  | array C =>
    match v, h3 with
    | .inr (.inr (some x)), _ => exact ⟨rfl, rfl⟩
    | .inl x, h3 => simp [fitF, tyC] at h3
  | _ => simp [tyC] at h2
theorem g_putf (hF : Fx base ext adV cid D X k p s m args meth c) {ix ci j t c0 : Nat} {fs : List PV} {v : PV} (hd : decode (mC k) bp = .ok (.putfield ix, 3)) (hl : (0, ix, ci, j) ∈ lks (mO k)) (hj : j < (vC ci).2.2) (hci : ci < 12) (ht : ftC ci j = t) (ht3 : t < 3) (hfin : ((vC ci).2.1 j).2.2.2 = false ∨ ((mY k).name = "<init>" ∧ ((vC ci).2.1 j).1 = cN (mO k))) (ho : hObj h c0 ci = some fs) (hlen : j < fs.length) (hfit : fitF t v = true) (g : Gw base ext cid D k p l e R s m args below meth c Q (bp + 3) L st (h.set c0 (.inr (ci, fs.set j v))) cs sl) : Gw base ext cid D k p l e R s m args below meth c Q bp L (v :: vR (some c0) :: st) h cs sl := by
  obtain ⟨hx, hb, hml, hown, hts, hK, hE, hnm⟩ := hF
  intro H locs ls hL hP hsz hS hcs
  obtain ⟨hc0, hh⟩ := hObj_spec ho
  have he := cW_get (base := base) (ext := ext) (cid := cid) hh
  have hw := hts _ (lk_ok (mO k) _ hl (by simp) (by simp))
  have hpd := ty_all ci hci j hj
  have hf := fit_ok (base := base) (ext := ext) (ty := tyA ci j) (t := t) (v := v) (by rw [← ht, ftC, hpd]) ht3 hfit
  have h0 : 0 < h.length := by
    have := (List.getElem?_eq_some_iff.mp hh).1
    omega
  have hsetE : ∀ (H1 : Heap) (locs1 : List Loc), va_P D vwCl ((cW base ext cid h).set c0 (base + c0, .inr (ci, (fs.map (cV base ext)).set j (cV base ext v)))) H1 → va_D (fun q => base ≤ q) ((cW base ext cid h).set c0 (base + c0, .inr (ci, (fs.map (cV base ext)).set j (cV base ext v)))) → va_S (fun q => base ≤ q) s.heap H1 locs1 → W p l e R s m args below meth c H1 locs1 cs sl Q (F0 m (bp + 3) ls (st.map (cV base ext))) := by
    intro H1 locs1 hP1 _ hS1
    have e1 : (cW base ext cid h).set c0 (base + c0, .inr (ci, (fs.map (cV base ext)).set j (cV base ext v))) = cW base ext cid (h.set c0 (.inr (ci, fs.set j v))) := by
      rw [← cW_set]
      simp only [cE, List.map_set]
    rw [e1] at hP1
    refine W.sz fun hz => ?_
    have hz2 := sz_le (ws := []) hP1 (by rw [List.length_set]; exact h0)
    rw [List.length_set] at hz2
    exact g H1 locs1 ls hL hP1 (by rw [List.length_set]; omega) hS1 (by omega)
  show W _ _ _ _ _ _ _ _ _ _ _ _ _ _ _ (F0 m bp ls (cV base ext v :: .ref (adr base ext c0) :: _))
  rw [adr_lt hc0]
  rcases hfin with hfin | ⟨hin, hdecl⟩
  · exact va_put (C := (vC ci).1) (T := (vC ci).2.1) (N := (vC ci).2.2) hx hb hts (uw_all ci hci) (tyA ci) (ty_all ci hci) (nm_all ci hci) hown hK hP cW_D hS c0 he (vC_at ci hci) j hj hw (fun x hx => hx) hfin hpd hf.1 hf.2 (by rw [List.length_map]; exact hlen) hd hsetE
  · cases hfb : ((vC ci).2.1 j).2.2.2 with
    | false => exact va_put (C := (vC ci).1) (T := (vC ci).2.1) (N := (vC ci).2.2) hx hb hts (uw_all ci hci) (tyA ci) (ty_all ci hci) (nm_all ci hci) hown hK hP cW_D hS c0 he (vC_at ci hci) j hj hw (fun x hx => hx) hfb hpd hf.1 hf.2 (by rw [List.length_map]; exact hlen) hd hsetE
    | true => exact va_putF (C := (vC ci).1) (T := (vC ci).2.1) (N := (vC ci).2.2) hx hb hts (uw_all ci hci) (tyA ci) (ty_all ci hci) (nm_all ci hci) hown hK hP cW_D hS c0 he (vC_at ci hci) j hj hw (fun x hx => hx) hfb (hnm.1 hin) hdecl hpd hf.1 hf.2 (by rw [List.length_map]; exact hlen) hd hsetE

theorem g_gets (hF : Fx base ext adV cid D X k p s m args meth c) {ix j : Nat} (hd : decode (mC k) bp = .ok (.getstatic ix, 3)) (hl : (11, ix, j, 0) ∈ lks (mO k)) (hj : j < 3) (g : Gw base ext cid D k p l e R s m args below meth c Q (bp + 3) L (vR (some (PK + (11 + j))) :: st) h cs sl) : Gw base ext cid D k p l e R s m args below meth c Q bp L st h cs sl := by
  obtain ⟨hx, hb, hml, hown, hts, hK, hE, hnm⟩ := hF
  intro H locs ls hL hP hsz hS hcs
  have hg := g H locs ls hL hP hsz hS hcs
  rw [List.map_cons, show cV base ext (vR (some (PK + (11 + j)))) = .ref (ext (11 + j)) from by show Value.ref (if PK + (11 + j) < PK then _ else _) = _; rw [if_neg (by omega), Nat.add_sub_cancel_left]] at hg
  exact va_gets hx hb (hE.2.2.2.1 j hj) hS hown (hts _ (lk_ok (mO k) _ hl (by simp) (by simp))) (fun x hx => hx) hd hg
/-- a load from a row of ints -/
theorem g_iald (hF : Fx base ext adV cid D X k p s m args meth c) {c0 : Nat} {i x : Int} {a : Nat × (Nat → Int)} (hd : decode (mC k) bp = .ok (.iaload, 1)) (ho : xInt X h c0 = some a) (hi : at2 a.1 a.2 i = some x) (g : Gw base ext cid D k p l e R s m args below meth c Q (bp + 1) L (vI x :: st) h cs sl) : Gw base ext cid D k p l e R s m args below meth c Q bp L (vI i :: vR (some c0) :: st) h cs sl := by
  obtain ⟨hx, hb, hml, hown, hts, hK, hE, hnm⟩ := hF
  intro H locs ls hL hP hsz hS hcs
  unfold at2 at hi
  split at hi
  · next hr =>
    cases hi
    have hg := g H locs ls hL hP hsz hS hcs
    unfold xInt at ho
    by_cases hc : c0 < PK
    · rw [if_pos hc] at ho
      obtain ⟨-, hh, hn⟩ := hInt_spec ho
      have hx2 := ix_in hr.1 hr.2 (by omega)
      show W _ _ _ _ _ _ _ _ _ _ _ _ _ _ _ (F0 m bp ls (.int (Int32.ofInt i) :: .ref (adr base ext c0) :: _))
      rw [adr_lt hc]
      refine va_iald hx hb hK hP c0 0 (cW_get hh) rfl hx2.1 hd ?_
      rw [hx2.2]
      exact hg
    · rw [if_neg hc] at ho
      split at ho
      · cases ho
      · next h11 =>
        split at ho
        · next h15 =>
          cases ho
          obtain ⟨hT, hn⟩ := hE.2.2.2.2.1 (c0 - PK) (by omega) (by omega)
          have hx2 := ix_in hr.1 hr.2 (by omega)
          show W _ _ _ _ _ _ _ _ _ _ _ _ _ _ _ (F0 m bp ls (.int (Int32.ofInt i) :: .ref (adr base ext c0) :: _))
          rw [adr_ge hc]
          exact va_ti hx hb hT hS hx2.1 (by rw [hx2.2]; rfl) hd hg
        · cases ho
  · cases hi
theorem g_alen (hF : Fx base ext adV cid D X k p s m args meth c) {c0 : Nat} {a : Nat × (Nat → Int)} (hd : decode (mC k) bp = .ok (.arraylength, 1)) (ho : xInt X h c0 = some a) (g : Gw base ext cid D k p l e R s m args below meth c Q (bp + 1) L (vI a.1 :: st) h cs sl) : Gw base ext cid D k p l e R s m args below meth c Q bp L (vR (some c0) :: st) h cs sl := by
  obtain ⟨hx, hb, hml, hown, hts, hK, hE, hnm⟩ := hF
  intro H locs ls hL hP hsz hS hcs
  have hg := g H locs ls hL hP hsz hS hcs
  unfold xInt at ho
  by_cases hc : c0 < PK
  · rw [if_pos hc] at ho
    obtain ⟨-, hh, hn⟩ := hInt_spec ho
    show W _ _ _ _ _ _ _ _ _ _ _ _ _ _ _ (F0 m bp ls (.ref (adr base ext c0) :: _))
    rw [adr_lt hc]
    exact va_alen hx hb hK hP c0 0 (cW_get hh) rfl rfl hd hg
  · rw [if_neg hc] at ho
    split at ho
    · cases ho
    · next h11 =>
      split at ho
      · next h15 =>
        cases ho
        obtain ⟨hT, hn⟩ := hE.2.2.2.2.1 (c0 - PK) (by omega) (by omega)
        show W _ _ _ _ _ _ _ _ _ _ _ _ _ _ _ (F0 m bp ls (.ref (adr base ext c0) :: _))
        rw [adr_ge hc]
        exact va_tlen hx hb hT hS rfl hd hg
      · cases ho
theorem g_zald (hF : Fx base ext adV cid D X k p s m args meth c) {c0 : Nat} {i x : Int} {a : Nat × (Nat → Int)} (hd : decode (mC k) bp = .ok (.baload, 1)) (ho : hInt .boolean h c0 = some a) (hi : at2 a.1 a.2 i = some x) (g : Gw base ext cid D k p l e R s m args below meth c Q (bp + 1) L (vI x :: st) h cs sl) : Gw base ext cid D k p l e R s m args below meth c Q bp L (vI i :: vR (some c0) :: st) h cs sl := by
  obtain ⟨hx, hb, hml, hown, hts, hK, hE, hnm⟩ := hF
  intro H locs ls hL hP hsz hS hcs
  unfold at2 at hi
  split at hi
  · next hr =>
    cases hi
    have hg := g H locs ls hL hP hsz hS hcs
    obtain ⟨hc, hh, hn⟩ := hInt_spec ho
    have hx2 := ix_in hr.1 hr.2 (by omega)
    show W _ _ _ _ _ _ _ _ _ _ _ _ _ _ _ (F0 m bp ls (.int (Int32.ofInt i) :: .ref (adr base ext c0) :: _))
    rw [adr_lt hc]
    refine va_zald hx hb hK hP c0 1 (cW_get hh) rfl hx2.1 hd ?_
    rw [hx2.2]
    exact hg
  · cases hi
theorem g_lald (hF : Fx base ext adV cid D X k p s m args meth c) {c0 : Nat} {i x : Int} {a : Nat × (Nat → Int)} (hd : decode (mC k) bp = .ok (.laload, 1)) (ho : hLong h c0 = some a) (hi : at2 a.1 a.2 i = some x) (g : Gw base ext cid D k p l e R s m args below meth c Q (bp + 1) L (vL x :: st) h cs sl) : Gw base ext cid D k p l e R s m args below meth c Q bp L (vI i :: vR (some c0) :: st) h cs sl := by
  obtain ⟨hx, hb, hml, hown, hts, hK, hE, hnm⟩ := hF
  intro H locs ls hL hP hsz hS hcs
  unfold at2 at hi
  split at hi
  · next hr =>
    cases hi
    have hg := g H locs ls hL hP hsz hS hcs
    obtain ⟨hc, hh, hn⟩ := hLong_spec ho
    have hx2 := ix_in hr.1 hr.2 (by omega)
    show W _ _ _ _ _ _ _ _ _ _ _ _ _ _ _ (F0 m bp ls (.int (Int32.ofInt i) :: .ref (adr base ext c0) :: _))
    rw [adr_lt hc]
    refine va_lald hx hb hK hP c0 2 (cW_get hh) rfl hx2.1 hd ?_
    rw [hx2.2]
    exact hg
  · cases hi
theorem g_aald (hF : Fx base ext adV cid D X k p s m args meth c) {c0 t0 : Nat} {i : Int} {C : String} {n : Nat} {f : Nat → Option Nat} (hd : decode (mC k) bp = .ok (.aaload, 1)) (ho : hRef h c0 = some (.object C, n, f)) (ht : (tysL cid)[t0]? = some (cid (.object C), .object C)) (h0 : 0 ≤ i) (h1 : i < n) (g : Gw base ext cid D k p l e R s m args below meth c Q (bp + 1) L (vR (f i.toNat) :: st) h cs sl) : Gw base ext cid D k p l e R s m args below meth c Q bp L (vI i :: vR (some c0) :: st) h cs sl := by
  obtain ⟨hx, hb, hml, hown, hts, hK, hE, hnm⟩ := hF
  intro H locs ls hL hP hsz hS hcs
  have hg := g H locs ls hL hP hsz hS hcs
  obtain ⟨hc, hh, hn⟩ := hRef_spec ho
  have hx2 := ix_in h0 h1 (by simp only at hn; omega)
  show W _ _ _ _ _ _ _ _ _ _ _ _ _ _ _ (F0 m bp ls (.int (Int32.ofInt i) :: .ref (adr base ext c0) :: _))
  rw [adr_lt hc]
  refine va_aldq hx hb hK hP c0 t0 (cW_get hh) ht hx2.1 hd ?_
  rw [hx2.2, cV_rf]
  exact hg
theorem up_int (f : Nat → Int) (i : Nat) (x : Int) : (fun j => Int32.ofInt (up f i x j)) = upd (fun j => Int32.ofInt (f j)) i (Int32.ofInt x) := by
  funext j
  unfold up upd
  split <;> rfl
theorem up_long (f : Nat → Int) (i : Nat) (x : Int) : (fun j => Int64.ofInt (up f i x j)) = vp_updL (fun j => Int64.ofInt (f j)) i (Int64.ofInt x) := by
  funext j
  unfold up vp_updL
  split <;> rfl
theorem up_ref (base : Nat) (ext : Nat → Nat) (f : Nat → Option Nat) (i : Nat) (x : Nat) : (fun j => (up f i (some x) j).map (adr base ext)) = va_up (fun j => (f j).map (adr base ext)) i (some (adr base ext x)) := by
  funext j
  unfold up va_up
  split <;> rfl
/-- behind a write: the heap has the size it had -/
theorem wr_on {c0 : Nat} {e1 : PE} {bp2 : Nat} {st2 : List PV} (g : Gw base ext cid D k p l e R s m args below meth c Q bp2 L st2 (h.set c0 e1) cs sl) {H : Heap} {ls : Array Slot} (h0 : 0 < h.length) (hL : LR base ext ls (mL k) L) (hsz : H.size = base + h.length) (hcs : s.heap.size + cs = H.size) {E1 : va_E} (hE1 : cE base ext cid e1 = E1) : ∀ (H1 : Heap) (locs1 : List Loc), va_P D vwCl ((cW base ext cid h).set c0 (base + c0, E1)) H1 → va_D (fun q => base ≤ q) ((cW base ext cid h).set c0 (base + c0, E1)) → va_S (fun q => base ≤ q) s.heap H1 locs1 → W p l e R s m args below meth c H1 locs1 cs sl Q (F0 m bp2 ls (st2.map (cV base ext))) := by
  intro H1 locs1 hP1 _ hS1
  subst hE1
  rw [cW_set] at hP1
  refine W.sz fun hz => ?_
  have hz2 := sz_le (ws := []) hP1 (by rw [List.length_set]; exact h0)
  rw [List.length_set] at hz2
  exact g H1 locs1 ls hL hP1 (by rw [List.length_set]; omega) hS1 (by omega)
theorem pos_of {h : PHp} {c0 : Nat} {e : PE} (hh : h[c0]? = some e) : 0 < h.length := by
  have := (List.getElem?_eq_some_iff.mp hh).1
  omega
theorem g_iast (hF : Fx base ext adV cid D X k p s m args meth c) {c0 : Nat} {i x : Int} {a : Nat × (Nat → Int)} (hd : decode (mC k) bp = .ok (.iastore, 1)) (ho : hInt .int h c0 = some a) (h0 : 0 ≤ i) (h1 : i < a.1) (g : Gw base ext cid D k p l e R s m args below meth c Q (bp + 1) L st (h.set c0 (.inl (.int, a.1, .inl (up a.2 i.toNat x)))) cs sl) : Gw base ext cid D k p l e R s m args below meth c Q bp L (vI x :: vI i :: vR (some c0) :: st) h cs sl := by
  obtain ⟨hx, hb, hml, hown, hts, hK, hE, hnm⟩ := hF
  intro H locs ls hL hP hsz hS hcs
  obtain ⟨hc, hh, hn⟩ := hInt_spec ho
  have hx2 := ix_in h0 h1 (by omega)
  show W _ _ _ _ _ _ _ _ _ _ _ _ _ _ _ (F0 m bp ls (.int (Int32.ofInt x) :: .int (Int32.ofInt i) :: .ref (adr base ext c0) :: _))
  rw [adr_lt hc]
  refine va_iast hx hb hK hP cW_D hS c0 0 (cW_get hh) rfl hx2.1 hd (wr_on g (pos_of hh) hL hsz hcs ?_)
  rw [hx2.2, ← up_int]
  rfl
theorem g_zast (hF : Fx base ext adV cid D X k p s m args meth c) {c0 : Nat} {i x : Int} {a : Nat × (Nat → Int)} (hd : decode (mC k) bp = .ok (.bastore, 1)) (ho : hInt .boolean h c0 = some a) (h0 : 0 ≤ i) (h1 : i < a.1) (hx01 : x = 0 ∨ x = 1) (g : Gw base ext cid D k p l e R s m args below meth c Q (bp + 1) L st (h.set c0 (.inl (.boolean, a.1, .inl (up a.2 i.toNat x)))) cs sl) : Gw base ext cid D k p l e R s m args below meth c Q bp L (vI x :: vI i :: vR (some c0) :: st) h cs sl := by
  obtain ⟨hx, hb, hml, hown, hts, hK, hE, hnm⟩ := hF
  intro H locs ls hL hP hsz hS hcs
  obtain ⟨hc, hh, hn⟩ := hInt_spec ho
  have hx2 := ix_in h0 h1 (by omega)
  show W _ _ _ _ _ _ _ _ _ _ _ _ _ _ _ (F0 m bp ls (.int (Int32.ofInt x) :: .int (Int32.ofInt i) :: .ref (adr base ext c0) :: _))
  rw [adr_lt hc]
  refine va_zast hx hb hK hP cW_D hS c0 1 (cW_get hh) rfl hx2.1 hd (wr_on g (pos_of hh) hL hsz hcs ?_)
  rw [hx2.2, show vp_nar .boolean (Int32.ofInt x) = Int32.ofInt x from by rcases hx01 with rfl | rfl <;> rfl, ← up_int]
  rfl
theorem g_last (hF : Fx base ext adV cid D X k p s m args meth c) {c0 : Nat} {i x : Int} {a : Nat × (Nat → Int)} (hd : decode (mC k) bp = .ok (.lastore, 1)) (ho : hLong h c0 = some a) (h0 : 0 ≤ i) (h1 : i < a.1) (g : Gw base ext cid D k p l e R s m args below meth c Q (bp + 1) L st (h.set c0 (.inl (.long, a.1, .inr (.inl (up a.2 i.toNat x))))) cs sl) : Gw base ext cid D k p l e R s m args below meth c Q bp L (vL x :: vI i :: vR (some c0) :: st) h cs sl := by
  obtain ⟨hx, hb, hml, hown, hts, hK, hE, hnm⟩ := hF
  intro H locs ls hL hP hsz hS hcs
  obtain ⟨hc, hh, hn⟩ := hLong_spec ho
  have hx2 := ix_in h0 h1 (by omega)
  show W _ _ _ _ _ _ _ _ _ _ _ _ _ _ _ (F0 m bp ls (.long (Int64.ofInt x) :: .int (Int32.ofInt i) :: .ref (adr base ext c0) :: _))
  rw [adr_lt hc]
  refine va_last hx hb hK hP cW_D hS c0 2 (cW_get hh) rfl hx2.1 hd (wr_on g (pos_of hh) hL hsz hcs ?_)
  rw [hx2.2, ← up_long]
  rfl
theorem g_aast (hF : Fx base ext adV cid D X k p s m args meth c) {c0 v ci t0 n : Nat} {i : Int} {f : Nat → Option Nat} (hd : decode (mC k) bp = .ok (.aastore, 1)) (ho : hRef h c0 = some (.object (vC ci).1, n, f)) (hci : ci < 12) (hv : (hObj h v ci).isSome = true) (ht : (tysL cid)[t0]? = some (cid (.object (vC ci).1), .object (vC ci).1)) (h0 : 0 ≤ i) (h1 : i < n) (g : Gw base ext cid D k p l e R s m args below meth c Q (bp + 1) L st (h.set c0 (.inl (.object (vC ci).1, n, .inr (.inr (up f i.toNat (some v)))))) cs sl) : Gw base ext cid D k p l e R s m args below meth c Q bp L (vR (some v) :: vI i :: vR (some c0) :: st) h cs sl := by
  obtain ⟨hx, hb, hml, hown, hts, hK, hE, hnm⟩ := hF
  intro H locs ls hL hP hsz hS hcs
  obtain ⟨hc, hh, hn⟩ := hRef_spec ho
  obtain ⟨fs, hfs⟩ := Option.isSome_iff_exists.mp hv
  obtain ⟨hvc, hvh⟩ := hObj_spec hfs
  have hx2 := ix_in h0 h1 (by simp only at hn; omega)
  show W _ _ _ _ _ _ _ _ _ _ _ _ _ _ _ (F0 m bp ls (.ref (adr base ext v) :: .int (Int32.ofInt i) :: .ref (adr base ext c0) :: _))
  rw [adr_lt hc, adr_lt hvc]
  refine va_astq (r := vC ci) hx hb hK hP cW_D hS c0 t0 v ci (cW_get hh) ht (cW_get hvh) (vC_at ci hci) hx2.1 hd (wr_on g (pos_of hh) hL hsz hcs ?_)
  rw [hx2.2, ← adr_lt (base := base) (ext := ext) hvc, ← up_ref]
  rfl
/-- a new cell lies behind all others -/
theorem new_on {e1 : PE} {bp2 q n1 : Nat} {st2 : List PV} (g : Gw base ext cid D k p l e R s m args below meth c Q bp2 L (vR (some h.length) :: st2) (h ++ [e1]) (cs + 1) n1) (hk : h.length < PK) {H : Heap} {ls : Array Slot} (hL : LR base ext ls (mL k) L) (hsz : H.size = base + h.length) (hcs : s.heap.size + cs = H.size) {E1 : va_E} (hE1 : cE base ext cid e1 = E1) (H1 : Heap) (locs1 : List Loc) (hP1 : va_P D vwCl (cW base ext cid h ++ [(q, E1)]) H1) (hD1 : va_D (fun q => base ≤ q) (cW base ext cid h ++ [(q, E1)])) (hS1 : va_S (fun q => base ≤ q) s.heap H1 locs1) : W p l e R s m args below meth c H1 locs1 (cs + 1) n1 Q (F0 m bp2 ls (.ref q :: st2.map (cV base ext))) := by
  refine W.sz fun hz => ?_
  have hlast : (cW base ext cid h ++ [(q, E1)])[h.length]? = some (q, E1) := by
    rw [List.getElem?_append_right (by rw [cW_len]; omega), cW_len, Nat.sub_self]
    rfl
  have hq1 : q < H1.size := (hP1 h.length _ hlast).lt
  have hq2 : base ≤ q := hD1.2 _ _ hlast
  have hq3 : ∀ i, i < h.length → q ≠ base + i := by
    intro i hi he
    have hi2 : (cW base ext cid h ++ [(q, E1)])[i]? = some (base + i, cE base ext cid h[i]) := by
      rw [List.getElem?_append_left (by rw [cW_len]; exact hi)]
      exact cW_get (List.getElem?_eq_getElem hi)
    have := hD1.1 _ _ _ _ hlast hi2 he
    omega
  have hq : q = base + h.length := by
    rcases Nat.lt_or_ge q (base + h.length) with w | w
    · exact absurd (show q = base + (q - base) by omega) (hq3 (q - base) (by omega))
    · omega
  subst hq
  subst hE1
  rw [cW_push] at hP1
  have hg := g H1 locs1 ls hL hP1 (by rw [List.length_append]; simp only [List.length_singleton]; omega) hS1 (by omega)
  rw [List.map_cons, show cV base ext (vR (some h.length)) = .ref (base + h.length) from congrArg Value.ref (adr_lt hk)] at hg
  exact hg

end ROWS
