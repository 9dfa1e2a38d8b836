/-! A RUN OF THE PURE MACHINE IS A RUN OF THE MACHINE -/
def isEnd (ins : Instr) : Bool := match ins with
  | .ireturn | .lreturn | .return_ | .invokevirtual _ | .invokespecial _ | .invokestatic _ => true
  | _ => false
set_option maxHeartbeats 4000000 in
theorem stp_inr {X : PX} {bp ln : Nat} {ins : Instr} {ar : List Nat} {z : Int} {c : PC} {w : Option PV ⊕ (Nat × List PV × List PV)} (hs : stp X (bp, ins, ln, ar, z) c = some (.inr w)) : isEnd ins = true := by
  obtain ⟨i, L, st, h, cs, sl⟩ := c
  have hnx : ∀ {i : Nat} {L : PL} {st : List PV} {h : PHp} {cs sl : Nat}, nx i L st h cs sl = some (.inr w) → False := by
    intro i L st h cs sl q
    simp [nx] at q
  cases ins <;> first
    | rfl
    | (exfalso; cases hs; done)
    | (exfalso; exact hnx hs)
    | (exfalso; obtain ⟨_, _, _, _, _, _, hs⟩ := i2_spec hs; exact hnx hs)
    | (exfalso; obtain ⟨_, _, _, _, _, _, hs⟩ := l2_spec hs; exact hnx hs)
    | (exfalso; obtain ⟨_, _, _, _, _, _, hs⟩ := li2_spec hs; exact hnx hs)
    | (exfalso; rcases ld_spec hs with ⟨_, _, _, hs⟩ | ⟨_, _, _, hs⟩ | ⟨_, _, _, hs⟩ <;> exact hnx hs)
    | (exfalso; dsimp only [stp] at hs; split at hs <;> first | (cases hs; done) | exact hnx hs | (split at hs <;> first | (cases hs; done) | exact hnx hs | (split at hs <;> first | (cases hs; done) | exact hnx hs)))
    | (exfalso; dsimp only [stp] at hs; split at hs <;> first | (cases hs; done) | (obtain ⟨a, ho, hs⟩ := Option.bind_eq_some_iff.mp hs; first | exact hnx hs | (split at hs <;> first | (cases hs; done) | exact hnx hs) | (obtain ⟨x, hi, hs⟩ := Option.bind_eq_some_iff.mp hs; exact hnx hs)))
section MAIN
variable {base : Nat} {ext adV : Nat → Nat} {cid : FieldType → ClassId} {D : va_G} {X : PX} {k : Nat} {p : Program} {l : Launch} {e : Env} {R : Room} {s : State} {m : MethodId} {args : Array Value} {below : List Frame} {meth : Method} {c : Code} {Q : State → Prop} {bp : Nat} {L : PL} {st : List PV} {h : PHp} {cs sl : Nat}
theorem cal_ok {c n : Nat} (h : calC (mt k) c n = true) : c < 284 ∧ mFr c + 1 ≤ mFr k ∧ 8 + (mL c + 11) + mLo c ≤ mLo k ∧ (parseMethodDescriptor (mY c).desc).map (fun d => d.parameters.length) = some n := by
  simp only [calC, Bool.and_eq_true, decide_eq_true_eq] at h
  exact ⟨h.1.1.1, h.1.1.2, h.1.2, h.2⟩
theorem ret_init {c : Nat} (hc : c < 284) (h2 : mK c = 2) : mR c = none := of_decide_eq_true (by
  have := List.all_eq_true.mp (show (List.range 284).all (fun c => !decide (mK c = 2) || decide (mR c = none)) = true by decide +kernel) c (List.mem_range.mpr hc)
  simp only [Bool.or_eq_true, Bool.not_eq_true', decide_eq_false_iff_not, decide_eq_true_eq, h2, not_true_eq_false, false_or] at this
  exact decide_eq_true this)
set_option maxHeartbeats 4000000 in
theorem stp_call (hF : Fx base ext adV cid D X k p s m args meth c) (hR : mFr k ≤ R.frames ∧ mLo k ≤ R.locals ∧ mMc k ≤ R.cells ∧ mMs k ≤ R.slots) {i ln : Nat} {ins : Instr} {ar : List Nat} {z : Int} (hd : decode (mC k) bp = .ok (ins, ln)) (hI : chkI (mt k) (lks (mO k)) (cds k) i (bp, ins, ln, ar, z) = true) {k2 : Nat} {as r : List PV} (hs : stp X (bp, ins, ln, ar, z) (i, L, st, h, cs, sl) = some (.inr (.inr (k2, as, r)))) : k2 < 284 ∧ bpOf (cds k) (i + 1) = some (bp + 3) ∧ ∀ (v : Option PV) (h2 : PHp), cs + mMc k2 ≤ mMc k → sl + mMs k2 ≤ mMs k → MetP base ext adV cid D X l (mY k2) (mW k2) (mRm k2) (mMc k2) (mMs k2) as h v h2 → Gw base ext cid D k p l e R s m args below meth c Q (bp + 3) L (v.toList ++ r) h2 (cs + mMc k2) (sl + mMs k2) → Gw base ext cid D k p l e R s m args below meth c Q bp L st h cs sl := by
  have hend := stp_inr hs
  have hdef := fun q => chk_def hI q
  cases ins <;> first | (cases hend; done) | skip
  case ireturn => dsimp only [stp] at hs; split at hs <;> first | (cases hs; done) | (split at hs <;> cases hs)
  case lreturn => dsimp only [stp] at hs; split at hs <;> first | (cases hs; done) | (split at hs <;> cases hs)
  case return_ => dsimp only [stp] at hs; split at hs <;> first | (cases hs; done) | (split at hs <;> cases hs)
  case invokevirtual ix =>
    have hX := ((Bool.and_eq_true _ _).mp hI).2
    obtain ⟨hn, hln⟩ := hdef rfl
    subst hln
    dsimp only at hX
    dsimp only [stp] at hs
    split at hs
    · split at hs
      · split at hs
        · simp [nx] at hs
        · cases hs
      · cases hs
    · next h9 =>
      rw [if_neg h9] at hX
      split at hs
      · split at hs
        · split at hs
          · obtain ⟨x, hi, hs⟩ := Option.bind_eq_some_iff.mp hs
            simp [nx] at hs
          · cases hs
        · cases hs
      · next h8 =>
        rw [if_neg h8] at hX
        simp only [Bool.and_eq_true, decide_eq_true_eq] at hX
        obtain ⟨⟨⟨⟨hX1, hX2⟩, hX3⟩, hX4⟩, hX5⟩ := hX
        obtain ⟨c1, c2, c3, c4⟩ := cal_ok hX2
        split at hs
        · next c0 r0 hdr =>
          split at hs
          · next hr =>
            cases hs
            exact ⟨c1, hn, fun v h2 q1 q2 hM g => g_virt hF hd (List.contains_iff_mem.mp hX1) c1 hX3 hX4 hX5 c4 (by omega) (by omega) hdr hr.1 hr.2 (by omega) (by omega) hM g⟩
          · cases hs
        · cases hs
  case invokespecial ix =>
    have hX := ((Bool.and_eq_true _ _).mp hI).2
    obtain ⟨hn, hln⟩ := hdef rfl
    subst hln
    dsimp only at hX
    dsimp only [stp] at hs
    split at hs
    · next c0 r0 hdr =>
      split at hs
      · split at hs
        · simp [nx] at hs
        · cases hs
      · next h9 =>
        rw [if_neg h9] at hX
        simp only [Bool.and_eq_true, Bool.or_eq_true, decide_eq_true_eq] at hX
        obtain ⟨⟨hX1, hX2⟩, hX3⟩ := hX
        obtain ⟨c1, c2, c3, c4⟩ := cal_ok hX2
        split at hs
        · next hr =>
          cases hs
          exact ⟨c1, hn, fun v h2 q1 q2 hM g => g_spec hF hd (hX1.imp List.contains_iff_mem.mp List.contains_iff_mem.mp) c1 hX3 (ret_init c1 hX3) c4 (by omega) (by omega) hdr hr (by omega) (by omega) hM g⟩
        · cases hs
    · cases hs
  case invokestatic ix =>
    have hX := ((Bool.and_eq_true _ _).mp hI).2
    obtain ⟨hn, hln⟩ := hdef rfl
    subst hln
    dsimp only at hX
    dsimp only [stp] at hs
    split at hs
    · split at hs
      · obtain ⟨a, ha, hs⟩ := Option.bind_eq_some_iff.mp hs
        obtain ⟨b, hb3, hs⟩ := Option.bind_eq_some_iff.mp hs
        split at hs
        · simp [nx] at hs
        · cases hs
      · cases hs
    · next h9 =>
      rw [if_neg h9] at hX
      split at hs
      · split at hs
        · split at hs
          · simp [nx] at hs
          · cases hs
        · cases hs
      · next h4 =>
        rw [if_neg h4] at hX
        split at hs
        · split at hs
          · split at hs
            · simp [nx] at hs
            · cases hs
          · cases hs
        · next h5 =>
          rw [if_neg h5] at hX
          split at hs
          · split at hs
            · split at hs
              · simp [nx] at hs
              · cases hs
            · cases hs
          · next h6 =>
            rw [if_neg h6] at hX
            simp only [Bool.and_eq_true, decide_eq_true_eq] at hX
            obtain ⟨⟨hX1, hX2⟩, hX3⟩ := hX
            obtain ⟨c1, c2, c3, c4⟩ := cal_ok hX2
            split at hs
            · next hr =>
              cases hs
              exact ⟨c1, hn, fun v h2 q1 q2 hM g => g_stat hF hd (List.contains_iff_mem.mp hX1) c1 hX3 c4 (by omega) (by omega) hr.1 hr.2 (by omega) (by omega) hM g⟩
            · cases hs
theorem stp_ret (hF : Fx base ext adV cid D X k p s m args meth c) (hr : meth.sig.returnType = mR k) (hlk : meth.locks = false) {i ln n0 : Nat} {ins : Instr} {ar : List Nat} {z : Int} {v : Option PV} (hd : decode (mC k) bp = .ok (ins, ln)) (hI : chkI (mt k) (lks (mO k)) (cds k) i (bp, ins, ln, ar, z) = true) (hs : stp X (bp, ins, ln, ar, z) (i, L, st, h, cs, sl) = some (.inr (.inl v))) (hs0 : s.heap.size = base + n0) : Gw base ext cid D k p l e R s m args below meth c (QE base ext cid D args s below (n0 + mMc k) (mMc k) (mMs k) v h) bp L st h cs sl := by
  have hend := stp_inr hs
  cases ins <;> first | (cases hend; done) | skip
  case ireturn =>
    have hY := (Bool.and_eq_true _ _).mp hI
    have hZ := (Bool.and_eq_true _ _).mp hY.1
    have hW := (Bool.and_eq_true _ _).mp hZ.1
    have hln := of_decide_eq_true hY.2
    have hms := of_decide_eq_true hZ.2
    have hmc := of_decide_eq_true hW.2
    have hk := hW.1
    subst hln
    dsimp only [stp] at hs
    split at hs
    · next x =>
      split at hs
      · next hq =>
        cases hs
        obtain ⟨q1, q2, q3⟩ := hq
        rw [hmc] at q1
        rw [hms] at q2
        subst q1
        subst q2
        refine g_iret hF hr hlk hd ?_ hs0
        simp only [Bool.or_eq_true, Bool.and_eq_true, beq_iff_eq, decide_eq_true_eq] at hk
        rcases hk with hk | hk
        · exact Or.inl hk.2
        · refine Or.inr ⟨hk.2, ?_⟩
          rcases q3 with q3 | q3
          · omega
          · exact q3
      · cases hs
    · cases hs
  case lreturn =>
    have hY := (Bool.and_eq_true _ _).mp hI
    have hZ := (Bool.and_eq_true _ _).mp hY.1
    have hW := (Bool.and_eq_true _ _).mp hZ.1
    have hln := of_decide_eq_true hY.2
    have hms := of_decide_eq_true hZ.2
    have hmc := of_decide_eq_true hW.2
    have hk := of_decide_eq_true hW.1
    subst hln
    dsimp only [stp] at hs
    split at hs
    · next x =>
      split at hs
      · next hq =>
        cases hs
        obtain ⟨q1, q2⟩ := hq
        rw [hmc] at q1
        rw [hms] at q2
        subst q1
        subst q2
        exact g_lret hF hr hlk hd hk hs0
      · cases hs
    · cases hs
  case return_ =>
    have hY := (Bool.and_eq_true _ _).mp hI
    have hZ := (Bool.and_eq_true _ _).mp hY.1
    have hW := (Bool.and_eq_true _ _).mp hZ.1
    have hln := of_decide_eq_true hY.2
    have hms := of_decide_eq_true hZ.2
    have hmc := of_decide_eq_true hW.2
    have hk := of_decide_eq_true hW.1
    subst hln
    dsimp only [stp] at hs
    split at hs
    · split at hs
      · next hq =>
        cases hs
        obtain ⟨q1, q2⟩ := hq
        rw [hmc] at q1
        rw [hms] at q2
        subst q1
        subst q2
        exact g_vret hF hr hlk hd hk hs0
      · cases hs
    · cases hs
  case invokevirtual ix =>
    dsimp only [stp] at hs
    split at hs
    · split at hs <;> first | (cases hs; done) | (split at hs <;> first | (cases hs; done) | (simp [nx] at hs; done))
    · split at hs
      · split at hs <;> first | (cases hs; done) | (split at hs <;> first | (cases hs; done) | (obtain ⟨x, hi, hs⟩ := Option.bind_eq_some_iff.mp hs; simp [nx] at hs; done))
      · split at hs <;> first | (cases hs; done) | (split at hs <;> cases hs)
  case invokespecial ix =>
    dsimp only [stp] at hs
    split at hs
    · split at hs
      · split at hs <;> first | (cases hs; done) | (simp [nx] at hs; done)
      · split at hs <;> cases hs
    · cases hs
  case invokestatic ix =>
    dsimp only [stp] at hs
    split at hs
    · split at hs
      · obtain ⟨a, ha, hs⟩ := Option.bind_eq_some_iff.mp hs
        obtain ⟨b, hb3, hs⟩ := Option.bind_eq_some_iff.mp hs
        split at hs <;> first | (cases hs; done) | (simp [nx] at hs; done)
      · cases hs
    · split at hs
      · split at hs <;> first | (cases hs; done) | (split at hs <;> first | (cases hs; done) | (simp [nx] at hs; done))
      · split at hs
        · split at hs <;> first | (cases hs; done) | (split at hs <;> first | (cases hs; done) | (simp [nx] at hs; done))
        · split at hs
          · split at hs <;> first | (cases hs; done) | (split at hs <;> first | (cases hs; done) | (simp [nx] at hs; done))
          · split at hs <;> cases hs
end MAIN
/-- what a run says, of any frame that runs it -/
def SndN (base : Nat) (ext adV : Nat → Nat) (cid : FieldType → ClassId) (D : va_G) (X : PX) (l : Launch) (n : Nat) : Prop :=
  ∀ (k : Nat), k < 285 → ∀ (i : Nat) (L : PL) (st : List PV) (h : PHp) (cs sl : Nat) (v : Option PV) (h2 : PHp), run X cds mi n k (i, L, st, h, cs, sl) = some (v, h2) →
  ∀ (p : Program) (e : Env) (R : Room) (s : State) (m : MethodId) (args : Array Value) (below : List Frame) (meth : Method) (c : Code) (Q : State → Prop), Fx base ext adV cid D X k p s m args meth c →
  (mFr k ≤ R.frames ∧ mLo k ≤ R.locals ∧ mMc k ≤ R.cells ∧ mMs k ≤ R.slots) → (cs ≤ mMc k ∧ sl ≤ mMs k) →
  (∀ (i : Nat) (L : PL) (st : List PV) (cs sl : Nat) (en : PEn), (cds k)[i]? = some en → stp X en (i, L, st, h2, cs, sl) = some (.inr (.inl v)) → Gw base ext cid D k p l e R s m args below meth c Q en.1 L st h2 cs sl) →
  ∀ bp, bpOf (cds k) i = some bp → Gw base ext cid D k p l e R s m args below meth c Q bp L st h cs sl
theorem bp_0 : (List.range 285).all (fun k => decide (bpOf (cds k) 0 = some 0)) = true := by decide +kernel
theorem metP_of {base : Nat} {ext adV : Nat → Nat} {cid : FieldType → ClassId} {D : va_G} {X : PX} {l : Launch} (OK : ∀ k, k < 285 → okM (mt k) (lks (mO k)) (cds k)) {n : Nat} (IH : SndN base ext adV cid D X l n) {k : Nat} (hk : k < 284) {as : List PV} {h h2 : PHp} {v : Option PV} (hlen : (pargs as).length ≤ mL k) (hrun : run X cds mi n k (0, pent (mL k) as, [], h, 0, 0) = some (v, h2)) : MetP base ext adV cid D X l (mY k) (mW k) (mRm k) (mMc k) (mMs k) as h v h2 := by
  refine Met.ofW (cc := mC k) (maxL := mL k) (ret := mR k) (me_fa hk).2.2.2.2 rfl ?_
  intro p e s m args below meth c s₁ B hml hv
  obtain ⟨rfl, hP, hsz, hK, hE⟩ := hv
  have hts0 := atoms_spec (ws := mW k) B.pre
  have hts : ∀ w ∈ TB, w.before (as.map (cV base ext)).toArray s = true := fun w hw => hts0 w (List.mem_cons_of_mem _ hw)
  have hown : s.vm.findClass (mY k).cls = some m.cls := findClass_of_methodNamed B.named
  have hF : Fx base ext adV cid D X k p s m (as.map (cV base ext)).toArray meth c := ⟨B.exec, B.bytes, hml, by rw [own_of (by omega)]; exact hown, hts, hK, hE, fun q => (name_of_methodNamed B.named B.method).1.trans q, by omega⟩
  have hret : ∀ (i : Nat) (L : PL) (st : List PV) (cs sl : Nat) (en : PEn), (cds k)[i]? = some en → stp X en (i, L, st, h2, cs, sl) = some (.inr (.inl v)) → Gw base ext cid D k p l e (mRm k) s m (as.map (cV base ext)).toArray below meth c (QE base ext cid D (as.map (cV base ext)).toArray s below (h.length + mMc k) (mMc k) (mMs k) v h2) en.1 L st h2 cs sl := by
    intro i L st cs sl en hen hst
    obtain ⟨bp, ins, ln, ar, z⟩ := en
    have ok := OK k (by omega) i _ hen
    exact stp_ret hF B.returns B.notSynchronized ok.1 ok.2 hst hsz
  have hb0 : bpOf (cds k) 0 = some 0 := of_decide_eq_true (List.all_eq_true.mp bp_0 k (List.mem_range.mpr (by omega)))
  have G := IH k (by omega) 0 _ [] h 0 0 v h2 hrun p e (mRm k) s m _ below meth c _ hF ⟨Nat.le_refl _, Nat.le_refl _, Nat.le_refl _, Nat.le_refl _⟩ ⟨Nat.zero_le _, Nat.zero_le _⟩ hret 0 hb0
  rw [lg_entry_eq]
  exact G s.heap [] _ (LR_entry hlen) hP hsz va_S.rf (by omega)
theorem snd_all {base : Nat} {ext adV : Nat → Nat} {cid : FieldType → ClassId} {D : va_G} {X : PX} {l : Launch} (OK : ∀ k, k < 285 → okM (mt k) (lks (mO k)) (cds k)) (hSt : StrOk base ext adV cid D X l) : ∀ n, SndN base ext adV cid D X l n := by
  intro n
  induction n with
  | zero =>
    intro k hk i L st h cs sl v h2 hrun
    simp [run] at hrun
  | succ n IH =>
    intro k hk i L st h cs sl v h2 hrun p e R s m args below meth c Q hF hR hb0 hret bp hbp
    unfold run at hrun
    dsimp only at hrun
    split at hrun
    · cases hrun
    · next en hen =>
      obtain ⟨bp2, ins, ln, ar, z⟩ := en
      have hbb : bp = bp2 := by
        unfold bpOf at hbp
        rw [hen] at hbp
        exact (Option.some.inj hbp).symm
      subst hbb
      have ok := OK k hk i _ hen
      split at hrun
      · cases hrun
      · next d hst =>
        obtain ⟨i2, L2, st2, h3, cs2, sl2⟩ := d
        split at hrun
        · next hbd => exact stp_next hk hF hSt hR ok.1 ok.2 hst hb0 hbd (fun bp3 hb3 => IH k hk i2 L2 st2 h3 cs2 sl2 v h2 hrun p e R s m args below meth c Q hF hR hbd hret bp3 hb3)
        · cases hrun
      · next w hst =>
        cases hrun
        exact hret i L st cs sl _ hen hst
      · next k2 as r hst =>
        split at hrun
        · next hbd =>
          split at hrun
          · cases hrun
          · next w h3 hr2 =>
            obtain ⟨hk2, hn, key⟩ := stp_call (base := base) (ext := ext) (adV := adV) (cid := cid) (D := D) (l := l) (below := below) (e := e) (Q := Q) hF hR ok.1 ok.2 hst
            exact key w h3 hbd.1 hbd.2.1 (metP_of OK IH hk2 hbd.2.2 hr2) (IH k hk (i + 1) L (w.toList ++ r) h3 (cs + mMc k2) (sl + mMs k2) v h2 hrun p e R s m args below meth c Q hF hR ⟨hbd.1, hbd.2.1⟩ hret (bp + 3) hn)
        · cases hrun
