/-! WHAT A FRAME KNOWS: the tables, the classes, what lies outside and is only read -/
def sLen : List Nat := [5, 5, 6, 5, 3, 4, 4, 3, 4, 3, 4]
def sByt : List (List Int32) := [[113, 117, 111, 116, 97], [112, 114, 105, 99, 101], [111, 102, 102, 105, 99, 101], [104, 111, 117, 115, 101], [116, 105, 101], [112, 97, 99, 116], [121, 101, 97, 114], [98, 117, 121], [108, 111, 115, 101], [99, 117, 116], [112, 97, 105, 100]]
def tysL (cid : FieldType → ClassId) : List (ClassId × FieldType) := [(cid .int, .int), (cid .boolean, .boolean), (cid .long, .long), (cid (.object (vC 6).1), .object (vC 6).1), (cid (.object (vC 7).1), .object (vC 7).1), (cid (.object (vC 9).1), .object (vC 9).1)]
def EX (base : Nat) (ext adV : Nat → Nat) (X : PX) (U : State) : Prop :=
  (∀ (o ix k b : Nat), (2, ix, k, b) ∈ lks o → va_Nw (.methodLinkNest (cN o) ix (mY k) "QuotaParish") U) ∧
  (∀ (o ix j b : Nat), (6, ix, j, b) ∈ lks o → vk_R (cN o) ix (stN.getD j "") (ext j) U) ∧
  vk_S 11 sLen sByt ext adV (fun q => base ≤ q) U U.heap ∧
  (∀ j : Nat, j < 3 → va_Z "QuotaParish$Reader" (srN.getD j "") "[I" (.ref (ext (11 + j))) (fun q => base ≤ q) U U.heap) ∧
  (∀ j : Nat, 11 ≤ j → j < 15 → va_T .int (ext j) (X j).1 (fun i => .int (Int32.ofInt ((X j).2 i))) (fun q => base ≤ q) U U.heap ∧ (X j).1 < 2147483648) ∧
  (∀ ci : Nat, ci = 6 ∨ ci = 7 ∨ ci = 9 → va_AO (vC ci).1 U) ∧
  (∀ j : Nat, j < 11 → (X j).1 = sLen.getD j 0 ∧ ∀ i : Nat, Int32.ofInt ((X j).2 i) = (sByt.getD j []).getD i 0) ∧
  va_Z "java/lang/String" "COMPACT_STRINGS" "Z" (.int 1) (fun q => base ≤ q) U U.heap ∧
  va_Zq "jdk/internal/util/Preconditions" "SIOOBE_FORMATTER" "Ljava/util/function/BiFunction;" (fun q => base ≤ q) U U.heap
theorem Zq.go {C n d : String} {A : Nat → Prop} {s U : State} (h : va_Zq C n d A s s.heap) (ha : s.vm.Alike U.vm) (hk : ∀ a : Nat, a < s.heap.size → ¬ A a → U.heap[a]? = s.heap[a]?) : va_Zq C n d A U U.heap := by
  rcases h with h | ⟨t, h⟩
  · exact Or.inl ((h.kept hk).moved ha)
  · exact Or.inr ⟨t, (h.kept hk).moved ha⟩
theorem EX.go {base : Nat} {ext adV : Nat → Nat} {X : PX} {s U : State} (h : EX base ext adV X s) (hW : s.WarmedH U.vm) (hk : ∀ a : Nat, a < s.heap.size → ¬ base ≤ a → U.heap[a]? = s.heap[a]?) : EX base ext adV X U := by
  obtain ⟨h1, h2, h3, h4, h5, h6, h7, h8, h9⟩ := h
  have ha := hW.alike
  exact ⟨fun o ix k b ht => va_Nw.warmM hW (h1 o ix k b ht), fun o ix j b ht => vk_R.warm hW (h2 o ix j b ht), (h3.kept hk).moved ha, fun j hj => ((h4 j hj).kept hk).moved ha, fun j a b => ⟨((h5 j a b).1.kept hk).moved ha, (h5 j a b).2⟩, fun ci hc => (h6 ci hc).moved ha, h7, (h8.kept hk).moved ha, Zq.go (s := s) (U := U) h9 ha hk⟩
theorem EX.calling {base : Nat} {ext adV : Nat → Nat} {X : PX} {U : State} (h : EX base ext adV X U) (g : JFrame) (mk : MethodId) (a : Array Value) : EX base ext adV X (U.calling g mk a) := by
  obtain ⟨h1, h2, h3, h4, h5, h6, h7, h8, h9⟩ := h
  have ha : U.vm.Alike (U.calling g mk a).vm := Vm.Alike.refl U.vm
  exact ⟨fun o ix k b ht => va_Nw.same rfl rfl (h1 o ix k b ht), fun o ix j b ht => vk_R.same rfl (h2 o ix j b ht), h3.moved ha, fun j hj => (h4 j hj).moved ha, fun j a b => ⟨(h5 j a b).1.moved ha, (h5 j a b).2⟩, fun ci hc => (h6 ci hc).moved ha, h7, h8.moved ha, Zq.go (s := U) (U := U.calling g mk a) h9 ha (fun _ _ _ => rfl)⟩
def PreP (base : Nat) (ext adV : Nat → Nat) (cid : FieldType → ClassId) (D : va_G) (X : PX) (h : PHp) (U : State) : Prop :=
  va_P D vwCl (cW base ext cid h) U.heap ∧ U.heap.size = base + h.length ∧ va_K D vwCl (tysL cid) U ∧ EX base ext adV X U
def PosP (base : Nat) (ext : Nat → Nat) (cid : FieldType → ClassId) (D : va_G) (n : Nat) (h : PHp) (t : State) : Prop :=
  va_P D vwCl (cW base ext cid h) t.heap ∧ t.heap.size = base + h.length ∧ h.length = n
def Qg (v : Option Value) (B : State → Prop) (A : Nat → Prop) : Array Value → State → Outcome → State → Prop := fun _ st oc t => (oc = .returned v ∧ B t) ∧ va_F A st t
/-- a method's contract: from these arguments and this heap it comes to this answer and that heap -/
def MetP (base : Nat) (ext adV : Nat → Nat) (cid : FieldType → ClassId) (D : va_G) (X : PX) (l : Launch) (y : MethodName) (ws : List Cond) (rm : Room) (mc ms : Nat) (as : List PV) (h : PHp) (v : Option PV) (h2 : PHp) : Prop :=
  Met l y ws rm (va_Pc (as.map (cV base ext)) (PreP base ext adV cid D X h)) (Qg (v.map (cV base ext)) (PosP base ext cid D (h.length + mc) h2) (fun q => base ≤ q)) mc ms (fun q => base ≤ q)
theorem PreP.blind {base : Nat} {ext adV : Nat → Nat} {cid : FieldType → ClassId} {D : va_G} {X : PX} {h : PHp} {as : List PV} : FrameBlind (va_Pc (as.map (cV base ext)) (PreP base ext adV cid D X h)) := by
  intro a U g mk q
  obtain ⟨q0, q1, q2, q3, q4⟩ := q
  exact ⟨q0, q1, q2, va_K.moved (u := U) (U := U.calling g mk a) (Vm.Alike.refl U.vm) q3, q4.calling g mk a⟩
section CALLG
variable {p : Program} {l : Launch} {e : Env} {R : Room} {s : State} {m : MethodId} {args : Array Value} {below : List Frame} {meth : Method} {c : Code} {H : Heap} {locs : List Loc} {cells slots : Nat} {Q : State → Prop}
variable {pc : Nat} {ls : Array Slot} {rest st0 : List Value} {a : Array Value} {A0 : Nat → Prop} {H0 : Heap} {mc ms : Nat}
theorem va_callg {v : Option Value} {B : State → Prop} (hr : va_Run p l e R s m args below meth c H locs cells slots mc ms (F0 m pc ls st0) rest (Qg v B A0 a) A0) (hS : va_S A0 H0 H locs)
    (kk : ∀ (H1 : Heap) (locs1 : List Loc), (∃ t : State, t.heap = H1 ∧ B t) → va_S A0 H0 H1 locs1 → W p l e R s m args below meth c H1 locs1 (cells + mc) (slots + ms) Q (F0 m (pc + 3) ls (v.toList ++ rest))) : W p l e R s m args below meth c H locs cells slots Q (F0 m pc ls st0) := by
  intro T hT X
  obtain ⟨v2, st₀, t, T', L, h0, X', hL, e1, e2, ⟨⟨hv, hb⟩, hz, hk⟩, st⟩ := hr T hT X
  cases hv
  rw [h0] at hz hk
  obtain ⟨t2, a1, b1⟩ := kk T'.heap (locs ++ L) ⟨t, e1.symm, hb⟩
    ⟨Nat.le_trans hS.1 (by rw [e1]; exact hz), fun q h1 h2 => by rw [e1, hk q (Nat.lt_of_lt_of_le h1 hS.1) h2]; exact hS.2.1 q h1 h2, fun q hq => by
      rcases List.mem_append.mp hq with h | h
      · exact hS.2.2 q h
      · exact hL q h⟩ T' rfl X'
  exact ⟨t2, st t2 a1, b1⟩
/-- how large the heap can be -/
theorem W.sz {g : JFrame} (k : H.size ≤ s.heap.size + cells → W p l e R s m args below meth c H locs cells slots Q g) : W p l e R s m args below meth c H locs cells slots Q g := by
  intro T hT X
  refine k ?_ T hT X
  have := X.same.2.2.1
  rw [← hT]
  exact this
end CALLG
def mRm (k : Nat) : Room := { frames := mFr k, cells := mMc k, slots := mMs k, locals := mLo k }
def Fx (base : Nat) (ext adV : Nat → Nat) (cid : FieldType → ClassId) (D : va_G) (X : PX) (k : Nat) (p : Program) (s : State) (m : MethodId) (args : Array Value) (meth : Method) (c : Code) : Prop :=
  p.tables.exec = Jvm.exec ∧ c.code = mC k ∧ c.maxLocals = mL k ∧ s.vm.findClass (cN (mO k)) = some m.cls ∧ (∀ w ∈ TB, w.before args s = true) ∧ va_K D vwCl (tysL cid) s ∧ EX base ext adV X s ∧ ((mY k).name = "<init>" → meth.name = "<init>") ∧ base ≤ s.heap.size
def Gw (base : Nat) (ext : Nat → Nat) (cid : FieldType → ClassId) (D : va_G) (k : Nat) (p : Program) (l : Launch) (e : Env) (R : Room) (s : State) (m : MethodId) (args : Array Value) (below : List Frame) (meth : Method) (c : Code) (Q : State → Prop) (bp : Nat) (L : PL) (st : List PV) (h : PHp) (cs sl : Nat) : Prop :=
  ∀ (H : Heap) (locs : List Loc) (ls : Array Slot), LR base ext ls (mL k) L → va_P D vwCl (cW base ext cid h) H → H.size = base + h.length → va_S (fun q => base ≤ q) s.heap H locs → s.heap.size + cs = H.size → W p l e R s m args below meth c H locs cs sl Q (F0 m bp ls (st.map (cV base ext)))
