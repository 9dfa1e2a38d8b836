/-! CLOSURES: the rules (how many, whose, patron, second or -1), who is exempt -/
abbrev Gs : Type := Nat × (Nat → Nat) × (Nat → Nat) × (Nat → Int)
def gNd (G : Gs) (r : Nat) : Nat := if G.2.2.2 r = -1 then 2 ^ G.2.2.1 r else 2 ^ G.2.2.1 r ||| 2 ^ (G.2.2.2 r).toNat
def gHol (G : Gs) (cut S r : Nat) : Bool := !cut.testBit r && S.testBit (G.2.2.1 r) && (decide (G.2.2.2 r = -1) || S.testBit (G.2.2.2 r).toNat)
def gSub (S T : Nat) : Prop := ∀ i : Nat, S.testBit i = true → T.testBit i = true
def gCls (G : Gs) (cut S : Nat) : Prop := ∀ r : Nat, r < G.1 → gHol G cut S r = true → S.testBit (G.2.1 r) = true
/-- the rules are of houses below n -/
def gOk (G : Gs) (n : Nat) : Prop := G.1 ≤ 10 ∧ n ≤ 7 ∧ ∀ r : Nat, r < G.1 → G.2.1 r < n ∧ G.2.2.1 r < n ∧ -1 ≤ G.2.2.2 r ∧ G.2.2.2 r < n
def gIs (G : Gs) (cut S T : Nat) : Prop := gSub S T ∧ gCls G cut T ∧ ∀ U : Nat, gSub S U → gCls G cut U → gSub T U
theorem gSub.rfl {S : Nat} : gSub S S := fun _ h => h
theorem gSub.trans {S T U : Nat} (h : gSub S T) (g : gSub T U) : gSub S U := fun i q => g i (h i q)
theorem gSub.eq {S T : Nat} (h : gSub S T) (g : gSub T S) : S = T := by
  refine Nat.eq_of_testBit_eq (fun i => ?_)
  rcases hs : S.testBit i with _ | _
  · rcases ht : T.testBit i with _ | _
    · rfl
    · rw [g i ht] at hs; exact hs.symm
  · exact (h i hs).symm
theorem gIs.eq {G : Gs} {cut S T U : Nat} (h : gIs G cut S T) (g : gIs G cut S U) : T = U := gSub.eq (h.2.2 U g.1 g.2.1) (g.2.2 T h.1 h.2.1)
theorem gHol.iff {G : Gs} {cut S r : Nat} : gHol G cut S r = true ↔ cut.testBit r = false ∧ S.testBit (G.2.2.1 r) = true ∧ (G.2.2.2 r = -1 ∨ S.testBit (G.2.2.2 r).toNat = true) := by
  unfold gHol
  simp [and_assoc]
theorem gHol.mono {G : Gs} {cut S T r : Nat} (h : gSub S T) (q : gHol G cut S r = true) : gHol G cut T r = true := by
  rw [gHol.iff] at q ⊢
  exact ⟨q.1, h _ q.2.1, q.2.2.imp id (h _)⟩
theorem pow_tb (a i : Nat) : (2 ^ a).testBit i = decide (a = i) := Nat.testBit_two_pow
theorem or_pow_tb (T a i : Nat) : (T ||| 2 ^ a).testBit i = (T.testBit i || decide (a = i)) := by rw [Nat.testBit_or, pow_tb]
theorem gSub.or {T a : Nat} : gSub T (T ||| 2 ^ a) := fun i h => by rw [or_pow_tb, h]; rfl
theorem gSub.or_le {T U a : Nat} (h : gSub T U) (g : U.testBit a = true) : gSub (T ||| 2 ^ a) U := fun i q => by
  rw [or_pow_tb] at q
  rcases ht : T.testBit i with _ | _
  · rw [ht, Bool.false_or, decide_eq_true_iff] at q
    rw [← q]; exact g
  · exact h i ht
theorem or_pow_eq {T a : Nat} (h : T.testBit a = true) : T ||| 2 ^ a = T := gSub.eq (gSub.or_le gSub.rfl h) gSub.or
theorem and_nd {G : Gs} {T r : Nat} : T &&& gNd G r = gNd G r ↔ T.testBit (G.2.2.1 r) = true ∧ (G.2.2.2 r = -1 ∨ T.testBit (G.2.2.2 r).toNat = true) := by
  unfold gNd
  by_cases hb : G.2.2.2 r = -1
  · rw [if_pos hb]
    constructor
    · intro h
      have := congrArg (fun x => x.testBit (G.2.2.1 r)) h
      simp only [Nat.testBit_and, pow_tb, decide_true, Bool.and_true] at this
      exact ⟨this, Or.inl hb⟩
    · rintro ⟨h, -⟩
      refine Nat.eq_of_testBit_eq (fun i => ?_)
      rw [Nat.testBit_and, pow_tb]
      by_cases hi : G.2.2.1 r = i
      · rw [← hi, h]; simp
      · simp [hi]
  · rw [if_neg hb]
    constructor
    · intro h
      have h1 := congrArg (fun x => x.testBit (G.2.2.1 r)) h
      have h2 := congrArg (fun x => x.testBit (G.2.2.2 r).toNat) h
      simp only [Nat.testBit_and, Nat.testBit_or, pow_tb, decide_true, Bool.and_true, Bool.true_or, Bool.or_true] at h1 h2
      exact ⟨h1, Or.inr h2⟩
    · rintro ⟨h, g⟩
      have g := g.resolve_left hb
      refine Nat.eq_of_testBit_eq (fun i => ?_)
      rw [Nat.testBit_and, Nat.testBit_or, pow_tb, pow_tb]
      by_cases hi : G.2.2.1 r = i
      · rw [← hi, h]; simp
      · by_cases hj : (G.2.2.2 r).toNat = i
        · rw [← hj, g]; simp
        · simp [hi, hj]
theorem nd_lt {G : Gs} {n r : Nat} (h : gOk G n) (hr : r < G.1) : gNd G r < 128 := by
  obtain ⟨-, h7, h3⟩ := h
  obtain ⟨-, a1, a2, a3⟩ := h3 r hr
  have p : ∀ a : Nat, a < 7 → 2 ^ a < 2 ^ 7 := fun a ha => Nat.pow_lt_pow_right (by omega) ha
  unfold gNd
  split
  · exact p _ (by omega)
  · exact Nat.or_lt_two_pow (p _ (by omega)) (p _ (by omega))
theorem or_lt7 {T a : Nat} (h : T < 128) (g : a < 7) : T ||| 2 ^ a < 128 := Nat.or_lt_two_pow (n := 7) h (Nat.pow_lt_pow_right (by omega) g)
/-! how many bits -/
theorem popc_le (n : Nat) : ∀ k : Nat, popc n k ≤ k
  | 0 => Nat.le_refl _
  | k + 1 => by
    have := popc_le n k
    unfold popc
    split <;> omega
theorem popc_sub {S T : Nat} (h : gSub S T) : ∀ k : Nat, popc S k ≤ popc T k
  | 0 => Nat.le_refl _
  | k + 1 => by
    have := popc_sub h k
    unfold popc
    rcases hs : S.testBit k with _ | _
    · simp; omega
    · rw [h k hs]; simp; omega
theorem popc_eq {S T : Nat} (h : gSub S T) : ∀ k : Nat, popc S k = popc T k → ∀ i : Nat, i < k → T.testBit i = true → S.testBit i = true
  | 0 => fun _ i hi => absurd hi (by omega)
  | k + 1 => fun e i hi ht => by
    have l := popc_sub h k
    unfold popc at e
    rcases hs : S.testBit k with _ | _
    · rcases hk : T.testBit k with _ | _
      · rw [hs, hk] at e
        have e : popc S k = popc T k := by simpa using e
        rcases Nat.lt_or_ge i k with g | g
        · exact popc_eq h k e i g ht
        · rw [show i = k by omega, hk] at ht; cases ht
      · rw [hs, hk] at e; simp at e; omega
    · rw [hs, h k hs] at e
      have e : popc S k = popc T k := by simpa using e
      rcases Nat.lt_or_ge i k with g | g
      · exact popc_eq h k e i g ht
      · rw [show i = k by omega]; exact hs
theorem tb_lt {T i n : Nat} (h : T < 2 ^ n) (g : T.testBit i = true) : i < n := by
  rcases Nat.lt_or_ge i n with q | q
  · exact q
  · rw [Nat.testBit_lt_two_pow (Nat.lt_of_lt_of_le h (Nat.pow_le_pow_right (by omega) q))] at g
    cases g
theorem popc_lt {S T : Nat} (h : gSub S T) (hT : T < 128) (hne : S ≠ T) : popc S 7 < popc T 7 := by
  rcases Nat.lt_or_ge (popc S 7) (popc T 7) with g | g
  · exact g
  · exact absurd (gSub.eq h (fun i hi => popc_eq h 7 (Nat.le_antisymm (popc_sub h 7) g) i (tb_lt (n := 7) hT hi) hi)) hne
/-! the class: exemptBy -/
def RC (σ : Sg) (p : Nat) (G : Gs) : Prop := σ.1 p 4 = G.1 ∧ ∀ r : Nat, r < G.1 → σ.2 (p + 3) r = G.2.1 r ∧ σ.2 (p + 6) r = gNd G r
theorem bit_0 {a k : Nat} (ha : a < 2147483648) (hk : k < 32) : iAnd (iShr a k) 1 ≠ 0 ↔ a.testBit k = true := by
  rw [b_bit ha hk]
  rcases a.testBit k with _ | _ <;> simp
theorem bit_rng {a k : Nat} (ha : a < 2147483648) (hk : k < 32) : InR (iAnd (iShr a k) 1) := by
  rw [b_bit ha hk]
  split <;> omega
theorem x_in {X : PX} {p : Nat} {G : Gs} {n cut S B : Nat} {x5 : Int} {Q : Option PV → Sg → Prop} {σ : Sg} (hp : p ∈ parL) (hG : gOk G n) (hR : RC σ p G) (hc : cut < 2048) (hB : B < 128)
    (k0 : gCls G cut B → Ev X 86 6 [some (vR (some p)), none, some (vI cut), some (vI B), some (vI 0), some (vI (x5 + 1)), none, none] [] σ Q)
    (k1 : ∀ T : Nat, T < 128 → gSub B T → B ≠ T → (∀ U : Nat, gSub S U → gCls G cut U → gSub T U) → Ev X 86 6 [some (vR (some p)), none, some (vI cut), some (vI T), some (vI 1), some (vI (x5 + 1)), none, none] [] σ Q) :
    ∀ (d r T : Nat), r + d = G.1 → T < 128 → gSub B T → (∀ U : Nat, gSub S U → gCls G cut U → gSub T U) → (T = B → ∀ r' : Nat, r' < r → gHol G cut B r' = true → B.testBit (G.2.1 r') = true) →
      Ev X 86 15 [some (vR (some p)), none, some (vI cut), some (vI T), none, some (vI x5), some (vI B), some (vI r)] [] σ Q := by
  obtain ⟨h10, h7, hg⟩ := id hG
  obtain ⟨r4, rr⟩ := hR
  intro d
  induction d with
  | zero =>
    intro r T hr hT hBT hm hl
    refine v_86_15 hp ⟨by omega, by omega, fun _ => ⟨by omega, by omega, fun e => ?_, fun e => ?_⟩, fun q => absurd (by omega) q⟩
    · have e : T = B := by omega
      rw [e]
      exact k0 (fun r' h' => hl e r' (by omega))
    · exact k1 T hT hBT (fun q => e (by rw [q])) hm
  | succ d ih =>
    intro r T hr hT hBT hm hl
    obtain ⟨e1, e2⟩ := rr r (by omega)
    obtain ⟨g1, g2, g3, g4⟩ := hg r (by omega)
    have hn := nd_lt hG (r := r) (by omega)
    have ea : iAnd (T : Int) (σ.2 (p + 6) ((r : Nat) : Int).toNat) = ((T &&& gNd G r : Nat) : Int) := by
      rw [Int.toNat_natCast, e2, b_and (by omega) (by omega)]
    have e2' : σ.2 (p + 6) ((r : Nat) : Int).toNat = gNd G r := by rw [Int.toNat_natCast, e2]
    have la : T &&& gNd G r < 128 := Nat.lt_of_le_of_lt Nat.and_le_left hT
    have bt := bit_0 (a := cut) (k := r) (by omega) (by omega)
    have nx : (T = B → gHol G cut B r = true → B.testBit (G.2.1 r) = true) → Ev X 86 15 [some (vR (some p)), none, some (vI cut), some (vI T), none, some (vI x5), some (vI B), some (vI ((r : Int) + 1))] [] σ Q := fun hr2 => ih (r + 1) T (by omega) hT hBT hm (fun e r' h' => by
      rcases Nat.lt_or_ge r' r with g | g
      · exact hl e r' g
      · rw [show r' = r by omega]; exact hr2 e)
    refine v_86_15 hp ⟨by omega, by omega, fun q => absurd q (by omega), fun _ => ⟨fun q => absurd q (by omega), fun _ => ⟨bit_rng (by omega) (by omega), fun c => nx (fun _ h => ?_), fun c => ⟨by omega, by rw [ea]; omega, by rw [e2']; omega, fun c2 => nx (fun e h => ?_), fun c2 => ?_⟩⟩⟩⟩
    · rw [gHol.iff, bt.mp c] at h
      exact absurd h.1 (by decide)
    · rw [ea, e2'] at c2
      have h := (gHol.iff.mp h).2
      rw [← e, ← and_nd] at h
      exact absurd (by rw [h]) c2
    · rw [ea, e2'] at c2
      have hn2 : T &&& gNd G r = gNd G r := by omega
      have hh : gHol G cut T r = true := by
        rw [gHol.iff]
        refine ⟨?_, and_nd.mp hn2⟩
        rcases hx : cut.testBit r with _ | _
        · rfl
        · exact absurd (bt.mpr hx) c
      have es : iOr (T : Int) (iShl 1 (σ.2 (p + 3) ((r : Nat) : Int).toNat)) = ((T ||| 2 ^ G.2.1 r : Nat) : Int) := by
        have l := Nat.pow_lt_pow_right (a := 2) (by omega) (show G.2.1 r < 31 by omega)
        rw [Int.toNat_natCast, e1, b_one (by omega), b_or (by omega) (by omega)]
      rw [es]
      refine ih (r + 1) _ (by omega) (or_lt7 hT (by omega)) (hBT.trans gSub.or) (fun U u1 u2 => gSub.or_le (hm U u1 u2) (u2 r (by omega) (gHol.mono (hm U u1 u2) hh))) (fun e r' h' hh' => ?_)
      have eT : T = B := gSub.eq (by rw [← e]; exact gSub.or) hBT
      rcases Nat.lt_or_ge r' r with g | g
      · exact hl eT r' g hh'
      · have hb : (T ||| 2 ^ G.2.1 r).testBit (G.2.1 r) = true := by rw [or_pow_tb]; simp
        rw [show r' = r by omega, ← e]; exact hb
theorem x_out {X : PX} {p : Nat} {G : Gs} {n cut S : Nat} {Q : Option PV → Sg → Prop} {σ : Sg} (hp : p ∈ parL) (hG : gOk G n) (hR : RC σ p G) (hc : cut < 2048)
    (q : ∀ T : Nat, T < 128 → gIs G cut S T → Q (some (vI T)) σ) :
    ∀ (d x5 T : Nat), x5 + d = 8 → T < 128 → gSub S T → (∀ U : Nat, gSub S U → gCls G cut U → gSub T U) → x5 ≤ popc T 7 →
      Ev X 86 6 [some (vR (some p)), none, some (vI cut), some (vI T), some (vI 1), some (vI x5), none, none] [] σ Q := by
  intro d
  induction d with
  | zero =>
    intro x5 T h8 hT hST hm hx
    have := popc_le T 7
    omega
  | succ d ih =>
    intro x5 T h8 hT hST hm hx
    have h10 := hG.1
    have h4 := hR.1
    refine v_86_6 hp ⟨by omega, fun h => absurd h (by omega), fun _ => ⟨by omega, fun h => absurd h (by omega), fun _ => ?_⟩⟩
    refine x_in (S := S) hp hG hR hc hT (fun hcl => ?_) (fun U hU u1 u2 u3 => ?_) G.1 0 T (by omega) hT gSub.rfl hm (fun _ r' h' => absurd h' (by omega))
    · refine v_86_6 hp ⟨by omega, fun h => q T hT ⟨hST, hcl, hm⟩, fun _ => ⟨by omega, fun _ => q T hT ⟨hST, hcl, hm⟩, fun h => absurd rfl h⟩⟩
    · have := popc_lt u1 hU u2
      exact ih (x5 + 1) U (by omega) hU (hST.trans u1) u3 (by omega)
theorem c_exby {X : PX} {p : Nat} {G : Gs} {n cut S : Nat} {σ : Sg} {P : Int → Sg → Prop} (hp : p ∈ parL) (hG : gOk G n) (hR : RC σ p G) (hc : cut < 2048) (hS : S < 128) (q : ∀ T : Nat, T < 128 → gIs G cut S T → P T σ) : CI X 86 [vR (some p), vI S, vI cut] σ P :=
  v_86 hp (x_out hp hG hR hc (fun T h1 h2 => ⟨_, rfl, q T h1 h2⟩) 8 0 S (by omega) hS gSub.rfl (fun _ u _ => u) (by omega))
/-! the closure as a function: seven steps, all rules at once -/
def gOne (G : Gs) (cut S : Nat) : Nat → Nat
  | 0 => S
  | r + 1 => if gHol G cut S r then gOne G cut S r ||| 2 ^ G.2.1 r else gOne G cut S r
def gStp (G : Gs) (cut S : Nat) : Nat := gOne G cut S G.1
def gIt (G : Gs) (cut S : Nat) : Nat → Nat
  | 0 => S
  | k + 1 => gStp G cut (gIt G cut S k)
def gClo (G : Gs) (cut S : Nat) : Nat := gIt G cut S 7
theorem gOne_tb {G : Gs} {cut S : Nat} (k i : Nat) : (gOne G cut S k).testBit i = true ↔ S.testBit i = true ∨ ∃ r : Nat, r < k ∧ gHol G cut S r = true ∧ G.2.1 r = i := by
  induction k with
  | zero =>
    exact ⟨Or.inl, fun h => h.elim id (fun ⟨r, h, _⟩ => absurd h (by omega))⟩
  | succ k ih =>
    unfold gOne
    have fw : ∀ r : Nat, r < k + 1 → r < k ∨ r = k := fun r h => by omega
    rcases hh : gHol G cut S k with _ | _
    · rw [if_neg (by decide), ih]
      constructor
      · rintro (h | ⟨r, h1, h2⟩)
        · exact Or.inl h
        · exact Or.inr ⟨r, by omega, h2⟩
      · rintro (h | ⟨r, h1, h2, h3⟩)
        · exact Or.inl h
        · rcases fw r h1 with g | g
          · exact Or.inr ⟨r, g, h2, h3⟩
          · rw [g, hh] at h2; cases h2
    · rw [if_pos rfl, or_pow_tb, Bool.or_eq_true, ih, decide_eq_true_iff]
      constructor
      · rintro ((h | ⟨r, h1, h2⟩) | h)
        · exact Or.inl h
        · exact Or.inr ⟨r, by omega, h2⟩
        · exact Or.inr ⟨k, by omega, hh, h⟩
      · rintro (h | ⟨r, h1, h2, h3⟩)
        · exact Or.inl (Or.inl h)
        · rcases fw r h1 with g | g
          · exact Or.inl (Or.inr ⟨r, g, h2, h3⟩)
          · rw [g] at h3; exact Or.inr h3
theorem gOne_lt {G : Gs} {n cut S : Nat} (hG : gOk G n) (hS : S < 2 ^ n) : ∀ k : Nat, k ≤ G.1 → gOne G cut S k < 2 ^ n
  | 0 => fun _ => hS
  | k + 1 => fun hk => by
    have := gOne_lt hG hS (cut := cut) k (by omega)
    unfold gOne
    split
    · exact Nat.or_lt_two_pow this (Nat.pow_lt_pow_right (by omega) (hG.2.2 k (by omega)).1)
    · exact this
theorem gStp_sub {G : Gs} {cut S : Nat} : gSub S (gStp G cut S) := fun i h => (gOne_tb _ _).mpr (Or.inl h)
theorem gStp_cls {G : Gs} {cut S : Nat} : gStp G cut S = S ↔ gCls G cut S := by
  constructor
  · intro h r hr hh
    have := (gOne_tb (G := G) (cut := cut) (S := S) G.1 (G.2.1 r)).mpr (Or.inr ⟨r, hr, hh, rfl⟩)
    have e : gOne G cut S G.1 = S := h
    rw [e] at this
    exact this
  · intro h
    refine gSub.eq (fun i hi => ?_) gStp_sub
    rcases (gOne_tb _ _).mp hi with g | ⟨r, h1, h2, h3⟩
    · exact g
    · rw [← h3]; exact h r h1 h2
theorem gStp_min {G : Gs} {cut S U : Nat} (h : gSub S U) (g : gCls G cut U) : gSub (gStp G cut S) U := fun i hi => by
  rcases (gOne_tb _ _).mp hi with q | ⟨r, h1, h2, h3⟩
  · exact h i q
  · rw [← h3]; exact g r h1 (gHol.mono h h2)
theorem gIt_lt {G : Gs} {n cut S : Nat} (hG : gOk G n) (hS : S < 2 ^ n) : ∀ k : Nat, gIt G cut S k < 2 ^ n
  | 0 => hS
  | k + 1 => gOne_lt hG (gIt_lt hG hS k) G.1 (Nat.le_refl _)
theorem gIt_sub {G : Gs} {cut S : Nat} : ∀ k : Nat, gSub S (gIt G cut S k)
  | 0 => gSub.rfl
  | k + 1 => (gIt_sub k).trans gStp_sub
theorem gIt_min {G : Gs} {cut S U : Nat} (h : gSub S U) (g : gCls G cut U) : ∀ k : Nat, gSub (gIt G cut S k) U
  | 0 => h
  | k + 1 => gStp_min (gIt_min h g k) g
theorem p27 {n : Nat} (h : n ≤ 7) : 2 ^ n ≤ 128 := Nat.pow_le_pow_right (n := 2) (by omega) h
theorem gIt_pop {G : Gs} {n cut S : Nat} (hG : gOk G n) (hS : S < 2 ^ n) : ∀ k : Nat, gCls G cut (gIt G cut S k) ∨ k + 1 ≤ popc (gIt G cut S (k + 1)) 7
  | 0 => by
    by_cases h : gStp G cut S = S
    · exact Or.inl (gStp_cls.mp h)
    · have l := gIt_lt (cut := cut) hG hS 1
      have := p27 hG.2.1
      have := popc_lt (S := S) (T := gIt G cut S 1) gStp_sub (by omega) (Ne.symm h)
      exact Or.inr (Nat.lt_of_le_of_lt (Nat.zero_le _) this)
  | k + 1 => by
    rcases gIt_pop (cut := cut) hG hS k with h | h
    · left
      show gCls G cut (gStp G cut (gIt G cut S k))
      rw [gStp_cls.mpr h]; exact h
    · by_cases g : gStp G cut (gIt G cut S (k + 1)) = gIt G cut S (k + 1)
      · exact Or.inl (gStp_cls.mp g)
      · have l := gIt_lt (cut := cut) hG hS (k + 2)
        have := p27 hG.2.1
        have := popc_lt (S := gIt G cut S (k + 1)) (T := gIt G cut S (k + 2)) gStp_sub (by omega) (Ne.symm g)
        exact Or.inr (Nat.lt_of_le_of_lt h this)
theorem gClo_is {G : Gs} {n cut S : Nat} (hG : gOk G n) (hS : S < 2 ^ n) : gIs G cut S (gClo G cut S) := by
  refine ⟨gIt_sub 7, ?_, fun U h g => gIt_min h g 7⟩
  rcases gIt_pop (cut := cut) hG hS 7 with h | h
  · exact h
  · exact absurd h (Nat.not_le.mpr (Nat.lt_succ_of_le (popc_le (gIt G cut S 8) 7)))
theorem gClo_lt {G : Gs} {n cut S : Nat} (hG : gOk G n) (hS : S < 2 ^ n) : gClo G cut S < 2 ^ n := gIt_lt hG hS 7
theorem gClo_lt7 {G : Gs} {n cut S : Nat} (hG : gOk G n) (hS : S < 2 ^ n) : gClo G cut S < 128 := Nat.lt_of_lt_of_le (gClo_lt hG hS) (p27 hG.2.1)
theorem c_ex {X : PX} {p : Nat} {G : Gs} {n cut S : Nat} {σ : Sg} {P : Int → Sg → Prop} (hp : p ∈ parL) (hG : gOk G n) (hR : RC σ p G) (hc : cut < 2048) (hS : S < 2 ^ n) (q : P (gClo G cut S) σ) : CI X 86 [vR (some p), vI S, vI cut] σ P :=
  c_exby hp hG hR hc (by have := p27 hG.2.1; omega) (fun T _ h => by rw [gIs.eq h (gClo_is hG hS)]; exact q)
/-! the reference: exemptBy -/
/-- the reference's rules are those -/
def RM (σ : Sg) (G : Gs) : Prop := (0 ≤ σ.1 170 11 ∧ σ.1 170 11 + 49 ≤ 3616) ∧ σ.1 170 13 = G.1 ∧ ∀ r : Nat, r < G.1 → σ.2 171 ((σ.1 170 11).toNat + 19 + 3 * r) = G.2.1 r ∧ σ.2 171 ((σ.1 170 11).toNat + 20 + 3 * r) = G.2.2.1 r ∧ σ.2 171 ((σ.1 170 11).toNat + 21 + 3 * r) = G.2.2.2 r
theorem m_rule {X : PX} {σ : Sg} {G : Gs} {n r : Nat} {w : Int} {P : Int → Sg → Prop} (hG : gOk G n) (hR : RM σ G) (hr : r < G.1) (hw : w = 0 ∨ w = 1 ∨ w = 2) (q : P (if w = 0 then (G.2.1 r : Int) else if w = 1 then (G.2.2.1 r : Int) else G.2.2.2 r) σ) : CI X 194 [vR (some 170), vI r, vI w] σ P := by
  obtain ⟨h1, h2, h3⟩ := hR
  have h10 := hG.1
  obtain ⟨e0, e1, e2⟩ := h3 r hr
  refine v_194 ⟨by omega, _, rfl, ?_⟩
  rcases hw with rfl | rfl | rfl
  · rw [show (σ.1 170 11 + 19 + 3 * (r : Int) + 0).toNat = (σ.1 170 11).toNat + 19 + 3 * r by omega, e0]
    exact q
  · rw [show (σ.1 170 11 + 19 + 3 * (r : Int) + 1).toNat = (σ.1 170 11).toNat + 20 + 3 * r by omega, e1]
    exact q
  · rw [show (σ.1 170 11 + 19 + 3 * (r : Int) + 2).toNat = (σ.1 170 11).toNat + 21 + 3 * r by omega, e2]
    exact q
theorem bit_1 {a k : Nat} (ha : a < 2147483648) (hk : k < 32) : iAnd (iShr a k) 1 = 1 ↔ a.testBit k = true := by
  rw [b_bit ha hk]
  rcases a.testBit k with _ | _ <;> simp
theorem m_holds {X : PX} {σ : Sg} {G : Gs} {n r cut S : Nat} {P : Int → Sg → Prop} (hG : gOk G n) (hR : RM σ G) (hr : r < G.1) (hcut : σ.1 170 17 = cut) (hc : cut < 2048) (hS : S < 128) (q : P (if gHol G cut S r then 1 else 0) σ) : CI X 196 [vR (some 170), vI r, vI S] σ P := by
  have h10 := hG.1
  have h7 := hG.2.1
  obtain ⟨g1, g2, g3, g4⟩ := hG.2.2 r hr
  have bc := bit_1 (a := cut) (k := r) (by omega) (by omega)
  have b1 := bit_0 (a := S) (k := G.2.2.1 r) (by omega) (by omega)
  refine v_196 ?_
  rw [hcut]
  refine ⟨bit_rng (by omega) (by omega), fun h => ⟨_, rfl, ?_⟩, fun h => m_rule hG hR hr (by omega) ?_⟩
  · rw [if_neg] at q
    · exact q
    · rw [gHol.iff, bc.mp h]; simp
  rw [if_neg (by omega), if_pos rfl]
  have hcf : cut.testBit r = false := by
    rcases hx : cut.testBit r with _ | _
    · rfl
    · exact absurd (bc.mpr hx) h
  refine ⟨bit_rng (by omega) (by omega), fun h1 => m_rule hG hR hr (by omega) ?_, fun h1 => ⟨_, rfl, ?_⟩⟩
  · rw [if_neg (by omega), if_neg (by omega)]
    refine ⟨by omega, fun h2 => ⟨_, rfl, ?_⟩, fun h2 => m_rule hG hR hr (by omega) ?_⟩
    · rw [if_pos (gHol.iff.mpr ⟨hcf, b1.mp h1, Or.inl h2⟩)] at q
      exact q
    · rw [if_neg (by omega), if_neg (by omega)]
      have b2 := bit_1 (a := S) (k := (G.2.2.2 r).toNat) (by omega) (by omega)
      have eB : G.2.2.2 r = ((G.2.2.2 r).toNat : Int) := by omega
      rw [← eB] at b2
      refine ⟨by rw [eB]; exact bit_rng (by omega) (by omega), fun h3 => ⟨_, rfl, ?_⟩, fun h3 => ⟨_, rfl, ?_⟩⟩
      · rw [if_neg] at q
        · exact q
        · rw [gHol.iff]
          rintro ⟨-, -, a | a⟩
          · exact h2 a
          · exact h3 (b2.mpr a)
      · rw [if_pos (gHol.iff.mpr ⟨hcf, b1.mp h1, Or.inr (b2.mp (by omega))⟩)] at q
        exact q
  · rw [if_neg] at q
    · exact q
    · rw [gHol.iff]
      rintro ⟨-, a, -⟩
      exact h1 (b1.mpr a)
theorem m_xin {X : PX} {G : Gs} {n cut W : Nat} {Q : Option PV → Sg → Prop} {σ : Sg} (hG : gOk G n) (hR : RM σ G) (hcut : σ.1 170 17 = cut) (hc : cut < 2048) (hW : W < 2 ^ n)
    (k : Ev X 197 4 [some (vR (some 170)), none, some (vI (gStp G cut W)), some (vI W), none] [] σ Q) :
    ∀ (d r : Nat), r + d = G.1 → Ev X 197 11 [some (vR (some 170)), none, some (vI (gOne G cut W r)), some (vI W), some (vI r)] [] σ Q := by
  have h10 := hG.1
  have h7 := p27 hG.2.1
  have hr4 := hR.2.1
  intro d
  induction d with
  | zero =>
    intro r hr
    refine v_197_11 ⟨by omega, by omega, fun _ => ?_, fun q => absurd (by omega) q⟩
    rw [show r = G.1 by omega]
    exact k
  | succ d ih =>
    intro r hr
    have nx := ih (r + 1) (by omega)
    have lo := gOne_lt (cut := cut) hG hW r (by omega)
    refine v_197_11 ⟨by omega, by omega, fun q => absurd q (by omega), fun _ => m_holds hG hR (by omega) hcut hc (by omega) ⟨by split <;> omega, fun h => ?_, fun h => m_rule hG hR (by omega) (Or.inl rfl) ?_⟩⟩
    · unfold gOne at nx
      rcases hh : gHol G cut W r with _ | _
      · rw [hh, if_neg (by decide)] at nx
        exact nx
      · rw [hh, if_pos rfl] at h; omega
    · rw [if_pos rfl]
      unfold gOne at nx
      obtain ⟨g1, -⟩ := hG.2.2 r (by omega)
      have g7 := hG.2.1
      have l := Nat.pow_lt_pow_right (a := 2) (by omega) (show G.2.1 r < 31 by omega)
      rw [b_one (by omega), b_or (by omega) (by omega)]
      rcases hh : gHol G cut W r with _ | _
      · rw [hh] at h; simp at h
      · rw [hh, if_pos rfl] at nx
        exact nx
theorem m_xout {X : PX} {G : Gs} {n cut S : Nat} {Q : Option PV → Sg → Prop} {σ : Sg} (hG : gOk G n) (hR : RM σ G) (hcut : σ.1 170 17 = cut) (hc : cut < 2048) (hS : S < 2 ^ n)
    (q : Q (some (vI (gClo G cut S))) σ) : ∀ (d k : Nat) (w : Int), k + d = 8 → (w = -1 ∨ ∃ j : Nat, j + 1 = k ∧ w = gIt G cut S j) → (∀ j : Nat, j < k → ¬ gCls G cut (gIt G cut S j)) ∨ (∃ j : Nat, j + 1 = k ∧ w = gIt G cut S j ∧ gCls G cut (gIt G cut S j)) → Ev X 197 4 [some (vR (some 170)), none, some (vI (gIt G cut S k)), some (vI w), none] [] σ Q := by
  have h7 := p27 hG.2.1
  intro d
  induction d with
  | zero =>
    intro k w hk hw hm
    have lk := gIt_lt (cut := cut) hG hS k
    rcases hm with hm | ⟨j, j1, j2, j3⟩
    · have := hm 7 (by omega)
      exact absurd (gClo_is (cut := cut) hG hS).2.1 this
    · have e : gIt G cut S k = gIt G cut S j := by rw [← j1]; exact gStp_cls.mpr j3
      have ec : gIt G cut S j = gClo G cut S := gIs.eq ⟨gIt_sub j, j3, fun U a b => gIt_min a b j⟩ (gClo_is hG hS)
      have lj := gIt_lt (cut := cut) hG hS j
      refine v_197_4 ⟨by omega, by omega, fun _ => ?_, fun n => absurd (by rw [e, j2]) n⟩
      rw [e, ec]; exact q
  | succ d ih =>
    intro k w hk hw hm
    have lk := gIt_lt (cut := cut) hG hS k
    rcases hm with hm | ⟨j, j1, j2, j3⟩
    · have ne : ¬ w = gIt G cut S k := by
        rcases hw with rfl | ⟨j, j1, rfl⟩
        · omega
        · intro e
          have e : gIt G cut S (j + 1) = gIt G cut S j := by rw [j1]; omega
          exact hm j (by omega) (gStp_cls.mp e)
      have wr : InR w := by
        rcases hw with rfl | ⟨j, j1, rfl⟩
        · omega
        · have := gIt_lt (cut := cut) hG hS j
          omega
      refine v_197_4 ⟨wr, by omega, fun e => absurd e ne, fun _ => ?_⟩
      refine m_xin hG hR hcut hc lk ?_ G.1 0 (by omega)
      refine ih (k + 1) _ (by omega) (Or.inr ⟨k, rfl, rfl⟩) ?_
      by_cases hcl : gCls G cut (gIt G cut S k)
      · exact Or.inr ⟨k, rfl, rfl, hcl⟩
      · refine Or.inl (fun j hj => ?_)
        rcases Nat.lt_or_ge j k with g | g
        · exact hm j g
        · rw [show j = k by omega]; exact hcl
    · have e : gIt G cut S k = gIt G cut S j := by rw [← j1]; exact gStp_cls.mpr j3
      have ec : gIt G cut S j = gClo G cut S := gIs.eq ⟨gIt_sub j, j3, fun U a b => gIt_min a b j⟩ (gClo_is hG hS)
      have lj := gIt_lt (cut := cut) hG hS j
      refine v_197_4 ⟨by omega, by omega, fun _ => ?_, fun n => absurd (by rw [e, j2]) n⟩
      rw [e, ec]; exact q
theorem m_ex {X : PX} {G : Gs} {n cut S : Nat} {P : Int → Sg → Prop} {σ : Sg} (hG : gOk G n) (hR : RM σ G) (hcut : σ.1 170 17 = cut) (hc : cut < 2048) (hS : S < 2 ^ n) (q : P (gClo G cut S) σ) : CI X 197 [vR (some 170), vI S] σ P :=
  v_197 (m_xout hG hR hcut hc hS ⟨_, rfl, q⟩ 8 0 (-1) (by omega) (Or.inl rfl) (Or.inl (fun j hj => absurd hj (by omega))))
