/-! rush, sale -/
abbrev Rs : Type := Cs × Nat × (Nat → Int)
def drv (K : Kz) (n : Int) (s : Cs) (h : Nat) : Bool := !(zE K s).testBit h && decide (cP s < n * cT K s h) && bOk s h
def rdI (K : Kz) (n : Int) (R : Rs) : Nat → Rs × Bool
  | 0 => (R, false)
  | h + 1 => if drv K n (rdI K n R h).1.1 h = true then ((sBuy (rdI K n R h).1.1 h, (rdI K n R h).1.2.1 + 1, up (rdI K n R h).1.2.2 (rdI K n R h).1.2.1 h), true) else rdI K n R h
def rsG (K : Kz) (n : Int) : Nat → Rs → Nat → Rs × Nat
  | 0, R, c => (R, c)
  | d + 1, R, c => if (rdI K n R (kN K)).2 = true then rsG K n d (rdI K n R (kN K)).1 (c + 1) else ((rdI K n R (kN K)).1, c)
/-- how it stands in a rush -/
def rOk (K : Kz) (R : Rs) : Prop := sOk K R.1 ∧ R.2.1 ≤ popc (cO R.1) 7 ∧ ∀ i : Nat, i < R.2.1 → 0 ≤ R.2.2 i ∧ R.2.2 i ≤ 6
theorem popc_new {S h : Nat} (hh : h < 7) (hb : S.testBit h = false) (hS : S < 128) : popc S 7 + 1 ≤ popc (S ||| 2 ^ h) 7 := by
  have ne : S ≠ S ||| 2 ^ h := fun e => by
    have := congrArg (fun x => x.testBit h) e
    simp only [or_pow_tb, hb] at this
    simp at this
  exact popc_lt gSub.or (or_lt7 hS hh) ne
theorem rOk.buy {K : Kz} {R : Rs} {h : Nat} (r : rOk K R) (hh : h < kN K) (hb : bOk R.1 h = true) : rOk K (sBuy R.1 h, R.2.1 + 1, up R.2.2 R.2.1 h) := by
  obtain ⟨ok, h2, h3⟩ := r
  obtain ⟨e1, e2, n7, e4⟩ := ok.e7
  have ho := ok.2.2.2.1
  have nb : (cO R.1).testBit h = false := by
    unfold bOk at hb
    rcases hx : (cO R.1).testBit h with _ | _
    · rfl
    · rw [hx] at hb; simp at hb
  have pn := popc_new (h := h) (by omega) nb (by omega)
  refine ⟨sBuy_ok ok hh hb, ?_, fun i hi => ?_⟩
  · show R.2.1 + 1 ≤ popc (cO R.1 ||| 2 ^ h) 7
    omega
  · show 0 ≤ up R.2.2 R.2.1 (h : Int) i ∧ up R.2.2 R.2.1 (h : Int) i ≤ 6
    have hi : i < R.2.1 + 1 := hi
    by_cases c : i = R.2.1
    · rw [c, up_same]; omega
    · rw [up_ne _ _ c]; exact h3 i (by omega)
theorem drv_b {K : Kz} {n : Int} {s : Cs} {h : Nat} (d : drv K n s h = true) : (zE K s).testBit h = false ∧ cP s < n * cT K s h ∧ bOk s h = true := by
  unfold drv at d
  simp only [Bool.and_eq_true, decide_eq_true_eq, Bool.not_eq_true'] at d
  exact ⟨d.1.1, d.1.2, d.2⟩
theorem rdI_ok {K : Kz} {n : Int} {R : Rs} (r : rOk K R) : ∀ h : Nat, h ≤ kN K → rOk K (rdI K n R h).1 ∧ R.2.1 ≤ (rdI K n R h).1.2.1 ∧ ((rdI K n R h).2 = true → R.2.1 < (rdI K n R h).1.2.1)
  | 0 => fun _ => ⟨r, Nat.le_refl _, fun e => (by cases e)⟩
  | h + 1 => fun hh => by
    obtain ⟨a, b, c⟩ := rdI_ok (n := n) r h (by omega)
    unfold rdI
    by_cases d : drv K n (rdI K n R h).1.1 h = true
    · rw [if_pos d]
      exact ⟨a.buy (by omega) (drv_b d).2.2, by dsimp only; omega, fun _ => by dsimp only; omega⟩
    · rw [if_neg d]; exact ⟨a, b, c⟩
theorem rsG_ok {K : Kz} {n : Int} : ∀ (d : Nat) (R : Rs) (c : Nat), rOk K R → rOk K (rsG K n d R c).1 ∧ (rsG K n d R c).2 ≤ c + d
  | 0 => fun R c r => ⟨r, Nat.le_refl _⟩
  | d + 1 => fun R c r => by
    have a := rdI_ok (n := n) r (kN K) (Nat.le_refl _)
    unfold rsG
    split
    · have := rsG_ok (n := n) d (rdI K n R (kN K)).1 (c + 1) a.1
      exact ⟨this.1, by omega⟩
    · exact ⟨a.1, by dsimp only; omega⟩
theorem nt_rng {n t : Int} (h1 : 1 ≤ n) (h9 : n ≤ 9) (t0 : 0 ≤ t) (t9 : t ≤ 99) : 0 ≤ n * t ∧ n * t ≤ 891 := by
  refine ⟨Int.mul_nonneg (by omega) t0, ?_⟩
  have := Int.mul_le_mul h9 t9 t0 (by omega : (0 : Int) ≤ 9)
  omega
theorem c_driven {X : PX} {σ : Sg} {K : Kz} {s : Cs} {h : Nat} {n : Int} {P : Int → Sg → Prop} (ok : sOk K s) (S : SC σ K s) (hh : h < kN K) (h1 : 1 ≤ n) (h9 : n ≤ 9) (q : P (if (zE K s).testBit h = false ∧ cP s < n * cT K s h then 1 else 0) σ) : CI X 19 [vR (some 157), vI h, vI n] σ P := by
  have n7 := ok.e7.2.2.1
  have t := ok.t.1 h
  have nt := nt_rng h1 h9 t.1 t.2
  have pr := ok.2.2.1
  have r1 : σ.1 147 1 = cP s := S.1.1.2.1
  refine v_19 (c_isEx ok S (by omega) ?_)
  rcases e : (zE K s).testBit h with _ | _
  · refine ⟨by decide, fun c => absurd rfl c, fun _ => c_taxOf (v := 154) (by decide) (by omega) ?_⟩
    rw [show σ.2 (154 + 1) h = cT K s h from S.2.2.2 h (by omega), r1]
    rw [e] at q
    refine ⟨by omega, by omega, fun c => ⟨_, rfl, ?_⟩, fun c => ⟨_, rfl, ?_⟩⟩
    · rw [if_neg (fun z => by omega)] at q; exact q
    · rw [if_pos ⟨rfl, by omega⟩] at q; exact q
  · rw [e, if_neg (fun z => by cases z.1)] at q
    exact ⟨by decide, fun _ => ⟨_, rfl, q⟩, fun c => absurd (by decide) c⟩
/-- the class's rush stands so -/
def RC' (σ τ : Sg) (K : Kz) (R : Rs) (c : Nat) : Prop := Out σ τ 131 169 ∧ SC τ K R.1 ∧ τ.1 157 2 = R.2.1 ∧ τ.1 157 3 = c ∧ (∀ i : Nat, i < R.2.1 → τ.2 158 i = R.2.2 i) ∧ (∀ j : Nat, j ≠ 2 → j ≠ 3 → τ.1 157 j = σ.1 157 j)
theorem c_rush {X : PX} {σ : Sg} {p : Nat} {K : Kz} {s : Cs} {pr n : Int} {P : Sg → Prop} (hp : p ∈ parL) (hp2 : p + 6 < 131) (ok : sOk K s) (nw : sNew s) (h : RP σ p K s) (p0 : 0 ≤ pr) (p9 : pr ≤ 99) (h1 : 1 ≤ n) (h9 : n ≤ 9) (k : ∀ τ : Sg, RC' σ τ K (rsG K n 8 (sPr s pr, 0, fun _ => 0) 0).1 (rsG K n 8 (sPr s pr, 0, fun _ => 0) 0).2 → P τ) : CV X 18 [vR (some 157), vR (some p), vI pr, vI n] σ P := by
  have n7 := ok.e7.2.2.1
  refine v_18 hp (c_begin hp (by omega) ok nw h (fun τ f S => ?_))
  have inn : ∀ (R : Rs) (c x5 : Nat) (Q : Option PV → Sg → Prop), rOk K R → x5 ≤ 7 → (∀ υ : Sg, RC' σ υ K (rdI K n R (kN K)).1 (if (rdI K n R (kN K)).2 then c + 1 else c) → Ev X 18 19 [some (vR (some 157)), some (vR (some p)), none, some (vI n), some (vI (if (rdI K n R (kN K)).2 then 1 else 0)), some (vI ((x5 : Int) + 1)), none] [] υ Q) → ∀ (d i : Nat) (τ : Sg), i + d = kN K → RC' σ τ K (rdI K n R i).1 c → Ev X 18 28 [some (vR (some 157)), some (vR (some p)), none, some (vI n), some (vI (if (rdI K n R i).2 then 1 else 0)), some (vI x5), some (vI i)] [] τ Q := by
    intro R c x5 Q r hx5 kk d
    induction d with
    | zero =>
      intro i τ hi st
      obtain ⟨f, S, t2, t3, t4, t5⟩ := id st
      have r2 : τ.1 p 2 = kN K := (h.out f (by omega)).2.2.1
      have ei : i = kN K := by omega
      rw [ei] at st ⊢
      refine v_18_28 hp ⟨by omega, by omega, fun _ => ⟨by split <;> omega, fun e => ?_, fun e => ?_⟩, fun e => absurd (by omega) e⟩
      · have eb : (rdI K n R (kN K)).2 = false := by
          rcases hb : (rdI K n R (kN K)).2 with _ | _
          · rfl
          · rw [hb] at e; simp at e
        refine kk τ ?_
        rw [eb]; exact st
      · have eb : (rdI K n R (kN K)).2 = true := by
          rcases hb : (rdI K n R (kN K)).2 with _ | _
          · rw [hb] at e; exact absurd rfl e
          · rfl
        refine kk _ ?_
        rw [eb, if_pos rfl]
        obtain ⟨f, S, t2, t3, t4, t5⟩ := st
        have fo : Out τ (up2 τ.1 157 3 (τ.1 157 3 + 1), τ.2) 157 158 := fun c hc => ⟨by dsimp only; rw [up2_ne _ _ _ (by omega)], rfl⟩
        refine ⟨f.trans (fo.wide (by omega) (by omega)), S.out fo (by omega), ?_, ?_, t4, fun j j2 j3 => ?_⟩
        · dsimp only; rw [up2_if, if_neg (by omega)]; exact t2
        · dsimp only; rw [up2_get, t3]; rfl
        · dsimp only; rw [up2_if, if_neg j3]; exact t5 j j2 j3
    | succ d ih =>
      intro i τ hi st
      obtain ⟨f, S, t2, t3, t4, t5⟩ := id st
      have r2 : τ.1 p 2 = kN K := (h.out f (by omega)).2.2.1
      obtain ⟨ro, rm, -⟩ := rdI_ok (n := n) r i (by omega)
      have oki := ro.1
      have m7 := ro.2.1
      have pl := popc_le (cO (rdI K n R i).1.1) 7
      have same : drv K n (rdI K n R i).1.1 i ≠ true → Ev X 18 28 [some (vR (some 157)), some (vR (some p)), none, some (vI n), some (vI (if (rdI K n R i).2 then 1 else 0)), some (vI x5), some (vI ((i : Int) + 1))] [] τ Q := fun nd => by
        have nx := ih (i + 1) τ (by omega)
        rw [show rdI K n R (i + 1) = if drv K n (rdI K n R i).1.1 i = true then ((sBuy (rdI K n R i).1.1 i, (rdI K n R i).1.2.1 + 1, up (rdI K n R i).1.2.2 (rdI K n R i).1.2.1 i), true) else rdI K n R i from rfl, if_neg nd] at nx
        exact nx st
      refine v_18_28 hp ⟨by omega, by omega, fun e => absurd e (by omega), fun _ => ⟨fun e => absurd e (by omega), fun _ => c_driven oki S (by omega) h1 h9 ?_⟩⟩
      by_cases c1 : (zE K (rdI K n R i).1.1).testBit i = false ∧ cP (rdI K n R i).1.1 < n * cT K (rdI K n R i).1.1 i
      · rw [if_pos c1]
        refine ⟨by omega, fun e => absurd e (by omega), fun _ => c_buy oki S (by omega) (fun d1 d2 υ f2 S2 => ?_) (fun nd => ⟨by omega, fun _ => same (fun z => nd ⟨by omega, by rw [Int.toNat_natCast]; exact (drv_b z).2.2⟩), fun e => absurd rfl e⟩)⟩
        rw [Int.toNat_natCast] at d2 S2
        have dv : drv K n (rdI K n R i).1.1 i = true := by unfold drv; rw [c1.1, d2]; simp [c1.2]
        have u2 : υ.1 157 2 = (rdI K n R i).1.2.1 := by rw [(f2 157 (by omega)).1]; exact t2
        have okb := ro.buy (by omega) d2
        have m7' : (rdI K n R i).1.2.1 + 1 ≤ popc (cO (sBuy (rdI K n R i).1.1 i)) 7 := okb.2.1
        have pl' := popc_le (cO (sBuy (rdI K n R i).1.1 i)) 7
        refine ⟨by omega, fun e => absurd e (by omega), fun _ => v_20 ?_⟩
        rw [u2]
        refine ⟨by omega, fun e => absurd e (by omega), fun _ => ⟨fun e => absurd e (by omega), fun _ => ⟨by omega, rfl, ?_⟩⟩⟩
        rw [Int.toNat_natCast]
        have fo : Out υ (up2 υ.1 157 2 (((rdI K n R i).1.2.1 : Int) + 1), up2 υ.2 158 (rdI K n R i).1.2.1 (i : Int)) 157 158 := fun c hc => ⟨by dsimp only; rw [up2_ne _ _ _ (by omega)], by dsimp only; rw [up2_ne _ _ _ (by omega)]⟩
        have nx := ih (i + 1) (up2 υ.1 157 2 (((rdI K n R i).1.2.1 : Int) + 1), up2 υ.2 158 (rdI K n R i).1.2.1 (i : Int)) (by omega)
        rw [show rdI K n R (i + 1) = if drv K n (rdI K n R i).1.1 i = true then ((sBuy (rdI K n R i).1.1 i, (rdI K n R i).1.2.1 + 1, up (rdI K n R i).1.2.2 (rdI K n R i).1.2.1 i), true) else rdI K n R i from rfl, if_pos dv] at nx
        refine nx ⟨f.trans (f2.c.trans (fo.wide (by omega) (by omega))), S2.out fo (by omega), ?_, ?_, fun j hj => ?_, fun j j2 j3 => ?_⟩
        · dsimp only; rw [up2_get]; rfl
        · dsimp only; rw [up2_if, if_neg (by omega), (f2 157 (by omega)).1]; exact t3
        · show up2 υ.2 158 (rdI K n R i).1.2.1 (i : Int) 158 j = up (rdI K n R i).1.2.2 (rdI K n R i).1.2.1 (i : Int) j
          have hj : j < (rdI K n R i).1.2.1 + 1 := hj
          rw [up2_if]
          by_cases e : j = (rdI K n R i).1.2.1
          · rw [if_pos e, e, up_same]
          · rw [if_neg e, up_ne _ _ e, (f2 158 (by omega)).2]; exact t4 j (by omega)
        · dsimp only; rw [up2_if, if_neg j2, (f2 157 (by omega)).1]; exact t5 j j2 j3
      · rw [if_neg c1]
        exact ⟨by omega, fun _ => same (fun z => c1 ⟨(drv_b z).1, (drv_b z).2.1⟩), fun e => absurd rfl e⟩
  have lp : ∀ (d x5 : Nat) (R : Rs) (c : Nat) (τ : Sg), x5 + d = 8 → rOk K R → RC' σ τ K R c → (∀ υ : Sg, RC' σ υ K (rsG K n d R c).1 (rsG K n d R c).2 → P υ) → Ev X 18 19 [some (vR (some 157)), some (vR (some p)), none, some (vI n), some (vI 1), some (vI x5), none] [] τ (fun v τ => v = none ∧ P τ) := by
    intro d
    induction d with
    | zero =>
      intro x5 R c τ hx r st kk
      exact v_18_19 hp ⟨by omega, fun _ => ⟨rfl, kk τ st⟩, fun e => absurd (by omega) e⟩
    | succ d ih =>
      intro x5 R c τ hx r st kk
      unfold rsG at kk
      have ro := rdI_ok (n := n) r (kN K) (Nat.le_refl _)
      refine v_18_19 hp ⟨by omega, fun e => absurd e (by omega), fun _ => ⟨by omega, fun e => absurd e (by omega), fun _ => inn R c x5 _ r (by omega) (fun υ su => ?_) (kN K) 0 τ (by omega) st⟩⟩
      rcases hb : (rdI K n R (kN K)).2 with _ | _
      · rw [hb] at su kk
        rw [if_neg (by decide)] at kk
        exact v_18_19 hp ⟨by omega, fun _ => ⟨rfl, kk υ su⟩, fun _ => ⟨by decide, fun _ => ⟨rfl, kk υ su⟩, fun e => absurd rfl e⟩⟩
      · rw [hb, if_pos rfl] at su
        rw [hb, if_pos rfl] at kk
        exact ih (x5 + 1) _ (c + 1) υ (by omega) ro.1 su kk
  obtain ⟨⟨hr, y1, y2, y3, y4⟩, s1, s2, s3⟩ := id S
  obtain ⟨r0, r1, r2, r3, r4, r5, r6⟩ := id hr
  have f2 : ∀ c : Nat, c ≠ 147 → c ≠ 157 → (up2 (up2 (up2 τ.1 147 1 pr) 157 2 0) 157 3 0) c = τ.1 c := fun c h1 h2 => by simp only [up2_ne _ _ _ h1, up2_ne _ _ _ h2]
  have f7 : ∀ j : Nat, (up2 (up2 (up2 τ.1 147 1 pr) 157 2 0) 157 3 0) 147 j = if j = 1 then pr else τ.1 147 j := fun j => by rw [up2_ne _ _ _ (by omega), up2_ne _ _ _ (by omega), up2_if]
  refine lp 8 0 (sPr s pr, 0, fun _ => 0) 0 _ (by omega) ⟨sPr_ok ok p0 p9, Nat.zero_le _, fun i hi => absurd hi (by dsimp only; omega)⟩ ⟨fun c hc => ⟨?_, ?_⟩, ⟨⟨⟨?_, ?_, ?_, ?_, ⟨?_, r4.2⟩, r5, r6⟩, ?_, ?_, ?_, ?_⟩, ?_, ?_, s3⟩, ?_, ?_, fun i hi => absurd hi (by dsimp only; omega), fun j j2 j3 => ?_⟩ k
  · dsimp only; rw [f2 c (by omega) (by omega)]; exact (f c (by omega)).1
  · exact (f c (by omega)).2
  · dsimp only; rw [f7, if_neg (by omega)]; exact r0
  · dsimp only; rw [f7, if_pos rfl]; rfl
  · dsimp only; rw [f7, if_neg (by omega)]; exact r2
  · dsimp only; rw [f7, if_neg (by omega)]; exact r3
  · dsimp only; rw [f7, if_neg (by omega)]; exact r4.1
  · dsimp only; rw [f2 146 (by omega) (by omega)]; exact y1
  · dsimp only; rw [f2 146 (by omega) (by omega)]; exact y2
  · dsimp only; rw [f2 146 (by omega) (by omega)]; exact y3
  · dsimp only; rw [f2 146 (by omega) (by omega)]; exact y4
  · dsimp only; rw [f2 146 (by omega) (by omega)]; exact s1
  · dsimp only; rw [f2 154 (by omega) (by omega)]; exact s2
  · dsimp only; simp only [up2_if, Nat.reduceEqDiff, reduceIte]; rfl
  · dsimp only; simp only [up2_if, Nat.reduceEqDiff, reduceIte]; rfl
  · dsimp only; rw [up2_if, if_neg j3, up2_if, if_neg j2, up2_ne _ _ _ (by omega), (f 157 (by omega)).1]
/-! the reference -/
def RM' (σ τ : Sg) (o : Nat) (K : Kz) (R : Rs) (c : Nat) : Prop := FA σ τ ∧ SM τ o K R.1 ∧ τ.1 170 29 = R.2.1 ∧ τ.1 170 30 = c ∧ (∀ i : Nat, i < R.2.1 → τ.2 177 i = R.2.2 i)
theorem m_rush {X : PX} {σ : Sg} {o : Nat} {K : Kz} {s : Cs} {n : Int} {P : Sg → Prop} (ok : sOk K s) (S : SM σ o K s) (h1 : 1 ≤ n) (h9 : n ≤ 9) (k : ∀ τ : Sg, RM' σ τ o K (rsG K n 8 (s, 0, fun _ => 0) 0).1 (rsG K n 8 (s, 0, fun _ => 0) 0).2 → P τ) : CV X 206 [vR (some 170), vI n] σ P := by
  have n7 := ok.e7.2.2.1
  have inn : ∀ (R : Rs) (c : Nat) (Q : Option PV → Sg → Prop), rOk K R → (∀ υ : Sg, RM' σ υ o K (rdI K n R (kN K)).1 (if (rdI K n R (kN K)).2 then c + 1 else c) → Ev X 206 8 [some (vR (some 170)), some (vI n), some (vI (if (rdI K n R (kN K)).2 then 1 else 0)), none] [] υ Q) → ∀ (d i : Nat) (τ : Sg), i + d = kN K → RM' σ τ o K (rdI K n R i).1 c → Ev X 206 14 [some (vR (some 170)), some (vI n), some (vI (if (rdI K n R i).2 then 1 else 0)), some (vI i)] [] τ Q := by
    intro R c Q r kk d
    induction d with
    | zero =>
      intro i τ hi st
      obtain ⟨f, S, t2, t3, t4⟩ := id st
      have r2 := S.mx.2.1
      have ei : i = kN K := by omega
      rw [ei] at st ⊢
      have nxt : ∀ (b : Bool) (y : Int), (rdI K n R (kN K)).2 = b → y = (if b then (c : Int) + 1 else c) → Ev X 206 8 [some (vR (some 170)), some (vI n), some (vI (if b then 1 else 0)), none] [] (up2 τ.1 170 30 y, τ.2) Q := fun b y hb hy => by
        have := kk (up2 τ.1 170 30 y, τ.2)
        rw [hb] at this
        obtain ⟨f, S, t2, t3, t4⟩ := st
        refine this ⟨f.trans (fa_170 _ _), S.mv (fun j h1 h2 => by dsimp only; rw [up2_if, if_neg (by omega)]) rfl rfl rfl, ?_, ?_, t4⟩
        · dsimp only; rw [up2_if, if_neg (by omega)]; exact t2
        · dsimp only; rw [up2_get, hy]; cases b <;> rfl
      refine v_206_14 ⟨by omega, by omega, fun _ => ⟨by split <;> omega, fun e => ?_, fun e => ?_⟩, fun e => absurd (by omega) e⟩
      · rcases hb : (rdI K n R (kN K)).2 with _ | _
        · exact nxt false _ hb (by rw [t3]; simp)
        · rw [hb] at e; simp at e
      · rcases hb : (rdI K n R (kN K)).2 with _ | _
        · rw [hb] at e; exact absurd rfl e
        · exact nxt true _ hb (by rw [t3]; simp)
    | succ d ih =>
      intro i τ hi st
      obtain ⟨f, S, t2, t3, t4⟩ := id st
      have r2 := S.mx.2.1
      obtain ⟨ro, rm, -⟩ := rdI_ok (n := n) r i (by omega)
      have oki := ro.1
      have m7 := ro.2.1
      have pl := popc_le (cO (rdI K n R i).1.1) 7
      have e2 := oki.e7.2.1
      have t := oki.t.1 i
      have nt := nt_rng h1 h9 t.1 t.2
      have pr := oki.2.2.1
      have a15 := S.1.2.2.1
      have same : drv K n (rdI K n R i).1.1 i ≠ true → Ev X 206 14 [some (vR (some 170)), some (vI n), some (vI (if (rdI K n R i).2 then 1 else 0)), some (vI ((i : Int) + 1))] [] τ Q := fun nd => by
        have nx := ih (i + 1) τ (by omega)
        rw [show rdI K n R (i + 1) = if drv K n (rdI K n R i).1.1 i = true then ((sBuy (rdI K n R i).1.1 i, (rdI K n R i).1.2.1 + 1, up (rdI K n R i).1.2.2 (rdI K n R i).1.2.1 i), true) else rdI K n R i from rfl, if_neg nd] at nx
        exact nx st
      refine v_206_14 ⟨by omega, by omega, fun e => absurd e (by omega), fun _ => m_isEx e2 S.2.1 (by omega) ?_⟩
      rcases eb : (zE K (rdI K n R i).1.1).testBit i with _ | _
      · refine ⟨by decide, fun c => absurd rfl c, fun _ => ?_⟩
        rw [Int.toNat_natCast, S.2.2 i (by omega), a15]
        refine ⟨by omega, by omega, by omega, fun c => same (fun z => by have := (drv_b z).2.1; omega), fun c => m_canBuy oki S.1 (by omega) ?_⟩
        by_cases d2 : bOk (rdI K n R i).1.1 i = true
        · rw [if_pos d2]
          have dv : drv K n (rdI K n R i).1.1 i = true := by unfold drv; rw [eb, d2]; simp; omega
          have okb := ro.buy (by omega) d2
          have m7' : (rdI K n R i).1.2.1 + 1 ≤ popc (cO (sBuy (rdI K n R i).1.1 i)) 7 := okb.2.1
          have pl' := popc_le (cO (sBuy (rdI K n R i).1.1 i)) 7
          refine ⟨by omega, fun _ => m_buyN oki S.1 (by omega) d2 (fun υ f2 S2 => ?_), fun e => absurd (by omega) e⟩
          have u2 : υ.1 170 29 = (rdI K n R i).1.2.1 := by rw [f2.1.2.1 29 (by omega)]; exact t2
          rw [u2, Int.toNat_natCast]
          refine ⟨by omega, ?_⟩
          have nx := ih (i + 1) (up2 υ.1 170 29 (((rdI K n R i).1.2.1 : Int) + 1), up2 υ.2 177 (rdI K n R i).1.2.1 (i : Int)) (by omega)
          rw [show rdI K n R (i + 1) = if drv K n (rdI K n R i).1.1 i = true then ((sBuy (rdI K n R i).1.1 i, (rdI K n R i).1.2.1 + 1, up (rdI K n R i).1.2.2 (rdI K n R i).1.2.1 i), true) else rdI K n R i from rfl, if_pos dv] at nx
          refine nx ⟨f.trans (f2.fa.trans ⟨fun c hc => ?_, fun c hc => ?_⟩), S2.mv (fun j h1 h2 => ?_) ?_ ?_ ?_, ?_, ?_, fun j hj => ?_⟩
          · dsimp only; rw [up2_ne _ _ _ hc]
          · dsimp only; rw [up2_ne _ _ _ (by omega)]
          · dsimp only; rw [up2_if, if_neg (by omega)]
          · dsimp only; rw [up2_ne _ _ _ (by omega)]
          · dsimp only; rw [up2_ne _ _ _ (by omega)]
          · dsimp only; rw [up2_ne _ _ _ (by omega)]
          · dsimp only; rw [up2_get]; rfl
          · dsimp only; rw [up2_if, if_neg (by omega), f2.1.2.1 30 (by omega)]; exact t3
          · show up2 υ.2 177 (rdI K n R i).1.2.1 (i : Int) 177 j = up (rdI K n R i).1.2.2 (rdI K n R i).1.2.1 (i : Int) j
            have hj : j < (rdI K n R i).1.2.1 + 1 := hj
            rw [up2_if]
            by_cases e : j = (rdI K n R i).1.2.1
            · rw [if_pos e, e, up_same]
            · rw [if_neg e, up_ne _ _ e, f2.1.2.2 177 (by omega) (by omega) (by omega)]; exact t4 j (by omega)
        · rw [if_neg d2]
          exact ⟨by omega, fun e => absurd rfl e, fun _ => same (fun z => d2 (drv_b z).2.2)⟩
      · exact ⟨by decide, fun _ => same (fun z => by have := (drv_b z).1; rw [eb] at this; cases this), fun c => absurd (by decide) c⟩
  have lp : ∀ (d : Nat) (R : Rs) (c : Nat) (τ : Sg), 8 ≤ R.2.1 + d → rOk K R → RM' σ τ o K R c → (∀ υ : Sg, RM' σ υ o K (rsG K n d R c).1 (rsG K n d R c).2 → P υ) → Ev X 206 8 [some (vR (some 170)), some (vI n), some (vI 1), none] [] τ (fun v τ => v = none ∧ P τ) := by
    intro d
    induction d with
    | zero =>
      intro R c τ hx r st kk
      have := r.2.1
      have := popc_le (cO R.1) 7
      omega
    | succ d ih =>
      intro R c τ hx r st kk
      unfold rsG at kk
      have ro := rdI_ok (n := n) r (kN K) (Nat.le_refl _)
      refine v_206_8 ⟨by omega, fun e => absurd e (by omega), fun _ => inn R c _ r (fun υ su => ?_) (kN K) 0 τ (by omega) st⟩
      rcases hb : (rdI K n R (kN K)).2 with _ | _
      · rw [hb] at su kk
        rw [if_neg (by decide)] at kk
        exact v_206_8 ⟨by decide, fun _ => ⟨rfl, kk υ su⟩, fun e => absurd rfl e⟩
      · have lt := ro.2.2 hb
        rw [hb, if_pos rfl] at su
        rw [hb, if_pos rfl] at kk
        exact ih _ (c + 1) υ (by omega) ro.1 su kk
  refine v_206 (lp 8 (s, 0, fun _ => 0) 0 _ (by dsimp only; omega) ⟨ok, Nat.zero_le _, fun i hi => absurd hi (by dsimp only; omega)⟩ ⟨⟨fun c hc => ?_, fun _ _ => rfl⟩, S.mv (fun j h1 h2 => ?_) rfl rfl rfl, ?_, ?_, fun i hi => absurd hi (by dsimp only; omega)⟩ k)
  · dsimp only; simp only [up2_ne _ _ _ hc]
  · dsimp only; rw [up2_if, if_neg (by omega), up2_if, if_neg (by omega)]
  · dsimp only; simp only [up2_if, Nat.reduceEqDiff, reduceIte]; rfl
  · dsimp only; simp only [up2_if, Nat.reduceEqDiff, reduceIte]; rfl
def ruF (K : Kz) (R : Rs) (c : Nat) (w : Int) : Int := if w = 0 then cO R.1 else if w = 1 then R.2.1 else if w = 2 then c else if 10 ≤ w ∧ w < 20 ∧ w - 10 < R.2.1 then R.2.2 (w - 10).toNat else if 20 ≤ w ∧ w - 20 < kN K then cT K R.1 (w - 20).toNat else -1
theorem ruF_rng {K : Kz} {R : Rs} {c : Nat} (r : rOk K R) (hc : c ≤ 8) (w : Int) : InR (ruF K R c w) := by
  obtain ⟨okR, m7, rr⟩ := r
  obtain ⟨x1, x2, x3, x4⟩ := okR.e7
  have ho := okR.2.2.2.1
  have pl := popc_le (cO R.1) 7
  unfold ruF
  repeat' split
  all_goals try omega
  · have := rr (w - 10).toNat (by omega); omega
  · have := okR.t.1 (w - 20).toNat; omega
theorem s_rush {X : PX} : Sm_8 X Rel := by
  intro a n w ha hn hw σ hR
  refine same_P (a := a) hR (-1) (by omega) (fun hc => ?_) (fun τ hR2 hc => ?_) (fun K s a2 hc T => ?_)
  · exact v_136 (c_hasN (s := 0) hR (by omega) ha hc ⟨by omega, fun _ => ⟨_, rfl, Out.rfl, rfl⟩, fun e => absurd rfl e⟩)
  · exact v_207 (m_isPN hR2 ha hc ⟨by omega, fun _ => ⟨_, rfl, FA.rfl, rfl⟩, fun e => absurd rfl e⟩)
  · obtain ⟨⟨tp, tp2⟩, ok, nw, tr, tm⟩ := id T
    have n7 := ok.e7.2.2.1
    by_cases g : 1 ≤ n ∧ n ≤ 9
    · have ro := rsG_ok (n := n) 8 (s, 0, fun _ => 0) 0 (show rOk K (s, 0, fun _ => 0) from ⟨ok, Nat.zero_le _, fun i hi => absurd hi (by dsimp only; omega)⟩)
      have es : sPr s (cP s) = s := rfl
      have pr := ok.2.2.1
      refine ⟨ruF K (rsG K n 8 (s, 0, fun _ => 0) 0).1 (rsG K n 8 (s, 0, fun _ => 0) 0).2 w, ruF_rng ro.1 (by omega) w, v_136 (c_hasY (s := 0) hR (by omega) ha hc ⟨by omega, fun e => absurd e (by omega), fun _ => ⟨hn, fun e => absurd e (by omega), fun _ => ⟨fun _ => ⟨by omega, ?_⟩, fun e => absurd (by omega) e⟩⟩⟩), fun τ hR2 hc2 T2 fr => v_207 (m_isPY hR2 ha hc2 T2 (fun υ g' S h22 => ⟨by omega, fun e => absurd e (by omega), fun _ => c_isIn hn (by omega) (by omega) ?_⟩))⟩
      · rw [tr.2.1]
        refine c_rush tp tp2 ok nw tr pr.1 pr.2 g.1 g.2 (fun τ st => ?_)
        rw [es] at st
        generalize (rsG K n 8 (s, 0, fun _ => 0) 0).1 = R at st ro
        generalize (rsG K n 8 (s, 0, fun _ => 0) 0).2 = c at st ro
        obtain ⟨f, S, t2, t3, t4, t5⟩ := st
        obtain ⟨⟨okR, m7, rr⟩, cl⟩ := ro
        have pl := popc_le (cO R.1) 7
        have r3 : τ.1 147 3 = cO R.1 := S.1.1.2.2.2.1
        have r2 := (T.out f).2.2.2.1.2.2.1
        refine ⟨hw, fun e => ⟨_, rfl, f, ?_⟩, fun e => ⟨_, rfl, f, ?_⟩, fun e => ⟨_, rfl, f, ?_⟩, fun e => ⟨fun x => ⟨fun y => ⟨_, rfl, f, ?_⟩, fun y => v_21 ?_⟩, fun x => c_hH tp r2 n7 (by omega) ?_⟩⟩
        · rw [r3, e]; rfl
        · rw [t2, e]; rfl
        · rw [t3, e]; rfl
        all_goals
          unfold ruF
          rw [if_neg (show ¬ w = 0 by omega), if_neg (show ¬ w = 1 by omega), if_neg (show ¬ w = 2 by omega)]
        · rw [if_neg (by omega), if_neg (by omega)]
        · rw [t2]
          refine ⟨by omega, fun z => absurd z (by omega), fun _ => ⟨by omega, fun z => ⟨_, rfl, _, rfl, f, ?_⟩, fun z => ⟨fun u => absurd u (by omega), fun _ => ⟨by omega, _, rfl, _, rfl, f, ?_⟩⟩⟩⟩
          · rw [if_neg (by omega), if_neg (by omega)]
          · rw [if_pos (by omega)]; exact t4 _ (by omega)
        · rw [if_neg (show ¬ (10 ≤ w ∧ w < 20 ∧ w - 10 < (R.2.1 : Int)) by omega)]
          by_cases z : 0 ≤ w - 20 ∧ w - 20 < kN K
          · rw [if_pos z, if_pos (show 20 ≤ w ∧ w - 20 < (kN K : Int) by omega)]
            refine ⟨by omega, fun e => absurd e (by omega), fun _ => ?_⟩
            rw [show (w - 20 : Int) = ((w - 20).toNat : Int) by omega]
            refine c_taxOf (v := 154) (by decide) (by omega) ⟨_, rfl, f, ?_⟩
            rw [Int.toNat_natCast]; exact S.2.2.2 _ (by omega)
          · rw [if_neg z, if_neg (by omega)]
            exact ⟨by omega, fun _ => ⟨_, rfl, f, rfl⟩, fun e => absurd rfl e⟩
      · rw [if_pos g]
        refine ⟨by omega, fun _ => m_rush ok S g.1 g.2 (fun ω st => ?_), fun e => absurd (by omega) e⟩
        generalize (rsG K n 8 (s, 0, fun _ => 0) 0).1 = R at st ro ⊢
        generalize (rsG K n 8 (s, 0, fun _ => 0) 0).2 = c at st ro ⊢
        obtain ⟨f, S, t2, t3, t4⟩ := st
        obtain ⟨⟨okR, m7, rr⟩, cl⟩ := ro
        have pl := popc_le (cO R.1) 7
        have r3 : ω.1 170 16 = cO R.1 := S.1.2.2.2.1
        have fa := g'.1.trans f
        refine ⟨hw, fun e => ⟨_, rfl, fa, ?_⟩, fun e => ⟨_, rfl, fa, ?_⟩, fun e => ⟨_, rfl, fa, ?_⟩, fun e => c_isIn hw (by omega) (by omega) ?_⟩
        · rw [r3, e]; rfl
        · rw [t2, e]; rfl
        · rw [t3, e]; rfl
        unfold ruF
        rw [if_neg (show ¬ w = 0 by omega), if_neg (show ¬ w = 1 by omega), if_neg (show ¬ w = 2 by omega)]
        by_cases x : 10 ≤ w ∧ w ≤ 16
        · rw [if_pos x]
          rw [t2]
          refine ⟨by omega, fun e => absurd e (by omega), fun _ => ⟨by omega, by omega, fun z => ⟨_, rfl, fa, ?_⟩, fun z => ⟨by omega, _, rfl, fa, ?_⟩⟩⟩
          · rw [if_neg (by omega), if_neg (by omega)]
          · rw [if_pos (by omega)]; exact t4 _ (by omega)
        · rw [if_neg x]
          refine ⟨by omega, fun _ => c_isIn hw (by omega) (by omega) ?_, fun e => absurd rfl e⟩
          rw [if_neg (show ¬ (10 ≤ w ∧ w < 20 ∧ w - 10 < (R.2.1 : Int)) by omega)]
          by_cases y : 20 ≤ w ∧ w ≤ 26
          · rw [if_pos y]
            refine ⟨by omega, fun e => absurd e (by omega), fun _ => m_isH S.mx.2.1 n7 (by omega) ?_⟩
            by_cases z : 0 ≤ w - 20 ∧ w - 20 < kN K
            · rw [if_pos z, if_pos (by omega)]
              exact ⟨by omega, fun e => absurd e (by omega), fun _ => ⟨by omega, _, rfl, fa, S.2.2 _ (by omega)⟩⟩
            · rw [if_neg z, if_neg (by omega)]
              exact ⟨by omega, fun _ => ⟨_, rfl, fa, rfl⟩, fun e => absurd rfl e⟩
          · rw [if_neg y, if_neg (by omega)]
            exact ⟨by omega, fun _ => ⟨_, rfl, fa, rfl⟩, fun e => absurd rfl e⟩
    · refine ⟨-1, by omega, v_136 (c_hasY (s := 0) hR (by omega) ha hc ⟨by omega, fun e => absurd e (by omega), fun _ => ⟨hn, fun _ => ⟨_, rfl, Out.rfl, rfl⟩, fun c => ⟨fun c2 => absurd ⟨by omega, c2⟩ g, fun _ => ⟨_, rfl, Out.rfl, rfl⟩⟩⟩⟩), fun τ hR2 hc2 T2 fr => v_207 (m_isPY hR2 ha hc2 T2 (fun υ g' S h22 => ⟨by omega, fun e => absurd e (by omega), fun _ => c_isIn hn (by omega) (by omega) ?_⟩))⟩
      rw [if_neg g]
      exact ⟨by omega, fun e => absurd rfl e, fun _ => ⟨_, rfl, g'.1, rfl⟩⟩
/-! sale -/
def bN (K : Kz) (s : Cs) (n pr : Int) : Nat := (rsG K n 8 (sPr s pr, 0, fun _ => 0) 0).1.2.1
theorem bN_le {K : Kz} {s : Cs} {n pr : Int} (ok : sOk K s) (p0 : 0 ≤ pr) (p9 : pr ≤ 99) : bN K s n pr ≤ 7 := by
  have ro := rsG_ok (n := n) 8 (sPr s pr, 0, fun _ => 0) 0 (show rOk K (sPr s pr, 0, fun _ => 0) from ⟨sPr_ok ok p0 p9, Nat.zero_le _, fun i hi => absurd hi (by dsimp only; omega)⟩)
  have := ro.1.2.1
  have := popc_le (cO (rsG K n 8 (sPr s pr, 0, fun _ => 0) 0).1.1) 7
  unfold bN; omega
def slI (K : Kz) (s : Cs) (n : Int) : Nat → Int × Int × Int
  | 0 => (0, 0, (bN K s n 0 : Int))
  | k + 1 => if (slI K s n k).2.1 < ((k + 1 : Nat) : Int) * (bN K s n ((k + 1 : Nat) : Int) : Int) then (((k + 1 : Nat) : Int), ((k + 1 : Nat) : Int) * (bN K s n ((k + 1 : Nat) : Int) : Int), (bN K s n ((k + 1 : Nat) : Int) : Int)) else slI K s n k
theorem pb_rng {k b : Nat} (hk : k ≤ 99) (hb : b ≤ 7) : 0 ≤ (k : Int) * (b : Int) ∧ (k : Int) * (b : Int) ≤ 693 := by
  refine ⟨Int.mul_nonneg (by omega) (by omega), ?_⟩
  have := Int.mul_le_mul (show (k : Int) ≤ 99 by omega) (show (b : Int) ≤ 7 by omega) (by omega) (by omega : (0 : Int) ≤ 99)
  omega
theorem slI_rng {K : Kz} {s : Cs} {n : Int} (ok : sOk K s) : ∀ k : Nat, k ≤ 99 → (0 ≤ (slI K s n k).1 ∧ (slI K s n k).1 ≤ 99) ∧ (0 ≤ (slI K s n k).2.1 ∧ (slI K s n k).2.1 ≤ 693) ∧ 0 ≤ (slI K s n k).2.2 ∧ (slI K s n k).2.2 ≤ 7
  | 0 => fun _ => by
    have := bN_le (n := n) (pr := 0) ok (by omega) (by omega)
    unfold slI; dsimp only; omega
  | k + 1 => fun hk => by
    have a := slI_rng (n := n) ok k (by omega)
    have b := bN_le (n := n) (pr := ((k + 1 : Nat) : Int)) ok (by omega) (by omega)
    have c := pb_rng hk b
    unfold slI
    split
    · dsimp only; omega
    · exact a
theorem c_sale {X : PX} {σ : Sg} {p : Nat} {K : Kz} {s : Cs} {n : Int} {P : Sg → Prop} (hp : p ∈ parL) (hp2 : p + 6 < 131) (ok : sOk K s) (nw : sNew s) (h : RP σ p K s) (h1 : 1 ≤ n) (h9 : n ≤ 9) (k : ∀ τ : Sg, Out σ τ 131 169 → τ.1 157 4 = (slI K s n 99).1 → τ.1 157 5 = (slI K s n 99).2.1 → τ.1 157 6 = (slI K s n 99).2.2 → P τ) : CV X 22 [vR (some 157), vR (some p), vI n] σ P := by
  have stp : ∀ (pr : Nat) (τ : Sg) (Q : Option PV → Sg → Prop), pr ≤ 99 → Out σ τ 131 169 → (-1 ≤ τ.1 157 5 ∧ τ.1 157 5 ≤ 693) → (∀ υ : Sg, Out σ υ 131 169 → υ.1 157 4 = (if (pr : Int) * (bN K s n pr : Int) ≤ τ.1 157 5 then τ.1 157 4 else pr) → υ.1 157 5 = (if (pr : Int) * (bN K s n pr : Int) ≤ τ.1 157 5 then τ.1 157 5 else (pr : Int) * (bN K s n pr : Int)) → υ.1 157 6 = (if (pr : Int) * (bN K s n pr : Int) ≤ τ.1 157 5 then τ.1 157 6 else (bN K s n pr : Int)) → Ev X 22 5 [some (vR (some 157)), some (vR (some p)), some (vI n), some (vI ((pr : Int) + 1))] [] υ Q) → Ev X 22 5 [some (vR (some 157)), some (vR (some p)), some (vI n), some (vI pr)] [] τ Q := by
    intro pr τ Q hpr f t5 kk
    have b := bN_le (n := n) (pr := (pr : Int)) ok (by omega) (by omega)
    have c := pb_rng hpr b
    refine v_22_5 hp ⟨by omega, fun e => absurd e (by omega), fun _ => c_rush hp hp2 ok nw (h.out f (by omega)) (by omega) (by omega) h1 h9 (fun υ st => ?_)⟩
    obtain ⟨f2, S, u2, u3, u4, u5⟩ := st
    have u2 : υ.1 157 2 = (bN K s n pr : Int) := u2
    have e5 := u5 5 (by omega) (by omega)
    rw [u2, e5]
    refine ⟨by omega, by omega, fun d => kk υ (f.trans f2) ?_ ?_ ?_, fun d => kk _ (f.trans (f2.trans (fun c hc => ⟨?_, rfl⟩))) ?_ ?_ ?_⟩
    · rw [if_pos d]; exact u5 4 (by omega) (by omega)
    · rw [if_pos d]; exact e5
    · rw [if_pos d]; exact u5 6 (by omega) (by omega)
    · dsimp only; simp only [up2_ne _ _ _ (show c ≠ 157 by omega)]
    · dsimp only; simp only [up2_if, Nat.reduceEqDiff, reduceIte]; rw [if_neg d]
    · dsimp only; simp only [up2_if, Nat.reduceEqDiff, reduceIte]; rw [if_neg d]
    · dsimp only; simp only [up2_if, Nat.reduceEqDiff, reduceIte]; rw [if_neg d]
  have lp : ∀ (d j : Nat) (τ : Sg), j + d = 99 → Out σ τ 131 169 → τ.1 157 4 = (slI K s n j).1 → τ.1 157 5 = (slI K s n j).2.1 → τ.1 157 6 = (slI K s n j).2.2 → Ev X 22 5 [some (vR (some 157)), some (vR (some p)), some (vI n), some (vI ((j + 1 : Nat) : Int))] [] τ (fun v τ => v = none ∧ P τ) := by
    intro d
    induction d with
    | zero =>
      intro j τ hj f t4 t5 t6
      rw [show j = 99 by omega] at t4 t5 t6
      exact v_22_5 hp ⟨by omega, fun _ => ⟨rfl, k τ f t4 t5 t6⟩, fun e => absurd (by omega) e⟩
    | succ d ih =>
      intro j τ hj f t4 t5 t6
      have sr := slI_rng (n := n) ok j (by omega)
      refine stp (j + 1) τ _ (by omega) f (by omega) (fun υ f2 u4 u5 u6 => ih (j + 1) υ (by omega) f2 ?_ ?_ ?_)
      all_goals
        rw [show slI K s n (j + 1) = if (slI K s n j).2.1 < ((j + 1 : Nat) : Int) * (bN K s n ((j + 1 : Nat) : Int) : Int) then (((j + 1 : Nat) : Int), ((j + 1 : Nat) : Int) * (bN K s n ((j + 1 : Nat) : Int) : Int), (bN K s n ((j + 1 : Nat) : Int) : Int)) else slI K s n j from rfl]
        rw [t5] at u4 u5 u6
        by_cases c : ((j + 1 : Nat) : Int) * (bN K s n ((j + 1 : Nat) : Int) : Int) ≤ (slI K s n j).2.1
        · rw [if_pos c] at u4 u5 u6
          rw [if_neg (by omega)]
          first | (rw [u4]; exact t4) | exact u5 | (rw [u6]; exact t6)
        · rw [if_neg c] at u4 u5 u6
          rw [if_pos (by omega)]
          first | exact u4 | exact u5 | exact u6
  refine v_22 hp ?_
  have fo : Out σ (up2 σ.1 157 5 (-1), σ.2) 131 169 := fun c hc => ⟨by dsimp only; rw [up2_ne _ _ _ (by omega)], rfl⟩
  have b0 := bN_le (n := n) (pr := 0) ok (by omega) (by omega)
  have e5 : (up2 σ.1 157 5 (-1), σ.2).1 157 5 = -1 := by dsimp only; rw [up2_get]
  refine stp 0 _ _ (by omega) fo (by rw [e5]; omega) (fun υ f2 u4 u5 u6 => ?_)
  have z : ((0 : Nat) : Int) * (bN K s n ((0 : Nat) : Int) : Int) = 0 := by simp
  rw [e5, z, if_neg (by omega)] at u4 u5 u6
  exact lp 99 0 υ (by omega) f2 u4 u5 u6
theorem m_buyers {X : PX} {σ : Sg} {o : Nat} {K : Kz} {s : Cs} {n pr : Int} {P : Int → Sg → Prop} (ok : sOk K s) (nw : sNew s) (hx : MX σ o K) (hp : MP σ o K s) (h1 : 1 ≤ n) (h9 : n ≤ 9) (p0 : 0 ≤ pr) (p9 : pr ≤ 99) (k : ∀ τ : Sg, FA σ τ → MX τ o K → P (bN K s n pr) τ) : CI X 236 [vR (some 170), vI n, vI pr] σ P := by
  refine v_236 (m_begins ok nw hx hp (fun τ f S _ => ?_))
  obtain ⟨⟨hx2, a14, a15, a16, a17, a19, a20, a21, ag⟩, a18, at'⟩ := id S
  have S2 : SM (up2 τ.1 170 15 pr, τ.2) o K (sPr s pr) := by
    refine ⟨⟨hx2.mv (fun j hj => ?_) rfl, ?_, ?_, ?_, ?_, ?_, ?_, ?_, ag⟩, ?_, at'⟩
    · dsimp only; rw [up2_if, if_neg (by omega)]
    · dsimp only; simp only [up2_if, Nat.reduceEqDiff, reduceIte]; exact a14
    · dsimp only; simp only [up2_if, Nat.reduceEqDiff, reduceIte]; rfl
    · dsimp only; simp only [up2_if, Nat.reduceEqDiff, reduceIte]; exact a16
    · dsimp only; simp only [up2_if, Nat.reduceEqDiff, reduceIte]; exact a17
    · dsimp only; simp only [up2_if, Nat.reduceEqDiff, reduceIte]; exact a19
    · dsimp only; simp only [up2_if, Nat.reduceEqDiff, reduceIte]; exact a20
    · dsimp only; simp only [up2_if, Nat.reduceEqDiff, reduceIte]; exact a21
    · dsimp only; simp only [up2_if, Nat.reduceEqDiff, reduceIte]; exact a18
  refine m_rush (sPr_ok ok p0 p9) S2 h1 h9 (fun υ st => ⟨_, rfl, ?_⟩)
  obtain ⟨f2, S3, t2, t3, t4⟩ := st
  rw [t2]
  exact k υ (f.fa.trans ((fa_170 _ _).trans f2)) S3.mx
theorem s_sale {X : PX} : Sm_26 X Rel := by
  intro a n w ha hn hw σ hR
  refine same_P (a := a) hR (-1) (by omega) (fun hc => ?_) (fun τ hR2 hc => ?_) (fun K s a2 hc T => ?_)
  · exact v_137 (c_hasN (s := 0) hR (by omega) ha hc ⟨by omega, fun _ => ⟨_, rfl, Out.rfl, rfl⟩, fun e => absurd rfl e⟩)
  · exact v_237 (m_isPN hR2 ha hc ⟨by omega, fun _ => ⟨_, rfl, FA.rfl, rfl⟩, fun e => absurd rfl e⟩)
  · obtain ⟨⟨tp, tp2⟩, ok, nw, tr, tm⟩ := id T
    by_cases g : (1 ≤ n ∧ n ≤ 9) ∧ 0 ≤ w ∧ w ≤ 2
    · obtain ⟨g1, g2⟩ := g
      have sr := slI_rng (n := n) ok 99 (by omega)
      have rg : InR (if w = 0 then (slI K s n 99).1 else if w = 1 then (slI K s n 99).2.1 else (slI K s n 99).2.2) := by
        split
        · omega
        · split <;> omega
      refine ⟨if w = 0 then (slI K s n 99).1 else if w = 1 then (slI K s n 99).2.1 else (slI K s n 99).2.2, rg, v_137 (c_hasY (s := 0) hR (by omega) ha hc ⟨by omega, fun e => absurd e (by omega), fun _ => ⟨hn, fun e => absurd e (by omega), fun _ => ⟨fun e => absurd e (by omega), fun _ => ⟨hw, fun e => absurd e (by omega), fun _ => ⟨fun _ => ⟨by omega, c_sale tp tp2 ok nw tr g1.1 g1.2 (fun τ f t4 t5 t6 => ⟨fun x => ⟨fun y => ⟨_, rfl, f, ?_⟩, fun y => ⟨_, rfl, f, ?_⟩⟩, fun x => ⟨_, rfl, f, ?_⟩⟩)⟩, fun e => absurd (by omega) e⟩⟩⟩⟩⟩), fun τ hR2 hc2 T2 fr => v_237 (m_isPY hR2 ha hc2 T2 (fun υ g' S h22 => ⟨by omega, fun e => absurd e (by omega), fun _ => c_isIn hn (by omega) (by omega) ?_⟩))⟩
      · rw [if_neg x, if_neg y]; exact t6
      · rw [if_neg x, if_pos (by omega)]; exact t5
      · rw [if_pos (by omega)]; exact t4
      · rw [if_pos g1]
        refine ⟨by omega, fun e => absurd e (by omega), fun _ => c_isIn hw (by omega) (by omega) ?_⟩
        rw [if_pos g2]
        have mpo : ∀ ω : Sg, FA υ ω → MP ω (610 + 49 * a.toNat) K s := fun ω f => (T2.2.2.2.2.mv (g'.1.2 171 (by omega))).mv (f.2 171 (by omega))
        have lp : ∀ (d j : Nat) (ω : Sg), j + d = 99 → FA υ ω → MX ω (610 + 49 * a.toNat) K → Ev X 237 27 [some (vR (some 170)), none, some (vI n), some (vI w), some (vI (slI K s n j).1), some (vI (slI K s n j).2.1), some (vI (slI K s n j).2.2), some (vI ((j + 1 : Nat) : Int)), none] [] ω (fun v τ' => ∃ x, v = some (vI x) ∧ FA τ τ' ∧ x = if w = 0 then (slI K s n 99).1 else if w = 1 then (slI K s n 99).2.1 else (slI K s n 99).2.2) := by
          intro d
          induction d with
          | zero =>
            intro j ω hj f m
            rw [show j = 99 by omega]
            refine v_237_27 ⟨by omega, fun _ => ⟨hw, fun x => ⟨fun y => ⟨_, rfl, g'.1.trans f, ?_⟩, fun y => ⟨_, rfl, g'.1.trans f, ?_⟩⟩, fun x => ⟨_, rfl, g'.1.trans f, ?_⟩⟩, fun e => absurd (by omega) e⟩
            · rw [if_neg x, if_neg y]
            · rw [if_neg x, if_pos (by omega)]
            · rw [if_pos (by omega)]
          | succ d ih =>
            intro j ω hj f m
            have sr := slI_rng (n := n) ok j (by omega)
            have b := bN_le (n := n) (pr := ((j + 1 : Nat) : Int)) ok (by omega) (by omega)
            have c := pb_rng (show j + 1 ≤ 99 by omega) b
            refine v_237_27 ⟨by omega, fun e => absurd e (by omega), fun _ => m_buyers ok nw m (mpo ω f) g1.1 g1.2 (by omega) (by omega) (fun ω2 f2 m2 => ?_)⟩
            have nx := ih (j + 1) ω2 (by omega) (f.trans f2) m2
            rw [show slI K s n (j + 1) = if (slI K s n j).2.1 < ((j + 1 : Nat) : Int) * (bN K s n ((j + 1 : Nat) : Int) : Int) then (((j + 1 : Nat) : Int), ((j + 1 : Nat) : Int) * (bN K s n ((j + 1 : Nat) : Int) : Int), (bN K s n ((j + 1 : Nat) : Int) : Int)) else slI K s n j from rfl] at nx
            refine ⟨by omega, by omega, fun x => ?_, fun x => ?_⟩
            · rw [if_pos x] at nx; exact nx
            · rw [if_neg x] at nx; exact nx
        exact ⟨by omega, fun _ => m_buyers ok nw S.mx (mpo υ FA.rfl) g1.1 g1.2 (by omega) (by omega) (fun ω f m => lp 99 0 ω (by omega) f m), fun e => absurd (by omega) e⟩
    · refine ⟨-1, by omega, v_137 (c_hasY (s := 0) hR (by omega) ha hc ⟨by omega, fun e => absurd e (by omega), fun _ => ⟨hn, fun _ => ⟨_, rfl, Out.rfl, rfl⟩, fun c => ⟨fun _ => ⟨_, rfl, Out.rfl, rfl⟩, fun c2 => ⟨hw, fun _ => ⟨_, rfl, Out.rfl, rfl⟩, fun c3 => ⟨fun c4 => absurd ⟨by omega, by omega⟩ g, fun _ => ⟨_, rfl, Out.rfl, rfl⟩⟩⟩⟩⟩⟩), fun τ hR2 hc2 T2 fr => v_237 (m_isPY hR2 ha hc2 T2 (fun υ g' S h22 => ⟨by omega, fun e => absurd e (by omega), fun _ => c_isIn hn (by omega) (by omega) ?_⟩))⟩
      by_cases g1 : 1 ≤ n ∧ n ≤ 9
      · rw [if_pos g1]
        refine ⟨by omega, fun e => absurd e (by omega), fun _ => c_isIn hw (by omega) (by omega) ?_⟩
        rw [if_neg (fun g2 => g ⟨g1, g2⟩)]
        exact ⟨by omega, fun e => absurd rfl e, fun _ => ⟨_, rfl, g'.1, rfl⟩⟩
      · rw [if_neg g1]
        exact ⟨by omega, fun _ => ⟨_, rfl, g'.1, rfl⟩, fun e => absurd rfl e⟩
