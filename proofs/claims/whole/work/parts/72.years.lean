/-! nothing but years: ruin, bid, top -/
def yIt (K : Kz) (s : Cs) : Nat → Cs
  | 0 => s
  | k + 1 => sYear K (yIt K s k)
theorem yIt_ok {K : Kz} {s : Cs} (ok : sOk K s) (hy : cY s = 0) : ∀ k : Nat, k ≤ 60 → sOk K (yIt K s k) ∧ cY (yIt K s k) = k
  | 0 => fun _ => ⟨ok, hy⟩
  | k + 1 => fun hk => by
    obtain ⟨a, b⟩ := yIt_ok ok hy k (by omega)
    refine ⟨sYear_ok a (by omega), ?_⟩
    show cY (yIt K s k) + 1 = _
    omega
def ruB (K : Kz) (s : Cs) (j : Nat) : Bool := decide (yRu K (yIt K s j) (kN K) ≠ -1)
def ruY (K : Kz) (s : Cs) (N : Nat) : Int := if frs (ruB K s) N = -1 then -1 else frs (ruB K s) N + 1
def ruW (K : Kz) (s : Cs) (N : Nat) : Int := if frs (ruB K s) N = -1 then -1 else yRu K (yIt K s (frs (ruB K s) N).toNat) (kN K)
theorem ru_none {K : Kz} {s : Cs} {N : Nat} (h : ∀ i : Nat, i < N → ruB K s i = false) : ruY K s N = -1 ∧ ruW K s N = -1 := by
  unfold ruY ruW
  rw [frs_none N h]; exact ⟨rfl, rfl⟩
theorem ru_some {K : Kz} {s : Cs} {N j : Nat} (h : ∀ i : Nat, i < j → ruB K s i = false) (hj : ruB K s j = true) (hN : j < N) : ruY K s N = j + 1 ∧ ruW K s N = yRu K (yIt K s j) (kN K) := by
  unfold ruY ruW
  rw [frs_eq hj h N hN, if_neg (by omega), if_neg (by omega), Int.toNat_natCast]; exact ⟨rfl, rfl⟩
theorem ruB_f {K : Kz} {s : Cs} {j : Nat} : (yRu K (yIt K s j) (kN K) = -1 → ruB K s j = false) ∧ (yRu K (yIt K s j) (kN K) ≠ -1 → ruB K s j = true) := by
  unfold ruB
  constructor
  · intro h; simp [h]
  · intro h; simp [h]
theorem yRu_rng (K : Kz) (s : Cs) (k : Nat) : -1 ≤ yRu K s k ∧ yRu K s k < k := frs_rng _ k
theorem ru_ext {K : Kz} {s : Cs} {j : Nat} (h : ∀ i : Nat, i < j → ruB K s i = false) (hj : ruB K s j = false) : ∀ i : Nat, i < j + 1 → ruB K s i = false := fun i hi => by
  rcases Nat.lt_or_ge i j with g | g
  · exact h i g
  · rw [show i = j by omega]; exact hj
theorem c_setQ {X : PX} {σ : Sg} {p : Nat} {K : Kz} {s : Cs} {q : Int} {P : Sg → Prop} (hp : p ∈ parL) (hp2 : p < 147) (ok : sOk K s) (nw : sNew s) (h : RP σ p K s) (h0 : 0 ≤ q) (h9 : q ≤ 99) (k : ∀ τ : Sg, Out σ τ 146 156 → SC τ K (sQ s q) → P τ) : CV X 29 [vR (some 146), vR (some p)] σ (fun τ1 => CV X 30 [vR (some 146)] (up2 τ1.1 147 0 q, τ1.2) (fun τ2 => P τ2)) := by
  refine c_begin hp hp2 ok nw h (fun τ f S => ?_)
  obtain ⟨⟨hr, y1, y2, y3, y4⟩, s1, s2, s3⟩ := id S
  obtain ⟨r0, r1, r2, r3, r4, r5, r6⟩ := id hr
  refine c_assess (sQ_ok ok h0 h9) ⟨⟨?_, ?_, ?_, ?_, ⟨?_, r4.2⟩, r5, r6⟩, ?_, ?_, ?_, ?_⟩ (fun υ u1 u2 u3 u4 => k υ (f.trans (fun c hc => ⟨?_, u3 c (by omega) (by omega)⟩)) u4)
  · dsimp only; simp only [up2_if, Nat.reduceEqDiff, reduceIte]; rfl
  · dsimp only; simp only [up2_if, Nat.reduceEqDiff, reduceIte]; exact r1
  · dsimp only; simp only [up2_if, Nat.reduceEqDiff, reduceIte]; exact r2
  · dsimp only; simp only [up2_if, Nat.reduceEqDiff, reduceIte]; exact r3
  · dsimp only; simp only [up2_if, Nat.reduceEqDiff, reduceIte]; exact r4.1
  · dsimp only; rw [up2_ne _ _ _ (by omega)]; exact y1
  · dsimp only; rw [up2_ne _ _ _ (by omega)]; exact y2
  · dsimp only; rw [up2_ne _ _ _ (by omega)]; exact y3
  · dsimp only; rw [up2_ne _ _ _ (by omega)]; exact y4
  · rw [u1 c (by omega) (by omega)]; dsimp only; rw [up2_ne _ _ _ (by omega)]
theorem c_ruin {X : PX} {σ : Sg} {p N : Nat} {K : Kz} {s : Cs} {q : Int} {P : Int → Sg → Prop} (hp : p ∈ parL) (hp2 : p < 147) (ok : sOk K s) (nw : sNew s) (h : RP σ p K s) (h0 : 0 ≤ q) (h9 : q ≤ 99) (hN : 1 ≤ N) (hN2 : N ≤ 50) (k : ∀ τ : Sg, Out σ τ 146 156 → τ.1 146 8 = ruW K (sQ s q) N → P (ruY K (sQ s q) N) τ) : CI X 59 [vR (some 160), vR (some p), vI q, vI N] σ P := by
  refine v_59 hp (c_setQ hp hp2 ok nw h h0 h9 (fun τ f S => ?_))
  have lp : ∀ (d j : Nat) (τ : Sg), j + d = N → Out σ τ 146 156 → SC τ K (yIt K (sQ s q) j) → (∀ i : Nat, i < j → ruB K (sQ s q) i = false) → (1 ≤ j → τ.1 146 8 = -1) → Ev X 59 14 [some (vR (some 160)), none, none, some (vI N), some (vI ((j + 1 : Nat) : Int))] [] τ (fun v τ => ∃ x, v = some (vI x) ∧ P x τ) := by
    intro d
    induction d with
    | zero =>
      intro j τ hj f S al h8
      have e := ru_none (K := K) (s := sQ s q) (N := N) (fun i hi => al i (by omega))
      refine v_59_14 ⟨by omega, by omega, fun _ => ⟨_, rfl, ?_⟩, fun e => absurd (by omega) e⟩
      have := k τ f (by rw [h8 (by omega), e.2])
      rw [e.1] at this; exact this
    | succ d ih =>
      intro j τ hj f S al h8
      obtain ⟨okj, yj⟩ := yIt_ok (sQ_ok ok h0 h9) nw.2.1 j (by omega)
      have rr := yRu_rng K (yIt K (sQ s q) j) (kN K)
      have n7 := ok.e7.2.2.1
      refine v_59_14 ⟨by omega, by omega, fun e => absurd e (by omega), fun _ => ⟨fun e => absurd e (by omega), fun _ => c_collect okj S (by omega) (fun υ f2 S2 u7 u8 u9 => ?_)⟩⟩
      rw [u8]
      refine ⟨by omega, fun c => ih (j + 1) υ (by omega) (f.trans f2) S2 (ru_ext al (ruB_f.1 c)) (fun _ => by rw [u8]; exact c), fun c => ⟨_, rfl, ?_⟩⟩
      have e := ru_some (K := K) (s := sQ s q) (N := N) al (ruB_f.2 c) (by omega)
      have := k υ (f.trans f2) (by rw [u8, e.2])
      rw [e.1] at this; exact this
  exact lp N 0 τ (by omega) f S (fun i hi => absurd hi (by omega)) (fun e => absurd e (by omega))
theorem ruY_rng {K : Kz} {s : Cs} {N : Nat} (hN : N ≤ 50) : -1 ≤ ruY K s N ∧ ruY K s N ≤ 50 := by
  have := frs_rng (ruB K s) N
  unfold ruY; split <;> omega
theorem ruW_rng {K : Kz} {s : Cs} {N : Nat} (n7 : kN K ≤ 7) : -1 ≤ ruW K s N ∧ ruW K s N ≤ 7 := by
  have := yRu_rng K (yIt K s (frs (ruB K s) N).toNat) (kN K)
  unfold ruW; split <;> omega
theorem s_ruin {X : PX} : Sm_11 X Rel := by
  intro a ha z hz σ hR
  refine same_P (a := a) hR (-1) (by omega) (fun hc => ?_) (fun τ hR2 hc => ?_) (fun K s a2 hc T => ?_)
  · exact v_150 (c_hasN (s := 0) hR (by omega) ha hc ⟨by omega, fun e => absurd rfl e, fun _ => ⟨_, rfl, Out.rfl, rfl⟩⟩)
  · exact v_211 (m_isPN hR2 ha hc ⟨by omega, fun e => absurd rfl e, fun _ => ⟨_, rfl, FA.rfl, rfl⟩⟩)
  · obtain ⟨⟨tp, tp2⟩, ok, nw, tr, tm⟩ := id T
    obtain ⟨e1, e2, e3, e4⟩ := ok.e7
    have q0 := ok.2.1
    have r1 := ruY_rng (K := K) (s := s) (N := 50) (by omega)
    have r2 := ruW_rng (K := K) (s := s) (N := 50) e3
    have es : sQ s (cQ s) = s := rfl
    refine ⟨if z = 0 then ruY K s 50 else ruW K s 50, by split <;> omega, v_150 (c_hasY (s := 0) hR (by omega) ha hc ⟨by omega, fun _ => ⟨by omega, ?_⟩, fun e => absurd (by omega) e⟩), fun τ hR2 hc2 T2 _ => v_211 (m_isPY hR2 ha hc2 T2 (fun υ g S _ => ⟨by omega, fun _ => ?_, fun e => absurd (by omega) e⟩))⟩
    · rw [tr.1]
      refine c_ruin (N := 50) tp (by omega) ok nw tr q0.2.1 q0.2.2.1 (by omega) (by omega) (fun τ f h8 => ⟨by omega, fun c => ⟨_, rfl, f.c, ?_⟩, fun c => ⟨_, rfl, f.c, ?_⟩⟩)
      · rw [if_pos c, es]
      · rw [if_neg c, h8, es]
    · have lp : ∀ (d j : Nat) (ω : Sg), j + d = 50 → FA τ ω → SM ω (610 + 49 * a.toNat) K (yIt K s j) → (∀ i : Nat, i < j → ruB K s i = false) → Ev X 211 6 [some (vR (some 170)), none, some (vI z)] [] ω (fun v τ' => ∃ x, v = some (vI x) ∧ FA τ τ' ∧ x = if z = 0 then ruY K s 50 else ruW K s 50) := by
        intro d
        induction d with
        | zero =>
          intro j ω hj f S al
          obtain ⟨okj, yj⟩ := yIt_ok ok nw.2.1 j (by omega)
          have h19 := S.1.2.2.2.2.2.1
          have e := ru_none (K := K) (s := s) (N := 50) (fun i hi => al i (by omega))
          refine v_211_6 ⟨by omega, fun _ => ⟨_, rfl, f, ?_⟩, fun e => absurd (by omega) e⟩
          rw [e.1, e.2]; split <;> rfl
        | succ d ih =>
          intro j ω hj f S al
          obtain ⟨okj, yj⟩ := yIt_ok ok nw.2.1 j (by omega)
          have h19 := S.1.2.2.2.2.2.1
          have rr := yRu_rng K (yIt K s j) (kN K)
          refine v_211_6 ⟨by omega, fun e => absurd e (by omega), fun _ => m_year okj S (by omega) (fun ω2 f2 S2 u23 u24 => ?_)⟩
          have h192 := S2.1.2.2.2.2.2.1
          have y2 : cY (sYear K (yIt K s j)) = cY (yIt K s j) + 1 := rfl
          rw [u24]
          refine ⟨by omega, fun c => ih (j + 1) ω2 (by omega) (f.trans f2.fa) S2 (ru_ext al (ruB_f.1 c)), fun c => ⟨by omega, fun c2 => ⟨_, rfl, f.trans f2.fa, ?_⟩, fun c2 => ⟨_, rfl, f.trans f2.fa, ?_⟩⟩⟩
          · rw [if_pos c2, (ru_some (K := K) (s := s) (N := 50) al (ruB_f.2 c) (by omega)).1]; omega
          · rw [if_neg c2, (ru_some (K := K) (s := s) (N := 50) al (ruB_f.2 c) (by omega)).2]
      exact lp 50 0 υ (by omega) g.1 S (fun i hi => absurd hi (by omega))
/-! bid -/
theorem c_goY {X : PX} {σ : Sg} {p N : Nat} {K : Kz} {s : Cs} {P : Sg → Prop} (hp : p ∈ parL) (hp2 : p < 147) (ok : sOk K s) (nw : sNew s) (h : RP σ p K s) (hN : N ≤ 50) (k : ∀ τ : Sg, Out σ τ 146 156 → SC τ K (yIt K s N) → P τ) : CV X 58 [vR (some 160), vR (some p), vI N] σ P := by
  refine v_58 hp (c_begin hp hp2 ok nw h (fun τ f S => ?_))
  have lp : ∀ (d j : Nat) (τ : Sg), j + d = N → Out σ τ 146 156 → SC τ K (yIt K s j) → Ev X 58 6 [some (vR (some 160)), none, some (vI N), some (vI j)] [] τ (fun v τ => v = none ∧ P τ) := by
    intro d
    induction d with
    | zero =>
      intro j τ hj f S
      refine v_58_6 ⟨by omega, by omega, fun _ => ⟨rfl, k τ f ?_⟩, fun e => absurd (by omega) e⟩
      rw [← show j = N by omega]; exact S
    | succ d ih =>
      intro j τ hj f S
      obtain ⟨okj, yj⟩ := yIt_ok ok nw.2.1 j (by omega)
      exact v_58_6 ⟨by omega, by omega, fun e => absurd e (by omega), fun _ => ⟨fun e => absurd e (by omega), fun _ => c_collect okj S (by omega) (fun υ f2 S2 _ _ _ => ih (j + 1) υ (by omega) (f.trans f2) S2)⟩⟩
  exact lp N 0 τ (by omega) f S
theorem s_bid {X : PX} : Sm_12 X Rel := by
  intro a n ha hn σ hR
  refine same_P (a := a) hR (-1) (by omega) (fun hc => ?_) (fun τ hR2 hc => ?_) (fun K s a2 hc T => ?_)
  · exact v_151 (c_hasN (s := 0) hR (by omega) ha hc ⟨by omega, fun _ => ⟨_, rfl, Out.rfl, rfl⟩, fun e => absurd rfl e⟩)
  · exact v_212 (m_isPN hR2 ha hc ⟨by omega, fun _ => ⟨_, rfl, FA.rfl, rfl⟩, fun e => absurd rfl e⟩)
  · obtain ⟨⟨tp, tp2⟩, ok, nw, tr, tm⟩ := id T
    by_cases g : 0 ≤ n ∧ n ≤ 50
    · obtain ⟨N, rfl⟩ := Int.eq_ofNat_of_zero_le g.1
      obtain ⟨okN, yN⟩ := yIt_ok ok nw.2.1 N (by omega)
      have dr := okN.2.2.2.2.2.2.2.1
      refine ⟨cD (yIt K s N), by omega, v_151 (c_hasY (s := 0) hR (by omega) ha hc ⟨by omega, fun e => absurd e (by omega), fun _ => ⟨hn, fun e => absurd e (by omega), fun _ => ⟨fun _ => ⟨by omega, c_goY tp (by omega) ok nw tr (by omega) (fun τ f S => ⟨_, rfl, f.c, S.1.2.2.1⟩)⟩, fun e => absurd (by omega) e⟩⟩⟩), fun τ hR2 hc2 T2 _ => v_212 (m_isPY hR2 ha hc2 T2 (fun υ g' S _ => ⟨by omega, fun e => absurd e (by omega), fun _ => c_isIn hn (by omega) (by omega) ?_⟩))⟩
      rw [if_pos g]
      have lp : ∀ (d j : Nat) (ω : Sg), j + d = N → FA τ ω → SM ω (610 + 49 * a.toNat) K (yIt K s j) → Ev X 212 11 [some (vR (some 170)), none, some (vI N)] [] ω (fun v τ' => ∃ x, v = some (vI x) ∧ FA τ τ' ∧ x = cD (yIt K s N)) := by
        intro d
        induction d with
        | zero =>
          intro j ω hj f S
          obtain ⟨okj, yj⟩ := yIt_ok ok nw.2.1 j (by omega)
          have h19 := S.1.2.2.2.2.2.1
          refine v_212_11 ⟨by omega, by omega, fun _ => ⟨_, rfl, f, ?_⟩, fun e => absurd (by omega) e⟩
          rw [S.1.2.2.2.2.2.2.1, show j = N by omega]
        | succ d ih =>
          intro j ω hj f S
          obtain ⟨okj, yj⟩ := yIt_ok ok nw.2.1 j (by omega)
          have h19 := S.1.2.2.2.2.2.1
          exact v_212_11 ⟨by omega, by omega, fun e => absurd e (by omega), fun _ => m_year okj S (by omega) (fun ω2 f2 S2 _ _ => ih (j + 1) ω2 (by omega) (f.trans f2.fa) S2)⟩
      exact ⟨by omega, fun _ => lp N 0 υ (by omega) g'.1 S, fun e => absurd (by omega) e⟩
    · refine ⟨-1, by omega, v_151 (c_hasY (s := 0) hR (by omega) ha hc ⟨by omega, fun e => absurd e (by omega), fun _ => ⟨hn, fun _ => ⟨_, rfl, Out.rfl, rfl⟩, fun c => ⟨fun c2 => absurd ⟨by omega, c2⟩ g, fun _ => ⟨_, rfl, Out.rfl, rfl⟩⟩⟩⟩), fun τ hR2 hc2 T2 _ => v_212 (m_isPY hR2 ha hc2 T2 (fun υ g' S _ => ⟨by omega, fun e => absurd e (by omega), fun _ => c_isIn hn (by omega) (by omega) ?_⟩))⟩
      rw [if_neg g]
      exact ⟨by omega, fun e => absurd rfl e, fun _ => ⟨_, rfl, g'.1, rfl⟩⟩
/-! top -/
def tpB (K : Kz) (s : Cs) (N q : Nat) : Bool := decide (ruY K (sQ s (q : Int)) N ≠ -1)
def tpG (b : Nat → Bool) : Nat → Nat
  | 0 => 0
  | q + 1 => if b (q + 1) = true then tpG b q else q + 1
theorem tpG_le (b : Nat → Bool) : ∀ q : Nat, tpG b q ≤ q
  | 0 => Nat.le_refl _
  | q + 1 => by
    have := tpG_le b q
    unfold tpG
    split <;> omega
theorem ru_0 {K : Kz} {s : Cs} (ok : sOk K s) (hy : cY s = 0) (q0 : cQ s = 0) : ∀ j : Nat, j ≤ 50 → cQ (yIt K s j) = 0 ∧ ruB K s j = false := by
  intro j hj
  have cq : ∀ j : Nat, cQ (yIt K s j) = 0 := fun j => by
    induction j with
    | zero => exact q0
    | succ j ih => exact ih
  obtain ⟨okj, yj⟩ := yIt_ok ok hy j (by omega)
  refine ⟨cq j, ruB_f.1 ?_⟩
  refine frs_none (kN K) (fun h hh => ?_)
  have t := tax_0 okj (cq j) h
  have p := yPay_rng okj hh
  rw [decide_eq_false_iff_not]
  omega
theorem c_top {X : PX} {σ : Sg} {p N : Nat} {K : Kz} {s : Cs} {P : Int → Sg → Prop} (hp : p ∈ parL) (hp2 : p + 6 < 131) (ok : sOk K s) (nw : sNew s) (h : RP σ p K s) (hN : 1 ≤ N) (hN2 : N ≤ 50) (k : ∀ τ : Sg, Out σ τ 146 156 → P (tpG (tpB K s N) 99) τ) : CI X 60 [vR (some 160), vR (some p), vI N] σ P := by
  have lp : ∀ (q : Nat) (τ : Sg), q ≤ 99 → Out σ τ 146 156 → tpG (tpB K s N) q = tpG (tpB K s N) 99 → Ev X 60 2 [some (vR (some 160)), some (vR (some p)), some (vI N), some (vI q)] [] τ (fun v τ => ∃ x, v = some (vI x) ∧ P x τ) := by
    intro q
    induction q with
    | zero =>
      intro τ hq f e
      refine v_60_2 hp ⟨by omega, fun _ => ⟨_, rfl, ?_⟩, fun e => absurd (by omega) e⟩
      have := k τ f
      rw [← e] at this; exact this
    | succ q ih =>
      intro τ hq f e
      rw [show tpG (tpB K s N) (q + 1) = if tpB K s N (q + 1) = true then tpG (tpB K s N) q else q + 1 from rfl] at e
      have rr := ruY_rng (K := K) (s := sQ s ((q + 1 : Nat) : Int)) (N := N) hN2
      refine v_60_2 hp ⟨by omega, fun e => absurd e (by omega), fun _ => c_ruin hp (by omega) ok nw (h.out f (by omega)) (by omega) (by omega) hN hN2 (fun υ f2 _ => ⟨by omega, fun c => ?_, fun c => ⟨_, rfl, ?_⟩⟩)⟩
      · rw [if_pos (by unfold tpB; rw [decide_eq_true_iff]; exact c)] at e
        have := ih υ (by omega) (f.trans f2) e
        rw [show ((q + 1 : Nat) : Int) + -1 = (q : Int) by omega]
        exact this
      · rw [if_neg (by unfold tpB; rw [decide_eq_true_iff]; exact c)] at e
        have := k υ (f.trans f2)
        rw [← e] at this; exact this
  exact v_60 hp (lp 99 σ (by omega) Out.rfl rfl)
theorem m_isRu {X : PX} {σ : Sg} {o N : Nat} {K : Kz} {s : Cs} {q : Int} {P : Int → Sg → Prop} (ok : sOk K s) (nw : sNew s) (hx : MX σ o K) (hp : MP σ o K s) (h0 : 0 ≤ q) (h9 : q ≤ 99) (hN2 : N ≤ 50) (k : ∀ τ : Sg, FB σ τ → P (if ruY K (sQ s q) N ≠ -1 then 1 else 0) τ) : CI X 238 [vR (some 170), vI q, vI N] σ P := by
  refine v_238 (m_begins ok nw hx hp (fun τ f S _ => ?_))
  obtain ⟨⟨hx2, a14, a15, a16, a17, a19, a20, a21, ag⟩, a18, at'⟩ := id S
  refine m_sh (o := o) (K := K) (s := sQ s q) (sQ_ok ok h0 h9) ⟨hx2.mv (fun j hj => ?_) rfl, ?_, ?_, ?_, ?_, ?_, ?_, ?_, ag⟩ (fun υ u1 u2 u3 u4 => ?_)
  · dsimp only; rw [up2_if, if_neg (by omega)]
  · dsimp only; simp only [up2_if, Nat.reduceEqDiff, reduceIte]; rfl
  · dsimp only; simp only [up2_if, Nat.reduceEqDiff, reduceIte]; exact a15
  · dsimp only; simp only [up2_if, Nat.reduceEqDiff, reduceIte]; exact a16
  · dsimp only; simp only [up2_if, Nat.reduceEqDiff, reduceIte]; exact a17
  · dsimp only; simp only [up2_if, Nat.reduceEqDiff, reduceIte]; exact a19
  · dsimp only; simp only [up2_if, Nat.reduceEqDiff, reduceIte]; exact a20
  · dsimp only; simp only [up2_if, Nat.reduceEqDiff, reduceIte]; exact a21
  · have fu : FB σ υ := f.trans (FB.trans (τ := (up2 τ.1 170 14 q, τ.2)) ⟨fun c hc => by dsimp only; rw [up2_ne _ _ _ hc], fun j hj => by dsimp only; rw [up2_if, if_neg (by omega)], fun _ _ _ _ => rfl⟩ u1.1)
    have n7 := ok.e7.2.2.1
    have lp : ∀ (d j : Nat) (ω : Sg), j + d = N → FB σ ω → SM ω o K (yIt K (sQ s q) j) → (∀ i : Nat, i < j → ruB K (sQ s q) i = false) → Ev X 238 9 [some (vR (some 170)), none, some (vI N), some (vI 0)] [] ω (fun v τ => ∃ x, v = some (vI x) ∧ P x τ) := by
      intro d
      induction d with
      | zero =>
        intro j ω hj f S al
        obtain ⟨okj, yj⟩ := yIt_ok (sQ_ok ok h0 h9) nw.2.1 j (by omega)
        have h19 := S.1.2.2.2.2.2.1
        have e := ru_none (K := K) (s := sQ s q) (N := N) (fun i hi => al i (by omega))
        refine v_238_9 ⟨by omega, by omega, fun _ => ⟨by omega, _, rfl, ?_⟩, fun e => absurd (by omega) e⟩
        have := k ω f
        rw [e.1, if_neg (by omega)] at this; exact this
      | succ d ih =>
        intro j ω hj f S al
        obtain ⟨okj, yj⟩ := yIt_ok (sQ_ok ok h0 h9) nw.2.1 j (by omega)
        have h19 := S.1.2.2.2.2.2.1
        have rr := yRu_rng K (yIt K (sQ s q) j) (kN K)
        refine v_238_9 ⟨by omega, by omega, fun e => absurd e (by omega), fun _ => ⟨by omega, fun e => absurd rfl e, fun _ => m_year okj S (by omega) (fun ω2 f2 S2 u23 u24 => ?_)⟩⟩
        rw [u24]
        refine ⟨by omega, fun c => ih (j + 1) ω2 (by omega) (f.trans f2.1) S2 (ru_ext al (ruB_f.1 c)), fun c => ?_⟩
        have e := ru_some (K := K) (s := sQ s q) (N := N) al (ruB_f.2 c) (by omega)
        have := k ω2 (f.trans f2.1)
        rw [e.1, if_pos (by omega)] at this
        have h192 := S2.1.2.2.2.2.2.1
        have y2 : cY (sYear K (yIt K (sQ s q) j)) = cY (yIt K (sQ s q) j) + 1 := rfl
        exact v_238_9 ⟨by omega, by omega, fun _ => ⟨by omega, _, rfl, this⟩, fun _ => ⟨by omega, fun _ => ⟨by omega, _, rfl, this⟩, fun e => absurd (by omega) e⟩⟩
    exact lp N 0 υ (by omega) fu u4 (fun i hi => absurd hi (by omega))
theorem s_top {X : PX} : Sm_27 X Rel := by
  intro a n ha hn σ hR
  refine same_P (a := a) hR (-1) (by omega) (fun hc => ?_) (fun τ hR2 hc => ?_) (fun K s a2 hc T => ?_)
  · exact v_152 (c_hasN (s := 0) hR (by omega) ha hc ⟨by omega, fun _ => ⟨_, rfl, Out.rfl, rfl⟩, fun e => absurd rfl e⟩)
  · exact v_239 (m_isPN hR2 ha hc ⟨by omega, fun _ => ⟨_, rfl, FA.rfl, rfl⟩, fun e => absurd rfl e⟩)
  · obtain ⟨⟨tp, tp2⟩, ok, nw, tr, tm⟩ := id T
    by_cases g : 1 ≤ n ∧ n ≤ 50
    · obtain ⟨N, rfl⟩ := Int.eq_ofNat_of_zero_le (show 0 ≤ n by omega)
      have tl := tpG_le (tpB K s N) 99
      refine ⟨tpG (tpB K s N) 99, by omega, v_152 (c_hasY (s := 0) hR (by omega) ha hc ⟨by omega, fun e => absurd e (by omega), fun _ => ⟨hn, fun e => absurd e (by omega), fun _ => ⟨fun _ => ⟨by omega, c_top tp tp2 ok nw tr (by omega) (by omega) (fun τ f => ⟨_, rfl, f.c, rfl⟩)⟩, fun e => absurd (by omega) e⟩⟩⟩), fun τ hR2 hc2 T2 _ => v_239 (m_isPY hR2 ha hc2 T2 (fun υ g' S _ => ⟨by omega, fun e => absurd e (by omega), fun _ => c_isIn hn (by omega) (by omega) ?_⟩))⟩
      rw [if_pos g]
      have lp : ∀ (q : Nat) (ω : Sg), q ≤ 99 → FB υ ω → tpG (tpB K s N) q = tpG (tpB K s N) 99 → Ev X 239 13 [some (vR (some 170)), none, some (vI N), some (vI q)] [] ω (fun v τ' => ∃ x, v = some (vI x) ∧ FA τ τ' ∧ x = (tpG (tpB K s N) 99 : Int)) := by
        intro q
        induction q with
        | zero =>
          intro ω hq f e
          have mp : MP ω (610 + 49 * a.toNat) K s := (T2.2.2.2.2.mv (g'.1.2 171 (by omega))).mv f.a171
          refine v_239_13 (m_isRu ok nw (S.mx.fb f) mp (by omega) (by omega) (by omega) (fun ω2 f2 => ⟨by split <;> omega, fun c => ⟨_, rfl, g'.1.trans (f.trans f2).fa, ?_⟩, fun c => ?_⟩))
          · rw [← e]; rfl
          · have z := ru_none (K := K) (s := sQ s ((0 : Nat) : Int)) (N := N) (fun i hi => (ru_0 (s := sQ s ((0 : Nat) : Int)) (sQ_ok (q := ((0 : Nat) : Int)) ok (by omega) (by omega)) nw.2.1 rfl i (by omega)).2)
            rw [z.1, if_neg (by omega)] at c
            exact absurd rfl c
        | succ q ih =>
          intro ω hq f e
          have mp : MP ω (610 + 49 * a.toNat) K s := (T2.2.2.2.2.mv (g'.1.2 171 (by omega))).mv f.a171
          rw [show tpG (tpB K s N) (q + 1) = if tpB K s N (q + 1) = true then tpG (tpB K s N) q else q + 1 from rfl] at e
          refine v_239_13 (m_isRu ok nw (S.mx.fb f) mp (by omega) (by omega) (by omega) (fun ω2 f2 => ⟨by split <;> omega, fun c => ⟨_, rfl, g'.1.trans (f.trans f2).fa, ?_⟩, fun c => ?_⟩))
          · have c : ruY K (sQ s ((q + 1 : Nat) : Int)) N = -1 := by
              rcases Decidable.em (ruY K (sQ s ((q + 1 : Nat) : Int)) N = -1) with h | h
              · exact h
              · rw [if_pos h] at c; omega
            rw [if_neg (by unfold tpB; rw [decide_eq_true_iff]; exact fun h => h c)] at e
            rw [← e]
          · have c : ruY K (sQ s ((q + 1 : Nat) : Int)) N ≠ -1 := by
              rcases Decidable.em (ruY K (sQ s ((q + 1 : Nat) : Int)) N ≠ -1) with h | h
              · exact h
              · rw [if_neg h] at c; exact absurd rfl c
            rw [if_pos (by unfold tpB; rw [decide_eq_true_iff]; exact c)] at e
            have := ih ω2 (by omega) (f.trans f2) e
            rw [show ((q + 1 : Nat) : Int) + -1 = (q : Int) by omega]
            exact this
      exact ⟨by omega, fun _ => lp 99 υ (by omega) FB.rfl rfl, fun e => absurd (by omega) e⟩
    · refine ⟨-1, by omega, v_152 (c_hasY (s := 0) hR (by omega) ha hc ⟨by omega, fun e => absurd e (by omega), fun _ => ⟨hn, fun _ => ⟨_, rfl, Out.rfl, rfl⟩, fun c => ⟨fun c2 => absurd ⟨by omega, c2⟩ g, fun _ => ⟨_, rfl, Out.rfl, rfl⟩⟩⟩⟩), fun τ hR2 hc2 T2 _ => v_239 (m_isPY hR2 ha hc2 T2 (fun υ g' S _ => ⟨by omega, fun e => absurd e (by omega), fun _ => c_isIn hn (by omega) (by omega) ?_⟩))⟩
      rw [if_neg g]
      exact ⟨by omega, fun e => absurd rfl e, fun _ => ⟨_, rfl, g'.1, rfl⟩⟩
