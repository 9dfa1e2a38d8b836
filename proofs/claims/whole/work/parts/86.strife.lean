/-! STRIFE -/
def tB (s : Cs) (h : Nat) (p : Bool) : Cs := if p = true ∧ bOk s h = true then sBuy s h else s
def sT (s : Cs) (a b : Nat) (p q : Bool) : Cs := tB (tB s a p) b q
def Mg (K : Kz) (s : Cs) (a b : Nat) (p q : Bool) : Int := cG (sYear K (sT s a b p q)) a - cG (sYear K (sT s a b p q)) b
theorem tB_ok {K : Kz} {s : Cs} {h : Nat} {p : Bool} (ok : sOk K s) (hh : h < kN K) : sOk K (tB s h p) := by
  unfold tB
  split
  · rename_i c; exact sBuy_ok ok hh c.2
  · exact ok
theorem tB_cY {s : Cs} {h : Nat} {p : Bool} : cY (tB s h p) = cY s := by
  unfold tB; split <;> rfl
theorem bOk_ne {s : Cs} {a b : Nat} (ne : a ≠ b) : bOk (sBuy s a) b = bOk s b := by
  show (!(cO s ||| 2 ^ a).testBit b && decide (cP s ≤ up (cG s) a (cG s a - cP s) b)) = bOk s b
  rw [up_ne _ _ (Ne.symm ne), Nat.testBit_or, Nat.testBit_two_pow_of_ne ne, Bool.or_false]
  rfl
theorem bOk_sf {s : Cs} {a : Nat} : bOk (sBuy s a) a = false := by
  show (!(cO s ||| 2 ^ a).testBit a && _) = false
  rw [Nat.testBit_or, Nat.testBit_two_pow_self, Bool.or_true]
  rfl
theorem tB_ne {s : Cs} {a b : Nat} {p : Bool} (ne : a ≠ b) : bOk (tB s a p) b = bOk s b := by
  unfold tB; split
  · exact bOk_ne ne
  · rfl
theorem sBuy_cm {s : Cs} {a b : Nat} (ne : a ≠ b) : sBuy (sBuy s a) b = sBuy (sBuy s b) a := by
  have e1 : cO s ||| 2 ^ a ||| 2 ^ b = cO s ||| 2 ^ b ||| 2 ^ a := by rw [Nat.or_assoc, Nat.or_comm (2 ^ a), ← Nat.or_assoc]
  have e2 : up (up (cG s) a (cG s a - cP s)) b (up (cG s) a (cG s a - cP s) b - cP s) = up (up (cG s) b (cG s b - cP s)) a (up (cG s) b (cG s b - cP s) a - cP s) := by
    rw [up_ne _ _ (Ne.symm ne), up_ne _ _ ne]
    funext j
    unfold up
    by_cases c : j = a
    · by_cases d : j = b
      · omega
      · simp [c, d, ne]
    · by_cases d : j = b
      · simp [d, Ne.symm ne]
      · simp [c, d]
  show (cQ s, cP s, cO s ||| 2 ^ a ||| 2 ^ b, cC s, up (up (cG s) a (cG s a - cP s)) b (up (cG s) a (cG s a - cP s) b - cP s), cY s, cD s, cS s) = (cQ s, cP s, cO s ||| 2 ^ b ||| 2 ^ a, cC s, up (up (cG s) b (cG s b - cP s)) a (up (cG s) b (cG s b - cP s) a - cP s), cY s, cD s, cS s)
  rw [e1, e2]
theorem sT_ok {K : Kz} {s : Cs} {a b : Nat} {p q : Bool} (ok : sOk K s) (ha : a < kN K) (hb : b < kN K) : sOk K (sT s a b p q) := tB_ok (tB_ok ok ha) hb
theorem sT_cY {s : Cs} {a b : Nat} {p q : Bool} : cY (sT s a b p q) = cY s := by unfold sT; rw [tB_cY, tB_cY]
theorem sT_a {s : Cs} {a b : Nat} {p q : Bool} (ne : a ≠ b) : bOk (sT s a b p q) a = (bOk s a && !p) := by
  unfold sT
  rw [tB_ne (Ne.symm ne)]
  unfold tB
  split
  · rename_i c; rw [bOk_sf, c.1]; simp
  · rename_i c
    cases p
    · simp
    · cases e : bOk s a
      · rfl
      · exact absurd ⟨rfl, e⟩ c
theorem sT_b {s : Cs} {a b : Nat} {p q : Bool} (ne : a ≠ b) : bOk (sT s a b p q) b = (bOk s b && !q) := by
  have e2 : bOk (tB s a p) b = bOk s b := tB_ne ne
  unfold sT
  generalize tB s a p = u at e2 ⊢
  rw [← e2]
  unfold tB
  split
  · rename_i c; rw [bOk_sf, c.1]; simp
  · rename_i c
    cases q
    · simp
    · cases e : bOk u b
      · rfl
      · exact absurd ⟨rfl, e⟩ c
theorem sT_bb {s : Cs} {a b : Nat} {p : Bool} (ne : a ≠ b) (h : bOk s b = true) : sBuy (sT s a b p false) b = sT s a b p true := by
  have e2 : bOk (tB s a p) b = true := by rw [tB_ne ne]; exact h
  unfold sT
  generalize tB s a p = u at e2 ⊢
  unfold tB
  rw [if_neg (fun c => absurd c.1 (by decide)), if_pos ⟨rfl, e2⟩]
theorem sT_ba {s : Cs} {a b : Nat} {q : Bool} (ne : a ≠ b) (h : bOk s a = true) : sBuy (sT s a b false q) a = sT s a b true q := by
  unfold sT
  rw [show tB s a false = s from if_neg (fun c => absurd c.1 (by decide)), show tB s a true = sBuy s a from if_pos ⟨rfl, h⟩]
  unfold tB
  rw [bOk_ne ne]
  split
  · exact sBuy_cm (Ne.symm ne)
  · rfl
theorem Mg_rng {K : Kz} {s : Cs} {a b : Nat} (ok : sOk K s) (nw : sNew s) (ha : a < kN K) (hb : b < kN K) (p q : Bool) : -99 ≤ Mg K s a b p q ∧ Mg K s a b p q ≤ 99 := by
  have o := sYear_ok (sT_ok (p := p) (q := q) ok ha hb) (by rw [sT_cY, nw.2.1]; omega)
  have g := o.2.1.2.2.2
  have := g a ha
  have := g b hb
  unfold Mg
  omega
def tn (ca cb : Bool) (t : Nat) (f : Bool → Bool → Int) (p q : Bool) : Int := if t % 2 = 1 then (if cb = true ∧ q = false then min (f p q) (f p true) else f p q) else (if ca = true ∧ p = false then max (f p q) (f true q) else f p q)
def vM (ca cb : Bool) (M : Bool → Bool → Int) : Nat → Nat → Bool → Bool → Int
  | _, 0 => M
  | t, k + 1 => tn ca cb t (vM ca cb M (t + 1) k)
theorem vM_rng {ca cb : Bool} {M : Bool → Bool → Int} (h : ∀ p q : Bool, -99 ≤ M p q ∧ M p q ≤ 99) : ∀ (k t : Nat) (p q : Bool), -99 ≤ vM ca cb M t k p q ∧ vM ca cb M t k p q ≤ 99
  | 0, _, p, q => h p q
  | k + 1, t, p, q => by
    have a := vM_rng (ca := ca) (cb := cb) h k (t + 1) p q
    have b := vM_rng (ca := ca) (cb := cb) h k (t + 1) p true
    have c := vM_rng (ca := ca) (cb := cb) h k (t + 1) true q
    unfold vM tn
    split
    · split <;> omega
    · split <;> omega
/-! the class's game -/
def Mh (σ : Sg) (f : Bool → Bool → Int) : Prop := σ.2 159 0 = f false false ∧ σ.2 159 1 = f true false ∧ σ.2 159 2 = f false true ∧ σ.2 159 3 = f true true
theorem c_gds {X : PX} {σ : Sg} {K : Kz} {s : Cs} {h : Nat} {P : Int → Sg → Prop} (ok : sOk K s) (S : SC σ K s) (hh : h < kN K) (q : P (cG s h) σ) : CI X 26 [vR (some 157), vI h] σ P := by
  obtain ⟨e1, e2, n7, e4⟩ := ok.e7
  obtain ⟨r0, r1, r2, r3, r4, r5, r6⟩ := S.1.1
  refine v_26 (c_hH (by decide) r2 n7 (by omega) ?_)
  rw [if_pos (by omega)]
  refine ⟨by omega, fun e => absurd e (by omega), fun _ => ⟨by omega, ?_⟩⟩
  rw [Int.toNat_natCast, (r6 h hh).1]
  exact ⟨_, rfl, q⟩
theorem c_fin {X : PX} {σ : Sg} {K : Kz} {s : Cs} {a b : Nat} {P : Int → Int → Sg → Prop} (ok : sOk K s) (S : SC σ K s) (hy : cY s < 60) (ha : a < kN K) (hb : b < kN K) (k : ∀ τ : Sg, Out σ τ 146 156 → P (cG (sYear K s) a) (cG (sYear K s) b) τ) : CI X 33 [vR (some 146)] σ (fun _ τ => CI X 26 [vR (some 157), vI a] τ (fun r5 τ3 => CI X 26 [vR (some 157), vI b] τ3 (fun r6 τ4 => P r5 r6 τ4))) :=
  c_collect ok S hy (fun τ f S2 _ _ _ => c_gds (sYear_ok ok hy) S2 ha (c_gds (sYear_ok ok hy) S2 hb (k τ f)))
theorem c_tb {X : PX} {σ : Sg} {K : Kz} {s : Cs} {a : Nat} {P : Sg → Prop} (ok : sOk K s) (S : SC σ K s) (ha : a < kN K) (k : ∀ τ : Sg, Out σ τ 146 156 → SC τ K (tB s a true) → P τ) : CI X 35 [vR (some 146), vI a] σ (fun _ τ => P τ) := by
  obtain ⟨e1, e2, n7, e4⟩ := ok.e7
  refine c_buy ok S (by omega) (fun _ h τ f S2 => ?_) (fun n => ?_)
  · rw [Int.toNat_natCast] at h S2
    refine k τ f ?_
    rw [show tB s a true = sBuy s a from if_pos ⟨rfl, h⟩]
    exact S2
  · rw [Int.toNat_natCast] at n
    refine k σ Out.rfl ?_
    rw [show tB s a true = s from if_neg (fun c => n ⟨by omega, c.2⟩)]
    exact S
theorem tB_f {s : Cs} {h : Nat} : tB s h false = s := if_neg (fun c => absurd c.1 (by decide))
theorem c_fill1 {X : PX} {σ : Sg} {p a b x : Nat} {K : Kz} {s : Cs} {pp qq : Bool} {Q : Option PV → Sg → Prop} (hp : p ∈ parL) (hp2 : p + 6 < 131) (ok : sOk K s) (nw : sNew s) (h : RP σ p K s) (ha : a < kN K) (hb : b < kN K) (hx : x < 4) (h1 : iAnd x 1 = if pp = true then 1 else 0) (h2 : iAnd x 2 = if qq = true then 2 else 0)
    (k : ∀ τ : Sg, Out σ τ 146 156 → Ev X 25 2 [some (vR (some 157)), some (vR (some p)), some (vI a), some (vI b), some (vI ((x : Int) + 1))] [] (τ.1, up2 τ.2 159 x (Mg K s a b pp qq)) Q) : Ev X 25 2 [some (vR (some 157)), some (vR (some p)), some (vI a), some (vI b), some (vI x)] [] σ Q := by
  have y0 : cY s < 60 := by rw [nw.2.1]; omega
  refine v_25_2 hp ⟨by omega, fun e => absurd e (by omega), fun _ => c_begin hp (by omega) ok nw h (fun τ f S => ?_)⟩
  rw [h1, h2, Int.toNat_natCast]
  unfold Mg at k
  cases pp <;> cases qq
  · refine ⟨by decide, fun _ => ⟨by decide, fun _ => ?_, fun e => absurd rfl e⟩, fun e => absurd rfl e⟩
    rw [show sT s a b false false = s by unfold sT; rw [tB_f, tB_f]] at k
    exact c_fin ok S y0 ha hb (fun υ g => ⟨by omega, k υ (f.trans g)⟩)
  · refine ⟨by decide, fun _ => ⟨by decide, fun e => absurd e (by decide), fun _ => ?_⟩, fun e => absurd rfl e⟩
    rw [show sT s a b false true = tB s b true by unfold sT; rw [tB_f]] at k
    exact c_tb ok S hb (fun υ g S2 => c_fin (tB_ok ok hb) S2 (by rw [tB_cY]; exact y0) ha hb (fun ω g2 => ⟨by omega, k ω (f.trans (g.trans g2))⟩))
  · refine ⟨by decide, fun e => absurd e (by decide), fun _ => ?_⟩
    rw [show sT s a b true false = tB s a true by unfold sT; rw [tB_f]] at k
    exact c_tb ok S ha (fun υ g S2 => ⟨by decide, fun _ => c_fin (tB_ok ok ha) S2 (by rw [tB_cY]; exact y0) ha hb (fun ω g2 => ⟨by omega, k ω (f.trans (g.trans g2))⟩), fun e => absurd rfl e⟩)
  · refine ⟨by decide, fun e => absurd e (by decide), fun _ => ?_⟩
    exact c_tb ok S ha (fun υ g S2 => ⟨by decide, fun e => absurd e (by decide), fun _ => c_tb (tB_ok ok ha) S2 hb (fun υ2 g' S3 => c_fin (tB_ok (tB_ok ok ha) hb) S3 (by rw [tB_cY, tB_cY]; exact y0) ha hb (fun ω g2 => ⟨by omega, k ω (f.trans (g.trans (g'.trans g2)))⟩))⟩)
theorem o159 {σ : Sg} (j : Nat) (x : Int) : Out σ (σ.1, up2 σ.2 159 j x) 131 169 := fun c hc => ⟨rfl, by dsimp only; rw [up2_ne _ _ _ (by omega)]⟩
theorem c_fill {X : PX} {σ : Sg} {p a b : Nat} {K : Kz} {s : Cs} {P : Sg → Prop} (hp : p ∈ parL) (hp2 : p + 6 < 131) (ok : sOk K s) (nw : sNew s) (h : RP σ p K s) (ha : a < kN K) (hb : b < kN K) (k : ∀ τ : Sg, Out σ τ 131 169 → Mh τ (Mg K s a b) → P τ) : CV X 25 [vR (some 157), vR (some p), vI a, vI b] σ P := by
  have rp : ∀ τ : Sg, Out σ τ 131 169 → RP τ p K s := fun τ f => h.out f (by omega)
  refine v_25 hp (c_fill1 (x := 0) (pp := false) (qq := false) hp hp2 ok nw h ha hb (by omega) (by decide +kernel) (by decide +kernel) (fun τ0 f0 => ?_))
  have g0 := f0.c.trans (o159 0 (Mg K s a b false false))
  refine c_fill1 (x := 1) (pp := true) (qq := false) hp hp2 ok nw (rp _ g0) ha hb (by omega) (by decide +kernel) (by decide +kernel) (fun τ1 f1 => ?_)
  have g1 := g0.trans (f1.c.trans (o159 1 (Mg K s a b true false)))
  refine c_fill1 (x := 2) (pp := false) (qq := true) hp hp2 ok nw (rp _ g1) ha hb (by omega) (by decide +kernel) (by decide +kernel) (fun τ2 f2 => ?_)
  have g2 := g1.trans (f2.c.trans (o159 2 (Mg K s a b false true)))
  refine c_fill1 (x := 3) (pp := true) (qq := true) hp hp2 ok nw (rp _ g2) ha hb (by omega) (by decide +kernel) (by decide +kernel) (fun τ3 f3 => ?_)
  have g3 := g2.trans (f3.c.trans (o159 3 (Mg K s a b true true)))
  refine v_25_2 hp ⟨by omega, fun _ => ⟨rfl, k _ g3 ?_⟩, fun e => absurd (by omega) e⟩
  have e1 := (f1 159 (by omega)).2
  have e2 := (f2 159 (by omega)).2
  have e3 := (f3 159 (by omega)).2
  dsimp only at e1 e2 e3
  unfold Mh
  dsimp only
  simp only [up2_if, e3, e2, e1, Nat.reduceEqDiff, reduceIte, and_self]
theorem n01 : (0 : Int) + 1 = 1 := rfl
theorem n12 : (1 : Int) + 1 = 2 := rfl
theorem n23 : (2 : Int) + 1 = 3 := rfl
theorem n34 : (3 : Int) + 1 = 4 := rfl
theorem c_lpb {X : PX} {σ : Sg} {f : Bool → Bool → Int} {Q : Option PV → Sg → Prop} (h : Mh σ f) (r : ∀ p q : Bool, -99 ≤ f p q ∧ f p q ≤ 99) (k : ∀ τ : Sg, Out σ τ 131 169 → Mh τ (fun p q => if q = false then min (f p q) (f p true) else f p q) → Q none τ) : Ev X 27 30 [some (vR (some 157)), none, none, none, none, some (vI 0), some (vI 2), some (vI 0), none] [] σ Q := by
  obtain ⟨h0, h1, h2, h3⟩ := h
  have r0 := r false false
  have r1 := r true false
  have r2 := r false true
  have r3 := r true true
  have a0 : iAnd 0 2 = 0 := by decide +kernel
  have a1 : iAnd 1 2 = 0 := by decide +kernel
  have a2 : iAnd 2 2 = 2 := by decide +kernel
  have a3 : iAnd 3 2 = 2 := by decide +kernel
  have b0 : iOr 0 2 = 2 := by decide +kernel
  have b1 : iOr 1 2 = 3 := by decide +kernel
  refine v_27_30 ?_
  rw [a0, b0, n01]
  refine ⟨by omega, fun e => absurd e (by omega), fun _ => ⟨by omega, fun e => absurd rfl e, fun _ => ⟨by omega, by omega, fun _ => ⟨by omega, ?_, ?_, v_27_30 ?_⟩, fun e => absurd rfl e⟩⟩⟩
  · show InR (σ.2 159 0); omega
  · show InR (σ.2 159 2); omega
  rw [a1, b1, n12]
  refine ⟨by omega, fun e => absurd e (by omega), fun _ => ⟨by omega, fun e => absurd rfl e, fun _ => ⟨by omega, by omega, fun _ => ⟨by omega, ?_, ?_, v_27_30 ?_⟩, fun e => absurd rfl e⟩⟩⟩
  · dsimp only; rw [up2_if, if_neg (by decide)]; show InR (σ.2 159 1); omega
  · dsimp only; rw [up2_if, if_neg (by decide)]; show InR (σ.2 159 3); omega
  rw [a2, n23]
  refine ⟨by omega, fun e => absurd e (by omega), fun _ => ⟨by omega, fun _ => v_27_30 ?_, fun e => absurd (by omega) e⟩⟩
  rw [a3, n34]
  refine ⟨by omega, fun e => absurd e (by omega), fun _ => ⟨by omega, fun _ => v_27_30 ⟨by omega, fun _ => k _ ((o159 _ _).trans (o159 _ _)) ?_, fun e => absurd (by omega) e⟩, fun e => absurd (by omega) e⟩⟩
  have t0 : (0 : Int).toNat = 0 := rfl
  have t1 : (1 : Int).toNat = 1 := rfl
  have t2 : (2 : Int).toNat = 2 := rfl
  have t3 : (3 : Int).toNat = 3 := rfl
  unfold Mh
  dsimp only
  simp only [t0, t1, t2, t3, up2_if, Nat.reduceEqDiff, reduceIte, h0, h1, h2, h3, Bool.true_eq_false, reduceCtorEq, and_self]
theorem c_lpa {X : PX} {σ : Sg} {f : Bool → Bool → Int} {Q : Option PV → Sg → Prop} (h : Mh σ f) (r : ∀ p q : Bool, -99 ≤ f p q ∧ f p q ≤ 99) (k : ∀ τ : Sg, Out σ τ 131 169 → Mh τ (fun p q => if p = false then max (f p q) (f true q) else f p q) → Q none τ) : Ev X 27 30 [some (vR (some 157)), none, none, none, none, some (vI 1), some (vI 1), some (vI 0), none] [] σ Q := by
  obtain ⟨h0, h1, h2, h3⟩ := h
  have r0 := r false false
  have r1 := r true false
  have r2 := r false true
  have r3 := r true true
  have a0 : iAnd 0 1 = 0 := by decide +kernel
  have a1 : iAnd 1 1 = 1 := by decide +kernel
  have a2 : iAnd 2 1 = 0 := by decide +kernel
  have a3 : iAnd 3 1 = 1 := by decide +kernel
  have b0 : iOr 0 1 = 1 := by decide +kernel
  have b2 : iOr 2 1 = 3 := by decide +kernel
  refine v_27_30 ?_
  rw [a0, b0, n01]
  refine ⟨by omega, fun e => absurd e (by omega), fun _ => ⟨by omega, fun e => absurd rfl e, fun _ => ⟨by omega, by omega, fun e => absurd e (by omega), fun _ => ⟨by omega, ?_, ?_, v_27_30 ?_⟩⟩⟩⟩
  · show InR (σ.2 159 0); omega
  · show InR (σ.2 159 1); omega
  rw [a1, n12]
  refine ⟨by omega, fun e => absurd e (by omega), fun _ => ⟨by omega, fun _ => v_27_30 ?_, fun e => absurd (by omega) e⟩⟩
  rw [a2, b2, n23]
  refine ⟨by omega, fun e => absurd e (by omega), fun _ => ⟨by omega, fun e => absurd rfl e, fun _ => ⟨by omega, by omega, fun e => absurd e (by omega), fun _ => ⟨by omega, ?_, ?_, v_27_30 ?_⟩⟩⟩⟩
  · dsimp only; rw [up2_if, if_neg (by decide)]; show InR (σ.2 159 2); omega
  · dsimp only; rw [up2_if, if_neg (by decide)]; show InR (σ.2 159 3); omega
  rw [a3, n34]
  refine ⟨by omega, fun e => absurd e (by omega), fun _ => ⟨by omega, fun _ => v_27_30 ⟨by omega, fun _ => k _ ((o159 _ _).trans (o159 _ _)) ?_, fun e => absurd (by omega) e⟩, fun e => absurd (by omega) e⟩⟩
  have t0 : (0 : Int).toNat = 0 := rfl
  have t1 : (1 : Int).toNat = 1 := rfl
  have t2 : (2 : Int).toNat = 2 := rfl
  have t3 : (3 : Int).toNat = 3 := rfl
  unfold Mh
  dsimp only
  simp only [t0, t1, t2, t3, up2_if, Nat.reduceEqDiff, reduceIte, h0, h1, h2, h3, Bool.true_eq_false, reduceCtorEq, and_self]
theorem c_turn {X : PX} {σ : Sg} {p a b t : Nat} {K : Kz} {s : Cs} {f : Bool → Bool → Int} {P : Sg → Prop} (hp : p ∈ parL) (hp2 : p + 6 < 131) (ok : sOk K s) (nw : sNew s) (h : RP σ p K s) (ha : a < kN K) (hb : b < kN K) (ht : t < 100) (m : Mh σ f) (r : ∀ p q : Bool, -99 ≤ f p q ∧ f p q ≤ 99) (k : ∀ τ : Sg, Out σ τ 131 169 → Mh τ (tn (bOk s a) (bOk s b) t f) → P τ) : CV X 27 [vR (some 157), vR (some p), vI a, vI b, vI t] σ P := by
  obtain ⟨e1, e2, n7, e4⟩ := ok.e7
  refine v_27 hp ?_
  rw [b_rem (by omega) (by omega) (by omega) (by omega)]
  refine ⟨by omega, fun c => c_begin hp (by omega) ok nw h (fun τ g S => c_canBuy ok S (by omega) ?_), fun c => c_begin hp (by omega) ok nw h (fun τ g S => c_canBuy ok S (by omega) ?_)⟩
  · have m2 : Mh τ f := by unfold Mh; rw [(g 159 (by omega)).2]; exact m
    rw [Int.toNat_natCast]
    by_cases d : bOk s b = true
    · rw [if_pos ⟨by omega, d⟩]
      refine ⟨by omega, fun _ => c_lpb m2 r (fun υ g2 m3 => ⟨rfl, k υ (g.c.trans g2) ?_⟩), fun e => absurd (by omega) e⟩
      have : tn (bOk s a) (bOk s b) t f = fun p q => if q = false then min (f p q) (f p true) else f p q := by
        funext p q; unfold tn; rw [if_pos (by omega), d]; simp only [true_and]
      rw [this]; exact m3
    · rw [if_neg (fun x => d x.2)]
      refine ⟨by omega, fun e => absurd rfl e, fun _ => ⟨rfl, k τ g.c ?_⟩⟩
      have : tn (bOk s a) (bOk s b) t f = f := by
        funext p q; unfold tn; rw [if_pos (by omega), if_neg (fun x => d x.1)]
      rw [this]; exact m2
  · have m2 : Mh τ f := by unfold Mh; rw [(g 159 (by omega)).2]; exact m
    rw [Int.toNat_natCast]
    by_cases d : bOk s a = true
    · rw [if_pos ⟨by omega, d⟩]
      refine ⟨by omega, fun _ => c_lpa m2 r (fun υ g2 m3 => ⟨rfl, k υ (g.c.trans g2) ?_⟩), fun e => absurd (by omega) e⟩
      have : tn (bOk s a) (bOk s b) t f = fun p q => if p = false then max (f p q) (f true q) else f p q := by
        funext p q; unfold tn; rw [if_neg (by omega), d]; simp only [true_and]
      rw [this]; exact m3
    · rw [if_neg (fun x => d x.2)]
      refine ⟨by omega, fun e => absurd rfl e, fun _ => ⟨rfl, k τ g.c ?_⟩⟩
      have : tn (bOk s a) (bOk s b) t f = f := by
        funext p q; unfold tn; rw [if_neg (by omega), if_neg (fun x => d x.1)]
      rw [this]; exact m2
/-! margin and opening -/
def gm (K : Kz) (s : Cs) (a b t k : Nat) : Bool → Bool → Int := vM (bOk s a) (bOk s b) (Mg K s a b) t k
theorem gm_rng {K : Kz} {s : Cs} {a b : Nat} (ok : sOk K s) (nw : sNew s) (ha : a < kN K) (hb : b < kN K) (t k : Nat) (p q : Bool) : -99 ≤ gm K s a b t k p q ∧ gm K s a b t k p q ≤ 99 := vM_rng (Mg_rng ok nw ha hb) k t p q
def opn (K : Kz) (s : Cs) (a b k : Nat) : Int := if bOk s a = true ∧ gm K s a b 1 k false false < gm K s a b 1 k true false then 1 else 0
theorem c_margin {X : PX} {σ : Sg} {p a b n : Nat} {K : Kz} {s : Cs} {P : Int → Sg → Prop} (hp : p ∈ parL) (hp2 : p + 6 < 131) (ok : sOk K s) (nw : sNew s) (h : RP σ p K s) (ha : a < kN K) (hb : b < kN K) (hn : n ≤ 6) (k : ∀ τ : Sg, Out σ τ 131 169 → P (gm K s a b 0 n false false) τ) : CI X 23 [vR (some 157), vR (some p), vI a, vI b, vI n] σ P := by
  have lp : ∀ (t k : Nat) (τ : Sg), t + k = n → Out σ τ 131 169 → Mh τ (gm K s a b t k) → Ev X 23 9 [some (vR (some 157)), some (vR (some p)), some (vI a), some (vI b), none, some (vI ((t : Int) - 1))] [] τ (fun v τ => ∃ x, v = some (vI x) ∧ P x τ) := by
    intro t
    induction t with
    | zero =>
      intro j τ hj f m
      rw [show j = n by omega] at m
      refine v_23_9 hp ⟨by omega, fun _ => ⟨_, rfl, ?_⟩, fun e => absurd (by omega) e⟩
      rw [m.1]
      exact k τ f
    | succ t ih =>
      intro j τ hj f m
      rw [show (((t + 1 : Nat) : Int) - 1) = (t : Int) by omega]
      refine v_23_9 hp ⟨by omega, fun e => absurd e (by omega), fun _ => c_turn hp hp2 ok nw (h.out f (by omega)) ha hb (by omega) m (gm_rng ok nw ha hb (t + 1) j) (fun υ g m2 => ?_)⟩
      rw [show (t : Int) + (-1) = (t : Int) - 1 by omega]
      exact ih (j + 1) υ (by omega) (f.trans g) m2
  exact v_23 hp (c_fill hp hp2 ok nw h ha hb (fun τ f m => lp n 0 τ (by omega) f m))
theorem c_opening {X : PX} {σ : Sg} {p a b n : Nat} {K : Kz} {s : Cs} {P : Int → Sg → Prop} (hp : p ∈ parL) (hp2 : p + 6 < 131) (ok : sOk K s) (nw : sNew s) (h : RP σ p K s) (ha : a < kN K) (hb : b < kN K) (hn : n + 1 ≤ 6) (k : ∀ τ : Sg, Out σ τ 131 169 → P (opn K s a b n) τ) : CI X 24 [vR (some 157), vR (some p), vI a, vI b, vI ((n + 1 : Nat) : Int)] σ P := by
  obtain ⟨e1, e2, n7, e4⟩ := ok.e7
  have lp : ∀ (t j : Nat) (τ : Sg), t + j = n → Out σ τ 131 169 → Mh τ (gm K s a b (t + 1) j) → Ev X 24 9 [some (vR (some 157)), some (vR (some p)), some (vI a), some (vI b), none, some (vI (t : Int))] [] τ (fun v τ => ∃ x, v = some (vI x) ∧ P x τ) := by
    intro t
    induction t with
    | zero =>
      intro j τ hj f m
      rw [show j = n by omega] at m
      have m : Mh τ (gm K s a b 1 n) := m
      have r := gm_rng ok nw ha hb 1 n
      have r0 := r false false
      have r1 := r true false
      refine v_24_9 hp ⟨by omega, fun _ => c_begin hp (by omega) ok nw (h.out f (by omega)) (fun υ g S => c_canBuy ok S (by omega) ?_), fun e => absurd (by omega) e⟩
      have kk := k υ (f.trans g.c)
      unfold opn at kk
      rw [Int.toNat_natCast, (g 159 (by omega)).2, m.1, m.2.1]
      by_cases d : bOk s a = true
      · rw [if_pos ⟨by omega, d⟩]
        refine ⟨by omega, fun e => absurd e (by omega), fun _ => ⟨by omega, by omega, fun x => ⟨_, rfl, ?_⟩, fun x => ⟨_, rfl, ?_⟩⟩⟩
        · rw [if_neg (fun y => absurd y.2 (by omega))] at kk; exact kk
        · rw [if_pos ⟨d, by omega⟩] at kk; exact kk
      · rw [if_neg (fun x => d x.2)]
        rw [if_neg (fun y => d y.1)] at kk
        exact ⟨by omega, fun _ => ⟨_, rfl, kk⟩, fun e => absurd rfl e⟩
    | succ t ih =>
      intro j τ hj f m
      refine v_24_9 hp ⟨by omega, fun e => absurd e (by omega), fun _ => c_turn hp hp2 ok nw (h.out f (by omega)) ha hb (by omega) m (gm_rng ok nw ha hb (t + 1 + 1) j) (fun υ g m2 => ?_)⟩
      rw [show ((t + 1 : Nat) : Int) + (-1) = (t : Int) by omega]
      exact ih (j + 1) υ (by omega) (f.trans g) m2
  refine v_24 hp (c_fill hp hp2 ok nw h ha hb (fun τ f m => ?_))
  rw [show ((n + 1 : Nat) : Int) - 1 = (n : Int) by omega]
  exact lp n 0 τ (by omega) f m
/-! the reference's game -/
def stT (ca cb : Bool) (t : Nat) (p q : Bool) : Option (Bool × Bool) := if t % 2 = 1 then (if cb = true ∧ q = false then some (p, true) else none) else (if ca = true ∧ p = false then some (true, q) else none)
def St (ca cb : Bool) : Nat → Nat → Option (Bool × Bool)
  | 0, _ => some (false, false)
  | t + 1, x => match St ca cb t (x / 2) with
    | none => none
    | some (p, q) => if x % 2 = 0 then some (p, q) else stT ca cb t p q
def rV (f : Bool → Bool → Int) : Option (Bool × Bool) → Int
  | none => 99999999
  | some (p, q) => f p q
theorem St_n {ca cb : Bool} {t x : Nat} (h : St ca cb t (x / 2) = none) : St ca cb (t + 1) x = none := by
  show (match St ca cb t (x / 2) with | none => none | some (p, q) => if x % 2 = 0 then some (p, q) else stT ca cb t p q) = none
  rw [h]
theorem St_0 {ca cb : Bool} {t x : Nat} {p q : Bool} (h : St ca cb t (x / 2) = some (p, q)) (e : x % 2 = 0) : St ca cb (t + 1) x = some (p, q) := by
  show (match St ca cb t (x / 2) with | none => none | some (p, q) => if x % 2 = 0 then some (p, q) else stT ca cb t p q) = some (p, q)
  rw [h]; exact if_pos e
theorem St_1 {ca cb : Bool} {t x : Nat} {p q : Bool} (h : St ca cb t (x / 2) = some (p, q)) (e : x % 2 = 1) : St ca cb (t + 1) x = stT ca cb t p q := by
  show (match St ca cb t (x / 2) with | none => none | some (p, q) => if x % 2 = 0 then some (p, q) else stT ca cb t p q) = stT ca cb t p q
  rw [h]; exact if_neg (by omega)
theorem dv2 (x i : Nat) : x / 2 ^ i / 2 = x / 2 ^ (i + 1) := by rw [Nat.pow_succ, Nat.div_div_eq_div_mul]
theorem St_none {ca cb : Bool} {x : Nat} : ∀ i j : Nat, St ca cb j (x / 2 ^ i) = none → St ca cb (j + i) x = none
  | 0, j, h => by rw [Nat.pow_zero, Nat.div_one] at h; exact h
  | i + 1, j, h => by
    rw [← dv2] at h
    have := St_none i (j + 1) (St_n h)
    rw [show j + (i + 1) = j + 1 + i by omega]
    exact this
theorem m_by {X : PX} {σ : Sg} {o a b n x : Nat} {K : Kz} {s : Cs} {P : Int → Sg → Prop} (ok : sOk K s) (nw : sNew s) (hx : MX σ o K) (hp : MP σ o K s) (ha : a < kN K) (hb : b < kN K) (ne : a ≠ b) (hn : n ≤ 6) (hx6 : x < 64) (k : ∀ τ : Sg, FB σ τ → P (rV (Mg K s a b) (St (bOk s a) (bOk s b) n x)) τ) : CI X 218 [vR (some 170), vI x, vI a, vI b, vI n] σ P := by
  obtain ⟨e1, e2, n7, e4⟩ := ok.e7
  have lp : ∀ (i j : Nat) (τ : Sg) (p q : Bool), i + j = n → St (bOk s a) (bOk s b) j (x / 2 ^ i) = some (p, q) → FB σ τ → SM τ o K (sT s a b p q) → Ev X 218 6 [some (vR (some 170)), some (vI x), some (vI a), some (vI b), some (vI n), some (vI ((i : Int) - 1)), none] [] τ (fun v τ => ∃ y, v = some (vI y) ∧ P y τ) := by
    intro i
    induction i with
    | zero =>
      intro j τ p q hj hs f S
      rw [show j = n by omega, Nat.pow_zero, Nat.div_one] at hs
      have o2 := sT_ok (p := p) (q := q) ok ha hb
      refine v_218_6 ⟨by omega, fun _ => m_year o2 S (by rw [sT_cY, nw.2.1]; omega) (fun υ g S2 _ _ => ⟨by omega, by omega, _, rfl, ?_⟩), fun e => absurd (by omega) e⟩
      have kk := k υ (f.trans g.1)
      rw [hs] at kk
      rw [Int.toNat_natCast, Int.toNat_natCast, S2.1.2.2.2.2.2.2.2.2 a ha, S2.1.2.2.2.2.2.2.2.2 b hb]
      exact kk
    | succ i ih =>
      intro j τ p q hj hs f S
      have o2 := sT_ok (p := p) (q := q) ok ha hb
      rw [← dv2] at hs
      have bt := bit_0 (a := x) (k := i) (by omega) (by omega)
      have br := bit_rng (a := x) (k := i) (by omega) (by omega)
      have td : x.testBit i = decide (x / 2 ^ i % 2 = 1) := Nat.testBit_eq_decide_div_mod_eq
      rw [show (((i + 1 : Nat) : Int) - 1) = (i : Int) by omega]
      refine v_218_6 ?_
      rw [show ((n : Int) - 1) - (i : Int) = (j : Int) by omega, b_rem (by omega) (by omega) (by omega) (by omega), show (i : Int) + (-1) = (i : Int) - 1 by omega]
      refine ⟨by omega, fun e => absurd e (by omega), fun _ => ⟨br, fun c => ?_, fun c => ?_⟩⟩
      · have c1 : x / 2 ^ i % 2 = 1 := by have := bt.mp c; rw [td] at this; exact of_decide_eq_true this
        have s1 := St_1 hs c1
        refine ⟨by omega, fun d => m_canBuy o2 S.1 hb ?_, fun d => m_canBuy o2 S.1 ha ?_⟩
        · unfold stT at s1
          rw [if_pos (by omega)] at s1
          rw [sT_b ne]
          by_cases g : bOk s b = true ∧ q = false
          · rw [if_pos g] at s1
            rw [g.1, g.2]
            rw [g.2] at o2 S
            refine ⟨by decide, fun _ => m_buyN o2 S.1 hb (by rw [sT_b ne, g.1]; rfl) (fun υ f2 S2 => ?_), fun e => absurd (by decide) e⟩
            rw [sT_bb ne g.1] at S2
            exact ih (j + 1) υ p true (by omega) s1 (f.trans f2.1) S2
          · rw [if_neg g] at s1
            have kk := k τ f
            rw [show n = (j + 1) + i by omega, St_none i (j + 1) s1] at kk
            have z : (bOk s b && !q) = false := by
              cases e : bOk s b
              · rfl
              · cases q
                · exact absurd ⟨e, rfl⟩ g
                · rfl
            rw [z]
            exact ⟨by decide, fun e => absurd rfl e, fun _ => ⟨_, rfl, kk⟩⟩
        · unfold stT at s1
          rw [if_neg (by omega)] at s1
          rw [sT_a ne]
          by_cases g : bOk s a = true ∧ p = false
          · rw [if_pos g] at s1
            rw [g.1, g.2]
            rw [g.2] at o2 S
            refine ⟨by decide, fun _ => m_buyN o2 S.1 ha (by rw [sT_a ne, g.1]; rfl) (fun υ f2 S2 => ?_), fun e => absurd (by decide) e⟩
            rw [sT_ba ne g.1] at S2
            exact ih (j + 1) υ true q (by omega) s1 (f.trans f2.1) S2
          · rw [if_neg g] at s1
            have kk := k τ f
            rw [show n = (j + 1) + i by omega, St_none i (j + 1) s1] at kk
            have z : (bOk s a && !p) = false := by
              cases e : bOk s a
              · rfl
              · cases p
                · exact absurd ⟨e, rfl⟩ g
                · rfl
            rw [z]
            exact ⟨by decide, fun e => absurd rfl e, fun _ => ⟨_, rfl, kk⟩⟩
      · have c0 : ¬ x / 2 ^ i % 2 = 1 := by
          intro e
          exact c (bt.mpr (by rw [td]; exact decide_eq_true e))
        exact ih (j + 1) τ p q (by omega) (St_0 hs (by omega)) f S
  refine v_218 (m_begins ok nw hx hp (fun τ f S _ => lp n 0 τ false false (by omega) rfl f ?_))
  rw [show sT s a b false false = s by unfold sT; rw [tB_f, tB_f]]
  exact S
theorem m_game {X : PX} {σ : Sg} {o a b n : Nat} {w : Int} {K : Kz} {s : Cs} {P : Int → Sg → Prop} (ok : sOk K s) (nw : sNew s) (hx : MX σ o K) (mp : ∀ ω : Sg, FA σ ω → MP ω o K s) (ha : a < kN K) (hb : b < kN K) (ne : a ≠ b) (hn : n ≤ 6) (hw : InR w) (k : ∀ τ : Sg, FA σ τ → P (if w = 0 then gm K s a b 0 n false false else if n = 0 then -1 else opn K s a b (n - 1)) τ) : Ev X 219 28 [some (vR (some 170)), none, some (vI a), some (vI b), some (vI n), some (vI w), some (vI (iShl 1 n)), some (vI 0), none, none, none, none, none] [] σ (fun v τ => ∃ y, v = some (vI y) ∧ P y τ) := by
  have p6 : ∀ t : Nat, t ≤ 6 → 2 ^ t ≤ 64 := fun t ht => Nat.le_trans (Nat.pow_le_pow_right (by omega) ht) (by decide)
  have p0 : ∀ t : Nat, 0 < 2 ^ t := fun t => Nat.two_pow_pos t
  have fa8 : ∀ (τ : Sg) (j : Nat) (x : Int), FA τ (τ.1, up2 τ.2 178 j x) := fun τ j x => ⟨fun _ _ => rfl, fun c hc => by dsimp only; rw [up2_ne _ _ _ (by omega)]⟩
  have fold : ∀ (t j : Nat) (τ : Sg) (x7 : Int), t + j = n → FA σ τ → (∀ z : Nat, z < 2 ^ t → τ.2 178 z = rV (gm K s a b t j) (St (bOk s a) (bOk s b) t z)) → (t = 0 → x7 = if n = 0 then -1 else opn K s a b (n - 1)) → Ev X 219 49 [some (vR (some 170)), none, none, none, none, some (vI w), some (vI ((2 ^ t : Nat) : Int)), some (vI x7), some (vI ((t : Int) - 1)), none, none, none, none] [] τ (fun v τ => ∃ y, v = some (vI y) ∧ P y τ) := by
    intro t
    induction t with
    | zero =>
      intro j τ x7 hj f hr h7
      have kk := k τ f
      refine v_219_49 ⟨by omega, fun _ => ⟨hw, fun e => ⟨_, rfl, ?_⟩, fun e => ⟨_, rfl, ?_⟩⟩, fun e => absurd (by omega) e⟩
      · rw [if_pos e] at kk
        rw [hr 0 (p0 0), show j = n by omega]
        exact kk
      · rw [if_neg e] at kk
        rw [h7 rfl]
        exact kk
    | succ t ih =>
      intro j τ x7 hj f hr h7
      have q6 := p6 (t + 1) (by omega)
      have pe : 2 ^ (t + 1) = 2 ^ t * 2 := Nat.pow_succ _ _
      have q0 := p0 t
      have rg := gm_rng ok nw ha hb (t + 1) j
      have lp : ∀ (d z : Nat) (τ : Sg) (x7 : Int), z + d = 2 ^ t → FA σ τ → (∀ y : Nat, y < z → τ.2 178 y = rV (gm K s a b t (j + 1)) (St (bOk s a) (bOk s b) t y)) → (∀ y : Nat, z ≤ y → y < 2 ^ (t + 1) → τ.2 178 y = rV (gm K s a b (t + 1) j) (St (bOk s a) (bOk s b) (t + 1) y)) → (t = 0 → 0 < z → x7 = opn K s a b j) → Ev X 219 57 [some (vR (some 170)), none, none, none, none, some (vI w), some (vI ((2 ^ t : Nat) : Int)), some (vI x7), some (vI (t : Int)), some (vI (z : Int)), none, none, none] [] τ (fun v τ => ∃ y, v = some (vI y) ∧ P y τ) := by
        intro d
        induction d with
        | zero =>
          intro z τ x7 hz f h1 h2 h7
          refine v_219_57 ⟨by omega, by omega, fun _ => ?_, fun e => absurd (by omega) e⟩
          rw [show (t : Int) + (-1) = (t : Int) - 1 by omega]
          refine ih (j + 1) τ x7 (by omega) f (fun y hy => h1 y (by omega)) (fun e => ?_)
          rw [if_neg (by omega), h7 e (by omega), show n - 1 = j by omega]
        | succ d ihd =>
          intro z τ x7 hz f h1 h2 h7
          have nx : ∀ (x7 r : Int), r = rV (gm K s a b t (j + 1)) (St (bOk s a) (bOk s b) t z) → (t = 0 → x7 = opn K s a b j) → Ev X 219 57 [some (vR (some 170)), none, none, none, none, some (vI w), some (vI ((2 ^ t : Nat) : Int)), some (vI x7), some (vI (t : Int)), some (vI ((z : Int) + 1)), none, none, none] [] (τ.1, up2 τ.2 178 z r) (fun v τ => ∃ y, v = some (vI y) ∧ P y τ) := by
            intro x7 r hr h7
            refine ihd (z + 1) _ x7 (by omega) (f.trans (fa8 τ z r)) (fun y hy => ?_) (fun y hy1 hy2 => ?_) (fun e _ => h7 e)
            · dsimp only
              rw [up2_if]
              by_cases c : y = z
              · rw [if_pos c, c]; exact hr
              · rw [if_neg c]; exact h1 y (by omega)
            · dsimp only
              rw [up2_if, if_neg (by omega)]
              exact h2 y (by omega) hy2
          have eA := h2 (2 * z) (by omega) (by omega)
          have eB := h2 (2 * z + 1) (by omega) (by omega)
          refine v_219_57 ?_
          rw [show (2 * (z : Int)).toNat = 2 * z by omega, show (2 * (z : Int) + 1).toNat = 2 * z + 1 by omega, Int.toNat_natCast, b_rem (by omega) (by omega) (by omega) (by omega), eA, eB]
          refine ⟨by omega, by omega, fun e => absurd e (by omega), fun _ => ⟨by omega, by omega, ?_⟩⟩
          have d0 : 2 * z / 2 = z := by omega
          have d1 : (2 * z + 1) / 2 = z := by omega
          cases hs : St (bOk s a) (bOk s b) t z with
          | none =>
            rw [hs] at nx
            have vN : rV (gm K s a b (t + 1) j) none = 99999999 := rfl
            rw [St_n (x := 2 * z) (by rw [d0]; exact hs), St_n (x := 2 * z + 1) (by rw [d1]; exact hs), vN]
            have nt : ¬ t = 0 := by intro e; rw [e] at hs; exact absurd hs (by intro h; cases h)
            exact ⟨by decide, fun _ => ⟨by omega, nx 0 _ rfl (fun e => absurd e nt)⟩, fun e => absurd rfl e⟩
          | some pq =>
            obtain ⟨p, q⟩ := pq
            rw [hs] at nx
            have vN : rV (gm K s a b (t + 1) j) none = 99999999 := rfl
            rw [St_0 (x := 2 * z) (p := p) (q := q) (by rw [d0]; exact hs) (by omega), St_1 (x := 2 * z + 1) (p := p) (q := q) (by rw [d1]; exact hs) (by omega)]
            have nx : ∀ (x7 r : Int), r = tn (bOk s a) (bOk s b) t (gm K s a b (t + 1) j) p q → (t = 0 → x7 = opn K s a b j) → Ev X 219 57 [some (vR (some 170)), none, none, none, none, some (vI w), some (vI ((2 ^ t : Nat) : Int)), some (vI x7), some (vI (t : Int)), some (vI ((z : Int) + 1)), none, none, none] [] (τ.1, up2 τ.2 178 z r) (fun v τ => ∃ y, v = some (vI y) ∧ P y τ) := nx
            have z0 : t = 0 → p = false ∧ q = false := by
              intro e
              rw [e] at hs
              have : some (false, false) = some (p, q) := hs
              injection this with this
              injection this with h1 h2
              exact ⟨h1.symm, h2.symm⟩
            have vA : rV (gm K s a b (t + 1) j) (some (p, q)) = gm K s a b (t + 1) j p q := rfl
            have rA := rg p q
            unfold stT
            unfold tn at nx
            rw [vA]
            by_cases od : t % 2 = 1
            · rw [if_pos od]
              rw [if_pos od] at nx
              by_cases g : bOk s b = true ∧ q = false
              · rw [if_pos g]
                rw [if_pos g] at nx
                have rB := rg p true
                have vB : rV (gm K s a b (t + 1) j) (some (p, true)) = gm K s a b (t + 1) j p true := rfl
                rw [vB]
                refine ⟨by omega, fun e => absurd e (by omega), fun _ => ⟨by omega, fun _ => ⟨by omega, fun c => ⟨by omega, nx 0 _ (by omega) (fun e => absurd e (by omega))⟩, fun c => ⟨by omega, nx 1 _ (by omega) (fun e => absurd e (by omega))⟩⟩, fun e => absurd (by omega) e⟩⟩
              · rw [if_neg g]
                rw [if_neg g] at nx
                rw [vN]
                exact ⟨by decide, fun _ => ⟨by omega, nx 0 _ rfl (fun e => absurd e (by omega))⟩, fun e => absurd rfl e⟩
            · rw [if_neg od]
              rw [if_neg od] at nx
              by_cases g : bOk s a = true ∧ p = false
              · rw [if_pos g]
                rw [if_pos g] at nx
                have rB := rg true q
                have vB : rV (gm K s a b (t + 1) j) (some (true, q)) = gm K s a b (t + 1) j true q := rfl
                rw [vB]
                refine ⟨by omega, fun e => absurd e (by omega), fun _ => ⟨by omega, fun e => absurd e (by omega), fun _ => ⟨by omega, fun c => ⟨by omega, nx 0 _ (by omega) (fun e => ?_)⟩, fun c => ⟨by omega, nx 1 _ (by omega) (fun e => ?_)⟩⟩⟩⟩
                · obtain ⟨y1, y2⟩ := z0 e
                  rw [e, y1, y2] at c
                  have c : gm K s a b 1 j true false ≤ gm K s a b 1 j false false := c
                  unfold opn
                  rw [if_neg (fun x => absurd x.2 (by omega))]
                · obtain ⟨y1, y2⟩ := z0 e
                  rw [e, y1, y2] at c
                  have c : ¬ gm K s a b 1 j true false ≤ gm K s a b 1 j false false := c
                  unfold opn
                  rw [if_pos ⟨g.1, by omega⟩]
              · rw [if_neg g]
                rw [if_neg g] at nx
                rw [vN]
                refine ⟨by decide, fun _ => ⟨by omega, nx 0 _ rfl (fun e => ?_)⟩, fun e => absurd rfl e⟩
                unfold opn
                rw [if_neg (fun x => g ⟨x.1, (z0 e).1⟩)]
      rw [show (((t + 1 : Nat) : Int) - 1) = (t : Int) by omega]
      refine v_219_49 ⟨by omega, fun e => absurd e (by omega), fun _ => ?_⟩
      rw [b_div (by omega) (by omega) (by omega) (by omega), show ((2 ^ (t + 1) : Nat) : Int) / 2 = ((2 ^ t : Nat) : Int) by omega]
      exact lp (2 ^ t) 0 τ x7 (by omega) f (fun y hy => absurd hy (by omega)) (fun y _ hy => hr y hy) (fun _ e => absurd e (by omega))
  have fill : ∀ (d y : Nat) (τ : Sg), y + d = 2 ^ n → FA σ τ → MX τ o K → (∀ z : Nat, z < y → τ.2 178 z = rV (Mg K s a b) (St (bOk s a) (bOk s b) n z)) → Ev X 219 28 [some (vR (some 170)), none, some (vI a), some (vI b), some (vI n), some (vI w), some (vI ((2 ^ n : Nat) : Int)), some (vI (y : Int)), none, none, none, none, none] [] τ (fun v τ => ∃ y, v = some (vI y) ∧ P y τ) := by
    have q6 := p6 n hn
    intro d
    induction d with
    | zero =>
      intro y τ hy f m hr
      exact v_219_28 ⟨by omega, by omega, fun _ => fold n 0 τ (-1) (by omega) f (fun z hz => hr z (by omega)) (fun e => by rw [if_pos e]), fun e => absurd (by omega) e⟩
    | succ d ih =>
      intro y τ hy f m hr
      refine v_219_28 ⟨by omega, by omega, fun e => absurd e (by omega), fun _ => m_by ok nw m (mp τ f) ha hb ne hn (by omega) (fun υ g => ⟨by omega, ?_⟩)⟩
      rw [Int.toNat_natCast]
      refine ih (y + 1) _ (by omega) (f.trans (g.fa.trans (fa8 _ _ _))) ((m.fb g).mv (fun _ _ => rfl) (by dsimp only; rw [up2_ne _ _ _ (by omega)])) (fun z hz => ?_)
      dsimp only
      rw [up2_if]
      by_cases c : z = y
      · rw [if_pos c, c]
      · rw [if_neg c, g.2.2 178 (by omega) (by omega) (by omega)]; exact hr z (by omega)
  rw [b_one (by omega)]
  exact fill (2 ^ n) 0 σ (by omega) FA.rfl hx (fun z hz => absurd hz (by omega))
theorem s_strife {X : PX} : Sm_15 X Rel := by
  intro a b c n ha hb hc' hn w hw0 σ hR
  have hw : InR w := by omega
  refine same_P (a := a) hR (-999) (by omega) (fun hc => ?_) (fun τ hR2 hc => ?_) (fun K s a2 hc T => ?_)
  · exact v_138 (c_hasN (s := 0) hR (by omega) ha hc ⟨by omega, fun _ => ⟨_, rfl, Out.rfl, rfl⟩, fun e => absurd rfl e⟩)
  · exact v_219 (m_isPN hR2 ha hc ⟨by omega, fun _ => ⟨_, rfl, FA.rfl, rfl⟩, fun e => absurd rfl e⟩)
  · obtain ⟨⟨tp, tp2⟩, ok, nw, tr, tm⟩ := id T
    obtain ⟨e1, e2, n7, e4⟩ := ok.e7
    by_cases g : ((0 ≤ b ∧ b < kN K) ∧ (0 ≤ c ∧ c < kN K)) ∧ b ≠ c ∧ 0 ≤ n ∧ n ≤ 6
    · obtain ⟨⟨gb, gc⟩, ne, gn⟩ := g
      obtain ⟨x, rfl⟩ := Int.eq_ofNat_of_zero_le gb.1
      obtain ⟨y, rfl⟩ := Int.eq_ofNat_of_zero_le gc.1
      obtain ⟨m, rfl⟩ := Int.eq_ofNat_of_zero_le gn.1
      have hx : x < kN K := by omega
      have hy : y < kN K := by omega
      have nxy : x ≠ y := by omega
      have gr := gm_rng ok nw hx hy 0 m false false
      have og : ∀ k : Nat, 0 ≤ opn K s x y k ∧ opn K s x y k ≤ 1 := fun k => by unfold opn; split <;> omega
      have rg : InR (if w = 0 then gm K s x y 0 m false false else if m = 0 then -1 else opn K s x y (m - 1)) := by
        have := og (m - 1)
        split
        · omega
        · split <;> omega
      refine ⟨_, rg, v_138 (c_hasY (s := 0) hR (by omega) ha hc ⟨by omega, fun e => absurd e (by omega), fun _ => ⟨hn, fun e => absurd e (by omega), fun _ => ⟨fun e => absurd e (by omega), fun _ => ⟨hb, hc', fun _ => ⟨by omega, c_hH tp tr.2.2.1 n7 hb ?_⟩, fun e => absurd ne e⟩⟩⟩⟩), fun τ hR2 hc2 T2 fr => v_219 (m_isPY hR2 ha hc2 T2 (fun υ g' S h22 => ⟨by omega, fun e => absurd e (by omega), fun _ => m_isH S.mx.2.1 n7 hb ?_⟩))⟩
      · rw [if_pos gb]
        refine ⟨by omega, fun e => absurd e (by omega), fun _ => c_hH tp tr.2.2.1 n7 hc' ?_⟩
        rw [if_pos gc]
        refine ⟨by omega, fun _ => ⟨hw, fun w0 => ⟨fun m0 => ?_, fun m0 => ⟨_, rfl, Out.rfl, ?_⟩⟩, fun w0 => ?_⟩, fun e => absurd (by omega) e⟩
        · rw [show (m : Int) = ((m - 1 + 1 : Nat) : Int) by omega]
          refine c_opening tp tp2 ok nw tr hx hy (by omega) (fun τ f => ⟨_, rfl, f, ?_⟩)
          rw [if_neg w0, if_neg (by omega)]
        · rw [if_neg w0, if_pos (by omega)]
        · refine c_margin tp tp2 ok nw tr hx hy (by omega) (fun τ f => ⟨_, rfl, f, ?_⟩)
          rw [if_pos (by omega)]
      · rw [if_pos gb]
        refine ⟨by omega, fun e => absurd e (by omega), fun _ => m_isH S.mx.2.1 n7 hc' ?_⟩
        rw [if_pos gc]
        refine ⟨by omega, fun e => absurd e (by omega), fun _ => ⟨hb, hc', fun e => absurd e ne, fun _ => c_isIn hn (by omega) (by omega) ?_⟩⟩
        rw [if_pos gn]
        have mpo : ∀ ω : Sg, FA υ ω → MP ω (610 + 49 * a.toNat) K s := fun ω f => (T2.2.2.2.2.mv (g'.1.2 171 (by omega))).mv (f.2 171 (by omega))
        exact ⟨by omega, fun _ => m_game ok nw S.mx mpo hx hy nxy (by omega) hw (fun ω f => ⟨g'.1.trans f, rfl⟩), fun e => absurd (by omega) e⟩
    · refine ⟨-999, by omega, v_138 (c_hasY (s := 0) hR (by omega) ha hc ⟨by omega, fun e => absurd e (by omega), fun _ => ⟨hn, fun _ => ⟨_, rfl, Out.rfl, rfl⟩, fun n1 => ⟨fun _ => ⟨_, rfl, Out.rfl, rfl⟩, fun n2 => ⟨hb, hc', fun ne => ⟨by omega, c_hH tp tr.2.2.1 n7 hb ?_⟩, fun _ => ⟨_, rfl, Out.rfl, rfl⟩⟩⟩⟩⟩), fun τ hR2 hc2 T2 fr => v_219 (m_isPY hR2 ha hc2 T2 (fun υ g' S h22 => ⟨by omega, fun e => absurd e (by omega), fun _ => m_isH S.mx.2.1 n7 hb ?_⟩))⟩
      · by_cases gb : 0 ≤ b ∧ b < kN K
        · rw [if_pos gb]
          refine ⟨by omega, fun e => absurd e (by omega), fun _ => c_hH tp tr.2.2.1 n7 hc' ?_⟩
          rw [if_neg (fun gc => g ⟨⟨gb, gc⟩, ne, by omega, by omega⟩)]
          exact ⟨by omega, fun e => absurd rfl e, fun _ => ⟨_, rfl, Out.rfl, rfl⟩⟩
        · rw [if_neg gb]
          exact ⟨by omega, fun _ => ⟨_, rfl, Out.rfl, rfl⟩, fun e => absurd rfl e⟩
      · by_cases gb : 0 ≤ b ∧ b < kN K
        · rw [if_pos gb]
          refine ⟨by omega, fun e => absurd e (by omega), fun _ => m_isH S.mx.2.1 n7 hc' ?_⟩
          by_cases gc : 0 ≤ c ∧ c < kN K
          · rw [if_pos gc]
            refine ⟨by omega, fun e => absurd e (by omega), fun _ => ⟨hb, hc', fun _ => ⟨_, rfl, g'.1, rfl⟩, fun ne => c_isIn hn (by omega) (by omega) ?_⟩⟩
            rw [if_neg (fun gn => g ⟨⟨gb, gc⟩, ne, gn⟩)]
            exact ⟨by omega, fun e => absurd rfl e, fun _ => ⟨_, rfl, g'.1, rfl⟩⟩
          · rw [if_neg gc]
            exact ⟨by omega, fun _ => ⟨_, rfl, g'.1, rfl⟩, fun e => absurd rfl e⟩
        · rw [if_neg gb]
          exact ⟨by omega, fun _ => ⟨_, rfl, g'.1, rfl⟩, fun e => absurd rfl e⟩
