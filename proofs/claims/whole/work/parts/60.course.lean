/-! A PARISH and its course: what stands still (houses, rules, yields), what moves (quota, price, offices, cut, goods, year, paid, lost) -/
abbrev Kz : Type := Nat × Gs × (Nat → Int)
abbrev Cs : Type := Int × Int × Nat × Nat × (Nat → Int) × Int × Int × Int
abbrev kN (K : Kz) : Nat := K.1
abbrev kR (K : Kz) : Gs := K.2.1
abbrev kY (K : Kz) : Nat → Int := K.2.2
abbrev cQ (s : Cs) : Int := s.1
abbrev cP (s : Cs) : Int := s.2.1
abbrev cO (s : Cs) : Nat := s.2.2.1
abbrev cC (s : Cs) : Nat := s.2.2.2.1
abbrev cG (s : Cs) : Nat → Int := s.2.2.2.2.1
abbrev cY (s : Cs) : Int := s.2.2.2.2.2.1
abbrev cD (s : Cs) : Int := s.2.2.2.2.2.2.1
abbrev cS (s : Cs) : Int := s.2.2.2.2.2.2.2
def zE (K : Kz) (s : Cs) : Nat := gClo (kR K) (cC s) (cO s)
def cT (K : Kz) (s : Cs) (h : Nat) : Int := txF (kN K) (zE K s) (cQ s) (cG s) h
def cL (K : Kz) (s : Cs) : Int := lsF (kN K) (zE K s) (cQ s) (cG s)
def sOk (K : Kz) (s : Cs) : Prop := gOk (kR K) (kN K) ∧ gdOk (kN K) (cQ s) (cG s) ∧ (0 ≤ cP s ∧ cP s ≤ 99) ∧ cO s < 2 ^ kN K ∧ cC s < 1024 ∧ (∀ h : Nat, h < kN K → 0 ≤ kY K h ∧ kY K h ≤ 9) ∧ (0 ≤ cY s ∧ cY s ≤ 60) ∧ (0 ≤ cD s ∧ cD s ≤ 1000 * cY s) ∧ (0 ≤ cS s ∧ cS s ≤ 1000 * cY s)
def sNew (s : Cs) : Prop := cC s = 0 ∧ cY s = 0 ∧ cD s = 0 ∧ cS s = 0
/-- the class's parish p is that -/
def RP (σ : Sg) (p : Nat) (K : Kz) (s : Cs) : Prop := σ.1 p 0 = cQ s ∧ σ.1 p 1 = cP s ∧ σ.1 p 2 = kN K ∧ σ.1 p 3 = cO s ∧ RC σ p (kR K) ∧ (∀ r : Nat, r < (kR K).1 → σ.2 (p + 4) r = (kR K).2.2.1 r ∧ σ.2 (p + 5) r = (kR K).2.2.2 r) ∧ (∀ h : Nat, h < kN K → σ.2 (p + 1) h = cG s h ∧ σ.2 (p + 2) h = kY K h)
def SCp (σ : Sg) (K : Kz) (s : Cs) : Prop := RP σ 147 K s ∧ σ.1 146 2 = cY s ∧ σ.1 146 3 = cD s ∧ σ.1 146 4 = cS s ∧ σ.1 146 5 = cC s
def SC (σ : Sg) (K : Kz) (s : Cs) : Prop := SCp σ K s ∧ σ.1 146 6 = zE K s ∧ σ.1 154 0 = cL K s ∧ ∀ h : Nat, h < 7 → σ.2 155 h = cT K s h
theorem RP.mv {σ τ : Sg} {p : Nat} {K : Kz} {s : Cs} (h : RP σ p K s) (f1 : τ.1 p = σ.1 p) (f2 : ∀ c : Nat, p < c → c ≤ p + 6 → τ.2 c = σ.2 c) : RP τ p K s := by
  unfold RP RC at h ⊢
  rw [f1, f2 (p + 1) (by omega) (by omega), f2 (p + 2) (by omega) (by omega), f2 (p + 3) (by omega) (by omega), f2 (p + 4) (by omega) (by omega), f2 (p + 5) (by omega) (by omega), f2 (p + 6) (by omega) (by omega)]
  exact h
theorem Out.trans {σ τ υ : Sg} {a b : Nat} (h : Out σ τ a b) (g : Out τ υ a b) : Out σ υ a b := fun c hc => ⟨(g c hc).1.trans (h c hc).1, (g c hc).2.trans (h c hc).2⟩
theorem Out.rfl {σ : Sg} {a b : Nat} : Out σ σ a b := fun _ _ => ⟨Eq.refl _, Eq.refl _⟩
theorem Out.wide {σ τ : Sg} {a b a2 b2 : Nat} (h : Out σ τ a b) (h1 : a2 ≤ a) (h2 : b ≤ b2) : Out σ τ a2 b2 := fun c hc => h c (by omega)
theorem RP.out {σ τ : Sg} {p a b : Nat} {K : Kz} {s : Cs} (h : RP σ p K s) (f : Out σ τ a b) (hp : p + 6 < a ∨ b < p) : RP τ p K s :=
  h.mv (f p (by omega)).1 (fun c _ _ => (f c (by omega)).2)
theorem SC.out {σ τ : Sg} {a b : Nat} {K : Kz} {s : Cs} (h : SC σ K s) (f : Out σ τ a b) (hp : 156 < a ∨ b < 146) : SC τ K s := by
  obtain ⟨⟨h1, h2⟩, h3, h4, h5⟩ := h
  refine ⟨⟨h1.out f (by omega), ?_⟩, ?_, ?_, ?_⟩
  · rw [(f 146 (by omega)).1]; exact h2
  · rw [(f 146 (by omega)).1]; exact h3
  · rw [(f 154 (by omega)).1]; exact h4
  · rw [(f 155 (by omega)).2]; exact h5
theorem sOk.e7 {K : Kz} {s : Cs} (h : sOk K s) : zE K s < 2 ^ kN K ∧ zE K s < 128 ∧ kN K ≤ 7 ∧ 2 ^ kN K ≤ 128 := ⟨gClo_lt h.1 h.2.2.2.1, gClo_lt7 h.1 h.2.2.2.1, h.1.2.1, p27 h.1.2.1⟩
theorem sOk.t {K : Kz} {s : Cs} (h : sOk K s) : (∀ i : Nat, 0 ≤ cT K s i ∧ cT K s i ≤ 99) ∧ (∀ i : Nat, ¬ (i < kN K ∧ (zE K s).testBit i = false) → cT K s i = 0) ∧ sm (cT K s) (kN K) = cQ s - cL K s ∧ sm (cT K s) 7 = cQ s - cL K s := txF_all h.2.1
theorem sOk.l {K : Kz} {s : Cs} (h : sOk K s) : 0 ≤ cL K s ∧ cL K s ≤ 99 := by
  have q := h.2.1
  unfold cL lsF
  unfold gdOk at q
  split <;> omega
theorem c_assess {X : PX} {σ : Sg} {K : Kz} {s : Cs} {P : Sg → Prop} (ok : sOk K s) (h : SCp σ K s) (k : ∀ τ : Sg, (∀ c : Nat, c ≠ 146 → c ≠ 154 → τ.1 c = σ.1 c) → (∀ j : Nat, j ≠ 6 → τ.1 146 j = σ.1 146 j) → (∀ c : Nat, c ≠ 155 → c ≠ 156 → τ.2 c = σ.2 c) → SC τ K s → P τ) : CV X 30 [vR (some 146)] σ P := by
  obtain ⟨e1, e2, e3, e4⟩ := ok.e7
  obtain ⟨hr, hy, hd, hs, hc⟩ := id h
  obtain ⟨r0, r1, r2, r3, r4, r5, r6⟩ := id hr
  have c10 := ok.2.2.2.2.1
  have ho := ok.2.2.2.1
  refine v_30 ?_
  rw [r3, hc]
  refine c_ex (p := 147) (by decide) ok.1 r4 (by omega) ho ?_
  rw [r0]
  refine c_share (v := 154) (p := 147) (n := kN K) (E := gClo (kR K) (cC s) (cO s)) (q := cQ s) (g := cG s) (by decide) (by decide) ok.2.1 e2 ?_ (fun i hi => (r6 i hi).1) (fun τ t1 t2 t3 => ⟨rfl, ?_⟩)
  · dsimp only; rw [up2_ne _ _ _ (by omega)]; exact r2
  · dsimp only at t1 t2
    have a1 : ∀ c : Nat, c ≠ 146 → c ≠ 154 → τ.1 c = σ.1 c := fun c c1 c2 => by rw [t1, up2_ne _ _ _ c2, up2_ne _ _ _ c1]
    have a2 : ∀ j : Nat, j ≠ 6 → τ.1 146 j = σ.1 146 j := fun j hj => by rw [t1, up2_ne _ _ _ (by omega), up2_at, up_ne _ _ hj]
    refine k τ a1 a2 t2 ⟨⟨hr.mv (a1 147 (by omega) (by omega)) (fun c q1 q2 => t2 c (by omega) (by omega)), ?_, ?_, ?_, ?_⟩, ?_, ?_, t3⟩
    · rw [a2 _ (by omega)]; exact hy
    · rw [a2 _ (by omega)]; exact hd
    · rw [a2 _ (by omega)]; exact hs
    · rw [a2 _ (by omega)]; exact hc
    · rw [t1, up2_ne _ _ _ (by omega), up2_get]; rfl
    · rw [t1, up2_get]; rfl
theorem c_begin {X : PX} {σ : Sg} {p : Nat} {K : Kz} {s : Cs} {P : Sg → Prop} (hp : p ∈ parL) (hp2 : p < 147) (ok : sOk K s) (nw : sNew s) (h : RP σ p K s) (k : ∀ τ : Sg, Out σ τ 146 156 → SC τ K s → P τ) : CV X 29 [vR (some 146), vR (some p)] σ P := by
  obtain ⟨r0, r1, r2, r3, ⟨r4, r4'⟩, r5, r6⟩ := id h
  obtain ⟨n1, n2, n3, n4⟩ := nw
  have pl := par_apart p hp 147 (by decide) (by omega)
  have g7 := ok.1.2.1
  have g10 := ok.1.1
  refine v_29 hp (c_pcopy (by decide) hp (by omega) (by omega) (by omega) (fun τ t1 t2 t3 t4 t5 => c_assess ok ?_ (fun υ u1 u2 u3 u4 => ⟨rfl, k υ ?_ u4⟩)))
  · have b1 : ∀ c : Nat, c ≠ 146 → (up2 (up2 (up2 (up2 (up2 (up2 (up2 τ.1 146 2 0) 146 3 0) 146 4 0) 146 5 0) 146 7 0) 146 8 (-1)) 146 9 0) c = τ.1 c := fun c hc => by simp only [up2_ne _ _ _ hc]
    refine ⟨⟨?_, ?_, ?_, ?_, ⟨?_, fun r hr => ?_⟩, fun r hr => ?_, fun i hi => ?_⟩, ?_, ?_, ?_, ?_⟩
    · dsimp only; rw [b1 _ (by omega), t2 0 (by omega)]; exact r0
    · dsimp only; rw [b1 _ (by omega), t2 1 (by omega)]; exact r1
    · dsimp only; rw [b1 _ (by omega), t2 2 (by omega)]; exact r2
    · dsimp only; rw [b1 _ (by omega), t2 3 (by omega)]; exact r3
    · dsimp only; rw [b1 _ (by omega), t2 4 (by omega)]; exact r4
    · dsimp only; rw [(t5 r (by omega)).1, (t5 r (by omega)).2.2.2]; exact r4' r hr
    · dsimp only; rw [(t5 r (by omega)).2.1, (t5 r (by omega)).2.2.1]; exact r5 r hr
    · dsimp only; rw [(t4 i (by omega)).1, (t4 i (by omega)).2]; exact r6 i hi
    · dsimp only; simp only [up2_if, Nat.reduceEqDiff, reduceIte]; exact n2.symm
    · dsimp only; simp only [up2_if, Nat.reduceEqDiff, reduceIte]; exact n3.symm
    · dsimp only; simp only [up2_if, Nat.reduceEqDiff, reduceIte]; exact n4.symm
    · dsimp only; simp only [up2_if, Nat.reduceEqDiff, reduceIte]; rw [n1]; rfl
  · intro c hc
    constructor
    · rw [u1 c (by omega) (by omega)]
      dsimp only
      simp only [up2_ne _ _ _ (show c ≠ 146 by omega)]
      exact t1 c (by omega)
    · rw [u3 c (by omega) (by omega)]
      exact t3 c (by omega)
/-! one year -/
def yPay (K : Kz) (s : Cs) (h : Nat) : Int := min (cT K s h) (cG s h)
def yG (K : Kz) (s : Cs) (h : Nat) : Int := min 99 (cG s h - yPay K s h + kY K h)
def yPd (K : Kz) (s : Cs) (k : Nat) : Int := sm (yPay K s) k
def yLs (K : Kz) (s : Cs) (k : Nat) : Int := sm (fun h => cT K s h - yPay K s h) k
def sYear (K : Kz) (s : Cs) : Cs := (cQ s, cP s, cO s, cC s, yG K s, cY s + 1, cD s + yPd K s (kN K), cS s + cL K s + yLs K s (kN K))
/-- the first that is so, or -1 -/
def frs (b : Nat → Bool) : Nat → Int
  | 0 => -1
  | k + 1 => if frs b k = -1 ∧ b k = true then k else frs b k
def yRu (K : Kz) (s : Cs) (k : Nat) : Int := frs (fun h => decide (yPay K s h < cT K s h)) k
def any (b : Nat → Bool) : Nat → Bool
  | 0 => false
  | k + 1 => any b k || b k
def yCh (K : Kz) (s : Cs) (k : Nat) : Bool := any (fun h => decide (yG K s h ≠ cG s h)) k
theorem frs_rng (b : Nat → Bool) : ∀ k : Nat, -1 ≤ frs b k ∧ frs b k < k
  | 0 => by unfold frs; omega
  | k + 1 => by
    have := frs_rng b k
    unfold frs
    split <;> omega
theorem yPay_rng {K : Kz} {s : Cs} (ok : sOk K s) {h : Nat} (hh : h < kN K) : 0 ≤ yPay K s h ∧ yPay K s h ≤ cT K s h ∧ yPay K s h ≤ cG s h ∧ 0 ≤ cG s h ∧ cG s h ≤ 99 ∧ 0 ≤ cT K s h ∧ cT K s h ≤ 99 ∧ 0 ≤ kY K h ∧ kY K h ≤ 9 := by
  have a := ok.2.1.2.2.2 h hh
  have b := ok.t.1 h
  have c := ok.2.2.2.2.2.1 h hh
  unfold yPay
  omega
theorem sYear_ok {K : Kz} {s : Cs} (ok : sOk K s) (hy : cY s < 60) : sOk K (sYear K s) := by
  have l := ok.l
  have n7 := ok.e7.2.2.1
  obtain ⟨h1, ⟨g1, g2, g3, g4⟩, h3, h4, h5, h6, h7, h8, h9⟩ := id ok
  have a1 := sm_nn (f := yPay K s) (kN K) (fun h hh => by have := yPay_rng ok hh; omega)
  have a2 := sm_le (f := yPay K s) (m := 99) (kN K) (fun h hh => by have := yPay_rng ok hh; omega)
  have b1 := sm_nn (f := fun h => cT K s h - yPay K s h) (kN K) (fun h hh => by have := yPay_rng ok hh; omega)
  have b2 := sm_le (f := fun h => cT K s h - yPay K s h) (m := 99) (kN K) (fun h hh => by have := yPay_rng ok hh; omega)
  refine ⟨h1, ⟨g1, g2, g3, fun h hh => ?_⟩, h3, h4, h5, h6, ?_, ?_, ?_⟩
  · have := yPay_rng ok hh
    show 0 ≤ yG K s h ∧ yG K s h ≤ 99
    unfold yG
    omega
  · show 0 ≤ cY s + 1 ∧ cY s + 1 ≤ 60
    omega
  · show 0 ≤ cD s + yPd K s (kN K) ∧ cD s + yPd K s (kN K) ≤ 1000 * (cY s + 1)
    unfold yPd
    omega
  · show 0 ≤ cS s + cL K s + yLs K s (kN K) ∧ cS s + cL K s + yLs K s (kN K) ≤ 1000 * (cY s + 1)
    unfold yLs
    omega
theorem c_taxOf {X : PX} {σ : Sg} {v h : Nat} {P : Int → Sg → Prop} (hv : v ∈ levL) (hh : h < 7) (q : P (σ.2 (v + 1) h) σ) : CI X 54 [vR (some v), vI h] σ P := by
  refine v_54 hv ⟨by omega, fun c => absurd c (by omega), fun _ => ⟨fun c => absurd c (by omega), fun _ => ⟨by omega, _, rfl, ?_⟩⟩⟩
  rw [Int.toNat_natCast]; exact q
/-- the year's loop, behind h houses -/
def CoI (σ τ : Sg) (K : Kz) (s : Cs) (h : Nat) : Prop := τ.1 146 7 = yPd K s h ∧ τ.1 146 4 = cS s + cL K s + yLs K s h ∧ τ.1 146 8 = yRu K s h ∧ τ.1 146 9 = (if yCh K s h then 1 else 0) ∧ (∀ c : Nat, c ≠ 146 → τ.1 c = σ.1 c) ∧ (∀ j : Nat, j ≠ 4 → j ≠ 7 → j ≠ 8 → j ≠ 9 → τ.1 146 j = σ.1 146 j) ∧ (∀ c : Nat, c ≠ 148 → τ.2 c = σ.2 c) ∧ (∀ i : Nat, i < kN K → τ.2 148 i = if i < h then yG K s i else cG s i)
theorem ior_b (b : Bool) : iOr (if b then 1 else 0) 0 = (if b then 1 else 0) ∧ iOr (if b then 1 else 0) 1 = 1 := by
  cases b <;> decide +kernel
theorem co_y {X : PX} {σ : Sg} {K : Kz} {s : Cs} {Q : Option PV → Sg → Prop} (ok : sOk K s) (hS : SC σ K s)
    (k : ∀ τ : Sg, CoI σ τ K s (kN K) → CV X 55 [vR (some 154), vR (some 147), vI (τ.1 147 0), vI (τ.1 146 6)] (up2 (up2 τ.1 146 3 ((τ.1 146 3) + (τ.1 146 7))) 146 2 ((τ.1 146 2) + 1), τ.2) (fun υ => Q (some (vI 1)) υ)) :
    ∀ (d h : Nat) (τ : Sg), h + d = kN K → CoI σ τ K s h → Ev X 33 19 [some (vR (some 146)), some (vI h), none, none, none] [] τ Q := by
  have n7 := ok.e7.2.2.1
  obtain ⟨⟨⟨r0, r1, r2, r3, r4, r5, r6⟩, -⟩, -, -, htx⟩ := hS
  intro d
  induction d with
  | zero =>
    intro h τ hh hI
    obtain ⟨i7, i4, i8, i9, i1, i2, i3, ig⟩ := id hI
    have e2 : τ.1 147 2 = kN K := by rw [i1 _ (by omega)]; exact r2
    rw [show h = kN K by omega] at hI ⊢
    exact v_33_19 ⟨by omega, by omega, fun _ => k τ hI, fun q => absurd (by omega) q⟩
  | succ d ih =>
    intro h τ hh hI
    have hn : h < kN K := by omega
    obtain ⟨i7, i4, i8, i9, i1, i2, i3, ig⟩ := id hI
    have e2 : τ.1 147 2 = kN K := by rw [i1 _ (by omega)]; exact r2
    have et : τ.2 155 h = cT K s h := by rw [i3 _ (by omega)]; exact htx h (by omega)
    have eg : τ.2 148 h = cG s h := by rw [ig h hn, if_neg (by omega)]
    have ey : τ.2 149 h = kY K h := by rw [i3 _ (by omega)]; exact (r6 h hn).2
    have rg := yPay_rng ok hn
    have ru := frs_rng (fun h => decide (yPay K s h < cT K s h)) h
    have i8' : τ.1 146 8 = frs (fun h => decide (yPay K s h < cT K s h)) h := i8
    have nx : ∀ (f : Nat → Nat → Int) (x9 : Int), f 146 7 = yPd K s h + yPay K s h → f 146 4 = cS s + cL K s + yLs K s h + (cT K s h - yPay K s h) → f 146 8 = yRu K s (h + 1) → x9 = (if yCh K s (h + 1) then 1 else 0) → (∀ c : Nat, c ≠ 146 → f c = τ.1 c) → (∀ j : Nat, j ≠ 4 → j ≠ 7 → j ≠ 8 → j ≠ 9 → f 146 j = τ.1 146 j) → Ev X 33 19 [some (vR (some 146)), some (vI ((h : Int) + 1)), none, none, none] [] (up2 f 146 9 x9, up2 τ.2 148 h (yG K s h)) Q := by
      intro f x9 f7 f4 f8 f9 f1 f2
      refine ih (h + 1) _ (by omega) ⟨?_, ?_, ?_, ?_, fun c hc => ?_, fun j j1 j2 j3 j4 => ?_, fun c hc => ?_, fun i hi => ?_⟩
      · dsimp only; rw [up2_if, if_neg (by omega), f7]; rfl
      · dsimp only; rw [up2_if, if_neg (by omega), f4]
        show _ = cS s + cL K s + (yLs K s h + (cT K s h - yPay K s h)); omega
      · dsimp only; rw [up2_if, if_neg (by omega), f8]
      · dsimp only; rw [up2_get]; exact f9
      · dsimp only; rw [up2_ne _ _ _ hc, f1 c hc]; exact i1 c hc
      · dsimp only; rw [up2_if, if_neg j4, f2 j j1 j2 j3 j4]; exact i2 j j1 j2 j3 j4
      · dsimp only; rw [up2_ne _ _ _ hc]; exact i3 c hc
      · dsimp only; rw [up2_if]
        by_cases c : i = h
        · rw [if_pos c, if_pos (by omega), c]
        · rw [if_neg c, ig i hi]
          by_cases c2 : i < h
          · rw [if_pos c2, if_pos (by omega)]
          · rw [if_neg c2, if_neg (by omega)]
    have w1 : yG K s h = cG s h → (if yCh K s h then (1 : Int) else 0) = (if yCh K s (h + 1) then 1 else 0) := fun c => by
      have e : yCh K s (h + 1) = (yCh K s h || decide (yG K s h ≠ cG s h)) := rfl
      rw [e, c]; simp
    have w2 : ¬ yG K s h = cG s h → (1 : Int) = (if yCh K s (h + 1) then 1 else 0) := fun c => by
      have e : yCh K s (h + 1) = (yCh K s h || decide (yG K s h ≠ cG s h)) := rfl
      rw [e]; simp [c]
    have u1 : ¬ (frs (fun h => decide (yPay K s h < cT K s h)) h = -1 ∧ yPay K s h < cT K s h) → yRu K s h = yRu K s (h + 1) := fun c => by
      show _ = (if frs (fun h => decide (yPay K s h < cT K s h)) h = -1 ∧ decide (yPay K s h < cT K s h) = true then (h : Int) else frs (fun h => decide (yPay K s h < cT K s h)) h)
      rw [if_neg (by simpa using c)]; rfl
    have u2 : (frs (fun h => decide (yPay K s h < cT K s h)) h = -1 ∧ yPay K s h < cT K s h) → (h : Int) = yRu K s (h + 1) := fun c => by
      show _ = (if frs (fun h => decide (yPay K s h < cT K s h)) h = -1 ∧ decide (yPay K s h < cT K s h) = true then (h : Int) else frs (fun h => decide (yPay K s h < cT K s h)) h)
      rw [if_pos (by simpa using c)]
    have ih1 := (ior_b (yCh K s h)).1
    have ih2 := (ior_b (yCh K s h)).2
    have ep : min (cT K s h) (cG s h) = yPay K s h := rfl
    have eG : min 99 (cG s h - yPay K s h + kY K h) = yG K s h := rfl
    have yr : 0 ≤ yG K s h ∧ yG K s h ≤ 99 := by rw [← eG]; omega
    refine v_33_19 ⟨by omega, by omega, fun q => absurd q (by omega), fun _ => ⟨fun q => absurd q (by omega), fun _ => c_taxOf (v := 154) (by decide) (by omega) ?_⟩⟩
    rw [Int.toNat_natCast, up2_get, show 154 + 1 = 155 from rfl, et, eg, ey, ep, eG, i9, ih1, ih2]
    refine ⟨by omega, by omega, by omega, by omega, fun a => ⟨by omega, by omega, fun b => ⟨by split <;> omega, nx _ _ ?_ ?_ ?_ (w1 b) ?_ ?_⟩, fun b => ⟨by omega, nx _ _ ?_ ?_ ?_ (w2 b) ?_ ?_⟩⟩, fun a => ⟨by omega, fun a2 => ⟨by omega, by omega, fun b => ⟨by split <;> omega, nx _ _ ?_ ?_ ?_ (w1 b) ?_ ?_⟩, fun b => ⟨by omega, nx _ _ ?_ ?_ ?_ (w2 b) ?_ ?_⟩⟩, fun a2 => ⟨by omega, by omega, fun b => ⟨by split <;> omega, nx _ _ ?_ ?_ ?_ (w1 b) ?_ ?_⟩, fun b => ⟨by omega, nx _ _ ?_ ?_ ?_ (w2 b) ?_ ?_⟩⟩⟩⟩
    all_goals first
      | (simp only [up2_if, Nat.reduceEqDiff, reduceIte, i7, i4]; done)
      | (simp only [up2_if, Nat.reduceEqDiff, reduceIte, i7, i4, i8]; first | exact u1 (by omega) | exact u2 (by omega))
      | (intro c hc; simp only [up2_ne _ _ _ hc]; done)
      | (intro j j1 j2 j3 j4; simp only [up2_if, if_neg j1, if_neg j2, if_neg j3]; done)
theorem c_collect {X : PX} {σ : Sg} {K : Kz} {s : Cs} {P : Int → Sg → Prop} (ok : sOk K s) (hS : SC σ K s) (hy : cY s < 60) (k : ∀ τ : Sg, Out σ τ 146 156 → SC τ K (sYear K s) → τ.1 146 7 = yPd K s (kN K) → τ.1 146 8 = yRu K s (kN K) → τ.1 146 9 = (if yCh K s (kN K) then 1 else 0) → P 1 τ) : CI X 33 [vR (some 146)] σ P := by
  obtain ⟨⟨⟨r0, r1, r2, r3, r4, r5, r6⟩, y1, y2, y3, y4⟩, hE, hL, htx⟩ := id hS
  have ok2 := sYear_ok ok hy
  obtain ⟨e1, e2, e3, e4⟩ := ok.e7
  refine v_33 (co_y ok hS (fun τ hI => ?_) (kN K) 0 _ (by omega) ⟨?_, ?_, ?_, ?_, fun c hc => ?_, fun j j1 j2 j3 j4 => ?_, fun c hc => rfl, fun i hi => ?_⟩)
  · obtain ⟨i7, i4, i8, i9, i1, i2, i3, ig⟩ := id hI
    have a147 : τ.1 147 = σ.1 147 := i1 147 (by omega)
    rw [a147, r0, i2 6 (by omega) (by omega) (by omega) (by omega), hE]
    refine c_share (v := 154) (p := 147) (n := kN K) (E := zE K s) (q := cQ s) (g := yG K s) (by decide) (by decide) ok2.2.1 e2 ?_ (fun i hi => by dsimp only; rw [ig i hi, if_pos hi]) (fun υ t1 t2 t3 => ⟨_, rfl, ?_⟩)
    · dsimp only; rw [up2_ne _ _ _ (by omega), up2_ne _ _ _ (by omega), a147]; exact r2
    · dsimp only at t1 t2
      have u1 : ∀ c : Nat, c ≠ 146 → c ≠ 154 → υ.1 c = σ.1 c := fun c c1 c2 => by rw [t1]; simp only [up2_ne _ _ _ c1, up2_ne _ _ _ c2]; exact i1 c c1
      have u6 : ∀ j : Nat, υ.1 146 j = if j = 2 then τ.1 146 2 + 1 else if j = 3 then τ.1 146 3 + τ.1 146 7 else τ.1 146 j := fun j => by rw [t1, up2_ne _ _ _ (by omega), up2_if, up2_if]
      have u2 : ∀ c : Nat, c ≠ 148 → c ≠ 155 → c ≠ 156 → υ.2 c = σ.2 c := fun c c1 c2 c3 => by rw [t2 c c2 c3]; exact i3 c c1
      have eE : zE K (sYear K s) = zE K s := rfl
      have a1 := u1 147 (by omega) (by omega)
      refine k υ (fun c hc => ⟨u1 c (by omega) (by omega), u2 c (by omega) (by omega) (by omega)⟩) ⟨⟨⟨?_, ?_, ?_, ?_, ⟨?_, fun r hr => ?_⟩, fun r hr => ?_, fun i hi => ⟨?_, ?_⟩⟩, ?_, ?_, ?_, ?_⟩, ?_, ?_, t3⟩ ?_ ?_ ?_
      · rw [a1]; exact r0
      · rw [a1]; exact r1
      · rw [a1]; exact r2
      · rw [a1]; exact r3
      · rw [a1]; exact r4.1
      · rw [u2 _ (by omega) (by omega) (by omega), u2 _ (by omega) (by omega) (by omega)]; exact r4.2 r hr
      · rw [u2 _ (by omega) (by omega) (by omega), u2 _ (by omega) (by omega) (by omega)]; exact r5 r hr
      · show υ.2 148 i = yG K s i
        rw [t2 148 (by omega) (by omega), ig i hi, if_pos hi]
      · rw [u2 _ (by omega) (by omega) (by omega)]; exact (r6 i hi).2
      · rw [u6, if_pos rfl, i2 2 (by omega) (by omega) (by omega) (by omega), y1]; rfl
      · rw [u6, if_neg (by omega), if_pos rfl, i2 3 (by omega) (by omega) (by omega) (by omega), y2, i7]; rfl
      · rw [u6, if_neg (by omega), if_neg (by omega), i4]; rfl
      · rw [u6, if_neg (by omega), if_neg (by omega), i2 5 (by omega) (by omega) (by omega) (by omega), y4]; rfl
      · rw [u6, if_neg (by omega), if_neg (by omega), i2 6 (by omega) (by omega) (by omega) (by omega), hE]; rfl
      · rw [t1, up2_get]; rfl
      · rw [u6, if_neg (by omega), if_neg (by omega)]; exact i7
      · rw [u6, if_neg (by omega), if_neg (by omega)]; exact i8
      · rw [u6, if_neg (by omega), if_neg (by omega)]; exact i9
  · dsimp only; simp only [up2_if, Nat.reduceEqDiff, reduceIte]; rfl
  · dsimp only; simp only [up2_if, Nat.reduceEqDiff, reduceIte]; rw [y3, hL]; show _ = cS s + cL K s + 0; omega
  · dsimp only; simp only [up2_if, Nat.reduceEqDiff, reduceIte]; rfl
  · dsimp only; simp only [up2_if, Nat.reduceEqDiff, reduceIte]; rfl
  · dsimp only; simp only [up2_ne _ _ _ hc]
  · dsimp only; simp only [up2_if, if_neg j1, if_neg j2, if_neg j3, if_neg j4]
  · dsimp only; rw [(r6 i hi).1, if_neg (by omega)]
