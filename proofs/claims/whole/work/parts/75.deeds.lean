/-! DEEDS -/
def bOk (s : Cs) (h : Nat) : Bool := !(cO s).testBit h && decide (cP s ≤ cG s h)
def sBuy (s : Cs) (h : Nat) : Cs := (cQ s, cP s, cO s ||| 2 ^ h, cC s, up (cG s) h (cG s h - cP s), cY s, cD s, cS s)
def sLose (s : Cs) (h : Nat) : Cs := (cQ s, cP s, clr (cO s) h, cC s, cG s, cY s, cD s, cS s)
def sPr (s : Cs) (p : Int) : Cs := (cQ s, p, cO s, cC s, cG s, cY s, cD s, cS s)
def sCut (s : Cs) (k : Nat) : Cs := (cQ s, cP s, cO s, cC s ||| 2 ^ k, cG s, cY s, cD s, cS s)
theorem sBuy_ok {K : Kz} {s : Cs} {h : Nat} (ok : sOk K s) (hh : h < kN K) (hb : bOk s h = true) : sOk K (sBuy s h) := by
  obtain ⟨h1, ⟨g1, g2, g3, g4⟩, h3, h4, h5⟩ := ok
  have hc : cP s ≤ cG s h := by unfold bOk at hb; simp at hb; exact hb.2
  refine ⟨h1, ⟨g1, g2, g3, fun i hi => ?_⟩, h3, Nat.or_lt_two_pow h4 (pow_lt_n hh), h5⟩
  show 0 ≤ up (cG s) h (cG s h - cP s) i ∧ up (cG s) h (cG s h - cP s) i ≤ 99
  by_cases c : i = h
  · rw [c, up_same]; have := g4 h hh; omega
  · rw [up_ne _ _ c]; exact g4 i hi
theorem sLose_ok {K : Kz} {s : Cs} {h : Nat} (ok : sOk K s) : sOk K (sLose s h) := by
  obtain ⟨h1, h2, h3, h4, h5⟩ := ok
  exact ⟨h1, h2, h3, Nat.lt_of_le_of_lt clr_le h4, h5⟩
theorem sPr_ok {K : Kz} {s : Cs} {p : Int} (ok : sOk K s) (h0 : 0 ≤ p) (h9 : p ≤ 99) : sOk K (sPr s p) := by
  obtain ⟨h1, h2, h3, h4⟩ := ok
  exact ⟨h1, h2, ⟨h0, h9⟩, h4⟩
theorem sCut_ok {K : Kz} {s : Cs} {k : Nat} (ok : sOk K s) (hk : k < 10) : sOk K (sCut s k) := by
  obtain ⟨h1, h2, h3, h4, h5, h6⟩ := ok
  exact ⟨h1, h2, h3, h4, Nat.or_lt_two_pow (n := 10) h5 (pow_lt_n hk), h6⟩
theorem c_canBuy {X : PX} {σ : Sg} {K : Kz} {s : Cs} {b : Int} {P : Int → Sg → Prop} (ok : sOk K s) (S : SC σ K s) (hb : InR b) (q : P (if (0 ≤ b ∧ b < kN K) ∧ bOk s b.toNat = true then 1 else 0) σ) : CI X 34 [vR (some 146), vI b] σ P := by
  obtain ⟨e1, e2, n7, e4⟩ := ok.e7
  obtain ⟨r0, r1, r2, r3, r4, r5, r6⟩ := S.1.1
  have ho := ok.2.2.2.1
  have hp := ok.2.2.1
  refine v_34 (c_hH (by decide) r2 n7 hb ?_)
  by_cases c : 0 ≤ b ∧ b < kN K
  · obtain ⟨h, rfl⟩ := Int.eq_ofNat_of_zero_le c.1
    rw [if_pos c]
    rw [Int.toNat_natCast] at q
    have bb := bit_0 (a := cO s) (k := h) (by omega) (by omega)
    have g := ok.2.1.2.2.2 h (by omega)
    rw [r3, r1, Int.toNat_natCast, (r6 h (by omega)).1]
    refine ⟨by omega, fun e => absurd e (by omega), fun _ => ⟨bit_rng (by omega) (by omega), fun x => ⟨_, rfl, ?_⟩, fun x => ⟨by omega, by omega, by omega, fun y => ⟨_, rfl, ?_⟩, fun y => ⟨_, rfl, ?_⟩⟩⟩⟩
    · rw [if_neg] at q
      · exact q
      · rintro ⟨-, z⟩; unfold bOk at z; rw [bb.mp x] at z; simp at z
    · rw [if_neg] at q
      · exact q
      · rintro ⟨-, z⟩; unfold bOk at z; simp at z; omega
    · rw [if_pos] at q
      · exact q
      · refine ⟨c, ?_⟩
        unfold bOk
        rcases hx : (cO s).testBit h with _ | _
        · simp; omega
        · exact absurd (bb.mpr hx) x
  · rw [if_neg c]
    rw [if_neg (fun x => c x.1)] at q
    exact ⟨by omega, fun _ => ⟨_, rfl, q⟩, fun e => absurd rfl e⟩
theorem c_buy {X : PX} {σ : Sg} {K : Kz} {s : Cs} {b : Int} {P : Int → Sg → Prop} (ok : sOk K s) (S : SC σ K s) (hb : InR b) (q1 : (0 ≤ b ∧ b < kN K) → bOk s b.toNat = true → ∀ τ : Sg, Out σ τ 146 156 → SC τ K (sBuy s b.toNat) → P 1 τ) (q0 : ¬ ((0 ≤ b ∧ b < kN K) ∧ bOk s b.toNat = true) → P 0 σ) : CI X 35 [vR (some 146), vI b] σ P := by
  obtain ⟨e1, e2, n7, e4⟩ := ok.e7
  obtain ⟨⟨hr, y1, y2, y3, y4⟩, s1, s2, s3⟩ := id S
  obtain ⟨r0, r1, r2, r3, r4, r5, r6⟩ := id hr
  have ho := ok.2.2.2.1
  refine v_35 (c_canBuy ok S hb ?_)
  by_cases c : (0 ≤ b ∧ b < kN K) ∧ bOk s b.toNat = true
  · rw [if_pos c]
    obtain ⟨h, rfl⟩ := Int.eq_ofNat_of_zero_le c.1.1
    rw [Int.toNat_natCast] at c q1 ⊢
    have hh : h < kN K := by omega
    have p7 : 2 ^ h < 2 ^ 7 := pow_lt_n (by omega)
    rw [r3, r1, (r6 h hh).1, b_one (by omega), ior_n (by omega) (by omega)]
    refine ⟨by omega, fun _ => ⟨by omega, c_assess (sBuy_ok ok hh c.2) ⟨⟨?_, ?_, ?_, ?_, ⟨?_, fun r hr => ?_⟩, fun r hr => ?_, fun i hi => ⟨?_, ?_⟩⟩, ?_, ?_, ?_, ?_⟩ (fun υ u1 u2 u3 u4 => ⟨_, rfl, q1 c.1 c.2 υ (fun c hc => ⟨?_, ?_⟩) u4⟩)⟩, fun e => absurd (by omega) e⟩
    · dsimp only; simp only [up2_if, Nat.reduceEqDiff, reduceIte]; exact r0
    · dsimp only; simp only [up2_if, Nat.reduceEqDiff, reduceIte]; exact r1
    · dsimp only; simp only [up2_if, Nat.reduceEqDiff, reduceIte]; exact r2
    · dsimp only; simp only [up2_if, Nat.reduceEqDiff, reduceIte]; rfl
    · dsimp only; simp only [up2_if, Nat.reduceEqDiff, reduceIte]; exact r4.1
    · dsimp only; rw [up2_ne _ _ _ (by omega), up2_ne _ _ _ (by omega)]; exact r4.2 r hr
    · dsimp only; rw [up2_ne _ _ _ (by omega), up2_ne _ _ _ (by omega)]; exact r5 r hr
    · show up2 σ.2 148 h (cG s h - cP s) 148 i = up (cG s) h (cG s h - cP s) i
      rw [up2_if]
      by_cases c : i = h
      · rw [if_pos c, c, up_same]
      · rw [if_neg c, up_ne _ _ c]; exact (r6 i hi).1
    · dsimp only; rw [up2_ne _ _ _ (by omega)]; exact (r6 i hi).2
    · dsimp only; rw [up2_ne _ _ _ (by omega)]; exact y1
    · dsimp only; rw [up2_ne _ _ _ (by omega)]; exact y2
    · dsimp only; rw [up2_ne _ _ _ (by omega)]; exact y3
    · dsimp only; rw [up2_ne _ _ _ (by omega)]; exact y4
    · rw [u1 c (by omega) (by omega)]; dsimp only; rw [up2_ne _ _ _ (by omega)]
    · rw [u3 c (by omega) (by omega)]; dsimp only; rw [up2_ne _ _ _ (by omega)]
  · rw [if_neg c]
    exact ⟨by omega, fun e => absurd rfl e, fun _ => ⟨_, rfl, q0 c⟩⟩
/-- the course's parish with some fields anew, then assess -/
theorem c_reas {X : PX} {σ : Sg} {K : Kz} {s s' : Cs} {f : Nat → Nat → Int} {P : Sg → Prop} (ok : sOk K s') (S : SC σ K s) (eg : cG s' = cG s) (f0 : f 147 0 = cQ s') (f1 : f 147 1 = cP s') (f2 : f 147 2 = kN K) (f3 : f 147 3 = cO s') (f4 : f 147 4 = (kR K).1) (y1 : f 146 2 = cY s') (y2 : f 146 3 = cD s') (y3 : f 146 4 = cS s') (y4 : f 146 5 = cC s') (ff : ∀ c : Nat, c ≠ 146 → c ≠ 147 → f c = σ.1 c) (k : ∀ τ : Sg, Out σ τ 146 156 → SC τ K s' → P τ) : CV X 30 [vR (some 146)] (f, σ.2) P := by
  obtain ⟨⟨hr, -⟩, -⟩ := id S
  obtain ⟨r0, r1, r2, r3, r4, r5, r6⟩ := id hr
  refine c_assess ok ⟨⟨f0, f1, f2, f3, ⟨f4, r4.2⟩, r5, fun i hi => ⟨?_, (r6 i hi).2⟩⟩, y1, y2, y3, y4⟩ (fun υ u1 u2 u3 u4 => k υ (fun c hc => ⟨?_, u3 c (by omega) (by omega)⟩) u4)
  · rw [eg]; exact (r6 i hi).1
  · rw [u1 c (by omega) (by omega)]; exact ff c (by omega) (by omega)
/-- a deed in a state: what comes of it, if it can be -/
def dO (K : Kz) (s : Cs) (w n : Int) : Option Cs := if w = 0 then (if cY s < 50 then some (sYear K s) else none) else if w = 1 then (if (0 ≤ n ∧ n < kN K) ∧ bOk s n.toNat = true then some (sBuy s n.toNat) else none) else if w = 2 then (if (0 ≤ n ∧ n < kN K) ∧ (cO s).testBit n.toNat = true then some (sLose s n.toNat) else none) else if w = 3 then (if n ≠ cQ s then some (sQ s n) else none) else if w = 4 then (if n ≠ cP s then some (sPr s n) else none) else (if (0 ≤ n ∧ n < (kR K).1) ∧ (cC s).testBit n.toNat = false then some (sCut s n.toNat) else none)
/-- such a deed can be told -/
def dV (w n : Int) : Prop := 0 ≤ w ∧ w ≤ 5 ∧ -1 ≤ n ∧ n ≤ 99 ∧ (w ≠ 0 → 0 ≤ n) ∧ (w = 1 ∨ w = 2 → n ≤ 6) ∧ (w = 5 → n ≤ 9)
theorem dO_ok {K : Kz} {s s' : Cs} {w n : Int} (ok : sOk K s) (hy : cY s ≤ 50) (v : dV w n) (h : dO K s w n = some s') : sOk K s' ∧ cY s' ≤ 50 := by
  obtain ⟨v1, v2, v3, v4, v5, v6, v7⟩ := v
  have g10 := ok.1.1
  unfold dO at h
  by_cases c0 : w = 0
  · rw [if_pos c0] at h
    by_cases d : cY s < 50
    · rw [if_pos d] at h; cases h; exact ⟨sYear_ok ok (by omega), by show cY s + 1 ≤ 50; omega⟩
    · rw [if_neg d] at h; cases h
  rw [if_neg c0] at h
  by_cases c1 : w = 1
  · rw [if_pos c1] at h
    by_cases d : (0 ≤ n ∧ n < kN K) ∧ bOk s n.toNat = true
    · rw [if_pos d] at h; cases h; exact ⟨sBuy_ok ok (by omega) d.2, hy⟩
    · rw [if_neg d] at h; cases h
  rw [if_neg c1] at h
  by_cases c2 : w = 2
  · rw [if_pos c2] at h
    by_cases d : (0 ≤ n ∧ n < kN K) ∧ (cO s).testBit n.toNat = true
    · rw [if_pos d] at h; cases h; exact ⟨sLose_ok ok, hy⟩
    · rw [if_neg d] at h; cases h
  rw [if_neg c2] at h
  by_cases c3 : w = 3
  · rw [if_pos c3] at h
    by_cases d : n ≠ cQ s
    · rw [if_pos d] at h; cases h; exact ⟨sQ_ok ok (v5 c0) (by omega), hy⟩
    · rw [if_neg d] at h; cases h
  rw [if_neg c3] at h
  by_cases c4 : w = 4
  · rw [if_pos c4] at h
    by_cases d : n ≠ cP s
    · rw [if_pos d] at h; cases h; exact ⟨sPr_ok ok (v5 c0) (by omega), hy⟩
    · rw [if_neg d] at h; cases h
  rw [if_neg c4] at h
  by_cases d : (0 ≤ n ∧ n < (kR K).1) ∧ (cC s).testBit n.toNat = false
  · rw [if_pos d] at h; cases h; exact ⟨sCut_ok ok (by omega), hy⟩
  · rw [if_neg d] at h; cases h
theorem c_act {X : PX} {σ : Sg} {K : Kz} {s : Cs} {w n : Int} {P : Int → Sg → Prop} (ok : sOk K s) (hy : cY s ≤ 50) (S : SC σ K s) (v : dV w n) (q1 : ∀ s' : Cs, dO K s w n = some s' → ∀ τ : Sg, Out σ τ 146 156 → SC τ K s' → (w = 0 → τ.1 146 7 = yPd K s (kN K)) → P 1 τ) (q0 : dO K s w n = none → P 0 σ) : CI X 32 [vR (some 146), vI w, vI n] σ P := by
  obtain ⟨e1, e2, n7, e4⟩ := ok.e7
  obtain ⟨⟨hr, y1, y2, y3, y4⟩, s1, s2, s3⟩ := id S
  obtain ⟨r0, r1, r2, r3, r4, r5, r6⟩ := id hr
  obtain ⟨v1, v2, v3, v4, v5, v6, v7⟩ := v
  have ho := ok.2.2.2.1
  have hcc := ok.2.2.2.2.1
  have g10 := ok.1.1
  have yr := ok.2.2.2.2.2.2.1
  have qr := ok.2.1
  have pr := ok.2.2.1
  unfold dO at q1 q0
  refine v_32 ⟨by omega, fun c => ?_, fun c => ?_, fun c => ?_, fun c => ?_, fun c => ?_, fun c => ?_, fun c => absurd (by omega) (show ¬ False from id)⟩
  · rw [if_pos c] at q1 q0
    rw [y1]
    refine ⟨by omega, fun d => ⟨_, rfl, q0 (if_neg (by omega))⟩, fun d => c_collect ok S (by omega) (fun τ f S2 u7 _ _ => ⟨by omega, fun e => absurd e (by omega), fun _ => ⟨_, rfl, q1 _ (if_pos (by omega)) τ f S2 (fun _ => u7)⟩⟩)⟩
  · rw [if_neg (by omega), if_pos c] at q1 q0
    exact c_buy ok S (by omega) (fun d1 d2 τ f S2 => ⟨by omega, _, rfl, q1 _ (if_pos ⟨d1, d2⟩) τ f S2 (fun e => absurd e (by omega))⟩) (fun d => ⟨by omega, _, rfl, q0 (if_neg d)⟩)
  · rw [if_neg (by omega), if_neg (by omega), if_pos c] at q1 q0
    refine v_36 (c_hH (by decide) r2 n7 (by omega) ?_)
    by_cases d : 0 ≤ n ∧ n < kN K
    · rw [if_pos d]
      obtain ⟨h, rfl⟩ := Int.eq_ofNat_of_zero_le d.1
      rw [Int.toNat_natCast] at q1 q0
      have bb := bit_0 (a := cO s) (k := h) (by omega) (by omega)
      rw [r3, b_one (by omega), clr_eq h (by omega) (cO s) (by omega)]
      refine ⟨by omega, fun e => absurd e (by omega), fun _ => ⟨bit_rng (by omega) (by omega), fun x => c_reas (s := s) (s' := sLose s h) (sLose_ok ok) S rfl ?_ ?_ ?_ ?_ ?_ ?_ ?_ ?_ ?_ (fun c h1 h2 => up2_ne _ _ _ h2) (fun τ f S2 => ⟨_, rfl, by omega, _, rfl, q1 _ (if_pos ⟨d, bb.mp x⟩) τ f S2 (fun e => absurd e (by omega))⟩), fun x => ⟨_, rfl, by omega, _, rfl, q0 (if_neg (fun z => x (bb.mpr z.2)))⟩⟩⟩
      all_goals first
        | (simp only [up2_if, Nat.reduceEqDiff, reduceIte]; first | exact r0 | exact r1 | exact r2 | rfl | exact r4.1)
        | (rw [up2_ne _ _ _ (by omega)]; first | exact y1 | exact y2 | exact y3 | exact y4)
    · rw [if_neg d]
      exact ⟨by omega, fun _ => ⟨_, rfl, by omega, _, rfl, q0 (if_neg (fun z => d z.1))⟩, fun e => absurd rfl e⟩
  · rw [if_neg (by omega), if_neg (by omega), if_neg (by omega), if_pos c] at q1 q0
    refine v_37 ?_
    rw [r0]
    refine ⟨by omega, by have := qr.2.1; have := qr.2.2.1; omega, fun d => c_reas (s := s) (s' := sQ s n) (sQ_ok ok (v5 (by omega)) v4) S rfl ?_ ?_ ?_ ?_ ?_ ?_ ?_ ?_ ?_ (fun c h1 h2 => up2_ne _ _ _ h2) (fun τ f S2 => ⟨_, rfl, by omega, _, rfl, q1 _ (if_pos d) τ f S2 (fun e => absurd e (by omega))⟩), fun d => ⟨_, rfl, by omega, _, rfl, q0 (if_neg d)⟩⟩
    all_goals first
      | (simp only [up2_if, Nat.reduceEqDiff, reduceIte]; first | exact r1 | exact r2 | exact r3 | rfl | exact r4.1)
      | (rw [up2_ne _ _ _ (by omega)]; first | exact y1 | exact y2 | exact y3 | exact y4)
  · rw [if_neg (by omega), if_neg (by omega), if_neg (by omega), if_neg (by omega), if_pos c] at q1 q0
    refine v_38 ?_
    rw [r1]
    refine ⟨by omega, by omega, fun d => ⟨_, rfl, by omega, _, rfl, q1 _ (if_pos d) _ (fun c hc => ⟨?_, rfl⟩) ⟨⟨⟨?_, ?_, ?_, ?_, ⟨?_, r4.2⟩, r5, r6⟩, ?_, ?_, ?_, ?_⟩, ?_, ?_, s3⟩ (fun e => absurd e (by omega))⟩, fun d => ⟨_, rfl, by omega, _, rfl, q0 (if_neg d)⟩⟩
    · dsimp only; rw [up2_ne _ _ _ (by omega)]
    all_goals dsimp only
    all_goals first
      | (simp only [up2_if, Nat.reduceEqDiff, reduceIte]; first | exact r0 | exact r2 | exact r3 | rfl | exact r4.1)
      | (rw [up2_ne _ _ _ (by omega)]; first | exact y1 | exact y2 | exact y3 | exact y4 | exact s1 | exact s2)
  · rw [if_neg (by omega), if_neg (by omega), if_neg (by omega), if_neg (by omega), if_neg (by omega)] at q1 q0
    refine v_39 (c_hRl (by decide) r4.1 g10 (by omega) ?_)
    by_cases d : 0 ≤ n ∧ n < (kR K).1
    · rw [if_pos d]
      obtain ⟨h, rfl⟩ := Int.eq_ofNat_of_zero_le d.1
      rw [Int.toNat_natCast] at q1 q0
      have bb := bit_0 (a := cC s) (k := h) (by omega) (by omega)
      have p10 : 2 ^ h < 2 ^ 10 := pow_lt_n (by omega)
      have t1 : iAnd (iShr (cC s : Int) (h : Int)) 1 = 0 → (cC s).testBit h = false := fun x => by
        rcases hx : (cC s).testBit h with _ | _
        · rfl
        · exact absurd x (bb.mpr hx)
      have t2 : (cC s).testBit h = false → iAnd (iShr (cC s : Int) (h : Int)) 1 = 0 := fun z => by
        rcases Decidable.em (iAnd (iShr (cC s : Int) (h : Int)) 1 = 0) with g | g
        · exact g
        · have := bb.mp g
          rw [z] at this; cases this
      rw [y4, b_one (by omega), b_or (by omega) (by omega)]
      refine ⟨by omega, fun e => absurd e (by omega), fun _ => ⟨bit_rng (by omega) (by omega), fun x => c_reas (s := s) (s' := sCut s h) (sCut_ok ok (by omega)) S rfl ?_ ?_ ?_ ?_ ?_ ?_ ?_ ?_ ?_ (fun c h1 h2 => up2_ne _ _ _ h1) (fun τ f S2 => ⟨_, rfl, by omega, _, rfl, q1 _ (if_pos ⟨d, t1 x⟩) τ f S2 (fun e => absurd e (by omega))⟩), fun x => ⟨_, rfl, by omega, _, rfl, q0 (if_neg (fun z => x (t2 z.2)))⟩⟩⟩
      all_goals first
        | (simp only [up2_if, Nat.reduceEqDiff, reduceIte]; first | exact y1 | exact y2 | exact y3 | rfl)
        | (rw [up2_ne _ _ _ (by omega)]; first | exact r0 | exact r1 | exact r2 | exact r3 | exact r4.1)
    · rw [if_neg d]
      exact ⟨by omega, fun _ => ⟨_, rfl, by omega, _, rfl, q0 (if_neg (fun z => d z.1))⟩, fun e => absurd rfl e⟩
