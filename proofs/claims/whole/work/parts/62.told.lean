/-! what is told of a PARISH, on both sides -/
def kz (σ : Sg) (p : Nat) : Kz := ((σ.1 p 2).toNat, ((σ.1 p 4).toNat, fun r => (σ.2 (p + 3) r).toNat, fun r => (σ.2 (p + 4) r).toNat, fun r => σ.2 (p + 5) r), σ.2 (p + 2))
def sz (σ : Sg) (p : Nat) : Cs := (σ.1 p 0, σ.1 p 1, (σ.1 p 3).toNat, 0, σ.2 (p + 1), 0, 0, 0)
def Tz (σ : Sg) (p o : Nat) (K : Kz) (s : Cs) : Prop := (p ∈ parL ∧ p + 6 < 131) ∧ sOk K s ∧ sNew s ∧ RP σ p K s ∧ MP σ o K s
theorem PR.tz {σ : Sg} {p o : Nat} (h : PR σ p o) (hp : p ∈ parL) (hp2 : p + 6 < 131) (ho : o + 49 ≤ 904) : Tz σ p o (kz σ p) (sz σ p) := by
  obtain ⟨⟨a1, a2, a3⟩, ⟨b1, b2, b3⟩, ⟨c1, c2, c3⟩, ⟨d1, d2, d3⟩, ⟨e1, e2, e3⟩, hh, -, hr⟩ := h
  have n7 : (σ.1 p 2).toNat ≤ 7 := by omega
  have eo : (((σ.1 p 3).toNat : Nat) : Int) = σ.1 p 3 := by omega
  refine ⟨⟨hp, hp2⟩, ⟨⟨?_, n7, fun r hr2 => ?_⟩, ⟨n7, a2, a3, fun i hi => ?_⟩, ⟨b2, b3⟩, ?_, ?_, fun i hi => ?_, ?_, ?_, ?_⟩, ⟨rfl, rfl, rfl, rfl⟩, ⟨rfl, rfl, ?_, ?_, ⟨?_, fun r hr2 => ⟨?_, ?_⟩⟩, fun r hr2 => ⟨?_, rfl⟩, fun i hi => ⟨rfl, rfl⟩⟩, ⟨⟨ho, fun i hi => ?_, fun r hr2 => ⟨?_, ?_, ?_⟩⟩, a1, b1, ?_, ?_, ?_, fun i hi => ?_⟩⟩
  · show (σ.1 p 4).toNat ≤ 10; omega
  · have hr2 : r < (σ.1 p 4).toNat := hr2
    obtain ⟨⟨-, q1, q2⟩, ⟨-, q3, q4⟩, ⟨-, q5, q6⟩, -⟩ := hr r (by omega)
    show (σ.2 (p + 3) r).toNat < (σ.1 p 2).toNat ∧ (σ.2 (p + 4) r).toNat < (σ.1 p 2).toNat ∧ -1 ≤ σ.2 (p + 5) r ∧ σ.2 (p + 5) r < (σ.1 p 2).toNat
    omega
  · have hi : i < (σ.1 p 2).toNat := hi
    exact (hh i (by omega)).1.2
  · show (σ.1 p 3).toNat < 2 ^ (σ.1 p 2).toNat
    have e4 : ((2 ^ (σ.1 p 2).toNat : Nat) : Int) = (2 : Int) ^ (σ.1 p 2).toNat := by norm_cast
    omega
  · show (0 : Nat) < 1024; omega
  · have hi : i < (σ.1 p 2).toNat := hi
    exact (hh i (by omega)).2.2
  · show (0 : Int) ≤ 0 ∧ (0 : Int) ≤ 60; omega
  · show (0 : Int) ≤ 0 ∧ (0 : Int) ≤ 1000 * 0; omega
  · show (0 : Int) ≤ 0 ∧ (0 : Int) ≤ 1000 * 0; omega
  · show σ.1 p 2 = ((σ.1 p 2).toNat : Int); omega
  · exact eo.symm
  · show σ.1 p 4 = ((σ.1 p 4).toNat : Int); omega
  · have hr2 : r < (σ.1 p 4).toNat := hr2
    obtain ⟨⟨-, q1, q2⟩, -⟩ := hr r (by omega)
    show σ.2 (p + 3) r = ((σ.2 (p + 3) r).toNat : Int); omega
  · have hr2 : r < (σ.1 p 4).toNat := hr2
    exact (hr r (by omega)).2.2.2
  · have hr2 : r < (σ.1 p 4).toNat := hr2
    obtain ⟨-, ⟨-, q1, q2⟩, -⟩ := hr r (by omega)
    show σ.2 (p + 4) r = ((σ.2 (p + 4) r).toNat : Int); omega
  · have hi : i < (σ.1 p 2).toNat := hi
    exact (hh i (by omega)).2.1
  · have hr2 : r < (σ.1 p 4).toNat := hr2
    obtain ⟨⟨q0, q1, q2⟩, -⟩ := hr r (by omega)
    show _ = ((σ.2 (p + 3) r).toNat : Int); omega
  · have hr2 : r < (σ.1 p 4).toNat := hr2
    obtain ⟨-, ⟨q0, q1, q2⟩, -⟩ := hr r (by omega)
    show _ = ((σ.2 (p + 4) r).toNat : Int); omega
  · have hr2 : r < (σ.1 p 4).toNat := hr2
    exact (hr r (by omega)).2.2.1.1
  · show _ = ((σ.1 p 2).toNat : Int); omega
  · show _ = ((σ.1 p 4).toNat : Int); omega
  · show _ = ((σ.1 p 3).toNat : Int); omega
  · have hi : i < (σ.1 p 2).toNat := hi
    exact (hh i (by omega)).1.1
abbrev isP (σ : Sg) (a : Int) : Prop := 0 ≤ a ∧ a < σ.2 6 0
theorem Rel.cnt {σ : Sg} (hR : Rel σ) {s : Nat} (hs : s < 3) : σ.2 171 s = σ.2 6 s ∧ 0 ≤ σ.2 6 s ∧ σ.2 6 s ≤ 2 := by
  have := hR.1.2.2.2.2.1 s hs
  rw [Nat.zero_add] at this
  exact this
theorem Rel.par {σ : Sg} (hR : Rel σ) {a : Int} (hc : isP σ a) : a.toNat < 2 ∧ Tz σ (7 + 13 * a.toNat) (610 + 49 * a.toNat) (kz σ (7 + 13 * a.toNat)) (sz σ (7 + 13 * a.toNat)) := by
  have c := hR.cnt (s := 0) (by omega)
  have h := hR.1.2.2.2.2.2.1 a.toNat (by show (a.toNat : Int) < σ.2 6 0; omega)
  rw [Nat.zero_add] at h
  have h : PR σ (7 + 13 * a.toNat) (610 + 49 * a.toNat) := h
  refine ⟨by omega, h.tz ?_ (by omega) (by omega)⟩
  rcases (show a = 0 ∨ a = 1 by omega) with rfl | rfl <;> decide
theorem Out.fr {σ τ : Sg} (f : Out σ τ 131 169) : Fr σ τ := ⟨fun c hc => (f c (by omega)).1, fun c hc => (f c (by omega)).2, (f 171 (by omega)).2, (f 172 (by omega)).2⟩
theorem Tz.fr {σ τ : Sg} {p o : Nat} {K : Kz} {s : Cs} (h : Tz σ p o K s) (f : Fr σ τ) : Tz τ p o K s := by
  obtain ⟨h1, h2, h3, h4, h5⟩ := h
  exact ⟨h1, h2, h3, h4.mv (f.1 p (by omega)) (fun c c1 c2 => f.2.1 c (by omega)), h5.mv f.2.2.1⟩
/-- the reference has changed nothing but what it works in -/
def FA (σ τ : Sg) : Prop := (∀ c : Nat, c ≠ 170 → τ.1 c = σ.1 c) ∧ (∀ c : Nat, c < 173 → τ.2 c = σ.2 c)
theorem FA.fr {σ τ : Sg} (f : FA σ τ) : Fr σ τ := ⟨fun c hc => f.1 c (by omega), fun c hc => f.2 c (by omega), f.2 171 (by omega), f.2 172 (by omega)⟩
theorem FA.rfl {σ : Sg} : FA σ σ := ⟨fun _ _ => Eq.refl _, fun _ _ => Eq.refl _⟩
theorem FA.trans {σ τ υ : Sg} (h : FA σ τ) (g : FA τ υ) : FA σ υ := ⟨fun c hc => (g.1 c hc).trans (h.1 c hc), fun c hc => (g.2 c hc).trans (h.2 c hc)⟩
theorem FB.fa {σ τ : Sg} (f : FB σ τ) : FA σ τ := ⟨f.1, fun c hc => f.2.2 c (by omega) (by omega) (by omega)⟩
theorem FM.fa {σ τ : Sg} (f : FM σ τ) : FA σ τ := f.1.fa
theorem fa_170 {σ : Sg} (j : Nat) (x : Int) : FA σ (up2 σ.1 170 j x, σ.2) := ⟨fun c hc => up2_ne _ _ _ hc, fun _ _ => Eq.refl _⟩
def FP (σ τ : Sg) : Prop := FA σ τ ∧ (∀ j : Nat, j < 11 ∨ 24 < j → τ.1 170 j = σ.1 170 j) ∧ (∀ c : Nat, c ≠ 174 → c ≠ 175 → c ≠ 176 → τ.2 c = σ.2 c)
/-- first the class, then the reference -/
theorem same_mk {X : PX} {kc km : Nat} {as : List PV} {σ : Sg} (hR : Rel σ) (r : Int) (hr : InR r) (hc : CI X kc (vR (some 0) :: as) σ (fun x τ => Out σ τ 131 169 ∧ x = r)) (hm : ∀ τ : Sg, Fr σ τ → Rel τ → CI X km (vR (some 170) :: as) τ (fun x υ => FA τ υ ∧ x = r)) :
    CI X kc (vR (some 0) :: as) σ (fun r τ => CI X km (vR (some 170) :: as) τ (fun r2 υ => r2 = r ∧ InR r ∧ Rel υ)) := by
  refine Cl.mono hc (fun v τ hv => ?_)
  obtain ⟨x, rfl, f, rfl⟩ := hv
  refine ⟨_, rfl, Cl.mono (hm τ f.fr (hR.fr f.fr)) (fun v2 υ hv2 => ?_)⟩
  obtain ⟨x2, rfl, f2, rfl⟩ := hv2
  exact ⟨_, rfl, rfl, hr, (hR.fr f.fr).fr f2.fr⟩
theorem c_hasY {X : PX} {σ : Sg} {P : Int → Sg → Prop} {s : Nat} {a : Int} (hR : Rel σ) (hs : s < 3) (ha : InR a) (hc : 0 ≤ a ∧ a < σ.2 6 s) (q : P 1 σ) : CI X 114 [vR (some 1), vI s, vI a] σ P := by
  have c := hR.cnt hs
  refine c_has (t := 1) (by decide) (by omega) (by omega) ha ?_ ?_
  · rw [Int.toNat_natCast]; exact c.2
  · rw [Int.toNat_natCast]
    show P (if 0 ≤ a ∧ a < σ.2 6 s then 1 else 0) σ
    rw [if_pos hc]; exact q
theorem c_hasN {X : PX} {σ : Sg} {P : Int → Sg → Prop} {s : Nat} {a : Int} (hR : Rel σ) (hs : s < 3) (ha : InR a) (hc : ¬ (0 ≤ a ∧ a < σ.2 6 s)) (q : P 0 σ) : CI X 114 [vR (some 1), vI s, vI a] σ P := by
  have c := hR.cnt hs
  refine c_has (t := 1) (by decide) (by omega) (by omega) ha ?_ ?_
  · rw [Int.toNat_natCast]; exact c.2
  · rw [Int.toNat_natCast]
    show P (if 0 ≤ a ∧ a < σ.2 6 s then 1 else 0) σ
    rw [if_neg hc]; exact q
theorem c_hH {X : PX} {σ : Sg} {P : Int → Sg → Prop} {p n : Nat} {b : Int} (hp : p ∈ parL) (h2 : σ.1 p 2 = n) (n7 : n ≤ 7) (hb : InR b) (q : P (if 0 ≤ b ∧ b < n then 1 else 0) σ) : CI X 82 [vR (some p), vI b] σ P := by
  refine v_82 hp ⟨hb, fun c => ⟨_, rfl, ?_⟩, fun c => ⟨by omega, fun d => ⟨_, rfl, ?_⟩, fun d => ⟨fun e => absurd e (by omega), fun e => ⟨_, rfl, ?_⟩⟩⟩⟩
  · rwa [if_neg (by omega)] at q
  · rwa [if_neg (by omega)] at q
  · rwa [if_pos (by omega)] at q
theorem c_hhY {X : PX} {σ : Sg} {P : Int → Sg → Prop} {a b : Int} {o : Nat} {K : Kz} {s : Cs} (hR : Rel σ) (ha : InR a) (hb : InR b) (hc : isP σ a) (T : Tz σ (7 + 13 * a.toNat) o K s) (q : P (if 0 ≤ b ∧ b < kN K then 1 else 0) σ) : CI X 115 [vR (some 1), vI a, vI b] σ P := by
  have c := hR.cnt (s := 0) (by omega)
  refine v_115 (t1 := 1) (by decide) (c_hasY (s := 0) hR (by omega) ha hc ⟨by omega, fun e => absurd e (by omega), fun _ => ⟨by omega, ?_⟩⟩)
  refine c_hH (p := 1 + 6 + 13 * a.toNat) T.1.1 T.2.2.2.1.2.2.1 T.2.1.e7.2.2.1 hb ⟨by split <;> omega, fun e => ⟨_, rfl, ?_⟩, fun e => ⟨_, rfl, ?_⟩⟩
  · rcases Decidable.em (0 ≤ b ∧ b < kN K) with g | g
    · rw [if_pos g] at e; omega
    · rwa [if_neg g] at q
  · rcases Decidable.em (0 ≤ b ∧ b < kN K) with g | g
    · rwa [if_pos g] at q
    · rw [if_neg g] at e; exact absurd rfl e
theorem c_hhN {X : PX} {σ : Sg} {P : Int → Sg → Prop} {a b : Int} (hR : Rel σ) (ha : InR a) (hc : ¬ isP σ a) (q : P 0 σ) : CI X 115 [vR (some 1), vI a, vI b] σ P :=
  v_115 (t1 := 1) (by decide) (c_hasN (s := 0) hR (by omega) ha hc ⟨by omega, fun _ => ⟨_, rfl, q⟩, fun e => absurd rfl e⟩)
theorem m_isPN {X : PX} {σ : Sg} {P : Int → Sg → Prop} {a : Int} (hR : Rel σ) (ha : InR a) (hc : ¬ isP σ a) (q : P 0 σ) : CI X 189 [vR (some 170), vI a] σ P := by
  have c := hR.cnt (s := 0) (by omega)
  refine v_189 (m_isOf (s := 0) (by omega) (by omega) ha (by show 0 ≤ σ.2 171 0 ∧ σ.2 171 0 ≤ 2; omega) ?_)
  show InR (if 0 ≤ a ∧ a < σ.2 171 0 then 1 else 0) ∧ ((if 0 ≤ a ∧ a < σ.2 171 0 then (1 : Int) else 0) ≠ 0 → _) ∧ _
  rw [c.1, if_neg hc]
  exact ⟨by omega, fun e => absurd rfl e, fun _ => ⟨_, rfl, q⟩⟩
theorem m_isPY {X : PX} {σ : Sg} {P : Int → Sg → Prop} {a : Int} {p : Nat} {K : Kz} {s : Cs} (hR : Rel σ) (ha : InR a) (hc : isP σ a) (T : Tz σ p (610 + 49 * a.toNat) K s) (k : ∀ τ : Sg, FP σ τ → SM τ (610 + 49 * a.toNat) K s → τ.1 170 22 = 0 → P 1 τ) : CI X 189 [vR (some 170), vI a] σ P := by
  have c := hR.cnt (s := 0) (by omega)
  obtain ⟨-, t2, t3, t4, t5⟩ := T
  refine v_189 (m_isOf (s := 0) (by omega) (by omega) ha (by show 0 ≤ σ.2 171 0 ∧ σ.2 171 0 ≤ 2; omega) ?_)
  show InR (if 0 ≤ a ∧ a < σ.2 171 0 then 1 else 0) ∧ ((if 0 ≤ a ∧ a < σ.2 171 0 then (1 : Int) else 0) ≠ 0 → _) ∧ _
  rw [c.1, if_pos hc]
  refine ⟨by omega, fun _ => m_place (by omega) (by omega) ?_, fun e => absurd (by show (if 0 ≤ a ∧ a < σ.2 171 0 then (1 : Int) else 0) ≠ 0; rw [c.1, if_pos hc]; omega) e⟩
  rw [if_pos rfl, show (610 + 49 * a : Int) = ((610 + 49 * a.toNat : Nat) : Int) by omega]
  generalize 610 + 49 * a.toNat = o at t5 k ⊢
  obtain ⟨m1, m2, m3, m4, m5, m6, m7⟩ := id t5
  rw [show ((o : Int) + 2).toNat = o + 2 by omega, show ((o : Int) + 3).toNat = o + 3 by omega, m4, m5]
  have o9 := m1.1
  refine ⟨by omega, by omega, m_begins (o := o) (K := K) (s := s) t2 t3 ⟨?_, ?_, ?_, m1⟩ t5 (fun τ f g h => ⟨_, rfl, k τ ?_ g h⟩)⟩
  · dsimp only; simp only [up2_if, Nat.reduceEqDiff, reduceIte]
  · dsimp only; simp only [up2_if, Nat.reduceEqDiff, reduceIte]
  · dsimp only; simp only [up2_if, Nat.reduceEqDiff, reduceIte]
  · refine ⟨FA.trans (τ := (up2 (up2 (up2 σ.1 170 11 (o : Int)) 170 12 (kN K : Int)) 170 13 ((kR K).1 : Int), σ.2)) ⟨fun c hc => ?_, fun c hc => rfl⟩ f.fa, fun j hj => ?_, fun c h1 h2 h3 => f.2.2 c h1 h2 h3⟩
    · dsimp only; simp only [up2_ne _ _ _ hc]
    · rw [f.2.1 j (by omega)]
      dsimp only
      rw [up2_if, if_neg (by omega), up2_if, if_neg (by omega), up2_if, if_neg (by omega)]
theorem m_isH {X : PX} {σ : Sg} {P : Int → Sg → Prop} {n : Nat} {b : Int} (h12 : σ.1 170 12 = n) (n7 : n ≤ 7) (hb : InR b) (q : P (if 0 ≤ b ∧ b < n then 1 else 0) σ) : CI X 190 [vR (some 170), vI b] σ P := by
  refine v_190 ?_
  rw [h12]
  refine c_isIn hb (by omega) (by omega) ⟨by split <;> omega, _, rfl, ?_⟩
  rcases Decidable.em (0 ≤ b ∧ b < n) with g | g
  · rw [if_pos g] at q; rwa [if_pos (by omega)]
  · rw [if_neg g] at q; rwa [if_neg (by omega)]
theorem shl1 {b : Int} (h0 : 0 ≤ b) (h1 : b < 31) : iShl 1 b = ((2 ^ b.toNat : Nat) : Int) := by
  have := b_one (k := b.toNat) (by omega)
  rw [show ((b.toNat : Nat) : Int) = b by omega] at this
  exact this
theorem pow_lt_n {b n : Nat} (h : b < n) : 2 ^ b < 2 ^ n := Nat.pow_lt_pow_right (by omega) h
/-! retinue -/
theorem s_retinue {X : PX} : Sm_21 X Rel := by
  intro a b ha hb σ hR
  by_cases hc : isP σ a
  · obtain ⟨a2, T⟩ := hR.par hc
    generalize kz σ (7 + 13 * a.toNat) = K at T
    generalize sz σ (7 + 13 * a.toNat) = s at T
    obtain ⟨⟨tp, tp2⟩, ok, nw, tr, tm⟩ := id T
    obtain ⟨e1, e2, e3, e4⟩ := ok.e7
    by_cases hh : 0 ≤ b ∧ b < kN K
    · have es := shl1 hh.1 (by omega)
      have hS : 2 ^ b.toNat < 2 ^ kN K := pow_lt_n (by omega)
      have hl := gClo_lt7 (cut := 0) ok.1 hS
      refine same_mk hR (gClo (kR K) 0 (2 ^ b.toNat)) (by omega) ?_ (fun τ f hR2 => ?_)
      · refine v_143 (c_hhY hR ha hb hc T ?_)
        rw [if_pos hh, es]
        exact ⟨by omega, fun _ => ⟨by omega, c_ex (cut := 0) tp ok.1 tr.2.2.2.2.1 (by omega) hS ⟨_, rfl, Out.rfl, rfl⟩⟩, fun e => absurd (by omega) e⟩
      · have hc2 : isP τ a := by unfold isP; rw [f.2.1 6 (by omega)]; exact hc
        refine v_222 (m_isPY hR2 ha hc2 (T.fr f) (fun υ g S _ => ⟨by omega, fun e => absurd e (by omega), fun _ => m_isH S.mx.2.1 e3 hb ?_⟩))
        rw [if_pos hh, es]
        have h17 : υ.1 170 17 = ((0 : Nat) : Int) := by rw [S.1.2.2.2.2.1, nw.1]
        exact ⟨by omega, fun e => absurd e (by omega), fun _ => m_ex ok.1 S.mx.rm h17 (by omega) hS ⟨_, rfl, g.1, rfl⟩⟩
    · refine same_mk hR (-1) (by omega) ?_ (fun τ f hR2 => ?_)
      · refine v_143 (c_hhY hR ha hb hc T ?_)
        rw [if_neg hh]
        exact ⟨by omega, fun e => absurd rfl e, fun _ => ⟨_, rfl, Out.rfl, rfl⟩⟩
      · have hc2 : isP τ a := by unfold isP; rw [f.2.1 6 (by omega)]; exact hc
        refine v_222 (m_isPY hR2 ha hc2 (T.fr f) (fun υ g S _ => ⟨by omega, fun e => absurd e (by omega), fun _ => m_isH S.mx.2.1 e3 hb ?_⟩))
        rw [if_neg hh]
        exact ⟨by omega, fun _ => ⟨_, rfl, g.1, rfl⟩, fun e => absurd rfl e⟩
  · refine same_mk hR (-1) (by omega) ?_ (fun τ f hR2 => ?_)
    · exact v_143 (c_hhN hR ha hc ⟨by omega, fun e => absurd rfl e, fun _ => ⟨_, rfl, Out.rfl, rfl⟩⟩)
    · have hc2 : ¬ isP τ a := by unfold isP; rw [f.2.1 6 (by omega)]; exact hc
      exact v_222 (m_isPN hR2 ha hc2 ⟨by omega, fun _ => ⟨_, rfl, FA.rfl, rfl⟩, fun e => absurd rfl e⟩)
