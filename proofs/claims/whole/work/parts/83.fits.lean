/-! what a LOG tells -/
def sOf (s : Cs) (x : Nat) : Cs := (cQ s, cP s, x, cC s, cG s, cY s, cD s, cS s)
theorem sOf_ok {K : Kz} {s : Cs} {x : Nat} (ok : sOk K s) (h : x < 2 ^ kN K) : sOk K (sOf s x) := by
  obtain ⟨h1, h2, h3, h4, h5⟩ := ok
  exact ⟨h1, h2, h3, h, h5⟩
def fT (K : Kz) (s : Cs) (x h : Nat) : Int := cT K (sOf s x) h
def fTn (K : Kz) (s : Cs) (x h : Nat) : Nat := (fT K s x h).toNat
theorem fT_rng {K : Kz} {s : Cs} {x : Nat} (ok : sOk K s) (h : x < 2 ^ kN K) (i : Nat) : 0 ≤ fT K s x i ∧ fT K s x i ≤ 99 ∧ fT K s x i = (fTn K s x i : Int) ∧ fTn K s x i < 128 := by
  have := (sOf_ok ok h).t.1 i
  have e : fT K s x i = cT K (sOf s x) i := rfl
  unfold fTn
  omega
/-- a LOG: how many FACTS, their HOUSES and TAX -/
abbrev Lg : Type := Nat × (Nat → Int) × (Nat → Int)
def lgOk (L : Lg) : Prop := L.1 ≤ 8 ∧ ∀ i : Nat, i < L.1 → (0 ≤ L.2.1 i ∧ L.2.1 i ≤ 6) ∧ 0 ≤ L.2.2 i ∧ L.2.2 i ≤ 99
def fBad (K : Kz) (s : Cs) (L : Lg) (x i : Nat) : Bool := !(decide (L.2.1 i < kN K) && decide (fT K s x (L.2.1 i).toNat = L.2.2 i))
def fOk (K : Kz) (s : Cs) (L : Lg) (x : Nat) : Bool := !any (fBad K s L x) L.1
def ftI (K : Kz) (s : Cs) (L : Lg) : Nat → Nat × (Nat → Nat)
  | 0 => (0, fun _ => 0)
  | x + 1 => if fOk K s L x = true then ((ftI K s L x).1 + 1, up (ftI K s L x).2 (ftI K s L x).1 x) else ftI K s L x
theorem ftI_inv (K : Kz) (s : Cs) (L : Lg) : ∀ x : Nat, (ftI K s L x).1 ≤ x ∧ ∀ i : Nat, i < (ftI K s L x).1 → (ftI K s L x).2 i < x
  | 0 => ⟨Nat.le_refl _, fun i hi => absurd hi (by unfold ftI; dsimp only; omega)⟩
  | x + 1 => by
    obtain ⟨a, b⟩ := ftI_inv K s L x
    unfold ftI
    by_cases c : fOk K s L x = true
    · rw [if_pos c]
      refine ⟨by dsimp only; omega, fun i hi => ?_⟩
      show up (ftI K s L x).2 (ftI K s L x).1 x i < x + 1
      have hi : i < (ftI K s L x).1 + 1 := hi
      by_cases d : i = (ftI K s L x).1
      · rw [d, up_same]; omega
      · rw [up_ne _ _ d]; have := b i (by omega); omega
    · rw [if_neg c]
      exact ⟨by omega, fun i hi => by have := b i hi; omega⟩
theorem any_t {b : Nat → Bool} {i k : Nat} (h : i < k) (hb : b i = true) : any b k = true := by
  rcases e : any b k with _ | _
  · rw [(any_f k).mp e i h] at hb; exact hb
  · rfl
theorem fBad_f {K : Kz} {s : Cs} {L : Lg} {x i : Nat} : fBad K s L x i = false ↔ L.2.1 i < kN K ∧ fT K s x (L.2.1 i).toNat = L.2.2 i := by
  unfold fBad; simp
/-! the class -/
def LC (σ : Sg) (q : Nat) (L : Lg) : Prop := σ.1 q 0 = L.1 ∧ ∀ i : Nat, i < L.1 → σ.2 (q + 1) i = L.2.1 i ∧ σ.2 (q + 2) i = L.2.2 i
theorem LC.out {σ τ : Sg} {q : Nat} {L : Lg} (h : LC σ q L) (f : Out σ τ 131 169) (hq : q + 2 < 131) : LC τ q L := by
  unfold LC
  rw [(f q (by omega)).1, (f (q + 1) (by omega)).2, (f (q + 2) (by omega)).2]
  exact h
theorem c_log {X : PX} {σ : Sg} {p q x : Nat} {K : Kz} {s : Cs} {L : Lg} {P : Int → Sg → Prop} (hp : p ∈ parL) (hq : q ∈ paiL) (ok : sOk K s) (hx : x < 2 ^ kN K) (h2 : σ.1 p 2 = kN K) (hL : LC σ q L) (lo : lgOk L) (ht : ∀ h : Nat, h < 7 → σ.2 168 h = fT K s x h) (k : P (if fOk K s L x then 1 else 0) σ) : CI X 43 [vR (some 163), vR (some p), vR (some q)] σ P := by
  have n7 := ok.e7.2.2.1
  have lp : ∀ (d i : Nat), i + d = L.1 → (∀ j : Nat, j < i → fBad K s L x j = false) → Ev X 43 2 [some (vR (some 163)), some (vR (some p)), some (vR (some q)), some (vI i)] [] σ (fun v τ => ∃ x, v = some (vI x) ∧ P x τ) := by
    intro d
    induction d with
    | zero =>
      intro i hi al
      have e : fOk K s L x = true := by unfold fOk; rw [(any_f _).mpr (fun j hj => al j (by omega))]; rfl
      rw [e, if_pos rfl] at k
      have := hL.1
      have := lo.1
      exact v_43_2 hp hq ⟨by omega, by omega, fun _ => ⟨_, rfl, k⟩, fun e => absurd (by omega) e⟩
    | succ d ih =>
      intro i hi al
      have l0 := hL.1
      have l8 := lo.1
      obtain ⟨l1, l2⟩ := hL.2 i (by omega)
      obtain ⟨b1, b2⟩ := lo.2 i (by omega)
      have bad : fBad K s L x i = true → P 0 σ := fun hb => by
        have e : fOk K s L x = false := by unfold fOk; rw [any_t (show i < L.1 by omega) hb]; rfl
        rw [e] at k; exact k
      refine v_43_2 hp hq ?_
      rw [Int.toNat_natCast, l1]
      refine ⟨by omega, by omega, fun e => absurd e (by omega), fun _ => ⟨fun e => absurd e (by omega), fun _ => ⟨by omega, c_hH hp h2 n7 (by omega) ?_⟩⟩⟩
      obtain ⟨h, hh⟩ := Int.eq_ofNat_of_zero_le b1.1
      by_cases c : 0 ≤ L.2.1 i ∧ L.2.1 i < kN K
      · rw [if_pos c]
        refine ⟨by omega, fun e => absurd e (by omega), fun _ => ?_⟩
        rw [l1, hh]
        refine c_taxOf (v := 167) (by decide) (by omega) ?_
        rw [l2, show σ.2 (167 + 1) h = fT K s x h from ht h (by omega)]
        have fr := fT_rng ok hx h
        refine ⟨by omega, by omega, fun e => ih (i + 1) (by omega) (fun j hj => ?_), fun e => ⟨_, rfl, bad ?_⟩⟩
        · rcases Nat.lt_or_ge j i with g | g
          · exact al j g
          · rw [show j = i by omega, fBad_f, hh, Int.toNat_natCast]; exact ⟨by omega, e⟩
        · rcases hb : fBad K s L x i with _ | _
          · rw [fBad_f, hh, Int.toNat_natCast] at hb; exact absurd hb.2 e
          · rfl
      · rw [if_neg c]
        refine ⟨by omega, fun _ => ⟨_, rfl, bad ?_⟩, fun e => absurd rfl e⟩
        rcases hb : fBad K s L x i with _ | _
        · rw [fBad_f] at hb; exact absurd ⟨b1.1, hb.1⟩ c
        · rfl
  exact v_43 hp hq (lp L.1 0 (by omega) (fun j hj => absurd hj (by omega)))
theorem c_pack {X : PX} {σ : Sg} {n : Nat} {t : Nat → Nat} {P : Int → Sg → Prop} (n7 : n ≤ 7) (h1 : σ.1 163 1 = n) (ht : ∀ h : Nat, t h < 128) (hv : ∀ h : Nat, h < 7 → σ.2 168 h = (t h : Int)) (k : P (pk t n) σ) : CG X 44 [vR (some 163)] σ P := by
  have lp : ∀ (d i : Nat) (x3 : Int), i + d = n → x3 = (n : Int) - 1 - i → Ev X 44 7 [some (vR (some 163)), some (vL (pkD t n i)), none, some (vI x3)] [] σ (fun v τ => ∃ x, v = some (vL x) ∧ P x τ) := by
    intro d
    induction d with
    | zero =>
      intro i x3 hi hx
      refine v_44_7 ⟨by omega, fun _ => ⟨_, rfl, ?_⟩, fun e => absurd (by omega) e⟩
      rw [show i = n by omega]; exact k
    | succ d ih =>
      intro i x3 hi hx
      have pl := pkD_lt (n := n) ht i
      have p7 : 128 ^ i ≤ 128 ^ 7 := Nat.pow_le_pow_right (by omega) (by omega)
      have tl := ht (n - 1 - i)
      have ex : x3 = ((n - 1 - i : Nat) : Int) := by omega
      rw [ex]
      refine v_44_7 ⟨by omega, fun e => absurd e (by omega), fun _ => c_taxOf (v := 167) (by decide) (by omega) ?_⟩
      rw [show σ.2 (167 + 1) (n - 1 - i) = (t (n - 1 - i) : Int) from hv _ (by omega)]
      have ei : iI2l (t (n - 1 - i) : Int) = (t (n - 1 - i) : Int) := ofR (by omega)
      rw [ei, l_shl (by omega), l_or (by omega) tl]
      exact ih (i + 1) _ (by omega) (by omega)
  refine v_44 ?_
  rw [h1]
  exact lp n 0 _ (by omega) (by omega)
def FC' (σ τ : Sg) (K : Kz) (s : Cs) (F : Nat × (Nat → Nat)) : Prop := Out σ τ 131 169 ∧ τ.1 163 0 = F.1 ∧ τ.1 163 1 = kN K ∧ ∀ i : Nat, i < F.1 → τ.2 164 i = (F.2 i : Int) ∧ τ.2 165 i = (pk (fTn K s (F.2 i)) (kN K) : Int)
theorem c_find {X : PX} {σ : Sg} {p q : Nat} {K : Kz} {s : Cs} {L : Lg} {P : Sg → Prop} (hp : p ∈ parL) (hp2 : p + 6 < 131) (hq : q ∈ paiL) (hq2 : q + 2 < 131) (ok : sOk K s) (nw : sNew s) (h : RP σ p K s) (hL : LC σ q L) (lo : lgOk L) (k : ∀ τ : Sg, FC' σ τ K s (ftI K s L (2 ^ kN K)) → P τ) : CV X 42 [vR (some 163), vR (some p), vR (some q)] σ P := by
  obtain ⟨e1, e2, n7, e4⟩ := ok.e7
  have np := Nat.two_pow_pos (kN K)
  have lp : ∀ (d x : Nat) (τ : Sg), x + d = 2 ^ kN K → FC' σ τ K s (ftI K s L x) → Ev X 42 9 [some (vR (some 163)), some (vR (some p)), some (vR (some q)), some (vI x)] [] τ (fun v τ => v = none ∧ P τ) := by
    intro d
    induction d with
    | zero =>
      intro x τ hx st
      have tr := h.out st.1 (by omega)
      refine v_42_9 hp hq (c_every hp tr.2.2.1 n7 ⟨by omega, by omega, fun _ => ⟨rfl, k τ ?_⟩, fun e => absurd (by omega) e⟩)
      rw [← show x = 2 ^ kN K by omega]; exact st
    | succ d ih =>
      intro x τ hx st
      obtain ⟨f, s0, s1, s2⟩ := id st
      have tr := h.out f (by omega)
      obtain ⟨r0, r1, r2, r3, r4, r5, r6⟩ := id tr
      have hxx : x < 2 ^ kN K := by omega
      obtain ⟨i1, i2⟩ := ftI_inv K s L x
      have gl := gClo_lt7 (cut := 0) ok.1 hxx
      refine v_42_9 hp hq (c_every hp r2 n7 ⟨by omega, by omega, fun e => absurd e (by omega), fun _ => ⟨fun e => absurd e (by omega), fun _ => c_ex (cut := 0) hp ok.1 r4 (by omega) hxx ?_⟩⟩)
      rw [r0]
      refine c_share (v := 167) (p := p) (n := kN K) (E := gClo (kR K) 0 x) (q := cQ s) (g := cG s) (by decide) hp ok.2.1 gl r2 (fun i hi => (r6 i hi).1) (fun υ t1 t2 t3 => ?_)
      have fu : Out τ υ 167 169 := fun c hc => ⟨by rw [t1, up2_ne _ _ _ (by omega)], t2 c (by omega) (by omega)⟩
      have u163 : υ.1 163 = τ.1 163 := (fu 163 (by omega)).1
      have et : ∀ h : Nat, h < 7 → υ.2 168 h = fT K s x h := fun h hh => by
        rw [show υ.2 168 h = txF (kN K) (gClo (kR K) 0 x) (cQ s) (cG s) h from t3 h hh]
        unfold fT cT zE
        show _ = txF (kN K) (gClo (kR K) (cC s) x) (cQ s) (cG s) h
        rw [nw.1]
      have fout : Out σ υ 131 169 := f.trans (fu.wide (by omega) (by omega))
      have stu : FC' σ υ K s (ftI K s L x) := ⟨fout, by rw [u163]; exact s0, by rw [u163]; exact s1, by rw [(fu 164 (by omega)).2, (fu 165 (by omega)).2]; exact s2⟩
      have nxt : ∀ ω : Sg, FC' σ ω K s (ftI K s L (x + 1)) → Ev X 42 9 [some (vR (some 163)), some (vR (some p)), some (vR (some q)), some (vI ((x : Int) + 1))] [] ω (fun v τ => v = none ∧ P τ) := fun ω so => ih (x + 1) ω (by omega) so
      rw [u163, s0]
      refine ⟨by omega, fun e => absurd e (by omega), fun _ => c_log hp hq ok hxx (by rw [(fu p (by omega)).1]; exact r2) (hL.out fout hq2) lo et ?_⟩
      by_cases c : fOk K s L x = true
      · rw [if_pos c, u163, s0, Int.toNat_natCast]
        refine ⟨by omega, fun e => absurd e (by omega), fun _ => ⟨by omega, ?_⟩⟩
        refine c_pack (n := kN K) (t := fTn K s x) n7 (by dsimp only; rw [u163]; exact s1) (fun i => (fT_rng ok hxx i).2.2.2) (fun i hi => ?_) (nxt _ ⟨fout.trans (fun c hc => ⟨?_, ?_⟩), ?_, ?_, fun i hi => ?_⟩)
        · dsimp only; rw [up2_ne _ _ _ (by omega), et i hi]; exact (fT_rng ok hxx i).2.2.1
        · dsimp only; rw [up2_ne _ _ _ (by omega)]
        · dsimp only; rw [up2_ne _ _ _ (by omega), up2_ne _ _ _ (by omega)]
        · dsimp only; rw [up2_get, u163, s0]
          show ((ftI K s L x).1 : Int) + 1 = ((if fOk K s L x = true then ((ftI K s L x).1 + 1, up (ftI K s L x).2 (ftI K s L x).1 x) else ftI K s L x).1 : Nat)
          rw [if_pos c]; rfl
        · dsimp only; rw [up2_if, if_neg (by omega), u163]; exact s1
        · rw [show ftI K s L (x + 1) = if fOk K s L x = true then ((ftI K s L x).1 + 1, up (ftI K s L x).2 (ftI K s L x).1 x) else ftI K s L x from rfl, if_pos c] at hi ⊢
          dsimp only at hi ⊢
          rw [up2_ne _ _ _ (show (164 : Nat) ≠ 165 by omega), up2_if, up2_if, up2_ne _ _ _ (show (165 : Nat) ≠ 164 by omega)]
          by_cases e : i = (ftI K s L x).1
          · rw [if_pos e, if_pos e, e, up_same]; exact ⟨rfl, rfl⟩
          · rw [if_neg e, if_neg e, up_ne _ _ e, (fu 164 (by omega)).2, (fu 165 (by omega)).2]; exact s2 i (by omega)
      · rw [if_neg c]
        refine ⟨by omega, fun _ => nxt υ ?_, fun e => absurd rfl e⟩
        rw [show ftI K s L (x + 1) = if fOk K s L x = true then ((ftI K s L x).1 + 1, up (ftI K s L x).2 (ftI K s L x).1 x) else ftI K s L x from rfl, if_neg c]
        exact stu
  refine v_42 hp hq (lp (2 ^ kN K) 0 _ (by omega) ⟨fun c hc => ⟨?_, rfl⟩, ?_, ?_, fun i hi => absurd hi (by unfold ftI; dsimp only; omega)⟩)
  · dsimp only; rw [up2_ne _ _ _ (by omega), up2_ne _ _ _ (by omega)]
  · dsimp only; rw [up2_if, if_neg (by omega), up2_get]; rfl
  · dsimp only; rw [up2_get, up2_ne _ _ _ (by omega)]; exact h.2.2.1
/-! the reference -/
def LM (σ : Sg) (ol : Nat) (L : Lg) : Prop := σ.1 170 41 = ol ∧ ol + 17 ≤ 904 ∧ σ.2 171 ol = L.1 ∧ ∀ i : Nat, i < L.1 → σ.2 171 (ol + 1 + 2 * i) = L.2.1 i ∧ σ.2 171 (ol + 2 + 2 * i) = L.2.2 i
theorem LM.mv {σ τ : Sg} {ol : Nat} {L : Lg} (h : LM σ ol L) (h1 : τ.1 170 41 = σ.1 170 41) (h2 : τ.2 171 = σ.2 171) : LM τ ol L := by
  unfold LM; rw [h1, h2]; exact h
theorem m_isSo {X : PX} {σ : Sg} {o ol x y : Nat} {K : Kz} {s : Cs} {L : Lg} {P : Int → Sg → Prop} (ok : sOk K s) (S : SM σ o K (sOf s y)) (hx : x < 2 ^ kN K) (hL : LM σ ol L) (lo : lgOk L) (k : ∀ τ : Sg, FM σ τ → SM τ o K (sOf s x) → P (if fOk K s L x then 1 else 0) τ) : CI X 267 [vR (some 170), vI x] σ P := by
  have n7 := ok.e7.2.2.1
  obtain ⟨⟨hx2, a14, a15, a16, a17, a19, a20, a21, ag⟩, a18, at'⟩ := id S
  refine v_267 (m_sh (o := o) (K := K) (s := sOf s x) (sOf_ok ok hx) ⟨hx2.mv (fun j hj => ?_) rfl, ?_, ?_, ?_, ?_, ?_, ?_, ?_, ag⟩ (fun υ u1 u2 u3 u4 => ?_))
  · dsimp only; rw [up2_if, if_neg (by omega)]
  · dsimp only; simp only [up2_if, Nat.reduceEqDiff, reduceIte]; exact a14
  · dsimp only; simp only [up2_if, Nat.reduceEqDiff, reduceIte]; exact a15
  · dsimp only; simp only [up2_if, Nat.reduceEqDiff, reduceIte]; rfl
  · dsimp only; simp only [up2_if, Nat.reduceEqDiff, reduceIte]; exact a17
  · dsimp only; simp only [up2_if, Nat.reduceEqDiff, reduceIte]; exact a19
  · dsimp only; simp only [up2_if, Nat.reduceEqDiff, reduceIte]; exact a20
  · dsimp only; simp only [up2_if, Nat.reduceEqDiff, reduceIte]; exact a21
  · have fu : FM σ υ := FM.trans (τ := (up2 σ.1 170 16 (x : Int), σ.2)) ⟨⟨fun c hc => by dsimp only; rw [up2_ne _ _ _ hc], fun j hj => by dsimp only; rw [up2_if, if_neg (by omega)], fun _ _ _ _ => rfl⟩, by dsimp only; rw [up2_if, if_neg (by omega)]⟩ u1
    have hL2 : LM υ ol L := hL.mv (fu.1.2.1 41 (by omega)) fu.1.a171
    obtain ⟨m1, m2, m3, m4⟩ := id hL2
    have kk := k υ fu u4
    have lp : ∀ (d i : Nat) (b : Bool), i + d = L.1 → (b = true ↔ ∀ j : Nat, j < i → fBad K s L x j = false) → Ev X 267 9 [some (vR (some 170)), none, some (vI (if b then 1 else 0)), some (vI i)] [] υ (fun v τ => ∃ x, v = some (vI x) ∧ P x τ) := by
      intro d
      induction d with
      | zero =>
        intro i b hi hb
        have e : fOk K s L x = b := by
          unfold fOk
          rcases b with _ | _
          · rcases ha : any (fBad K s L x) L.1 with _ | _
            · have := hb.mpr (fun j hj => (any_f _).mp ha j (by omega)); cases this
            · rfl
          · rw [(any_f _).mpr (fun j hj => hb.mp rfl j (by omega))]; rfl
        rw [e] at kk
        have l8 := lo.1
        refine v_267_9 ?_
        rw [m1, Int.toNat_natCast, m3]
        exact ⟨by omega, by omega, by omega, fun _ => ⟨by split <;> omega, _, rfl, kk⟩, fun e => absurd (by omega) e⟩
      | succ d ih =>
        intro i b hi hb
        have l8 := lo.1
        obtain ⟨l1, l2⟩ := m4 i (by omega)
        obtain ⟨b1, b2⟩ := lo.2 i (by omega)
        have fls : fBad K s L x i = true → Ev X 267 9 [some (vR (some 170)), none, some (vI 0), some (vI ((i : Int) + 1))] [] υ (fun v τ => ∃ x, v = some (vI x) ∧ P x τ) := fun e => ih (i + 1) false (by omega) ⟨fun z => (by cases z), fun z => by have := z i (by omega); rw [e] at this; cases this⟩
        refine v_267_9 ?_
        rw [m1, Int.toNat_natCast, m3, show ((ol : Int) + 1 + 2 * (i : Int)).toNat = ol + 1 + 2 * i by omega, l1]
        rcases b with _ | _
        · refine ⟨by omega, by omega, by omega, fun e => absurd e (by omega), fun _ => ⟨by decide, fun _ => ih (i + 1) false (by omega) ⟨fun z => (by cases z), fun z => hb.mpr (fun j hj => z j (by omega))⟩, fun e => absurd rfl e⟩⟩
        · refine ⟨by omega, by omega, by omega, fun e => absurd e (by omega), fun _ => ⟨by decide, fun e => absurd e (by decide), fun _ => ⟨by omega, m_isH u4.mx.2.1 n7 (by omega) ?_⟩⟩⟩
          rw [m1, show ((ol : Int) + 1 + 2 * (i : Int)).toNat = ol + 1 + 2 * i by omega, show ((ol : Int) + 2 + 2 * (i : Int)).toNat = ol + 2 + 2 * i by omega, l1, l2]
          obtain ⟨h, hh⟩ := Int.eq_ofNat_of_zero_le b1.1
          by_cases c : 0 ≤ L.2.1 i ∧ L.2.1 i < kN K
          · have fr := fT_rng ok hx h
            rw [if_pos c, hh, Int.toNat_natCast, show υ.2 175 h = fT K s x h from u4.2.2 h (by omega)]
            refine ⟨by omega, fun e => absurd e (by omega), fun _ => ⟨by omega, by omega, by omega, by omega, by omega, fun e => fls ?_, fun e => ih (i + 1) true (by omega) ⟨fun _ j hj => ?_, fun _ => rfl⟩⟩⟩
            · rcases hb2 : fBad K s L x i with _ | _
              · rw [fBad_f, hh, Int.toNat_natCast] at hb2; exact absurd hb2.2 e
              · rfl
            · rcases Nat.lt_or_ge j i with g | g
              · exact hb.mp rfl j g
              · rw [show j = i by omega, fBad_f, hh, Int.toNat_natCast]; exact ⟨by omega, by omega⟩
          · rw [if_neg c]
            refine ⟨by omega, fun _ => fls ?_, fun e => absurd rfl e⟩
            rcases hb2 : fBad K s L x i with _ | _
            · rw [fBad_f] at hb2; exact absurd ⟨b1.1, hb2.1⟩ c
            · rfl
    exact lp L.1 0 true (by omega) ⟨fun _ j hj => absurd hj (by omega), fun _ => rfl⟩
def cB (f : Nat → Nat) (h : Nat) : Nat → Int
  | 0 => 0
  | i + 1 => cB f h i + (if (f i).testBit h then 1 else 0)
theorem cB_rng (f : Nat → Nat) (h : Nat) : ∀ i : Nat, 0 ≤ cB f h i ∧ cB f h i ≤ i
  | 0 => by unfold cB; omega
  | i + 1 => by
    have := cB_rng f h i
    unfold cB
    split <;> omega
theorem cB_congr {f g : Nat → Nat} {h : Nat} : ∀ i : Nat, (∀ j : Nat, j < i → f j = g j) → cB f h i = cB g h i
  | 0 => fun _ => rfl
  | i + 1 => fun e => by
    unfold cB
    rw [cB_congr i (fun j hj => e j (by omega)), e i (by omega)]
def FL (σ τ : Sg) (o ol : Nat) (K : Kz) (s : Cs) (L : Lg) (F : Nat × (Nat → Nat)) : Prop := FA σ τ ∧ LM τ ol L ∧ (∃ y : Nat, SM τ o K (sOf s y)) ∧ τ.1 170 42 = F.1 ∧ (∀ i : Nat, i < F.1 → τ.2 182 i = (F.2 i : Int)) ∧ (∀ i h : Nat, i < F.1 → h < 7 → τ.2 183 (7 * i + h) = fT K s (F.2 i) h) ∧ (∀ h : Nat, h < 7 → τ.2 184 h = cB F.2 h F.1)
theorem m_lays {X : PX} {σ : Sg} {o ol : Nat} {K : Kz} {s : Cs} {L : Lg} {P : Sg → Prop} (ok : sOk K s) (S : SM σ o K s) (hL : LM σ ol L) (lo : lgOk L) (k : ∀ τ : Sg, FL σ τ o ol K s L (ftI K s L (2 ^ kN K)) → P τ) : CV X 268 [vR (some 170)] σ P := by
  obtain ⟨e1, e2, n7, e4⟩ := ok.e7
  have np := Nat.two_pow_pos (kN K)
  have inn : ∀ (x : Nat) (τ : Sg), x < 2 ^ kN K → FA σ τ → LM τ ol L → SM τ o K (sOf s x) → τ.1 170 42 = (ftI K s L x).1 → (∀ i : Nat, i < (ftI K s L x).1 → τ.2 182 i = ((ftI K s L x).2 i : Int)) → τ.2 182 (ftI K s L x).1 = x → (∀ i h : Nat, i < (ftI K s L x).1 → h < 7 → τ.2 183 (7 * i + h) = fT K s ((ftI K s L x).2 i) h) → (∀ υ : Sg, FA σ υ → LM υ ol L → SM υ o K (sOf s x) → υ.1 170 42 = (ftI K s L x).1 → (∀ i : Nat, i < (ftI K s L x).1 → υ.2 182 i = ((ftI K s L x).2 i : Int)) → υ.2 182 (ftI K s L x).1 = x → (∀ i h : Nat, i < (ftI K s L x).1 → h < 7 → υ.2 183 (7 * i + h) = fT K s ((ftI K s L x).2 i) h) → (∀ h : Nat, h < 7 → υ.2 183 (7 * (ftI K s L x).1 + h) = fT K s x h) → (∀ h : Nat, h < 7 → υ.2 184 h = cB (ftI K s L x).2 h (ftI K s L x).1 + (if x.testBit h then 1 else 0)) → Ev X 268 17 [some (vR (some 170)), some (vI ((x : Int) + 1)), none] [] (up2 υ.1 170 42 ((υ.1 170 42) + 1), υ.2) (fun v τ => v = none ∧ P τ)) →
      ∀ (d h : Nat) (ω : Sg), h + d = 7 → FA τ ω → LM ω ol L → SM ω o K (sOf s x) → ω.1 = τ.1 → ω.2 182 = τ.2 182 → (∀ i : Nat, i < 7 * (ftI K s L x).1 → ω.2 183 i = τ.2 183 i) → (∀ j : Nat, j < h → ω.2 183 (7 * (ftI K s L x).1 + j) = fT K s x j) → (∀ j : Nat, j < 7 → ω.2 184 j = cB (ftI K s L x).2 j (ftI K s L x).1 + (if j < h then (if x.testBit j then 1 else 0) else 0)) → Ev X 268 34 [some (vR (some 170)), some (vI x), some (vI h)] [] ω (fun v τ => v = none ∧ P τ) := by
    intro x τ hx f hLt St t42 t182 t182x t183 kk d
    have i1 := (ftI_inv K s L x).1
    induction d with
    | zero =>
      intro h ω hh fo Lo So w1 w182 w183 w183x w184
      refine v_268_34 ⟨by omega, fun _ => kk ω (f.trans fo) Lo So (by rw [w1]; exact t42) (fun i hi => by rw [w182]; exact t182 i hi) (by rw [w182]; exact t182x) (fun i j hi hj => by rw [w183 _ (by omega)]; exact t183 i j hi hj) (fun j hj => w183x j (by omega)) (fun j hj => ?_), fun e => absurd (by omega) e⟩
      rw [w184 j hj, if_pos (by omega)]
    | succ d ih =>
      intro h ω hh fo Lo So w1 w182 w183 w183x w184
      have h12 := So.mx.2.1
      have w42 : ω.1 170 42 = (ftI K s L x).1 := by rw [w1]; exact t42
      have eb : iAnd (iShr (x : Int) (h : Int)) 1 = if x.testBit h then 1 else 0 := b_bit (by omega) (by omega)
      have nx : ∀ v : Int, v = fT K s x h → Ev X 268 34 [some (vR (some 170)), some (vI x), some (vI ((h : Int) + 1))] [] (ω.1, up2 (up2 ω.2 183 (7 * (ftI K s L x).1 + h) v) 184 h (ω.2 184 h + (if x.testBit h then 1 else 0))) (fun v τ => v = none ∧ P τ) := fun v hv => by
        refine ih (h + 1) _ (by omega) (fo.trans ⟨fun _ _ => rfl, fun c hc => ?_⟩) (Lo.mv rfl ?_) (So.mv (fun _ _ _ => rfl) ?_ ?_ ?_) w1 ?_ (fun i hi => ?_) (fun j hj => ?_) (fun j hj => ?_)
        · dsimp only; rw [up2_ne _ _ _ (by omega), up2_ne _ _ _ (by omega)]
        · dsimp only; rw [up2_ne _ _ _ (by omega), up2_ne _ _ _ (by omega)]
        · dsimp only; rw [up2_ne _ _ _ (by omega), up2_ne _ _ _ (by omega)]
        · dsimp only; rw [up2_ne _ _ _ (by omega), up2_ne _ _ _ (by omega)]
        · dsimp only; rw [up2_ne _ _ _ (by omega), up2_ne _ _ _ (by omega)]
        · dsimp only; rw [up2_ne _ _ _ (by omega), up2_ne _ _ _ (by omega)]; exact w182
        · dsimp only; rw [up2_ne _ _ _ (by omega), up2_if, if_neg (by omega)]; exact w183 i hi
        · dsimp only; rw [up2_ne _ _ _ (by omega), up2_if]
          by_cases c : j = h
          · rw [if_pos (by omega), c]; exact hv
          · rw [if_neg (by omega)]; exact w183x j (by omega)
        · dsimp only; rw [up2_if, up2_ne _ _ _ (by omega)]
          by_cases c : j = h
          · rw [if_pos c, c, w184 h (by omega), if_neg (show ¬ h < h by omega), if_pos (show h < h + 1 by omega)]; omega
          · rw [if_neg c, w184 j hj]
            by_cases c2 : j < h
            · rw [if_pos c2, if_pos (show j < h + 1 by omega)]
            · rw [if_neg c2, if_neg (show ¬ j < h + 1 by omega)]
      refine v_268_34 ?_
      rw [w42, eb, Int.toNat_natCast, show (7 * ((ftI K s L x).1 : Int) + (h : Int)).toNat = 7 * (ftI K s L x).1 + h by omega]
      refine ⟨by omega, fun e => absurd e (by omega), fun _ => ⟨by omega, fun c => ⟨by omega, by omega, nx 0 ?_⟩, fun c => ⟨by omega, by omega, nx _ ?_⟩⟩⟩
      · have := (sOf_ok ok hx).t.2.1 h (by omega)
        exact this.symm
      · exact So.2.2 h (by omega)
  have lp : ∀ (d x : Nat) (τ : Sg), x + d = 2 ^ kN K → FL σ τ o ol K s L (ftI K s L x) → Ev X 268 17 [some (vR (some 170)), some (vI x), none] [] τ (fun v τ => v = none ∧ P τ) := by
    intro d
    induction d with
    | zero =>
      intro x τ hx st
      obtain ⟨f, l, ⟨y, Sy⟩, -⟩ := id st
      refine v_268_17 (m_every Sy.mx.2.1 n7 ⟨by omega, by omega, fun _ => ⟨rfl, k τ ?_⟩, fun e => absurd (by omega) e⟩)
      rw [← show x = 2 ^ kN K by omega]; exact st
    | succ d ih =>
      intro x τ hx st
      obtain ⟨f, l, ⟨y, Sy⟩, t42, t182, t183, t184⟩ := id st
      have hxx : x < 2 ^ kN K := by omega
      have i1 := (ftI_inv K s L x).1
      refine v_268_17 (m_every Sy.mx.2.1 n7 ⟨by omega, by omega, fun e => absurd e (by omega), fun _ => m_isSo ok Sy hxx l lo (fun υ f2 S2 => ?_)⟩)
      have l2 : LM υ ol L := l.mv (f2.1.2.1 41 (by omega)) f2.1.a171
      have u42 : υ.1 170 42 = (ftI K s L x).1 := by rw [f2.1.2.1 42 (by omega)]; exact t42
      have u182 := f2.1.2.2 182 (by omega) (by omega) (by omega)
      have u183 := f2.1.2.2 183 (by omega) (by omega) (by omega)
      have u184 := f2.1.2.2 184 (by omega) (by omega) (by omega)
      have fu := f.trans f2.fa
      by_cases c : fOk K s L x = true
      · have e1 : ftI K s L (x + 1) = ((ftI K s L x).1 + 1, up (ftI K s L x).2 (ftI K s L x).1 x) := by
          rw [show ftI K s L (x + 1) = if fOk K s L x = true then ((ftI K s L x).1 + 1, up (ftI K s L x).2 (ftI K s L x).1 x) else ftI K s L x from rfl, if_pos c]
        rw [if_pos c, u42, Int.toNat_natCast]
        refine ⟨by omega, fun _ => ⟨by omega, ?_⟩, fun e => absurd (by omega) e⟩
        refine inn x (υ.1, up2 υ.2 182 (ftI K s L x).1 (x : Int)) hxx (fu.trans ⟨fun _ _ => rfl, fun c hc => ?_⟩) (l2.mv rfl ?_) (S2.mv (fun _ _ _ => rfl) ?_ ?_ ?_) u42 (fun i hi => ?_) ?_ (fun i h hi hh => ?_) (fun z z1 z2 z3 z4 z5 z6 z7 z8 z9 => ih (x + 1) _ (by omega) ?_) 7 0 _ (by omega) FA.rfl (l2.mv rfl ?_) (S2.mv (fun _ _ _ => rfl) ?_ ?_ ?_) rfl rfl (fun _ _ => rfl) (fun j hj => absurd hj (by omega)) (fun j hj => ?_)
        · dsimp only; rw [up2_ne _ _ _ (by omega)]
        · dsimp only; rw [up2_ne _ _ _ (by omega)]
        · dsimp only; rw [up2_ne _ _ _ (by omega)]
        · dsimp only; rw [up2_ne _ _ _ (by omega)]
        · dsimp only; rw [up2_ne _ _ _ (by omega)]
        · dsimp only; rw [up2_if, if_neg (by omega), u182]; exact t182 i hi
        · dsimp only; rw [up2_get]
        · dsimp only; rw [up2_ne _ _ _ (by omega), u183]; exact t183 i h hi hh
        · rw [e1]
          refine ⟨z1.trans (fa_170 _ _), z2.mv (by dsimp only; rw [up2_if, if_neg (by omega)]) rfl, ⟨x, z3.mv (fun j h1 h2 => by dsimp only; rw [up2_if, if_neg (by omega)]) rfl rfl rfl⟩, ?_, fun i hi => ?_, fun i h hi hh => ?_, fun h hh => ?_⟩
          · dsimp only; rw [up2_get, z4]; rfl
          · dsimp only at hi ⊢
            by_cases e : i = (ftI K s L x).1
            · rw [e, up_same]; exact z6
            · rw [up_ne _ _ e]; exact z5 i (by omega)
          · dsimp only at hi ⊢
            by_cases e : i = (ftI K s L x).1
            · rw [e, up_same]; exact z8 h hh
            · rw [up_ne _ _ e]; exact z7 i h (by omega) hh
          · dsimp only
            rw [z9 h hh]
            show _ = cB (up (ftI K s L x).2 (ftI K s L x).1 x) h (ftI K s L x).1 + (if (up (ftI K s L x).2 (ftI K s L x).1 x (ftI K s L x).1).testBit h then 1 else 0)
            rw [up_same, cB_congr (ftI K s L x).1 (fun j hj => up_ne _ _ (by omega))]
        · dsimp only; rw [up2_ne _ _ _ (by omega)]
        · dsimp only; rw [up2_ne _ _ _ (by omega)]
        · dsimp only; rw [up2_ne _ _ _ (by omega)]
        · dsimp only; rw [up2_ne _ _ _ (by omega)]
        · dsimp only; rw [up2_ne _ _ _ (by omega), u184, t184 j hj, if_neg (by omega)]; omega
      · rw [if_neg c]
        refine ⟨by omega, fun e => absurd rfl e, fun _ => ih (x + 1) υ (by omega) ?_⟩
        rw [show ftI K s L (x + 1) = if fOk K s L x = true then ((ftI K s L x).1 + 1, up (ftI K s L x).2 (ftI K s L x).1 x) else ftI K s L x from rfl, if_neg c]
        exact ⟨fu, l2, ⟨x, S2⟩, u42, by rw [u182]; exact t182, by rw [u183]; exact t183, by rw [u184]; exact t184⟩
  have z0 : ∀ (d h : Nat) (τ : Sg), h + d = 7 → FA σ τ → LM τ ol L → SM τ o K s → τ.1 170 42 = 0 → (∀ j : Nat, j < h → τ.2 184 j = 0) → Ev X 268 5 [some (vR (some 170)), some (vI h), none] [] τ (fun v τ => v = none ∧ P τ) := by
    intro d
    induction d with
    | zero =>
      intro h τ hh f l S t42 t184
      exact v_268_5 ⟨by omega, fun _ => lp (2 ^ kN K) 0 τ (by omega) ⟨f, l, ⟨cO s, S⟩, t42, fun i hi => absurd hi (by unfold ftI; dsimp only; omega), fun i h hi => absurd hi (by unfold ftI; dsimp only; omega), fun j hj => t184 j (by omega)⟩, fun e => absurd (by omega) e⟩
    | succ d ih =>
      intro h τ hh f l S t42 t184
      refine v_268_5 ⟨by omega, fun e => absurd e (by omega), fun _ => ⟨by omega, ?_⟩⟩
      rw [Int.toNat_natCast]
      refine ih (h + 1) _ (by omega) (f.trans ⟨fun _ _ => rfl, fun c hc => ?_⟩) (l.mv rfl ?_) (S.mv (fun _ _ _ => rfl) ?_ ?_ ?_) t42 (fun j hj => ?_)
      · dsimp only; rw [up2_ne _ _ _ (by omega)]
      · dsimp only; rw [up2_ne _ _ _ (by omega)]
      · dsimp only; rw [up2_ne _ _ _ (by omega)]
      · dsimp only; rw [up2_ne _ _ _ (by omega)]
      · dsimp only; rw [up2_ne _ _ _ (by omega)]
      · dsimp only; rw [up2_if]
        by_cases c : j = h
        · rw [if_pos c]
        · rw [if_neg c]; exact t184 j (by omega)
  refine v_268 (z0 7 0 _ (by omega) (fa_170 _ _) (hL.mv (by dsimp only; rw [up2_if, if_neg (by omega)]) rfl) (S.mv (fun j h1 h2 => by dsimp only; rw [up2_if, if_neg (by omega)]) rfl rfl rfl) (by dsimp only; rw [up2_get]) (fun j hj => absurd hj (by omega)))
