/-! behind, passed -/
theorem c_gtog {X : PX} {σ : Sg} {p : Nat} {K : Kz} {s : Cs} {P : Int → Sg → Prop} (hp : p ∈ parL) (n7 : kN K ≤ 7) (h : RP σ p K s) (q : P (sm (cG s) (kN K)) σ) : CI X 88 [vR (some p)] σ P := by
  obtain ⟨r0, r1, r2, r3, r4, r5, r6⟩ := id h
  have lp : ∀ (d h : Nat), h + d = kN K → Ev X 88 4 [some (vR (some p)), some (vI (sm (cG s) h)), some (vI h)] [] σ (fun v τ => ∃ x, v = some (vI x) ∧ P x τ) := by
    intro d
    induction d with
    | zero =>
      intro h hh
      refine v_88_4 hp ⟨by omega, by omega, fun _ => ⟨_, rfl, ?_⟩, fun e => absurd (by omega) e⟩
      rw [show h = kN K by omega]; exact q
    | succ d ih =>
      intro h hh
      refine v_88_4 hp ⟨by omega, by omega, fun e => absurd e (by omega), fun _ => ⟨fun e => absurd e (by omega), fun _ => ⟨by omega, ?_⟩⟩⟩
      rw [Int.toNat_natCast, (r6 h (by omega)).1]
      exact ih (h + 1) (by omega)
  exact v_88 hp (lp (kN K) 0 (by omega))
theorem m_gtog {X : PX} {σ : Sg} {n : Nat} {t : Nat → Int} {P : Int → Sg → Prop} (n7 : n ≤ 7) (h12 : σ.1 170 12 = n) (ht : ∀ h : Nat, h < n → σ.2 174 h = t h) (q : P (sm t n) σ) : CI X 242 [vR (some 170)] σ P := by
  have : ∀ (d h : Nat), h + d = n → Ev X 242 4 [some (vR (some 170)), some (vI (sm t h)), some (vI h)] [] σ (fun v τ => ∃ x, v = some (vI x) ∧ P x τ) := by
    intro d
    induction d with
    | zero =>
      intro h hh
      refine v_242_4 ⟨by omega, by omega, fun _ => ⟨_, rfl, ?_⟩, fun q => absurd (by omega) q⟩
      rw [show h = n by omega]; exact q
    | succ d ih =>
      intro h hh
      refine v_242_4 ⟨by omega, by omega, fun q => absurd q (by omega), fun _ => ⟨by omega, ?_⟩⟩
      rw [Int.toNat_natCast, ht h (by omega)]
      exact ih (h + 1) (by omega)
  exact v_242 (this n 0 (by omega))
/-- the first of the greatest of n, or -1 -/
def bsF (c : Nat → Int) (n : Nat) : Int := if n = 0 then -1 else (bst c (n - 1) : Int)
theorem bsF_rng (c : Nat → Int) (n : Nat) : -1 ≤ bsF c n ∧ bsF c n < n := by
  unfold bsF
  have := (bst_spec c (n - 1)).1
  split <;> omega
theorem bsF_s {c : Nat → Int} {n : Nat} (h : n ≠ 0) : bsF c (n + 1) = if c (bst c (n - 1)) < c n then (n : Int) else (bst c (n - 1) : Int) := by
  unfold bsF
  rw [if_neg (by omega), show n + 1 - 1 = n - 1 + 1 by omega, show bst c (n - 1 + 1) = if c (bst c (n - 1)) < c (n - 1 + 1) then n - 1 + 1 else bst c (n - 1) from rfl, show n - 1 + 1 = n by omega]
  by_cases c1 : c (bst c (n - 1)) < c n
  · rw [if_pos c1, if_pos c1]
  · rw [if_neg c1, if_neg c1]
theorem c_rich {X : PX} {σ : Sg} {p : Nat} {K : Kz} {s : Cs} {P : Int → Sg → Prop} (hp : p ∈ parL) (ok : sOk K s) (h : RP σ p K s) (q : P (bsF (cG s) (kN K)) σ) : CI X 89 [vR (some p)] σ P := by
  obtain ⟨r0, r1, r2, r3, r4, r5, r6⟩ := id h
  have n7 := ok.e7.2.2.1
  have gr := ok.2.1.2.2.2
  have lp : ∀ (d h : Nat), h + d = kN K → Ev X 89 4 [some (vR (some p)), some (vI (bsF (cG s) h)), some (vI h)] [] σ (fun v τ => ∃ x, v = some (vI x) ∧ P x τ) := by
    intro d
    induction d with
    | zero =>
      intro h hh
      refine v_89_4 hp ⟨by omega, by omega, fun _ => ⟨_, rfl, ?_⟩, fun e => absurd (by omega) e⟩
      rw [show h = kN K by omega]; exact q
    | succ d ih =>
      intro h hh
      have nx := ih (h + 1) (by omega)
      have br := bsF_rng (cG s) h
      refine v_89_4 hp ⟨by omega, by omega, fun e => absurd e (by omega), fun _ => ⟨fun e => absurd e (by omega), fun _ => ⟨by omega, fun c => ?_, fun c => ?_⟩⟩⟩
      · have h0 : h = 0 := by
          rcases Decidable.em (h = 0) with g | g
          · exact g
          · unfold bsF at c; rw [if_neg g] at c; omega
        rw [h0] at nx ⊢; exact nx
      · have h0 : h ≠ 0 := fun g => c (by rw [g]; rfl)
        rw [bsF_s h0] at nx
        have eb : bsF (cG s) h = (bst (cG s) (h - 1) : Int) := if_neg h0
        have bl := (bst_spec (cG s) (h - 1)).1
        have g1 := gr h (by omega)
        have g2 := gr (bst (cG s) (h - 1)) (by omega)
        rw [eb, Int.toNat_natCast, Int.toNat_natCast, (r6 h (by omega)).1, (r6 _ (show bst (cG s) (h - 1) < kN K by omega)).1]
        refine ⟨by omega, by omega, by omega, by omega, fun c1 => ?_, fun c1 => ?_⟩
        · rw [if_neg (by omega)] at nx; exact nx
        · rw [if_pos (by omega)] at nx; exact nx
  exact v_89 hp (lp (kN K) 0 (by omega))
theorem c_poor {X : PX} {σ : Sg} {p : Nat} {K : Kz} {s : Cs} {P : Int → Sg → Prop} (hp : p ∈ parL) (ok : sOk K s) (h : RP σ p K s) (q : P (bsF (fun i => - cG s i) (kN K)) σ) : CI X 90 [vR (some p)] σ P := by
  obtain ⟨r0, r1, r2, r3, r4, r5, r6⟩ := id h
  have n7 := ok.e7.2.2.1
  have gr := ok.2.1.2.2.2
  have lp : ∀ (d h : Nat), h + d = kN K → Ev X 90 4 [some (vR (some p)), some (vI (bsF (fun i => - cG s i) h)), some (vI h)] [] σ (fun v τ => ∃ x, v = some (vI x) ∧ P x τ) := by
    intro d
    induction d with
    | zero =>
      intro h hh
      refine v_90_4 hp ⟨by omega, by omega, fun _ => ⟨_, rfl, ?_⟩, fun e => absurd (by omega) e⟩
      rw [show h = kN K by omega]; exact q
    | succ d ih =>
      intro h hh
      have nx := ih (h + 1) (by omega)
      have br := bsF_rng (fun i => - cG s i) h
      refine v_90_4 hp ⟨by omega, by omega, fun e => absurd e (by omega), fun _ => ⟨fun e => absurd e (by omega), fun _ => ⟨by omega, fun c => ?_, fun c => ?_⟩⟩⟩
      · have h0 : h = 0 := by
          rcases Decidable.em (h = 0) with g | g
          · exact g
          · unfold bsF at c; rw [if_neg g] at c; omega
        rw [h0] at nx ⊢; exact nx
      · have h0 : h ≠ 0 := fun g => c (by rw [g]; rfl)
        rw [bsF_s h0] at nx
        have eb : bsF (fun i => - cG s i) h = (bst (fun i => - cG s i) (h - 1) : Int) := if_neg h0
        have bl := (bst_spec (fun i => - cG s i) (h - 1)).1
        have g1 := gr h (by omega)
        have g2 := gr (bst (fun i => - cG s i) (h - 1)) (by omega)
        rw [eb, Int.toNat_natCast, Int.toNat_natCast, (r6 h (by omega)).1, (r6 _ (show bst (fun i => - cG s i) (h - 1) < kN K by omega)).1]
        refine ⟨by omega, by omega, by omega, by omega, fun c1 => ?_, fun c1 => ?_⟩
        · rw [if_neg (by omega)] at nx; exact nx
        · rw [if_pos (by omega)] at nx; exact nx
  exact v_90 hp (lp (kN K) 0 (by omega))
theorem m_rich {X : PX} {σ : Sg} {o : Nat} {K : Kz} {s : Cs} {P : Int → Sg → Prop} (ok : sOk K s) (S : SMp σ o K s) (q : P (bsF (cG s) (kN K)) σ) : CI X 240 [vR (some 170)] σ P := by
  have n7 := ok.e7.2.2.1
  have gr := ok.2.1.2.2.2
  have h12 := S.1.2.1
  have ag := S.2.2.2.2.2.2.2.2
  unfold bsF at q
  have lp : kN K ≠ 0 → ∀ (d h : Nat), h + 1 + d = kN K → Ev X 240 9 [some (vR (some 170)), some (vI (bst (cG s) h)), some (vI ((h + 1 : Nat) : Int))] [] σ (fun v τ => ∃ x, v = some (vI x) ∧ P x τ) := by
    intro nz d
    induction d with
    | zero =>
      intro h hh
      rw [if_neg nz] at q
      refine v_240_9 ⟨by omega, by omega, fun _ => ⟨_, rfl, ?_⟩, fun e => absurd (by omega) e⟩
      rw [show h = kN K - 1 by omega]; exact q
    | succ d ih =>
      intro h hh
      have nx := ih (h + 1) (by omega)
      rw [show bst (cG s) (h + 1) = if cG s (bst (cG s) h) < cG s (h + 1) then h + 1 else bst (cG s) h from rfl] at nx
      have bl := (bst_spec (cG s) h).1
      have g1 := gr (h + 1) (by omega)
      have g2 := gr (bst (cG s) h) (by omega)
      refine v_240_9 ?_
      rw [Int.toNat_natCast, Int.toNat_natCast, ag (h + 1) (by omega), ag (bst (cG s) h) (by omega)]
      refine ⟨by omega, by omega, fun e => absurd e (by omega), fun _ => ⟨by omega, by omega, by omega, by omega, fun c => ?_, fun c => ?_⟩⟩
      · rw [if_neg (by omega)] at nx; exact nx
      · rw [if_pos (by omega)] at nx; exact nx
  refine v_240 ⟨by omega, fun c => lp (by omega) (kN K - 1) 0 (by omega), fun c => v_240_9 ⟨by omega, by omega, fun _ => ⟨_, rfl, ?_⟩, fun e => absurd (by omega) e⟩⟩
  rw [if_pos (by omega)] at q; exact q
theorem m_poor {X : PX} {σ : Sg} {o : Nat} {K : Kz} {s : Cs} {P : Int → Sg → Prop} (ok : sOk K s) (S : SMp σ o K s) (q : P (bsF (fun i => - cG s i) (kN K)) σ) : CI X 241 [vR (some 170)] σ P := by
  have n7 := ok.e7.2.2.1
  have gr := ok.2.1.2.2.2
  have h12 := S.1.2.1
  have ag := S.2.2.2.2.2.2.2.2
  unfold bsF at q
  have lp : kN K ≠ 0 → ∀ (d h : Nat), h + 1 + d = kN K → Ev X 241 9 [some (vR (some 170)), some (vI (bst (fun i => - cG s i) h)), some (vI ((h + 1 : Nat) : Int))] [] σ (fun v τ => ∃ x, v = some (vI x) ∧ P x τ) := by
    intro nz d
    induction d with
    | zero =>
      intro h hh
      rw [if_neg nz] at q
      refine v_241_9 ⟨by omega, by omega, fun _ => ⟨_, rfl, ?_⟩, fun e => absurd (by omega) e⟩
      rw [show h = kN K - 1 by omega]; exact q
    | succ d ih =>
      intro h hh
      have nx := ih (h + 1) (by omega)
      rw [show bst (fun i => - cG s i) (h + 1) = if - cG s (bst (fun i => - cG s i) h) < - cG s (h + 1) then h + 1 else bst (fun i => - cG s i) h from rfl] at nx
      have bl := (bst_spec (fun i => - cG s i) h).1
      have g1 := gr (h + 1) (by omega)
      have g2 := gr (bst (fun i => - cG s i) h) (by omega)
      refine v_241_9 ?_
      rw [Int.toNat_natCast, Int.toNat_natCast, ag (h + 1) (by omega), ag (bst (fun i => - cG s i) h) (by omega)]
      refine ⟨by omega, by omega, fun e => absurd e (by omega), fun _ => ⟨by omega, by omega, by omega, by omega, fun c => ?_, fun c => ?_⟩⟩
      · rw [if_neg (by omega)] at nx; exact nx
      · rw [if_pos (by omega)] at nx; exact nx
  refine v_241 ⟨by omega, fun c => lp (by omega) (kN K - 1) 0 (by omega), fun c => v_241_9 ⟨by omega, by omega, fun _ => ⟨_, rfl, ?_⟩, fun e => absurd (by omega) e⟩⟩
  rw [if_pos (by omega)] at q; exact q
def bhF (K : Kz) (s : Cs) (w : Int) : Int := if w = 0 then sm (cG s) (kN K) else if w = 1 then bsF (cG s) (kN K) else if w = 2 then bsF (fun i => - cG s i) (kN K) else if w = 3 then cS s else if 10 ≤ w ∧ w - 10 < kN K then cG s (w - 10).toNat else -2
theorem bhF_rng {K : Kz} {s : Cs} (ok : sOk K s) (w : Int) : InR (bhF K s w) := by
  have n7 := ok.e7.2.2.1
  have gr := ok.2.1.2.2.2
  have a := sm_nn (f := cG s) (kN K) (fun h hh => (gr h hh).1)
  have b := sm_le (f := cG s) (m := 99) (kN K) (fun h hh => (gr h hh).2)
  have c := bsF_rng (cG s) (kN K)
  have d := bsF_rng (fun i => - cG s i) (kN K)
  have e := ok.2.2.2.2.2.2
  unfold bhF
  split
  · omega
  · split
    · omega
    · split
      · omega
      · split
        · omega
        · split
          · have := gr (w - 10).toNat (by omega)
            omega
          · omega
theorem s_behind {X : PX} : Sm_28 X Rel := by
  intro a n w ha hn hw σ hR
  refine same_P (a := a) hR (-2) (by omega) (fun hc => ?_) (fun τ hR2 hc => ?_) (fun K s a2 hc T => ?_)
  · exact v_153 (c_hasN (s := 0) hR (by omega) ha hc ⟨by omega, fun _ => ⟨_, rfl, Out.rfl, rfl⟩, fun e => absurd rfl e⟩)
  · exact v_243 (m_isPN hR2 ha hc ⟨by omega, fun _ => ⟨_, rfl, FA.rfl, rfl⟩, fun e => absurd rfl e⟩)
  · obtain ⟨⟨tp, tp2⟩, ok, nw, tr, tm⟩ := id T
    have n7 := ok.e7.2.2.1
    by_cases g : 0 ≤ n ∧ n ≤ 50
    · obtain ⟨N, rfl⟩ := Int.eq_ofNat_of_zero_le g.1
      obtain ⟨okN, yN⟩ := yIt_ok ok nw.2.1 N (by omega)
      refine ⟨bhF K (yIt K s N) w, bhF_rng okN w, v_153 (c_hasY (s := 0) hR (by omega) ha hc ⟨by omega, fun e => absurd e (by omega), fun _ => ⟨hn, fun e => absurd e (by omega), fun _ => ⟨fun _ => ⟨by omega, c_goY tp (by omega) ok nw tr (by omega) (fun τ f S => ⟨hw, fun e => ?_, fun e => ?_, fun e => ?_, fun e => ⟨_, rfl, f.c, ?_⟩, fun e => ⟨fun c => ⟨_, rfl, f.c, ?_⟩, fun c => ?_⟩⟩)⟩, fun e => absurd (by omega) e⟩⟩⟩), fun τ hR2 hc2 T2 _ => v_243 (m_isPY hR2 ha hc2 T2 (fun υ g' S _ => ⟨by omega, fun e => absurd e (by omega), fun _ => c_isIn hn (by omega) (by omega) ?_⟩))⟩
      · rw [e]; exact c_gtog (s := yIt K s N) (by decide) n7 S.1.1 ⟨_, rfl, f.c, rfl⟩
      · rw [e]; exact c_rich (by decide) okN S.1.1 ⟨_, rfl, f.c, rfl⟩
      · rw [e]; exact c_poor (by decide) okN S.1.1 ⟨_, rfl, f.c, rfl⟩
      · rw [e]; exact S.1.2.2.2.1
      · unfold bhF
        rw [if_neg (by omega), if_neg (by omega), if_neg (by omega), if_neg (by omega), if_neg (by omega)]
      · have eb : bhF K (yIt K s N) w = if 0 ≤ w - 10 ∧ w - 10 < kN K then cG (yIt K s N) (w - 10).toNat else -2 := by
          unfold bhF
          rw [if_neg (by omega), if_neg (by omega), if_neg (by omega), if_neg (by omega)]
          by_cases x : 10 ≤ w ∧ w - 10 < kN K
          · rw [if_pos x, if_pos (by omega)]
          · rw [if_neg x, if_neg (by omega)]
        rw [eb]
        refine c_hH (n := kN K) (by decide) S.1.1.2.2.1 n7 (by omega) ?_
        by_cases x : 0 ≤ w - 10 ∧ w - 10 < kN K
        · rw [if_pos x, if_pos x]
          exact ⟨by omega, fun e => absurd e (by omega), fun _ => ⟨by omega, _, rfl, f.c, (S.1.1.2.2.2.2.2.2 _ (by omega)).1⟩⟩
        · rw [if_neg x, if_neg x]
          exact ⟨by omega, fun _ => ⟨_, rfl, f.c, rfl⟩, fun e => absurd rfl e⟩
      · rw [if_pos g]
        have lp : ∀ (d j : Nat) (ω : Sg), j + d = N → FA τ ω → SM ω (610 + 49 * a.toNat) K (yIt K s j) → Ev X 243 11 [some (vR (some 170)), none, some (vI N), some (vI w)] [] ω (fun v τ' => ∃ x, v = some (vI x) ∧ FA τ τ' ∧ x = bhF K (yIt K s N) w) := by
          intro d
          induction d with
          | zero =>
            intro j ω hj f S
            have S : SM ω (610 + 49 * a.toNat) K (yIt K s N) := by rw [← show j = N by omega]; exact S
            have h19 := S.1.2.2.2.2.2.1
            refine v_243_11 ⟨by omega, by omega, fun _ => ⟨hw, fun e => ?_, fun e => ?_, fun e => ?_, fun e => ⟨_, rfl, f, ?_⟩, fun e => c_isIn hw (by omega) (by omega) ⟨by split <;> omega, fun c => ⟨_, rfl, f, ?_⟩, fun c => m_isH S.mx.2.1 n7 (by omega) ?_⟩⟩, fun e => absurd (by omega) e⟩
            · rw [e]; exact m_gtog (t := cG (yIt K s N)) n7 S.mx.2.1 S.1.2.2.2.2.2.2.2.2 ⟨_, rfl, f, rfl⟩
            · rw [e]; exact m_rich okN S.1 ⟨_, rfl, f, rfl⟩
            · rw [e]; exact m_poor okN S.1 ⟨_, rfl, f, rfl⟩
            · rw [e]; exact S.1.2.2.2.2.2.2.2.1
            · unfold bhF
              rw [if_neg (by omega), if_neg (by omega), if_neg (by omega), if_neg (by omega), if_neg]
              intro x
              rw [if_pos (by omega)] at c
              omega
            · have eb : bhF K (yIt K s N) w = if 0 ≤ w - 10 ∧ w - 10 < kN K then cG (yIt K s N) (w - 10).toNat else -2 := by
                unfold bhF
                rw [if_neg (by omega), if_neg (by omega), if_neg (by omega), if_neg (by omega)]
                by_cases x : 10 ≤ w ∧ w - 10 < kN K
                · rw [if_pos x, if_pos (by omega)]
                · rw [if_neg x, if_neg (by omega)]
              rw [eb]
              by_cases x : 0 ≤ w - 10 ∧ w - 10 < kN K
              · rw [if_pos x, if_pos x]
                exact ⟨by omega, fun e => absurd e (by omega), fun _ => ⟨by omega, _, rfl, f, S.1.2.2.2.2.2.2.2.2 _ (by omega)⟩⟩
              · rw [if_neg x, if_neg x]
                exact ⟨by omega, fun _ => ⟨_, rfl, f, rfl⟩, fun e => absurd rfl e⟩
          | succ d ih =>
            intro j ω hj f S
            obtain ⟨okj, yj⟩ := yIt_ok ok nw.2.1 j (by omega)
            have h19 := S.1.2.2.2.2.2.1
            exact v_243_11 ⟨by omega, by omega, fun e => absurd e (by omega), fun _ => m_year okj S (by omega) (fun ω2 f2 S2 _ _ => ih (j + 1) ω2 (by omega) (f.trans f2.fa) S2)⟩
        exact ⟨by omega, fun _ => lp N 0 υ (by omega) g'.1 S, fun e => absurd (by omega) e⟩
    · refine ⟨-2, by omega, v_153 (c_hasY (s := 0) hR (by omega) ha hc ⟨by omega, fun e => absurd e (by omega), fun _ => ⟨hn, fun _ => ⟨_, rfl, Out.rfl, rfl⟩, fun c => ⟨fun c2 => absurd ⟨by omega, c2⟩ g, fun _ => ⟨_, rfl, Out.rfl, rfl⟩⟩⟩⟩), fun τ hR2 hc2 T2 _ => v_243 (m_isPY hR2 ha hc2 T2 (fun υ g' S _ => ⟨by omega, fun e => absurd e (by omega), fun _ => c_isIn hn (by omega) (by omega) ?_⟩))⟩
      rw [if_neg g]
      exact ⟨by omega, fun e => absurd rfl e, fun _ => ⟨_, rfl, g'.1, rfl⟩⟩
