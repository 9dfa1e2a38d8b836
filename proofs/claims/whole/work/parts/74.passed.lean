/-! passed -/
def psB (K : Kz) (s : Cs) (j : Nat) : Bool := decide (bsF (cG (yIt K s (j + 1))) (kN K) ≠ bsF (cG s) (kN K))
def psF (K : Kz) (s : Cs) : Int := if frs (psB K s) 50 = -1 then -1 else frs (psB K s) 50 + 1
theorem c_passed {X : PX} {σ : Sg} {p : Nat} {K : Kz} {s : Cs} {P : Int → Sg → Prop} (hp : p ∈ parL) (hp2 : p < 147) (ok : sOk K s) (nw : sNew s) (h : RP σ p K s) (k : ∀ τ : Sg, Out σ τ 146 156 → P (psF K s) τ) : CI X 61 [vR (some 160), vR (some p)] σ P := by
  have n7 := ok.e7.2.2.1
  have b0 := bsF_rng (cG s) (kN K)
  refine v_61 hp (c_begin hp hp2 ok nw h (fun τ f S => c_rich (by decide) ok S.1.1 ?_))
  have lp : ∀ (d j : Nat) (τ : Sg), j + d = 50 → Out σ τ 146 156 → SC τ K (yIt K s j) → (∀ i : Nat, i < j → psB K s i = false) → Ev X 61 11 [some (vR (some 160)), none, some (vI (bsF (cG s) (kN K))), some (vI ((j + 1 : Nat) : Int))] [] τ (fun v τ => ∃ x, v = some (vI x) ∧ P x τ) := by
    intro d
    induction d with
    | zero =>
      intro j τ hj f S al
      refine v_61_11 ⟨by omega, fun _ => ⟨_, rfl, ?_⟩, fun e => absurd (by omega) e⟩
      have := k τ f
      unfold psF at this
      rw [frs_none 50 (fun i hi => al i (by omega)), if_pos rfl] at this; exact this
    | succ d ih =>
      intro j τ hj f S al
      obtain ⟨okj, yj⟩ := yIt_ok ok nw.2.1 j (by omega)
      obtain ⟨okj1, yj1⟩ := yIt_ok ok nw.2.1 (j + 1) (by omega)
      have b1 := bsF_rng (cG (yIt K s (j + 1))) (kN K)
      refine v_61_11 ⟨by omega, fun e => absurd e (by omega), fun _ => c_collect okj S (by omega) (fun υ f2 S2 _ _ _ => c_rich (s := yIt K s (j + 1)) (by decide) okj1 S2.1.1 ⟨by omega, by omega, fun c => ih (j + 1) υ (by omega) (f.trans f2) S2 (fun i hi => ?_), fun c => ⟨_, rfl, ?_⟩⟩)⟩
      · rcases Nat.lt_or_ge i j with g | g
        · exact al i g
        · rw [show i = j by omega]; unfold psB; simp [c]
      · have e : psB K s j = true := by unfold psB; simp [c]
        have := k υ (f.trans f2)
        unfold psF at this
        rw [frs_eq e al 50 (by omega), if_neg (by omega)] at this; exact this
  exact lp 50 0 τ (by omega) f S (fun i hi => absurd hi (by omega))
theorem m_passed {X : PX} {σ : Sg} {o : Nat} {K : Kz} {s : Cs} {P : Int → Sg → Prop} (ok : sOk K s) (nw : sNew s) (S : SM σ o K s) (k : ∀ τ : Sg, FM σ τ → P (psF K s) τ) : CI X 244 [vR (some 170)] σ P := by
  have n7 := ok.e7.2.2.1
  have b0 := bsF_rng (cG s) (kN K)
  refine v_244 (m_rich ok S.1 ?_)
  have lp : ∀ (d j : Nat) (τ : Sg), j + d = 50 → FM σ τ → SM τ o K (yIt K s j) → (∀ i : Nat, i < j → psB K s i = false) → Ev X 244 3 [some (vR (some 170)), some (vI (bsF (cG s) (kN K)))] [] τ (fun v τ => ∃ x, v = some (vI x) ∧ P x τ) := by
    intro d
    induction d with
    | zero =>
      intro j τ hj f S al
      obtain ⟨okj, yj⟩ := yIt_ok ok nw.2.1 j (by omega)
      have h19 := S.1.2.2.2.2.2.1
      refine v_244_3 ⟨by omega, fun _ => ⟨_, rfl, ?_⟩, fun e => absurd (by omega) e⟩
      have := k τ f
      unfold psF at this
      rw [frs_none 50 (fun i hi => al i (by omega)), if_pos rfl] at this; exact this
    | succ d ih =>
      intro j τ hj f S al
      obtain ⟨okj, yj⟩ := yIt_ok ok nw.2.1 j (by omega)
      obtain ⟨okj1, yj1⟩ := yIt_ok ok nw.2.1 (j + 1) (by omega)
      have h19 := S.1.2.2.2.2.2.1
      have b1 := bsF_rng (cG (yIt K s (j + 1))) (kN K)
      refine v_244_3 ⟨by omega, fun e => absurd e (by omega), fun _ => m_year okj S (by omega) (fun υ f2 S2 _ _ => m_rich (s := yIt K s (j + 1)) okj1 S2.1 ⟨by omega, by omega, fun c => ih (j + 1) υ (by omega) (f.trans f2) S2 (fun i hi => ?_), fun c => ⟨_, rfl, ?_⟩⟩)⟩
      · rcases Nat.lt_or_ge i j with g | g
        · exact al i g
        · rw [show i = j by omega]; unfold psB; simp [c]
      · have e : psB K s j = true := by unfold psB; simp [c]
        have h192 : υ.1 170 19 = cY (yIt K s (j + 1)) := S2.1.2.2.2.2.2.1
        have := k υ (f.trans f2)
        unfold psF at this
        rw [frs_eq e al 50 (by omega), if_neg (by omega)] at this
        rw [h192, yj1]; exact this
  exact lp 50 0 σ (by omega) FM.rfl S (fun i hi => absurd hi (by omega))
/-! LEVEL -/
def lvB (K : Kz) (s : Cs) (j : Nat) : Bool := !yCh K (yIt K s j) (kN K)
theorem c_level {X : PX} {σ : Sg} {p : Nat} {K : Kz} {s : Cs} {P : Int → Sg → Prop} (hp : p ∈ parL) (hp2 : p < 147) (ok : sOk K s) (nw : sNew s) (h : RP σ p K s) (k : ∀ τ : Sg, Out σ τ 146 156 → P (frs (lvB K s) 51) τ) : CI X 62 [vR (some 160), vR (some p)] σ P := by
  refine v_62 hp (c_begin hp hp2 ok nw h (fun τ f S => ?_))
  have lp : ∀ (d j : Nat) (τ : Sg), j + d = 51 → Out σ τ 146 156 → SC τ K (yIt K s j) → (∀ i : Nat, i < j → lvB K s i = false) → Ev X 62 6 [some (vR (some 160)), none, some (vI j)] [] τ (fun v τ => ∃ x, v = some (vI x) ∧ P x τ) := by
    intro d
    induction d with
    | zero =>
      intro j τ hj f S al
      refine v_62_6 ⟨by omega, fun _ => ⟨_, rfl, ?_⟩, fun e => absurd (by omega) e⟩
      have := k τ f
      rw [frs_none 51 (fun i hi => al i (by omega))] at this; exact this
    | succ d ih =>
      intro j τ hj f S al
      obtain ⟨okj, yj⟩ := yIt_ok ok nw.2.1 j (by omega)
      refine v_62_6 ⟨by omega, fun e => absurd e (by omega), fun _ => c_collect okj S (by omega) (fun υ f2 S2 _ _ u9 => ?_)⟩
      rw [u9]
      rcases e : yCh K (yIt K s j) (kN K) with _ | _
      · have el : lvB K s j = true := by unfold lvB; rw [e]; rfl
        refine ⟨by decide, fun c => absurd rfl c, fun _ => ⟨_, rfl, ?_⟩⟩
        have := k υ (f.trans f2)
        rw [frs_eq el al 51 (by omega)] at this; exact this
      · have el : lvB K s j = false := by unfold lvB; rw [e]; rfl
        refine ⟨by decide, fun _ => ih (j + 1) υ (by omega) (f.trans f2) S2 (fun i hi => ?_), fun c => absurd (by decide) c⟩
        rcases Nat.lt_or_ge i j with g | g
        · exact al i g
        · rw [show i = j by omega]; exact el
  exact lp 51 0 τ (by omega) f S (fun i hi => absurd hi (by omega))
theorem any_f {b : Nat → Bool} : ∀ k : Nat, any b k = false ↔ ∀ i : Nat, i < k → b i = false
  | 0 => ⟨fun _ i hi => absurd hi (by omega), fun _ => rfl⟩
  | k + 1 => by
    unfold any
    rw [Bool.or_eq_false_iff, any_f k]
    constructor
    · rintro ⟨h1, h2⟩ i hi
      rcases Nat.lt_or_ge i k with g | g
      · exact h1 i g
      · rw [show i = k by omega]; exact h2
    · intro h
      exact ⟨fun i hi => h i (by omega), h k (by omega)⟩
def FAs (σ τ : Sg) (o : Nat) (K : Kz) (s : Cs) : Prop := FA σ τ ∧ SM τ o K s
theorem SM.mv {σ τ : Sg} {o : Nat} {K : Kz} {s : Cs} (h : SM σ o K s) (f1 : ∀ j : Nat, 11 ≤ j → j ≤ 21 → τ.1 170 j = σ.1 170 j) (f2 : τ.2 171 = σ.2 171) (f3 : τ.2 174 = σ.2 174) (f4 : τ.2 175 = σ.2 175) : SM τ o K s := by
  obtain ⟨⟨hx, a14, a15, a16, a17, a19, a20, a21, ag⟩, a18, at'⟩ := h
  refine ⟨⟨hx.mv (fun j hj => f1 j (by omega) (by omega)) f2, ?_, ?_, ?_, ?_, ?_, ?_, ?_, ?_⟩, ?_, ?_⟩
  · rw [f1 14 (by omega) (by omega)]; exact a14
  · rw [f1 15 (by omega) (by omega)]; exact a15
  · rw [f1 16 (by omega) (by omega)]; exact a16
  · rw [f1 17 (by omega) (by omega)]; exact a17
  · rw [f1 19 (by omega) (by omega)]; exact a19
  · rw [f1 20 (by omega) (by omega)]; exact a20
  · rw [f1 21 (by omega) (by omega)]; exact a21
  · rw [f3]; exact ag
  · rw [f1 18 (by omega) (by omega)]; exact a18
  · rw [f4]; exact at'
theorem m_level {X : PX} {σ : Sg} {o : Nat} {K : Kz} {s : Cs} {P : Int → Sg → Prop} (ok : sOk K s) (nw : sNew s) (S : SM σ o K s) (k : ∀ τ : Sg, FA σ τ → P (frs (lvB K s) 51) τ) : CI X 245 [vR (some 170)] σ P := by
  have n7 := ok.e7.2.2.1
  have lp : ∀ (d j : Nat) (τ : Sg), j + d = 51 → FA σ τ → SM τ o K (yIt K s j) → (∀ i : Nat, i < j → lvB K s i = false) → Ev X 245 2 [some (vR (some 170)), some (vI j), none, none] [] τ (fun v τ => ∃ x, v = some (vI x) ∧ P x τ) := by
    intro d
    induction d with
    | zero =>
      intro j τ hj f S al
      refine v_245_2 ⟨by omega, fun _ => ⟨_, rfl, ?_⟩, fun e => absurd (by omega) e⟩
      have := k τ f
      rw [frs_none 51 (fun i hi => al i (by omega))] at this; exact this
    | succ d ih =>
      intro j τ hj f S al
      obtain ⟨okj, yj⟩ := yIt_ok ok nw.2.1 j (by omega)
      obtain ⟨okj1, yj1⟩ := yIt_ok ok nw.2.1 (j + 1) (by omega)
      have cp : ∀ (d2 h : Nat) (ω : Sg), h + d2 = 7 → FA σ ω → SM ω o K (yIt K s j) → (∀ i : Nat, i < h → i < kN K → ω.2 180 i = cG (yIt K s j) i) → Ev X 245 7 [some (vR (some 170)), some (vI j), some (vI h), none] [] ω (fun v τ => ∃ x, v = some (vI x) ∧ P x τ) := by
        intro d2
        induction d2 with
        | zero =>
          intro h ω hh f S ah
          refine v_245_7 ⟨by omega, fun _ => m_year okj S (by omega) (fun υ f2 S2 _ _ => ?_), fun e => absurd (by omega) e⟩
          have ah2 : ∀ i : Nat, i < kN K → υ.2 180 i = cG (yIt K s j) i := fun i hi => by rw [f2.1.2.2 180 (by omega) (by omega) (by omega)]; exact ah i (by omega) hi
          have ag2 : ∀ i : Nat, i < kN K → υ.2 174 i = yG K (yIt K s j) i := S2.1.2.2.2.2.2.2.2.2
          have h12 := S2.mx.2.1
          have fu := f.trans f2.fa
          have cm : ∀ (d3 h : Nat) (l : Bool), h + d3 = kN K → (l = true ↔ ∀ i : Nat, i < h → yG K (yIt K s j) i = cG (yIt K s j) i) → Ev X 245 26 [some (vR (some 170)), some (vI j), some (vI (if l then 1 else 0)), some (vI h)] [] υ (fun v τ => ∃ x, v = some (vI x) ∧ P x τ) := by
            intro d3
            induction d3 with
            | zero =>
              intro h l hh hl
              have hk : h = kN K := by omega
              rw [hk] at hl ⊢
              have el : lvB K s j = l := by
                rcases l with _ | _
                · rcases e : lvB K s j with _ | _
                  · rfl
                  · exfalso
                    unfold lvB yCh at e
                    rw [Bool.not_eq_true', any_f] at e
                    have := hl.mpr (fun i hi => by have := e i hi; simpa using this)
                    cases this
                · unfold lvB yCh
                  rw [Bool.not_eq_true', any_f]
                  intro i hi
                  have := hl.mp rfl i hi
                  simp [this]
              refine v_245_26 ⟨by omega, by omega, fun _ => ?_, fun e => absurd (by omega) e⟩
              rcases l with _ | _
              · refine ⟨by decide, fun _ => ih (j + 1) υ (by omega) fu S2 (fun i hi => ?_), fun e => absurd rfl e⟩
                rcases Nat.lt_or_ge i j with g | g
                · exact al i g
                · rw [show i = j by omega]; exact el
              · refine ⟨by decide, fun e => absurd e (by decide), fun _ => ⟨_, rfl, ?_⟩⟩
                have := k υ fu
                rw [frs_eq el al 51 (by omega)] at this; exact this
            | succ d3 ih3 =>
              intro h l hh hl
              have g1 := okj1.2.1.2.2.2 h (by omega)
              have g2 := okj.2.1.2.2.2 h (by omega)
              have e1 : cG (yIt K s (j + 1)) h = yG K (yIt K s j) h := rfl
              rw [e1] at g1
              refine v_245_26 ?_
              rw [Int.toNat_natCast, ag2 h (by omega), ah2 h (by omega)]
              rcases l with _ | _
              · refine ⟨by omega, by omega, fun e => absurd e (by omega), fun _ => ⟨by decide, fun _ => ih3 (h + 1) false (by omega) ⟨fun e => (by cases e), fun e => hl.mpr (fun i hi => e i (by omega))⟩, fun e => absurd rfl e⟩⟩
              · refine ⟨by omega, by omega, fun e => absurd e (by omega), fun _ => ⟨by decide, fun e => absurd e (by decide), fun _ => ⟨by omega, by omega, by omega, fun c => ih3 (h + 1) false (by omega) ⟨fun e => (by cases e), fun e => absurd (e h (by omega)) c⟩, fun c => ih3 (h + 1) true (by omega) ⟨fun _ i hi => ?_, fun _ => rfl⟩⟩⟩⟩
                rcases Nat.lt_or_ge i h with g | g
                · exact hl.mp rfl i g
                · rw [show i = h by omega]; omega
          exact cm (kN K) 0 true (by omega) ⟨fun _ i hi => absurd hi (by omega), fun _ => rfl⟩
        | succ d2 ih2 =>
          intro h ω hh f S ah
          refine v_245_7 ⟨by omega, fun e => absurd e (by omega), fun _ => ⟨by omega, ?_⟩⟩
          rw [Int.toNat_natCast]
          refine ih2 (h + 1) _ (by omega) (f.trans ⟨fun _ _ => rfl, fun c hc => ?_⟩) (S.mv (fun _ _ _ => rfl) ?_ ?_ ?_) (fun i hi hn => ?_)
          · dsimp only; rw [up2_ne _ _ _ (by omega)]
          · dsimp only; rw [up2_ne _ _ _ (by omega)]
          · dsimp only; rw [up2_ne _ _ _ (by omega)]
          · dsimp only; rw [up2_ne _ _ _ (by omega)]
          · dsimp only; rw [up2_if]
            by_cases c : i = h
            · rw [if_pos c, c]; exact S.1.2.2.2.2.2.2.2.2 h (by omega)
            · rw [if_neg c]; exact ah i (by omega) hn
      exact v_245_2 ⟨by omega, fun e => absurd e (by omega), fun _ => cp 7 0 τ (by omega) f S (fun i hi => absurd hi (by omega))⟩
  exact v_245 (lp 51 0 σ (by omega) FA.rfl S (fun i hi => absurd hi (by omega)))
/-! SPREAD -/
theorem c_isEx {X : PX} {σ : Sg} {K : Kz} {s : Cs} {h : Nat} {P : Int → Sg → Prop} (ok : sOk K s) (S : SC σ K s) (hh : h < 7) (q : P (if (zE K s).testBit h then 1 else 0) σ) : CI X 31 [vR (some 146), vI h] σ P := by
  have e2 := ok.e7.2.1
  have b := bit_0 (a := zE K s) (k := h) (by omega) (by omega)
  refine v_31 ?_
  rw [S.2.1]
  refine ⟨bit_rng (by omega) (by omega), fun c => ⟨_, rfl, ?_⟩, fun c => ⟨_, rfl, ?_⟩⟩
  · rw [if_neg (fun x => b.mpr x c)] at q; exact q
  · rw [if_pos (b.mp c)] at q; exact q
def spM (K : Kz) (s : Cs) : Nat → Int
  | 0 => 0
  | h + 1 => max (spM K s h) (cT K s h)
def spL (K : Kz) (s : Cs) : Nat → Int
  | 0 => -1
  | h + 1 => if (zE K s).testBit h = true then spL K s h else if spL K s h = -1 then cT K s h else min (spL K s h) (cT K s h)
theorem sp_rng {K : Kz} {s : Cs} (ok : sOk K s) : ∀ h : Nat, (0 ≤ spM K s h ∧ spM K s h ≤ 99) ∧ -1 ≤ spL K s h ∧ spL K s h ≤ 99
  | 0 => by unfold spM spL; omega
  | h + 1 => by
    have a := sp_rng ok h
    have b := ok.t.1 h
    unfold spM spL
    refine ⟨by omega, ?_⟩
    split
    · omega
    · split <;> omega
def spF (K : Kz) (s : Cs) : Int := if spL K s (kN K) = -1 then 0 else spM K s (kN K) - spL K s (kN K)
theorem c_spread {X : PX} {σ : Sg} {p : Nat} {K : Kz} {s : Cs} {P : Int → Sg → Prop} (hp : p ∈ parL) (hp2 : p + 6 < 131) (ok : sOk K s) (nw : sNew s) (h : RP σ p K s) (k : ∀ τ : Sg, Out σ τ 146 156 → P (spF K s) τ) : CI X 63 [vR (some 160), vR (some p)] σ P := by
  have n7 := ok.e7.2.2.1
  refine v_63 hp (c_begin hp (by omega) ok nw h (fun τ f S => ?_))
  have tr : RP τ p K s := h.out f (by omega)
  have r2 := tr.2.2.1
  have lp : ∀ (d h : Nat), h + d = kN K → Ev X 63 10 [some (vR (some 160)), some (vR (some p)), some (vI (spM K s h)), some (vI (spL K s h)), some (vI h), none] [] τ (fun v τ => ∃ x, v = some (vI x) ∧ P x τ) := by
    intro d
    induction d with
    | zero =>
      intro h hh
      have sr := sp_rng ok h
      have := k τ f
      unfold spF at this
      rw [← show h = kN K by omega] at this
      refine v_63_10 hp ⟨by omega, by omega, fun _ => ⟨by omega, fun c => ⟨_, rfl, ?_⟩, fun c => ⟨_, rfl, ?_⟩⟩, fun e => absurd (by omega) e⟩
      · rw [if_neg c] at this; exact this
      · rw [if_pos (by omega)] at this; exact this
    | succ d ih =>
      intro h hh
      have sr := sp_rng ok h
      have th := ok.t.1 h
      have nx := ih (h + 1) (by omega)
      rw [show spM K s (h + 1) = max (spM K s h) (cT K s h) from rfl, show spL K s (h + 1) = if (zE K s).testBit h = true then spL K s h else if spL K s h = -1 then cT K s h else min (spL K s h) (cT K s h) from rfl] at nx
      refine v_63_10 hp ⟨by omega, by omega, fun e => absurd e (by omega), fun _ => ⟨fun e => absurd e (by omega), fun _ => c_taxOf (v := 154) (by decide) (by omega) ?_⟩⟩
      rw [show τ.2 (154 + 1) h = cT K s h from S.2.2.2 h (by omega)]
      refine ⟨by omega, by omega, c_isEx ok S (by omega) ?_⟩
      rcases e : (zE K s).testBit h with _ | _
      · rw [e, if_neg (by decide)] at nx
        refine ⟨by decide, fun c => absurd rfl c, fun _ => ⟨by omega, fun c => ?_, fun c => ?_⟩⟩
        · rw [if_neg c] at nx; exact nx
        · rw [if_pos (by omega)] at nx; exact nx
      · rw [e, if_pos rfl] at nx
        exact ⟨by decide, fun _ => nx, fun c => absurd (by decide) c⟩
  exact lp (kN K) 0 (by omega)
theorem m_spread {X : PX} {σ : Sg} {o : Nat} {K : Kz} {s : Cs} {P : Int → Sg → Prop} (ok : sOk K s) (S : SM σ o K s) (q : P (spF K s) σ) : CI X 246 [vR (some 170)] σ P := by
  obtain ⟨e1, e2, n7, e4⟩ := ok.e7
  obtain ⟨⟨hx, a14, a15, a16, a17, a19, a20, a21, ag⟩, a18, at'⟩ := id S
  have h12 := hx.2.1
  have lp : ∀ (d h : Nat) (x2 : Int), h + d = kN K → x2 = (if spL K s h = -1 then 99999999 else spL K s h) → Ev X 246 6 [some (vR (some 170)), some (vI (spM K s h)), some (vI x2), some (vI h)] [] σ (fun v τ => ∃ x, v = some (vI x) ∧ P x τ) := by
    intro d
    induction d with
    | zero =>
      intro h x2 hh hx2
      have sr := sp_rng ok h
      unfold spF at q
      rw [← show h = kN K by omega] at q
      refine v_246_6 ⟨by omega, by omega, fun _ => ⟨by rw [hx2]; split <;> omega, fun c => ⟨_, rfl, ?_⟩, fun c => ⟨_, rfl, ?_⟩⟩, fun e => absurd (by omega) e⟩
      · by_cases z : spL K s h = -1
        · rw [if_pos z] at hx2; omega
        · rw [if_neg z] at q hx2; rw [hx2]; exact q
      · by_cases z : spL K s h = -1
        · rw [if_pos z] at q; exact q
        · rw [if_neg z] at hx2; omega
    | succ d ih =>
      intro h x2 hh hx2
      have sr := sp_rng ok h
      have th := ok.t.1 h
      have xr : InR x2 := by rw [hx2]; split <;> omega
      have nx : ∀ (x1 x2' : Int), x1 = spM K s (h + 1) → x2' = (if spL K s (h + 1) = -1 then 99999999 else spL K s (h + 1)) → Ev X 246 6 [some (vR (some 170)), some (vI x1), some (vI x2'), some (vI ((h : Int) + 1))] [] σ (fun v τ => ∃ x, v = some (vI x) ∧ P x τ) := fun x1 x2' h1 h2 => by
        rw [h1]; exact ih (h + 1) x2' (by omega) h2
      have em : spM K s (h + 1) = max (spM K s h) (cT K s h) := rfl
      have el : spL K s (h + 1) = if (zE K s).testBit h = true then spL K s h else if spL K s h = -1 then cT K s h else min (spL K s h) (cT K s h) := rfl
      have fin : ∀ x1 : Int, x1 = spM K s (h + 1) → CI X 198 [vR (some 170), vI h] σ (fun r7 τ1 => InR r7 ∧ (r7 ≠ 0 → Ev X 246 6 [some (vR (some 170)), some (vI x1), some (vI x2), some (vI ((h : Int) + 1))] [] τ1 (fun v τ => ∃ x, v = some (vI x) ∧ P x τ)) ∧ (¬ r7 ≠ 0 → InR (τ1.2 175 h) ∧ InR x2 ∧ (x2 ≤ τ1.2 175 h → Ev X 246 6 [some (vR (some 170)), some (vI x1), some (vI x2), some (vI ((h : Int) + 1))] [] τ1 (fun v τ => ∃ x, v = some (vI x) ∧ P x τ)) ∧ (¬ x2 ≤ τ1.2 175 h → Ev X 246 6 [some (vR (some 170)), some (vI x1), some (vI (τ1.2 175 h)), some (vI ((h : Int) + 1))] [] τ1 (fun v τ => ∃ x, v = some (vI x) ∧ P x τ)))) := fun x1 hx1 => by
        refine m_isEx e2 a18 (by omega) ?_
        rw [at' h (by omega)]
        rcases e : (zE K s).testBit h with _ | _
        · rw [e, if_neg (by decide)] at el
          refine ⟨by decide, fun c => absurd rfl c, fun _ => ⟨by omega, xr, fun c => nx x1 x2 hx1 ?_, fun c => nx x1 _ hx1 ?_⟩⟩
          · rw [el]
            by_cases z : spL K s h = -1
            · rw [if_pos z] at hx2; omega
            · rw [if_neg z] at hx2 ⊢; rw [if_neg (by omega)]; omega
          · rw [el]
            by_cases z : spL K s h = -1
            · rw [if_pos z, if_neg (by omega)]
            · rw [if_neg z] at hx2 ⊢; rw [if_neg (by omega)]; omega
        · rw [e, if_pos rfl] at el
          refine ⟨by decide, fun _ => nx x1 x2 hx1 ?_, fun c => absurd (by decide) c⟩
          rw [el]; exact hx2
      refine v_246_6 ?_
      rw [Int.toNat_natCast, at' h (by omega)]
      refine ⟨by omega, by omega, fun e => absurd e (by omega), fun _ => ⟨by omega, by omega, by omega, fun c => fin _ (by omega), fun c => fin _ (by omega)⟩⟩
  exact v_246 (lp (kN K) 0 _ (by omega) rfl)
/-! UNEVEN -/
def unC (K : Kz) (s : Cs) (a b : Nat) : Bool := !(zE K s).testBit a && !(zE K s).testBit b && decide (cG s a = cG s b) && decide (cT K s a ≠ cT K s b)
def unI (K : Kz) (s : Cs) (a : Nat) : Nat → Int
  | 0 => 0
  | b + 1 => unI K s a b + (if unC K s a b then 1 else 0)
def unT (K : Kz) (s : Cs) : Nat → Int
  | 0 => 0
  | a + 1 => unT K s a + unI K s a a
theorem unI_rng (K : Kz) (s : Cs) (a : Nat) : ∀ b : Nat, 0 ≤ unI K s a b ∧ unI K s a b ≤ b
  | 0 => by unfold unI; omega
  | b + 1 => by
    have := unI_rng K s a b
    unfold unI
    split <;> omega
theorem unT_rng (K : Kz) (s : Cs) : ∀ a : Nat, a ≤ 7 → 0 ≤ unT K s a ∧ unT K s a ≤ 7 * a
  | 0 => fun _ => by unfold unT; omega
  | a + 1 => fun h => by
    have := unT_rng K s a (by omega)
    have := unI_rng K s a a
    unfold unT
    omega
theorem c_uneven {X : PX} {σ : Sg} {p : Nat} {K : Kz} {s : Cs} {P : Int → Sg → Prop} (hp : p ∈ parL) (hp2 : p + 6 < 131) (ok : sOk K s) (nw : sNew s) (h : RP σ p K s) (k : ∀ τ : Sg, Out σ τ 146 156 → P (unT K s (kN K)) τ) : CI X 64 [vR (some 160), vR (some p)] σ P := by
  have n7 := ok.e7.2.2.1
  refine v_64 hp (c_begin hp (by omega) ok nw h (fun τ f S => ?_))
  have tr : RP τ p K s := h.out f (by omega)
  have r2 := tr.2.2.1
  have gd : ∀ i : Nat, i < kN K → τ.2 (p + 1) i = cG s i := fun i hi => (tr.2.2.2.2.2.2 i hi).1
  have tx : ∀ i : Nat, i < 7 → τ.2 (154 + 1) i = cT K s i := fun i hi => S.2.2.2 i hi
  have inn : ∀ (a : Nat), a < kN K → Ev X 64 8 [some (vR (some 160)), some (vR (some p)), some (vI (unT K s a + unI K s a a)), some (vI ((a : Int) + 1)), none] [] τ (fun v τ => ∃ x, v = some (vI x) ∧ P x τ) → ∀ (d b : Nat), b + d = a → Ev X 64 17 [some (vR (some 160)), some (vR (some p)), some (vI (unT K s a + unI K s a b)), some (vI a), some (vI b)] [] τ (fun v τ => ∃ x, v = some (vI x) ∧ P x τ) := by
    intro a ha kk d
    induction d with
    | zero =>
      intro b hb
      rw [show b = a by omega]
      exact v_64_17 hp ⟨by omega, by omega, fun _ => kk, fun e => absurd (by omega) e⟩
    | succ d ih =>
      intro b hb
      have nx := ih (b + 1) (by omega)
      rw [show unI K s a (b + 1) = unI K s a b + (if unC K s a b then 1 else 0) from rfl] at nx
      have g1 := ok.2.1.2.2.2 a ha
      have g2 := ok.2.1.2.2.2 b (by omega)
      have t1 := ok.t.1 a
      have t2 := ok.t.1 b
      have no : unC K s a b = false → Ev X 64 17 [some (vR (some 160)), some (vR (some p)), some (vI (unT K s a + unI K s a b)), some (vI a), some (vI ((b : Int) + 1))] [] τ (fun v τ => ∃ x, v = some (vI x) ∧ P x τ) := fun e => by
        rw [e, if_neg (by decide), Int.add_zero] at nx; exact nx
      refine v_64_17 hp ⟨by omega, by omega, fun e => absurd e (by omega), fun _ => c_isEx ok S (by omega) ?_⟩
      rcases ea : (zE K s).testBit a with _ | _
      · refine ⟨by decide, fun c => absurd rfl c, fun _ => c_isEx ok S (by omega) ?_⟩
        rcases eb : (zE K s).testBit b with _ | _
        · refine ⟨by decide, fun c => absurd rfl c, fun _ => ?_⟩
          rw [Int.toNat_natCast, Int.toNat_natCast, gd a ha, gd b (by omega)]
          refine ⟨by omega, by omega, by omega, by omega, fun c => no (by unfold unC; simp [c]), fun c => c_taxOf (v := 154) (by decide) (by omega) (c_taxOf (v := 154) (by decide) (by omega) ?_)⟩
          rw [tx a (by omega), tx b (by omega)]
          refine ⟨by omega, by omega, fun c2 => no (by unfold unC; simp [c2]), fun c2 => ?_⟩
          have e : unC K s a b = true := by
            unfold unC
            rw [ea, eb]
            have : cG s a = cG s b := by omega
            simp [this, c2]
          rw [e, if_pos rfl] at nx
          rw [Int.add_assoc]; exact nx
        · exact ⟨by decide, fun _ => no (by unfold unC; simp [eb]), fun c => absurd (by decide) c⟩
      · exact ⟨by decide, fun _ => no (by unfold unC; simp [ea]), fun c => absurd (by decide) c⟩
  have lp : ∀ (d a : Nat), a + d = kN K → Ev X 64 8 [some (vR (some 160)), some (vR (some p)), some (vI (unT K s a)), some (vI a), none] [] τ (fun v τ => ∃ x, v = some (vI x) ∧ P x τ) := by
    intro d
    induction d with
    | zero =>
      intro a ha
      refine v_64_8 hp ⟨by omega, by omega, fun _ => ⟨_, rfl, ?_⟩, fun e => absurd (by omega) e⟩
      rw [show a = kN K by omega]; exact k τ f
    | succ d ih =>
      intro a ha
      refine v_64_8 hp ⟨by omega, by omega, fun e => absurd e (by omega), fun _ => ⟨fun e => absurd e (by omega), fun _ => ?_⟩⟩
      have := inn a (by omega) (ih (a + 1) (by omega)) a 0 (by omega)
      rw [show unT K s a + unI K s a 0 = unT K s a from Int.add_zero _] at this
      exact this
  exact lp (kN K) 0 (by omega)
theorem m_uneven {X : PX} {σ : Sg} {o : Nat} {K : Kz} {s : Cs} {P : Int → Sg → Prop} (ok : sOk K s) (S : SM σ o K s) (q : P (unT K s (kN K)) σ) : CI X 247 [vR (some 170)] σ P := by
  obtain ⟨e1, e2, n7, e4⟩ := ok.e7
  obtain ⟨⟨hx, a14, a15, a16, a17, a19, a20, a21, ag⟩, a18, at'⟩ := id S
  have h12 := hx.2.1
  have inn : ∀ (a : Nat), a < kN K → Ev X 247 4 [some (vR (some 170)), some (vI (unT K s a + unI K s a a)), some (vI ((a : Int) + 1)), none] [] σ (fun v τ => ∃ x, v = some (vI x) ∧ P x τ) → ∀ (d b : Nat), b + d = a → Ev X 247 10 [some (vR (some 170)), some (vI (unT K s a + unI K s a b)), some (vI a), some (vI b)] [] σ (fun v τ => ∃ x, v = some (vI x) ∧ P x τ) := by
    intro a ha kk d
    induction d with
    | zero =>
      intro b hb
      rw [show b = a by omega]
      exact v_247_10 ⟨by omega, by omega, fun _ => kk, fun e => absurd (by omega) e⟩
    | succ d ih =>
      intro b hb
      have nx := ih (b + 1) (by omega)
      rw [show unI K s a (b + 1) = unI K s a b + (if unC K s a b then 1 else 0) from rfl] at nx
      have g1 := ok.2.1.2.2.2 a ha
      have g2 := ok.2.1.2.2.2 b (by omega)
      have t1 := ok.t.1 a
      have t2 := ok.t.1 b
      have no : unC K s a b = false → Ev X 247 10 [some (vR (some 170)), some (vI (unT K s a + unI K s a b + 0)), some (vI a), some (vI ((b : Int) + 1))] [] σ (fun v τ => ∃ x, v = some (vI x) ∧ P x τ) := fun e => by
        rw [e, if_neg (by decide), Int.add_zero] at nx; rw [Int.add_zero]; exact nx
      refine v_247_10 ⟨by omega, by omega, fun e => absurd e (by omega), fun _ => m_isEx e2 a18 (by omega) ?_⟩
      rcases ea : (zE K s).testBit a with _ | _
      · refine ⟨by decide, fun c => absurd rfl c, fun _ => m_isEx e2 a18 (by omega) ?_⟩
        rcases eb : (zE K s).testBit b with _ | _
        · refine ⟨by decide, fun c => absurd rfl c, fun _ => ?_⟩
          rw [Int.toNat_natCast, Int.toNat_natCast, ag a ha, ag b (by omega), at' a ha, at' b (by omega)]
          refine ⟨by omega, by omega, by omega, by omega, fun c => no (by unfold unC; simp [c]), fun c => ⟨by omega, by omega, fun c2 => no (by unfold unC; simp [c2]), fun c2 => ?_⟩⟩
          have e : unC K s a b = true := by
            unfold unC
            rw [ea, eb]
            have : cG s a = cG s b := by omega
            simp [this, c2]
          rw [e, if_pos rfl] at nx
          rw [Int.add_assoc]; exact nx
        · exact ⟨by decide, fun _ => no (by unfold unC; simp [eb]), fun c => absurd (by decide) c⟩
      · exact ⟨by decide, fun _ => no (by unfold unC; simp [ea]), fun c => absurd (by decide) c⟩
  have lp : ∀ (d a : Nat), a + d = kN K → Ev X 247 4 [some (vR (some 170)), some (vI (unT K s a)), some (vI a), none] [] σ (fun v τ => ∃ x, v = some (vI x) ∧ P x τ) := by
    intro d
    induction d with
    | zero =>
      intro a ha
      refine v_247_4 ⟨by omega, by omega, fun _ => ⟨_, rfl, ?_⟩, fun e => absurd (by omega) e⟩
      rw [show a = kN K by omega]; exact q
    | succ d ih =>
      intro a ha
      refine v_247_4 ⟨by omega, by omega, fun e => absurd e (by omega), fun _ => ?_⟩
      have := inn a (by omega) (ih (a + 1) (by omega)) a 0 (by omega)
      rw [show unT K s a + unI K s a 0 = unT K s a from Int.add_zero _] at this
      exact this
  exact v_247 (lp (kN K) 0 (by omega))
def paF (K : Kz) (s : Cs) (w : Int) : Int := if w = 0 then psF K s else if w = 1 then frs (lvB K s) 51 else if w = 2 then spF K s else if w = 3 then unT K s (kN K) else -2
theorem s_passed {X : PX} : Sm_29 X Rel := by
  intro a w ha hw σ hR
  refine same_P (a := a) hR (-2) (by omega) (fun hc => ?_) (fun τ hR2 hc => ?_) (fun K s a2 hc T => ?_)
  · exact v_154 (c_hasN (s := 0) hR (by omega) ha hc ⟨by omega, fun e => absurd rfl e, fun _ => ⟨_, rfl, Out.rfl, rfl⟩⟩)
  · exact v_248 (m_isPN hR2 ha hc ⟨by omega, fun e => absurd rfl e, fun _ => ⟨_, rfl, FA.rfl, rfl⟩⟩)
  · obtain ⟨⟨tp, tp2⟩, ok, nw, tr, tm⟩ := id T
    have n7 := ok.e7.2.2.1
    have x1 := frs_rng (psB K s) 50
    have x2 := frs_rng (lvB K s) 51
    have x3 := sp_rng ok (kN K)
    have x4 := unT_rng K s (kN K) n7
    refine ⟨paF K s w, ?_, v_154 (c_hasY (s := 0) hR (by omega) ha hc ⟨by omega, fun _ => ⟨by omega, hw, fun e => ?_, fun e => ?_, fun e => ?_, fun e => ?_, fun e => ⟨_, rfl, Out.rfl, ?_⟩⟩, fun e => absurd (by omega) e⟩), fun τ hR2 hc2 T2 _ => v_248 (m_isPY hR2 ha hc2 T2 (fun υ g S _ => ⟨by omega, fun _ => ⟨hw, fun e => ?_, fun e => ?_, fun e => ?_, fun e => ?_, fun e => ⟨_, rfl, g.1, ?_⟩⟩, fun e => absurd (by omega) e⟩))⟩
    · unfold paF psF spF
      repeat' split
      all_goals omega
    · rw [e]; exact c_passed tp (by omega) ok nw tr (fun τ f => ⟨_, rfl, f.c, by unfold paF; rw [if_pos rfl]⟩)
    · rw [e]; exact c_level tp (by omega) ok nw tr (fun τ f => ⟨_, rfl, f.c, by unfold paF; rw [if_neg (by omega), if_pos rfl]⟩)
    · rw [e]; exact c_spread tp tp2 ok nw tr (fun τ f => ⟨_, rfl, f.c, rfl⟩)
    · rw [e]; exact c_uneven tp tp2 ok nw tr (fun τ f => ⟨_, rfl, f.c, rfl⟩)
    · unfold paF; rw [if_neg (by omega), if_neg (by omega), if_neg (by omega), if_neg (by omega)]
    · rw [e]; exact m_passed ok nw S (fun τ f => ⟨_, rfl, g.1.trans f.fa, by unfold paF; rw [if_pos rfl]⟩)
    · rw [e]; exact m_level ok nw S (fun τ f => ⟨_, rfl, g.1.trans f, by unfold paF; rw [if_neg (by omega), if_pos rfl]⟩)
    · rw [e]; exact m_spread ok S ⟨_, rfl, g.1, rfl⟩
    · rw [e]; exact m_uneven ok S ⟨_, rfl, g.1, rfl⟩
    · unfold paF; rw [if_neg (by omega), if_neg (by omega), if_neg (by omega), if_neg (by omega)]
