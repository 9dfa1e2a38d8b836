/-! RANK -/
def rkB (K : Kz) (s : Cs) (h k : Nat) : Bool := (gIt (kR K) 0 (cO s) k).testBit h
def rkF (K : Kz) (s : Cs) (h : Nat) : Int := frs (rkB K s h) 8
theorem frs_none {b : Nat → Bool} : ∀ k : Nat, (∀ j : Nat, j < k → b j = false) → frs b k = -1
  | 0 => fun _ => rfl
  | k + 1 => fun h => by
    unfold frs
    rw [frs_none k (fun j hj => h j (by omega)), h k (by omega)]; simp
theorem frs_eq {b : Nat → Bool} {v : Nat} (hv : b v = true) (hn : ∀ j : Nat, j < v → b j = false) : ∀ k : Nat, v < k → frs b k = v
  | 0 => fun h => absurd h (by omega)
  | k + 1 => fun h => by
    unfold frs
    rcases Nat.lt_or_ge v k with g | g
    · rw [frs_eq hv hn k g, if_neg (by omega)]
    · have e : v = k := by omega
      rw [frs_none k (fun j hj => hn j (by omega)), ← e, if_pos ⟨rfl, hv⟩]
theorem rkF_rng (K : Kz) (s : Cs) (h : Nat) : -1 ≤ rkF K s h ∧ rkF K s h ≤ 7 := by
  have := frs_rng (rkB K s h) 8
  unfold rkF; omega
theorem c_step {X : PX} {σ : Sg} {p S : Nat} {K : Kz} {s : Cs} {P : Int → Sg → Prop} (hp : p ∈ parL) (ok : sOk K s) (hr : RP σ p K s) (hS : S < 2 ^ kN K) (q : P (gStp (kR K) 0 S) σ) : CI X 87 [vR (some p), vI S] σ P := by
  obtain ⟨e1, e2, e3, e4⟩ := ok.e7
  obtain ⟨r0, r1, r2, r3, r4, r5, r6⟩ := id hr
  have g10 := ok.1.1
  have r4a := r4.1
  have lp : ∀ (d r : Nat), r + d = (kR K).1 → Ev X 87 4 [some (vR (some p)), some (vI S), some (vI (gOne (kR K) 0 S r)), some (vI r)] [] σ (fun v τ => ∃ x, v = some (vI x) ∧ P x τ) := by
    intro d
    induction d with
    | zero =>
      intro r hr
      refine v_87_4 hp ⟨by omega, by omega, fun _ => ⟨_, rfl, ?_⟩, fun e => absurd (by omega) e⟩
      rw [show r = (kR K).1 by omega]; exact q
    | succ d ih =>
      intro r hr
      have nx := ih (r + 1) (by omega)
      rw [show gOne (kR K) 0 S (r + 1) = if gHol (kR K) 0 S r then gOne (kR K) 0 S r ||| 2 ^ (kR K).2.1 r else gOne (kR K) 0 S r from rfl] at nx
      obtain ⟨g1, g2, g3, g4⟩ := ok.1.2.2 r (by omega)
      obtain ⟨q1, q2⟩ := r4.2 r (by omega)
      have nl := nd_lt ok.1 (r := r) (by omega)
      have ol := gOne_lt (cut := 0) ok.1 hS r (by omega)
      have al : S &&& gNd (kR K) r ≤ S := Nat.and_le_left
      have hol : gHol (kR K) 0 S r = true ↔ S &&& gNd (kR K) r = gNd (kR K) r := by
        rw [gHol.iff, and_nd]
        exact ⟨fun h => h.2, fun h => ⟨Nat.zero_testBit r, h⟩⟩
      refine v_87_4 hp ?_
      rw [Int.toNat_natCast, q1, q2, b_and (by omega) (by omega)]
      refine ⟨by omega, by omega, fun e => absurd e (by omega), fun _ => ⟨fun e => absurd e (by omega), fun _ => ⟨by omega, by omega, by omega, fun c => ?_, fun c => ?_⟩⟩⟩
      · rw [if_neg (fun x => c (by rw [hol.mp x]))] at nx; exact nx
      · have p7 : 2 ^ (kR K).2.1 r < 2 ^ 7 := pow_lt_n (by omega)
        rw [if_pos (hol.mpr (by omega))] at nx
        rw [b_one (by omega), ior_n (by omega) (by omega)]
        exact nx
  exact v_87 hp (lp (kR K).1 0 (by omega))
theorem c_rank {X : PX} {σ : Sg} {p h : Nat} {K : Kz} {s : Cs} {P : Int → Sg → Prop} (hp : p ∈ parL) (ok : sOk K s) (hr : RP σ p K s) (hh : h < kN K) (q : P (rkF K s h) σ) : CI X 15 [vR (some p), vI ((2 ^ h : Nat) : Int)] σ P := by
  obtain ⟨e1, e2, e3, e4⟩ := ok.e7
  have lp : ∀ (d k : Nat), k + d = 8 → (∀ j : Nat, j < k → rkB K s h j = false) → Ev X 15 5 [some (vR (some p)), some (vI ((2 ^ h : Nat) : Int)), some (vI (gIt (kR K) 0 (cO s) k)), some (vI k)] [] σ (fun v τ => ∃ x, v = some (vI x) ∧ P x τ) := by
    intro d
    induction d with
    | zero =>
      intro k hk hn
      refine v_15_5 hp ⟨by omega, fun _ => ⟨_, rfl, ?_⟩, fun e => absurd (by omega) e⟩
      have : rkF K s h = -1 := frs_none 8 (fun j hj => hn j (by omega))
      rw [this] at q; exact q
    | succ d ih =>
      intro k hk hn
      have gl := gIt_lt (cut := 0) ok.1 ok.2.2.2.1 k
      obtain ⟨ab1, ab2⟩ := and_bit (a := gIt (kR K) 0 (cO s) k) (h := h) (by omega) (by omega)
      refine v_15_5 hp ⟨by omega, fun e => absurd e (by omega), fun _ => ⟨ab1, fun c => c_step hp ok hr gl (ih (k + 1) (by omega) (fun j hj => ?_)), fun c => ⟨_, rfl, ?_⟩⟩⟩
      · rcases Nat.lt_or_ge j k with g | g
        · exact hn j g
        · rw [show j = k by omega]
          rcases hx : rkB K s h k with _ | _
          · rfl
          · exact absurd c (ab2.mpr hx)
      · have : rkF K s h = k := frs_eq (b := rkB K s h) (v := k) (ab2.mp c) hn 8 (by omega)
        rw [this] at q; exact q
  refine v_15 hp ?_
  rw [hr.2.2.2.1]
  exact lp 8 0 (by omega) (fun j hj => absurd hj (by omega))
def dpM (K : Kz) (s : Cs) : Nat → Int
  | 0 => -1
  | h + 1 => max (dpM K s h) (rkF K s h)
theorem dpM_rng (K : Kz) (s : Cs) : ∀ h : Nat, -1 ≤ dpM K s h ∧ dpM K s h ≤ 7
  | 0 => by unfold dpM; omega
  | h + 1 => by
    have := dpM_rng K s h
    have := rkF_rng K s h
    unfold dpM; omega
theorem c_deep {X : PX} {σ : Sg} {p : Nat} {K : Kz} {s : Cs} {P : Int → Sg → Prop} (hp : p ∈ parL) (ok : sOk K s) (hr : RP σ p K s) (q : P (dpM K s (kN K)) σ) : CI X 16 [vR (some p)] σ P := by
  obtain ⟨e1, e2, e3, e4⟩ := ok.e7
  have r2 := hr.2.2.1
  have lp : ∀ (d h : Nat), h + d = kN K → Ev X 16 4 [some (vR (some p)), some (vI (dpM K s h)), some (vI h)] [] σ (fun v τ => ∃ x, v = some (vI x) ∧ P x τ) := by
    intro d
    induction d with
    | zero =>
      intro h hh
      refine v_16_4 hp ⟨by omega, by omega, fun _ => ⟨_, rfl, ?_⟩, fun e => absurd (by omega) e⟩
      rw [show h = kN K by omega]; exact q
    | succ d ih =>
      intro h hh
      have a := dpM_rng K s h
      have b := rkF_rng K s h
      refine v_16_4 hp ⟨by omega, by omega, fun e => absurd e (by omega), fun _ => ⟨fun e => absurd e (by omega), fun _ => ?_⟩⟩
      rw [b_one (by omega)]
      exact c_rank hp ok hr (by omega) ⟨by omega, by omega, ih (h + 1) (by omega)⟩
  exact v_16 hp (lp (kN K) 0 (by omega))
/-! the reference's ranks -/
def vRk (G : Gs) (rk : Nat → Int) (r : Nat) : Int := if rk (G.2.2.1 r) = -1 ∨ (G.2.2.2 r ≠ -1 ∧ rk (G.2.2.2 r).toNat = -1) then 99999999 else 1 + max (rk (G.2.2.1 r)) (if G.2.2.2 r = -1 then rk (G.2.2.1 r) else rk (G.2.2.2 r).toNat)
def unR (rk : Nat → Int) (h : Nat) : Int := if rk h = -1 then 1 else 0
def meR (rk : Nat → Int) (h : Nat) : Int := if rk h = -1 then 7 else rk h
def RI (K : Kz) (s : Cs) (rk : Nat → Int) : Prop := (∀ h : Nat, h < 7 → rk h = -1 ∨ (0 ≤ rk h ∧ rk h + sm (unR rk) 7 ≤ 6 ∧ rkB K s h (rk h).toNat = true)) ∧ (∀ h : Nat, h < 7 → (cO s).testBit h = true → rk h = 0)
def stR (G : Gs) (rk : Nat → Int) (r : Nat) : Prop := vRk G rk r = 99999999 ∨ (rk (G.2.1 r) ≠ -1 ∧ rk (G.2.1 r) ≤ vRk G rk r)
theorem gIt_mono {G : Gs} {cut S i : Nat} : ∀ d : Nat, gSub (gIt G cut S i) (gIt G cut S (i + d))
  | 0 => gSub.rfl
  | d + 1 => (gIt_mono d).trans gStp_sub
theorem un_nn (rk : Nat → Int) : 0 ≤ sm (unR rk) 7 := sm_nn 7 (fun h _ => by unfold unR; split <;> omega)
theorem RI.rng {K : Kz} {s : Cs} {rk : Nat → Int} (h : RI K s rk) {i : Nat} (hi : i < 7) : -1 ≤ rk i ∧ rk i ≤ 6 := by
  have := un_nn rk
  rcases h.1 i hi with g | g <;> omega
theorem vRk_rng {K : Kz} {s : Cs} {rk : Nat → Int} (ok : sOk K s) (h : RI K s rk) {r : Nat} (hr : r < (kR K).1) : vRk (kR K) rk r = 99999999 ∨ (1 ≤ vRk (kR K) rk r ∧ vRk (kR K) rk r + sm (unR rk) 7 ≤ 7 ∧ rkB K s ((kR K).2.1 r) (vRk (kR K) rk r).toNat = true) := by
  obtain ⟨g1, g2, g3, g4⟩ := ok.1.2.2 r hr
  have n7 := ok.e7.2.2.1
  unfold vRk
  by_cases c : rk ((kR K).2.2.1 r) = -1 ∨ ((kR K).2.2.2 r ≠ -1 ∧ rk ((kR K).2.2.2 r).toNat = -1)
  · rw [if_pos c]; exact Or.inl rfl
  · rw [if_neg c]
    right
    have a := (h.1 ((kR K).2.2.1 r) (by omega)).resolve_left (fun x => c (Or.inl x))
    have mono : ∀ (x i : Nat) (y : Nat), i ≤ y → rkB K s x i = true → rkB K s x y = true := fun x i y hiy hx => by
      have := gIt_mono (G := kR K) (cut := 0) (S := cO s) (i := i) (y - i) x hx
      rw [show i + (y - i) = y by omega] at this
      exact this
    by_cases d : (kR K).2.2.2 r = -1
    · rw [if_pos d]
      refine ⟨by omega, by omega, ?_⟩
      rw [show (1 + max (rk ((kR K).2.2.1 r)) (rk ((kR K).2.2.1 r))).toNat = (rk ((kR K).2.2.1 r)).toNat + 1 by omega]
      refine (gOne_tb _ _).mpr (Or.inr ⟨r, hr, gHol.iff.mpr ⟨Nat.zero_testBit r, a.2.2, Or.inl d⟩, rfl⟩)
    · rw [if_neg d]
      have b := (h.1 ((kR K).2.2.2 r).toNat (by omega)).resolve_left (fun x => c (Or.inr ⟨d, x⟩))
      refine ⟨by omega, by omega, ?_⟩
      rw [show (1 + max (rk ((kR K).2.2.1 r)) (rk ((kR K).2.2.2 r).toNat)).toNat = (max (rk ((kR K).2.2.1 r)) (rk ((kR K).2.2.2 r).toNat)).toNat + 1 by omega]
      refine (gOne_tb _ _).mpr (Or.inr ⟨r, hr, gHol.iff.mpr ⟨Nat.zero_testBit r, mono _ _ _ (by omega) a.2.2, Or.inr (mono _ _ _ (by omega) b.2.2)⟩, rfl⟩)
theorem RI.set {K : Kz} {s : Cs} {rk : Nat → Int} (ok : sOk K s) (h : RI K s rk) {r : Nat} (hr : r < (kR K).1) (nf : vRk (kR K) rk r ≠ 99999999) (c : rk ((kR K).2.1 r) = -1 ∨ vRk (kR K) rk r < rk ((kR K).2.1 r)) : RI K s (up rk ((kR K).2.1 r) (vRk (kR K) rk r)) ∧ sm (meR (up rk ((kR K).2.1 r) (vRk (kR K) rk r))) 7 < sm (meR rk) 7 := by
  obtain ⟨v1, v2, v3⟩ := (vRk_rng ok h hr).resolve_left nf
  have hb := (ok.1.2.2 r hr).1
  have n7 := ok.e7.2.2.1
  have hr7 := h.rng (i := (kR K).2.1 r) (by omega)
  have un := un_nn rk
  generalize vRk (kR K) rk r = v at *
  generalize (kR K).2.1 r = b at *
  have eu : unR (up rk b v) = up (unR rk) b 0 := by
    funext i; unfold unR
    by_cases e : i = b
    · rw [e, up_same, up_same, if_neg (by omega)]
    · rw [up_ne _ _ e, up_ne _ _ e]
  have em : meR (up rk b v) = up (meR rk) b v := by
    funext i; unfold meR
    by_cases e : i = b
    · rw [e, up_same, up_same, if_neg (by omega)]
    · rw [up_ne _ _ e, up_ne _ _ e]
  have su : sm (unR (up rk b v)) 7 = sm (unR rk) 7 - unR rk b := by rw [eu, sm_up, if_pos (by omega)]; omega
  have sm' : sm (meR (up rk b v)) 7 = sm (meR rk) 7 + (v - meR rk b) := by rw [em, sm_up, if_pos (by omega)]
  have ub : (rk b = -1 ∧ unR rk b = 1 ∧ meR rk b = 7) ∨ (rk b ≠ -1 ∧ unR rk b = 0 ∧ meR rk b = rk b) := by
    unfold unR meR
    by_cases e : rk b = -1
    · rw [if_pos e, if_pos e]; exact Or.inl ⟨e, rfl, rfl⟩
    · rw [if_neg e, if_neg e]; exact Or.inr ⟨e, rfl, rfl⟩
  have hbb := h.1 b (by omega)
  have us := sm_one (f := unR rk) (b := b) 7 (fun i _ => by unfold unR; split <;> omega) (by omega)
  refine ⟨⟨fun i hi => ?_, fun i hi ho => ?_⟩, by omega⟩
  · by_cases e : i = b
    · right
      rw [e, up_same]
      exact ⟨by omega, by omega, v3⟩
    · rw [up_ne _ _ e]
      rcases h.1 i hi with g | g
      · exact Or.inl g
      · right; exact ⟨g.1, by omega, g.2.2⟩
  · by_cases e : i = b
    · have := h.2 i hi ho
      rw [e] at this
      omega
    · rw [up_ne _ _ e]; exact h.2 i hi ho
theorem RI.me {K : Kz} {s : Cs} {rk : Nat → Int} (h : RI K s rk) : 0 ≤ sm (meR rk) 7 := sm_nn 7 (fun i hi => by
  have := h.rng hi
  unfold meR
  split <;> omega)
/-- nothing goes on: these are the ranks -/
theorem RI.fix {K : Kz} {s : Cs} {rk : Nat → Int} (ok : sOk K s) (h : RI K s rk) (st : ∀ r : Nat, r < (kR K).1 → stR (kR K) rk r) : ∀ i : Nat, i < 7 → rk i = rkF K s i := by
  have n7 := ok.e7.2.2.1
  have cp : ∀ (j : Nat) (i : Nat), i < 7 → rkB K s i j = true → rk i ≠ -1 ∧ rk i ≤ j := by
    intro j
    induction j with
    | zero =>
      intro i hi hb
      have := h.2 i hi hb
      omega
    | succ j ih =>
      intro i hi hb
      rcases (gOne_tb _ _).mp hb with g | ⟨r, hr, hol, he⟩
      · have := ih i hi g; omega
      · rw [gHol.iff] at hol
        obtain ⟨g1, g2, g3, g4⟩ := ok.1.2.2 r hr
        have a := ih _ (by omega) hol.2.1
        have vl : vRk (kR K) rk r ≠ 99999999 ∧ vRk (kR K) rk r ≤ ((j + 1 : Nat) : Int) := by
          have r1 := h.rng (i := (kR K).2.2.1 r) (by omega)
          unfold vRk
          by_cases d : (kR K).2.2.2 r = -1
          · rw [if_neg (by intro x; rcases x with x | x; exact a.1 x; exact x.1 d), if_pos d]
            omega
          · have b := ih ((kR K).2.2.2 r).toNat (by omega) (hol.2.2.resolve_left d)
            have r2 := h.rng (i := ((kR K).2.2.2 r).toNat) (by omega)
            rw [if_neg (by intro x; rcases x with x | x; exact a.1 x; exact b.1 x.2), if_neg d]
            omega
        have := (st r hr).resolve_left vl.1
        rw [he] at this
        omega
  intro i hi
  unfold rkF
  rcases h.1 i hi with g | g
  · rw [g, frs_none 8 (fun j _ => ?_)]
    rcases hx : rkB K s i j with _ | _
    · rfl
    · exact absurd g (cp j i hi hx).1
  · have un := un_nn rk
    rw [frs_eq (v := (rk i).toNat) g.2.2 (fun j hj => ?_) 8 (by omega)]
    · omega
    · rcases hx : rkB K s i j with _ | _
      · rfl
      · have := (cp j i hi hx).2; omega
theorem m_rankBy {X : PX} {τ : Sg} {o r : Nat} {K : Kz} {s : Cs} {P : Int → Sg → Prop} (ok : sOk K s) (m : MX τ o K) (h : RI K s (τ.2 179)) (hr : r < (kR K).1) (q : P (vRk (kR K) (τ.2 179) r) τ) : CI X 229 [vR (some 170), vI r] τ P := by
  obtain ⟨g1, g2, g3, g4⟩ := ok.1.2.2 r hr
  have n7 := ok.e7.2.2.1
  have r1 := h.rng (i := (kR K).2.2.1 r) (by omega)
  unfold vRk at q
  refine v_229 (m_rule ok.1 m.rm hr (by omega) ?_)
  rw [if_neg (by omega), if_pos rfl, Int.toNat_natCast]
  refine ⟨by omega, m_rule ok.1 m.rm hr (by omega) ?_⟩
  rw [if_neg (by omega), if_neg (by omega)]
  refine ⟨by omega, fun c => m_rule ok.1 m.rm hr (by omega) ?_, fun c => ⟨by omega, fun d => ⟨_, rfl, ?_⟩, fun d => ⟨fun _ => ⟨fun _ => ⟨_, rfl, ?_⟩, fun e => absurd (Int.le_refl _) e⟩, fun e => absurd d e⟩⟩⟩
  · rw [if_neg (by omega), if_neg (by omega)]
    have r2 := h.rng (i := ((kR K).2.2.2 r).toNat) (by omega)
    refine ⟨by omega, by omega, fun d => ⟨_, rfl, ?_⟩, fun d => ⟨by omega, fun e => ⟨fun f => ⟨_, rfl, ?_⟩, fun f => ⟨_, rfl, ?_⟩⟩, fun e => ⟨_, rfl, ?_⟩⟩⟩
    · rw [if_pos (Or.inl d)] at q; exact q
    · rw [if_neg (by intro x; rcases x with x | x; exact d x; exact e x.2), if_neg c, Int.max_eq_right f] at q; exact q
    · rw [if_neg (by intro x; rcases x with x | x; exact d x; exact e x.2), if_neg c, Int.max_eq_left (by omega)] at q; exact q
    · rw [if_pos (Or.inr ⟨c, by omega⟩)] at q; exact q
  · rw [if_pos (Or.inl d)] at q; exact q
  · rw [if_neg (by intro x; rcases x with x | x; exact d x; exact c x.1), if_pos (by omega), Int.max_self] at q; exact q
def RSt (σ τ : Sg) (o : Nat) (K : Kz) (s : Cs) : Prop := FA σ τ ∧ MX τ o K ∧ τ.1 = σ.1 ∧ RI K s (τ.2 179)
theorem RSt.set {σ τ : Sg} {o : Nat} {K : Kz} {s : Cs} (ok : sOk K s) (h : RSt σ τ o K s) {r : Nat} (hr : r < (kR K).1) (nf : vRk (kR K) (τ.2 179) r ≠ 99999999) (c : τ.2 179 ((kR K).2.1 r) = -1 ∨ vRk (kR K) (τ.2 179) r < τ.2 179 ((kR K).2.1 r)) : RSt σ (τ.1, up2 τ.2 179 ((kR K).2.1 r) (vRk (kR K) (τ.2 179) r)) o K s ∧ sm (meR ((up2 τ.2 179 ((kR K).2.1 r) (vRk (kR K) (τ.2 179) r)) 179)) 7 < sm (meR (τ.2 179)) 7 := by
  obtain ⟨f, m, e, ri⟩ := h
  have st := ri.set ok hr nf c
  unfold RSt
  dsimp only
  rw [up2_at]
  refine ⟨⟨f.trans ⟨fun _ _ => rfl, fun c hc => ?_⟩, m.mv (fun _ _ => rfl) ?_, e, st.1⟩, st.2⟩
  · dsimp only; rw [up2_ne _ _ _ (by omega)]
  · dsimp only; rw [up2_ne _ _ _ (by omega)]
theorem m_ranks {X : PX} {σ : Sg} {o : Nat} {K : Kz} {s : Cs} {P : Sg → Prop} (ok : sOk K s) (hx : MX σ o K) (h16 : σ.1 170 16 = cO s) (k : ∀ τ : Sg, FA σ τ → MX τ o K → (∀ h : Nat, h < 7 → τ.2 179 h = rkF K s h) → P τ) : CV X 230 [vR (some 170)] σ P := by
  obtain ⟨e1, e2, e3, e4⟩ := ok.e7
  have g10 := ok.1.1
  have in1 : ∀ (m0 : Int), (∀ τ : Sg, RSt σ τ o K s → sm (meR (τ.2 179)) 7 < m0 → Ev X 230 24 [some (vR (some 170)), some (vI 1), none, none, none] [] τ (fun v τ => v = none ∧ P τ)) → ∀ (d r : Nat) (τ : Sg), r + d = (kR K).1 → RSt σ τ o K s → sm (meR (τ.2 179)) 7 < m0 → Ev X 230 30 [some (vR (some 170)), some (vI 1), some (vI r), none, none] [] τ (fun v τ => v = none ∧ P τ) := by
    intro m0 kk d
    induction d with
    | zero =>
      intro r τ hr st hm
      have h13 := st.2.1.2.2.1
      exact v_230_30 ⟨by omega, by omega, fun _ => kk τ st hm, fun e => absurd (by omega) e⟩
    | succ d ih =>
      intro r τ hr st hm
      have h13 := st.2.1.2.2.1
      obtain ⟨g1, g2, g3, g4⟩ := ok.1.2.2 r (by omega)
      refine v_230_30 ⟨by omega, by omega, fun e => absurd e (by omega), fun _ => m_rule ok.1 st.2.1.rm (by omega) (by omega) ?_⟩
      rw [if_pos rfl]
      have vr := vRk_rng ok st.2.2.2 (r := r) (by omega)
      have rr := st.2.2.2.rng (i := (kR K).2.1 r) (by omega)
      have un := un_nn (τ.2 179)
      refine m_rankBy ok st.2.1 st.2.2.2 (by omega) ⟨by omega, fun c => ih (r + 1) τ (by omega) st hm, fun c => ?_⟩
      rw [Int.toNat_natCast]
      refine ⟨by omega, by omega, fun c2 => ?_, fun c2 => ⟨fun c3 => ?_, fun c3 => ih (r + 1) τ (by omega) st hm⟩⟩
      · have s2 := st.set ok (r := r) (by omega) c (Or.inl c2)
        exact ih (r + 1) _ (by omega) s2.1 (Int.lt_trans s2.2 hm)
      · have s2 := st.set ok (r := r) (by omega) c (Or.inr c3)
        exact ih (r + 1) _ (by omega) s2.1 (Int.lt_trans s2.2 hm)
  have in0 : ∀ (τ : Sg), RSt σ τ o K s → (∀ υ : Sg, RSt σ υ o K s → sm (meR (υ.2 179)) 7 < sm (meR (τ.2 179)) 7 → Ev X 230 24 [some (vR (some 170)), some (vI 1), none, none, none] [] υ (fun v τ => v = none ∧ P τ)) → ∀ (d r : Nat), r + d = (kR K).1 → (∀ r' : Nat, r' < r → stR (kR K) (τ.2 179) r') → Ev X 230 30 [some (vR (some 170)), some (vI 0), some (vI r), none, none] [] τ (fun v τ => v = none ∧ P τ) := by
    intro τ st kk d
    induction d with
    | zero =>
      intro r hr al
      have h13 := st.2.1.2.2.1
      refine v_230_30 ⟨by omega, by omega, fun _ => v_230_24 ⟨by omega, fun _ => ⟨rfl, k τ st.1 st.2.1 (st.2.2.2.fix ok (fun r' h' => al r' (by omega)))⟩, fun e => absurd rfl e⟩, fun e => absurd (by omega) e⟩
    | succ d ih =>
      intro r hr al
      have h13 := st.2.1.2.2.1
      obtain ⟨g1, g2, g3, g4⟩ := ok.1.2.2 r (by omega)
      have nx : stR (kR K) (τ.2 179) r → Ev X 230 30 [some (vR (some 170)), some (vI 0), some (vI ((r : Int) + 1)), none, none] [] τ (fun v τ => v = none ∧ P τ) := fun hs => ih (r + 1) (by omega) (fun r' h' => by
        rcases Nat.lt_or_ge r' r with g | g
        · exact al r' g
        · rw [show r' = r by omega]; exact hs)
      refine v_230_30 ⟨by omega, by omega, fun e => absurd e (by omega), fun _ => m_rule ok.1 st.2.1.rm (by omega) (by omega) ?_⟩
      rw [if_pos rfl]
      have vr := vRk_rng ok st.2.2.2 (r := r) (by omega)
      have rr := st.2.2.2.rng (i := (kR K).2.1 r) (by omega)
      have un := un_nn (τ.2 179)
      refine m_rankBy ok st.2.1 st.2.2.2 (by omega) ⟨by omega, fun c => nx (Or.inl c), fun c => ?_⟩
      rw [Int.toNat_natCast]
      refine ⟨by omega, by omega, fun c2 => ?_, fun c2 => ⟨fun c3 => ?_, fun c3 => nx (Or.inr ⟨c2, by omega⟩)⟩⟩
      · have s2 := st.set ok (r := r) (by omega) c (Or.inl c2)
        exact in1 _ kk d (r + 1) _ (by omega) s2.1 s2.2
      · have s2 := st.set ok (r := r) (by omega) c (Or.inr c3)
        exact in1 _ kk d (r + 1) _ (by omega) s2.1 s2.2
  have out : ∀ (m : Nat) (τ : Sg), RSt σ τ o K s → sm (meR (τ.2 179)) 7 < m → Ev X 230 24 [some (vR (some 170)), some (vI 1), none, none, none] [] τ (fun v τ => v = none ∧ P τ) := by
    intro m
    induction m with
    | zero => intro τ st hm; have := st.2.2.2.me; omega
    | succ m ih =>
      intro τ st hm
      exact v_230_24 ⟨by omega, fun e => absurd e (by omega), fun _ => in0 τ st (fun υ su hu => ih υ su (by omega)) (kR K).1 0 (by omega) (fun r' h' => absurd h' (by omega))⟩
  have ini : ∀ (d h : Nat) (τ : Sg), h + d = 7 → FA σ τ → MX τ o K → τ.1 = σ.1 → (∀ i : Nat, i < h → τ.2 179 i = if (cO s).testBit i then 0 else -1) → Ev X 230 2 [some (vR (some 170)), some (vI h), none, none, none] [] τ (fun v τ => v = none ∧ P τ) := by
    intro d
    induction d with
    | zero =>
      intro h τ hh f m e al
      have ri : RI K s (τ.2 179) := by
        refine ⟨fun i hi => ?_, fun i hi ho => by rw [al i (by omega), if_pos ho]⟩
        rw [al i (by omega)]
        by_cases c : (cO s).testBit i = true
        · right
          rw [if_pos c]
          refine ⟨by omega, ?_, c⟩
          have u0 : unR (τ.2 179) i = 0 := by unfold unR; rw [al i (by omega), if_pos c, if_neg (by omega)]
          have a := sm_up (f := unR (τ.2 179)) (b := i) (x := 1) 7
          rw [if_pos hi, u0] at a
          have b := sm_le (f := up (unR (τ.2 179)) i 1) (m := 1) 7 (fun j _ => by
            by_cases e : j = i
            · rw [e, up_same]; omega
            · rw [up_ne _ _ e]; unfold unR; split <;> omega)
          omega
        · left; rw [if_neg c]
      have st : RSt σ τ o K s := ⟨f, m, e, ri⟩
      have me := ri.me
      exact v_230_2 ⟨by omega, fun _ => out (sm (meR (τ.2 179)) 7 + 1).toNat τ st (by omega), fun e => absurd (by omega) e⟩
    | succ d ih =>
      intro h τ hh f m e al
      have bb := bit_1 (a := cO s) (k := h) (by have := ok.2.2.2.1; omega) (by omega)
      have nx : ∀ x : Int, x = (if (cO s).testBit h then 0 else -1) → Ev X 230 2 [some (vR (some 170)), some (vI ((h : Int) + 1)), none, none, none] [] (τ.1, up2 τ.2 179 h x) (fun v τ => v = none ∧ P τ) := fun x hx => by
        refine ih (h + 1) _ (by omega) (f.trans ⟨fun _ _ => rfl, fun c hc => ?_⟩) (m.mv (fun _ _ => rfl) ?_) e (fun i hi => ?_)
        · dsimp only; rw [up2_ne _ _ _ (by omega)]
        · dsimp only; rw [up2_ne _ _ _ (by omega)]
        · dsimp only; rw [up2_if]
          by_cases c : i = h
          · rw [if_pos c, c]; exact hx
          · rw [if_neg c]; exact al i (by omega)
      refine v_230_2 ?_
      rw [Int.toNat_natCast, e, h16]
      refine ⟨by omega, fun e => absurd e (by omega), fun _ => ⟨bit_rng (by have := ok.2.2.2.1; omega) (by omega), fun c => ⟨by omega, ?_⟩, fun c => ⟨by omega, ?_⟩⟩⟩
      · rw [← e]; exact nx _ (by rw [if_neg (fun x => c (bb.mpr x))])
      · rw [← e]; exact nx _ (by rw [if_pos (bb.mp (by omega))])
  exact v_230 (ini 7 0 σ (by omega) FA.rfl hx rfl (fun i hi => absurd hi (by omega)))
theorem s_rank {X : PX} : Sm_23 X Rel := by
  intro a b ha hb σ hR
  refine same_P (a := a) hR (-1) (by omega) (fun hc => ?_) (fun τ hR2 hc => ?_) (fun K s a2 hc T => ?_)
  · exact v_145 (c_hhN hR ha hc ⟨by omega, fun e => absurd rfl e, fun _ => ⟨_, rfl, Out.rfl, rfl⟩⟩)
  · exact v_232 (m_isPN hR2 ha hc ⟨by omega, fun _ => ⟨_, rfl, FA.rfl, rfl⟩, fun e => absurd rfl e⟩)
  · obtain ⟨⟨tp, tp2⟩, ok, nw, tr, tm⟩ := id T
    obtain ⟨e1, e2, e3, e4⟩ := ok.e7
    by_cases g2 : 0 ≤ b ∧ b < kN K
    · obtain ⟨n, rfl⟩ := Int.eq_ofNat_of_zero_le g2.1
      have rr := rkF_rng K s n
      refine ⟨rkF K s n, by omega, v_145 (c_hhY hR ha hb hc T ?_), fun τ hR2 hc2 T2 _ => v_232 (m_isPY hR2 ha hc2 T2 (fun υ g S _ => ⟨by omega, fun e => absurd e (by omega), fun _ => m_isH S.mx.2.1 e3 hb ?_⟩))⟩
      · rw [if_pos g2, b_one (by omega)]
        exact ⟨by omega, fun _ => ⟨by omega, c_rank tp ok tr (by omega) ⟨_, rfl, Out.rfl, rfl⟩⟩, fun e => absurd (by omega) e⟩
      · rw [if_pos g2]
        refine ⟨by omega, fun _ => m_ranks (K := K) (s := s) ok S.mx S.1.2.2.2.1 (fun ω f m hr => ⟨by omega, _, rfl, g.1.trans f, ?_⟩), fun e => absurd (by omega) e⟩
        rw [Int.toNat_natCast]; exact hr n (by omega)
    · refine ⟨-1, by omega, v_145 (c_hhY hR ha hb hc T ?_), fun τ hR2 hc2 T2 _ => v_232 (m_isPY hR2 ha hc2 T2 (fun υ g S _ => ⟨by omega, fun e => absurd e (by omega), fun _ => m_isH S.mx.2.1 e3 hb ?_⟩))⟩
      · rw [if_neg g2]
        exact ⟨by omega, fun e => absurd rfl e, fun _ => ⟨_, rfl, Out.rfl, rfl⟩⟩
      · rw [if_neg g2]
        exact ⟨by omega, fun e => absurd rfl e, fun _ => ⟨_, rfl, g.1, rfl⟩⟩
def chA (K : Kz) (s : Cs) (w : Int) : Int := if w = 0 then chF K else if w = 1 then (if kN K = 0 then 0 else rtC K (bst (rtC K) (kN K - 1))) else if w = 2 then stB (kyB K s) (kR K).1 else if w = 3 then stB (idB K) (kR K).1 else if w = 4 then stB (rgB K) (kN K) else if w = 5 then stB (lnB K (kR K).1) (kN K) else if w = 6 then dpM K s (kN K) else -2
theorem s_chief {X : PX} : Sm_22 X Rel := by
  intro a w ha hw σ hR
  refine same_P (a := a) hR (-2) (by omega) (fun hc => ?_) (fun τ hR2 hc => ?_) (fun K s a2 hc T => ?_)
  · exact v_144 (c_hasN (s := 0) hR (by omega) ha hc ⟨by omega, fun e => absurd rfl e, fun _ => ⟨_, rfl, Out.rfl, rfl⟩⟩)
  · exact v_231 (m_isPN hR2 ha hc ⟨by omega, fun e => absurd rfl e, fun _ => ⟨_, rfl, FA.rfl, rfl⟩⟩)
  · obtain ⟨⟨tp, tp2⟩, ok, nw, tr, tm⟩ := id T
    obtain ⟨e1, e2, e3, e4⟩ := ok.e7
    have g10 := ok.1.1
    have cf := chF_rng K
    have dp := dpM_rng K s (kN K)
    have l10 : 2 ^ (kR K).1 ≤ 2 ^ 10 := Nat.pow_le_pow_right (by omega) g10
    have s1 := stB_lt (b := kyB K s) (kR K).1
    have s2 := stB_lt (b := idB K) (kR K).1
    have s3 := stB_lt (b := rgB K) (kN K)
    have s4 := stB_lt (b := lnB K (kR K).1) (kN K)
    have bl := (bst_spec (rtC K) (kN K - 1)).1
    have rc : kN K ≠ 0 → 1 ≤ rtC K (bst (rtC K) (kN K - 1)) ∧ rtC K (bst (rtC K) (kN K - 1)) ≤ 12 := fun h => rtC_rng (by omega)
    refine ⟨chA K s w, ?_, v_144 (c_hasY (s := 0) hR (by omega) ha hc ⟨by omega, fun _ => ⟨by omega, hw, fun e => ?_, fun e => ?_, fun e => ?_, fun e => ?_, fun e => ?_, fun e => ?_, fun e => ?_, fun e => ?_⟩, fun e => absurd (by omega) e⟩), fun τ hR2 hc2 T2 _ => v_231 (m_isPY hR2 ha hc2 T2 (fun υ g S _ => ⟨by omega, fun _ => ⟨hw, fun e => ?_, fun e => ?_, fun e => ?_, fun e => ?_, fun e => ?_, fun e => ?_, fun e => ?_, fun e => ?_⟩, fun e => absurd (by omega) e⟩))⟩
    · unfold chA
      repeat' split
      all_goals first
        | omega
        | (rename_i h; have := rc h; omega)
    · rw [e]; exact c_chief tp ok tr ⟨_, rfl, Out.rfl, rfl⟩
    · rw [e]
      refine c_chief tp ok tr (c_rsz tp ok tr (by omega) ⟨_, rfl, Out.rfl, ?_⟩)
      show _ = if kN K = 0 then 0 else rtC K (bst (rtC K) (kN K - 1))
      unfold chF
      by_cases n0 : kN K = 0
      · rw [if_pos n0, if_pos n0, if_neg (by omega)]
      · rw [if_neg n0, if_neg n0, if_pos (by omega), Int.toNat_natCast]
    · rw [e]; exact c_keys tp ok tr ⟨_, rfl, Out.rfl, rfl⟩
    · rw [e]; exact c_idle tp ok tr ⟨_, rfl, Out.rfl, rfl⟩
    · rw [e]; exact c_ringed tp ok tr ⟨_, rfl, Out.rfl, rfl⟩
    · rw [e]; exact c_lone tp ok tr ⟨_, rfl, Out.rfl, rfl⟩
    · rw [e]; exact c_deep tp ok tr ⟨_, rfl, Out.rfl, rfl⟩
    · refine ⟨_, rfl, Out.rfl, ?_⟩
      unfold chA
      rw [if_neg (by omega), if_neg (by omega), if_neg (by omega), if_neg (by omega), if_neg (by omega), if_neg (by omega), if_neg (by omega)]
    all_goals
      have h17 : υ.1 170 17 = ((0 : Nat) : Int) := by rw [S.1.2.2.2.2.1, nw.1]
      have h18 : υ.1 170 18 = (gClo (kR K) 0 (cO s) : Int) := by rw [S.2.1]; unfold zE; rw [nw.1]
    · rw [e]; exact m_chief (s := s) ok S.mx h17 ⟨_, rfl, g.1, rfl⟩
    · rw [e]
      have h12 := S.mx.2.1
      refine ⟨by omega, fun c => m_chief (s := s) ok S.mx h17 ?_, fun c => ⟨_, rfl, g.1, ?_⟩⟩
      · have n0 : kN K ≠ 0 := by omega
        have hS : 2 ^ bst (rtC K) (kN K - 1) < 2 ^ kN K := pow_lt_n (by omega)
        have gl := gClo_lt7 (cut := 0) ok.1 hS
        unfold chF
        rw [if_neg n0, b_one (by omega)]
        refine m_ex ok.1 S.mx.rm h17 (by omega) hS (m_bits (by omega) ⟨_, rfl, g.1, ?_⟩)
        show _ = if kN K = 0 then 0 else rtC K (bst (rtC K) (kN K - 1))
        rw [if_neg n0]; rfl
      · show _ = if kN K = 0 then 0 else rtC K (bst (rtC K) (kN K - 1))
        rw [if_pos (by omega)]
    · rw [e]; exact m_keys (s := s) ok S.mx S.1.2.2.2.1 h18 (fun ω f => ⟨_, rfl, g.1.trans f, rfl⟩)
    · rw [e]; exact m_idle (s := s) ok S.mx (fun ω f => ⟨_, rfl, g.1.trans f, rfl⟩)
    · rw [e]; exact ⟨fun c => absurd rfl c, fun _ => m_houses (s := s) ok S.mx (Or.inr rfl) ⟨_, rfl, g.1, rfl⟩⟩
    · rw [e]; exact ⟨fun _ => m_houses (s := s) ok S.mx (Or.inl rfl) ⟨_, rfl, g.1, rfl⟩, fun c => absurd (by omega) c⟩
    · rw [e]
      refine m_ranks (K := K) (s := s) ok S.mx S.1.2.2.2.1 (fun ω f m hr => ?_)
      have lp : ∀ (d h : Nat), h + d = kN K → Ev X 231 48 [some (vR (some 170)), none, none, some (vI (dpM K s h)), some (vI h)] [] ω (fun v τ' => ∃ x, v = some (vI x) ∧ FA τ τ' ∧ x = chA K s 6) := by
        intro d
        induction d with
        | zero =>
          intro h hh
          have h12 := m.2.1
          refine v_231_48 ⟨by omega, by omega, fun _ => ⟨_, rfl, g.1.trans f, ?_⟩, fun e => absurd (by omega) e⟩
          rw [show h = kN K by omega]; rfl
        | succ d ih =>
          intro h hh
          have h12 := m.2.1
          have nx := ih (h + 1) (by omega)
          rw [show dpM K s (h + 1) = max (dpM K s h) (rkF K s h) from rfl] at nx
          have d1 := dpM_rng K s h
          have d2 := rkF_rng K s h
          refine v_231_48 ?_
          rw [Int.toNat_natCast, hr h (by omega)]
          refine ⟨by omega, by omega, fun e => absurd e (by omega), fun _ => ⟨by omega, by omega, by omega, fun c => ?_, fun c => ?_⟩⟩
          · rw [Int.max_eq_left c] at nx; exact nx
          · rw [Int.max_eq_right (by omega)] at nx; exact nx
      exact lp (kN K) 0 (by omega)
    · refine ⟨_, rfl, g.1, ?_⟩
      unfold chA
      rw [if_neg (by omega), if_neg (by omega), if_neg (by omega), if_neg (by omega), if_neg (by omega), if_neg (by omega), if_neg (by omega)]
