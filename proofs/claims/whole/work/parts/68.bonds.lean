/-! chief: CHIEF, KEYS, IDLE, LONE -/
def stB (b : Nat → Bool) : Nat → Nat
  | 0 => 0
  | k + 1 => if b k = true then stB b k ||| 2 ^ k else stB b k
theorem stB_lt {b : Nat → Bool} : ∀ k : Nat, stB b k < 2 ^ k
  | 0 => by unfold stB; omega
  | k + 1 => by
    have h := stB_lt (b := b) k
    have p : 2 ^ (k + 1) = 2 ^ k + 2 ^ k := by rw [Nat.pow_succ]; omega
    unfold stB
    split
    · exact Nat.or_lt_two_pow (by omega) (by omega)
    · omega
theorem stB_tb {b : Nat → Bool} {i : Nat} : ∀ k : Nat, (stB b k).testBit i = (decide (i < k) && b i)
  | 0 => by unfold stB; simp
  | k + 1 => by
    unfold stB
    by_cases c : b k = true
    · rw [if_pos c, or_pow_tb, stB_tb k]
      by_cases e : k = i
      · rw [← e, c]; simp
      · have : (i < k + 1) ↔ (i < k) := by omega
        simp [e, this]
    · rw [if_neg c, stB_tb k]
      by_cases e : k = i
      · rw [← e]; have : b k = false := by simpa using c
        simp [this]
      · have : (i < k + 1) ↔ (i < k) := by omega
        simp [this]
theorem stB_congr {b c : Nat → Bool} : ∀ k : Nat, (∀ i : Nat, i < k → b i = c i) → stB b k = stB c k
  | 0 => fun _ => rfl
  | k + 1 => fun e => by
    unfold stB
    rw [stB_congr k (fun i hi => e i (by omega)), e k (by omega)]
theorem ior_st {b : Nat → Bool} {k : Nat} (hk : k < 11) : iOr (stB b k : Int) (iShl 1 (k : Int)) = ((stB b k ||| 2 ^ k : Nat) : Int) ∧ iOr (stB b k : Int) 0 = (stB b k : Int) := by
  have l := stB_lt (b := b) k
  have p : 2 ^ k ≤ 2 ^ 10 := Nat.pow_le_pow_right (by omega) (by omega)
  refine ⟨by rw [b_one (by omega), b_or (by omega) (by omega)], ?_⟩
  have := b_or (a := stB b k) (b := 0) (by omega) (by omega)
  rw [Nat.or_zero] at this
  exact this
def rtC (K : Kz) (h : Nat) : Int := popc (gClo (kR K) 0 (2 ^ h)) 12
theorem popc_pow : ∀ h : Nat, h < 7 → popc (2 ^ h) 12 = 1 := by decide +kernel
theorem rtC_rng {K : Kz} {h : Nat} (hh : h < 7) : 1 ≤ rtC K h ∧ rtC K h ≤ 12 := by
  have a := popc_le (gClo (kR K) 0 (2 ^ h)) 12
  have b := popc_sub (S := 2 ^ h) (T := gClo (kR K) 0 (2 ^ h)) (gIt_sub 7) 12
  rw [popc_pow h hh] at b
  unfold rtC
  omega
theorem c_rsz {X : PX} {σ : Sg} {p : Nat} {K : Kz} {s : Cs} {b : Int} {P : Int → Sg → Prop} (hp : p ∈ parL) (ok : sOk K s) (hr : RP σ p K s) (hb : InR b) (q : P (if 0 ≤ b ∧ b < kN K then rtC K b.toNat else 0) σ) : CI X 8 [vR (some p), vI b] σ P := by
  obtain ⟨e1, e2, e3, e4⟩ := ok.e7
  refine v_8 hp (c_hH hp hr.2.2.1 e3 hb ?_)
  by_cases c : 0 ≤ b ∧ b < kN K
  · rw [if_pos c] at q ⊢
    have hS : 2 ^ b.toNat < 2 ^ kN K := pow_lt_n (by omega)
    have gl := gClo_lt7 (cut := 0) ok.1 hS
    refine ⟨by omega, fun e => absurd e (by omega), fun _ => ?_⟩
    rw [shl1 c.1 (by omega)]
    exact c_ex (cut := 0) hp ok.1 hr.2.2.2.2.1 (by omega) hS (c_bitc (by omega) ⟨_, rfl, q⟩)
  · rw [if_neg c] at q ⊢
    exact ⟨by omega, fun _ => ⟨_, rfl, q⟩, fun e => absurd rfl e⟩
def chP (c : Nat → Int) : Nat → Int × Int
  | 0 => (-1, 0)
  | h + 1 => if (chP c h).2 < c h then ((h : Int), c h) else chP c h
theorem chP_bst {c : Nat → Int} : ∀ h : Nat, (∀ i : Nat, i ≤ h → 1 ≤ c i) → chP c (h + 1) = ((bst c h : Int), c (bst c h))
  | 0 => fun hc => by
    have := hc 0 (by omega)
    unfold chP chP bst
    rw [if_pos (by omega)]
  | h + 1 => fun hc => by
    have e := chP_bst h (fun i hi => hc i (by omega))
    rw [show chP c (h + 1 + 1) = if (chP c (h + 1)).2 < c (h + 1) then (((h + 1 : Nat) : Int), c (h + 1)) else chP c (h + 1) from rfl, e]
    rw [show bst c (h + 1) = if c (bst c h) < c (h + 1) then h + 1 else bst c h from rfl]
    dsimp only
    by_cases d : c (bst c h) < c (h + 1)
    · rw [if_pos d, if_pos d]
    · rw [if_neg d, if_neg d]
def chF (K : Kz) : Int := if kN K = 0 then -1 else (bst (rtC K) (kN K - 1) : Int)
theorem chF_rng (K : Kz) : -1 ≤ chF K ∧ (chF K < kN K) := by
  unfold chF
  have := (bst_spec (rtC K) (kN K - 1)).1
  split <;> omega
theorem c_chief {X : PX} {σ : Sg} {p : Nat} {K : Kz} {s : Cs} {P : Int → Sg → Prop} (hp : p ∈ parL) (ok : sOk K s) (hr : RP σ p K s) (q : P (chF K) σ) : CI X 9 [vR (some p)] σ P := by
  obtain ⟨e1, e2, e3, e4⟩ := ok.e7
  have r2 := hr.2.2.1
  have cr : ∀ h : Nat, h ≤ kN K → -1 ≤ (chP (rtC K) h).1 ∧ (chP (rtC K) h).1 < 7 ∧ 0 ≤ (chP (rtC K) h).2 ∧ (chP (rtC K) h).2 ≤ 12 := by
    intro h
    induction h with
    | zero => intro _; unfold chP; dsimp only; omega
    | succ h ih =>
      intro hh
      have := ih (by omega)
      have := rtC_rng (K := K) (h := h) (by omega)
      unfold chP
      split
      · dsimp only; omega
      · omega
  have lp : ∀ (d h : Nat), h + d = kN K → Ev X 9 6 [some (vR (some p)), some (vI (chP (rtC K) h).1), some (vI (chP (rtC K) h).2), some (vI h), none] [] σ (fun v τ => ∃ x, v = some (vI x) ∧ P x τ) := by
    intro d
    induction d with
    | zero =>
      intro h hh
      refine v_9_6 hp ⟨by omega, by omega, fun _ => ⟨_, rfl, ?_⟩, fun e => absurd (by omega) e⟩
      have e : (chP (rtC K) h).1 = chF K := by
        unfold chF
        by_cases c : kN K = 0
        · rw [if_pos c, show h = 0 by omega]; rfl
        · rw [if_neg c, show h = kN K - 1 + 1 by omega, chP_bst _ (fun i hi => (rtC_rng (by omega)).1)]
      rw [e]; exact q
    | succ d ih =>
      intro h hh
      have nx := ih (h + 1) (by omega)
      rw [show chP (rtC K) (h + 1) = if (chP (rtC K) h).2 < rtC K h then ((h : Int), rtC K h) else chP (rtC K) h from rfl] at nx
      have c1 := cr h (by omega)
      have c2 := rtC_rng (K := K) (h := h) (by omega)
      refine v_9_6 hp ⟨by omega, by omega, fun e => absurd e (by omega), fun _ => ⟨fun e => absurd e (by omega), fun _ => c_rsz hp ok hr (by omega) ?_⟩⟩
      rw [if_pos (by omega), Int.toNat_natCast]
      refine ⟨by omega, by omega, fun c => ?_, fun c => ?_⟩
      · rw [if_neg (by omega)] at nx; exact nx
      · rw [if_pos (by omega)] at nx; exact nx
  exact v_9 hp (lp (kN K) 0 (by omega))
theorem m_chief {X : PX} {σ : Sg} {o : Nat} {K : Kz} {s : Cs} {P : Int → Sg → Prop} (ok : sOk K s) (hx : MX σ o K) (h17 : σ.1 170 17 = ((0 : Nat) : Int)) (q : P (chF K) σ) : CI X 223 [vR (some 170)] σ P := by
  obtain ⟨e1, e2, e3, e4⟩ := ok.e7
  have h12 := hx.2.1
  unfold chF at q
  have lp : kN K ≠ 0 → ∀ (d h : Nat), h + 1 + d = kN K → Ev X 223 9 [some (vR (some 170)), some (vI (bst (rtC K) h)), some (vI ((h + 1 : Nat) : Int))] [] σ (fun v τ => ∃ x, v = some (vI x) ∧ P x τ) := by
    intro nz d
    induction d with
    | zero =>
      intro h hh
      rw [if_neg nz] at q
      refine v_223_9 ⟨by omega, by omega, fun _ => ⟨_, rfl, ?_⟩, fun e => absurd (by omega) e⟩
      rw [show h = kN K - 1 by omega]; exact q
    | succ d ih =>
      intro h hh
      have nx := ih (h + 1) (by omega)
      rw [show bst (rtC K) (h + 1) = if rtC K (bst (rtC K) h) < rtC K (h + 1) then h + 1 else bst (rtC K) h from rfl] at nx
      have bl := (bst_spec (rtC K) h).1
      have c1 := rtC_rng (K := K) (h := h + 1) (by omega)
      have c2 := rtC_rng (K := K) (h := bst (rtC K) h) (by omega)
      have hS : 2 ^ (h + 1) < 2 ^ kN K := pow_lt_n (by omega)
      have hS2 : 2 ^ (bst (rtC K) h) < 2 ^ kN K := pow_lt_n (by omega)
      have gl := gClo_lt7 (cut := 0) ok.1 hS
      have gl2 := gClo_lt7 (cut := 0) ok.1 hS2
      refine v_223_9 ⟨by omega, by omega, fun e => absurd e (by omega), fun _ => ?_⟩
      rw [b_one (by omega), b_one (by omega)]
      refine m_ex ok.1 hx.rm h17 (by omega) hS (m_bits (by omega) (m_ex ok.1 hx.rm h17 (by omega) hS2 (m_bits (by omega) ?_)))
      rw [show (popc (gClo (kR K) 0 (2 ^ (h + 1))) 12 : Int) = rtC K (h + 1) from rfl, show (popc (gClo (kR K) 0 (2 ^ bst (rtC K) h)) 12 : Int) = rtC K (bst (rtC K) h) from rfl]
      refine ⟨by omega, by omega, fun c => ?_, fun c => ?_⟩
      · rw [if_neg (by omega)] at nx; exact nx
      · rw [if_pos (by omega)] at nx; exact nx
  refine v_223 ⟨by omega, fun c => lp (by omega) (kN K - 1) 0 (by omega), fun c => v_223_9 ⟨by omega, by omega, fun _ => ⟨_, rfl, ?_⟩, fun e => absurd (by omega) e⟩⟩
  rw [if_pos (by omega)] at q; exact q
/-! KEYS -/
theorem gClo_cut {G : Gs} {n cut S : Nat} (hG : gOk G n) (hS : S < 2 ^ n) : gSub (gClo G cut S) (gClo G 0 S) := by
  have a := gClo_is (cut := cut) hG hS
  have b := gClo_is (cut := 0) hG hS
  refine a.2.2 _ b.1 (fun r hr h => b.2.1 r hr ?_)
  rw [gHol.iff] at h ⊢
  exact ⟨Nat.zero_testBit r, h.2⟩
def kyB (K : Kz) (s : Cs) (r : Nat) : Bool := decide (gClo (kR K) (2 ^ r) (cO s) ≠ gClo (kR K) 0 (cO s))
theorem ky_pop {K : Kz} {s : Cs} {r : Nat} (ok : sOk K s) : popc (gClo (kR K) (2 ^ r) (cO s)) 12 < popc (gClo (kR K) 0 (cO s)) 12 ↔ kyB K s r = true := by
  have sb := gClo_cut (cut := 2 ^ r) ok.1 ok.2.2.2.1
  have l := gClo_lt7 (cut := 0) ok.1 ok.2.2.2.1
  unfold kyB
  rw [decide_eq_true_iff]
  constructor
  · intro h e; rw [e] at h; omega
  · intro h; exact popc_lt12 sb (by omega) h
theorem c_keys {X : PX} {σ : Sg} {p : Nat} {K : Kz} {s : Cs} {P : Int → Sg → Prop} (hp : p ∈ parL) (ok : sOk K s) (hr : RP σ p K s) (q : P (stB (kyB K s) (kR K).1) σ) : CI X 10 [vR (some p)] σ P := by
  obtain ⟨e1, e2, e3, e4⟩ := ok.e7
  obtain ⟨r0, r1, r2, r3, r4, r5, r6⟩ := id hr
  have g10 := ok.1.1
  have g0 := gClo_lt7 (cut := 0) ok.1 ok.2.2.2.1
  have r4a := r4.1
  have lp : ∀ (d r : Nat), r + d = (kR K).1 → Ev X 10 10 [some (vR (some p)), some (vI (gClo (kR K) 0 (cO s))), some (vI (stB (kyB K s) r)), some (vI r)] [] σ (fun v τ => ∃ x, v = some (vI x) ∧ P x τ) := by
    intro d
    induction d with
    | zero =>
      intro r hr
      refine v_10_10 hp ⟨by omega, by omega, fun _ => ⟨_, rfl, ?_⟩, fun e => absurd (by omega) e⟩
      rw [show r = (kR K).1 by omega]; exact q
    | succ d ih =>
      intro r hr
      have nx := ih (r + 1) (by omega)
      rw [show stB (kyB K s) (r + 1) = if kyB K s r = true then stB (kyB K s) r ||| 2 ^ r else stB (kyB K s) r from rfl] at nx
      have p10 : 2 ^ r < 2 ^ 10 := pow_lt_n (by omega)
      have g1 := gClo_lt7 (cut := 2 ^ r) ok.1 ok.2.2.2.1
      have io := ior_st (b := kyB K s) (k := r) (by omega)
      refine v_10_10 hp ⟨by omega, by omega, fun e => absurd e (by omega), fun _ => ⟨fun e => absurd e (by omega), fun _ => ?_⟩⟩
      rw [io.1, r3, b_one (by omega)]
      refine c_ex (cut := 2 ^ r) hp ok.1 r4 (by omega) ok.2.2.2.1 ⟨by omega, by omega, fun c => ?_, fun c => ?_⟩
      · rw [if_neg (by unfold kyB; rw [decide_eq_true_iff]; omega)] at nx; exact nx
      · rw [if_pos (by unfold kyB; rw [decide_eq_true_iff]; omega)] at nx; exact nx
  refine v_10 hp ?_
  rw [r3]
  exact c_ex (cut := 0) hp ok.1 r4 (by omega) ok.2.2.2.1 (lp (kR K).1 0 (by omega))
theorem m_keys {X : PX} {σ : Sg} {o : Nat} {K : Kz} {s : Cs} {P : Int → Sg → Prop} (ok : sOk K s) (hx : MX σ o K) (h16 : σ.1 170 16 = cO s) (h18 : σ.1 170 18 = gClo (kR K) 0 (cO s)) (k : ∀ τ : Sg, FA σ τ → P (stB (kyB K s) (kR K).1) τ) : CI X 224 [vR (some 170)] σ P := by
  obtain ⟨e1, e2, e3, e4⟩ := ok.e7
  have g10 := ok.1.1
  have g0 := gClo_lt7 (cut := 0) ok.1 ok.2.2.2.1
  have lp : ∀ (d r : Nat) (τ : Sg), r + d = (kR K).1 → FA σ τ → MX τ o K → τ.1 170 16 = cO s → τ.1 170 18 = gClo (kR K) 0 (cO s) → Ev X 224 4 [some (vR (some 170)), some (vI (stB (kyB K s) r)), some (vI r)] [] τ (fun v τ => ∃ x, v = some (vI x) ∧ P x τ) := by
    intro d
    induction d with
    | zero =>
      intro r τ hr f m i16 i18
      have h13 := m.2.2.1
      refine v_224_4 ⟨by omega, by omega, fun _ => ⟨_, rfl, ?_⟩, fun e => absurd (by omega) e⟩
      rw [show r = (kR K).1 by omega]; exact k τ f
    | succ d ih =>
      intro r τ hr f m i16 i18
      have h13 := m.2.2.1
      have p10 : 2 ^ r < 2 ^ 10 := pow_lt_n (by omega)
      have g1 := gClo_lt7 (cut := 2 ^ r) ok.1 ok.2.2.2.1
      have io := ior_st (b := kyB K s) (k := r) (by omega)
      have f2 : FA σ (up2 τ.1 170 17 ((2 ^ r : Nat) : Int), τ.2) := f.trans (fa_170 _ _)
      have m2 : MX (up2 τ.1 170 17 ((2 ^ r : Nat) : Int), τ.2) o K := m.mv (fun j hj => by dsimp only; rw [up2_if, if_neg (by omega)]) rfl
      have j16 : up2 τ.1 170 17 ((2 ^ r : Nat) : Int) 170 16 = cO s := by rw [up2_if, if_neg (by omega)]; exact i16
      have j18 : up2 τ.1 170 17 ((2 ^ r : Nat) : Int) 170 18 = gClo (kR K) 0 (cO s) := by rw [up2_if, if_neg (by omega)]; exact i18
      have nx := ih (r + 1) _ (by omega) f2 m2 j16 j18
      rw [show stB (kyB K s) (r + 1) = if kyB K s r = true then stB (kyB K s) r ||| 2 ^ r else stB (kyB K s) r from rfl] at nx
      have pa := popc_le (gClo (kR K) 0 (cO s)) 12
      have pb := popc_le (gClo (kR K) (2 ^ r) (cO s)) 12
      have kp := ky_pop (r := r) ok
      refine v_224_4 ⟨by omega, by omega, fun e => absurd e (by omega), fun _ => ?_⟩
      rw [io.1, io.2, i16, b_one (by omega)]
      refine m_ex (cut := 2 ^ r) ok.1 m2.rm (show up2 τ.1 170 17 ((2 ^ r : Nat) : Int) 170 17 = _ from up2_get _ _ _ _) (by omega) ok.2.2.2.1 (m_bits (by omega) ?_)
      dsimp only
      rw [j18]
      refine m_bits (by omega) ⟨by omega, by omega, fun c => ?_, fun c => ?_⟩
      · rw [if_neg (fun x => by have := kp.mpr x; omega)] at nx; exact nx
      · rw [if_pos (kp.mp (by omega))] at nx; exact nx
  exact v_224 (lp (kR K).1 0 σ (by omega) FA.rfl hx h16 h18)
/-! IDLE -/
def idB (K : Kz) (r : Nat) : Bool := (gClo (kR K) (2 ^ r) (gNd (kR K) r)).testBit ((kR K).2.1 r)
theorem nd_ltn {G : Gs} {n r : Nat} (h : gOk G n) (hr : r < G.1) : gNd G r < 2 ^ n := by
  obtain ⟨-, h7, h3⟩ := h
  obtain ⟨-, a1, a2, a3⟩ := h3 r hr
  unfold gNd
  split
  · exact pow_lt_n (by omega)
  · exact Nat.or_lt_two_pow (pow_lt_n (by omega)) (pow_lt_n (by omega))
theorem nd_sub {G : Gs} {r T : Nat} (h : T.testBit (G.2.2.1 r) = true ∧ (G.2.2.2 r = -1 ∨ T.testBit (G.2.2.2 r).toNat = true)) : gSub (gNd G r) T := fun i hi => by
  have e := and_nd.mpr h
  have := congrArg (fun x => x.testBit i) e
  simp only [Nat.testBit_and, hi, Bool.and_true] at this
  exact this
theorem idle_iff {K : Kz} {s : Cs} {r : Nat} (ok : sOk K s) (hr : r < (kR K).1) : (∀ T : Nat, T < 2 ^ kN K → gClo (kR K) 0 T = gClo (kR K) (2 ^ r) T) ↔ idB K r = true := by
  have nl := nd_ltn ok.1 hr
  have self : ∀ T : Nat, gSub (gNd (kR K) r) T → T.testBit ((kR K).2.2.1 r) = true ∧ ((kR K).2.2.2 r = -1 ∨ T.testBit ((kR K).2.2.2 r).toNat = true) := fun T h => by
    rw [← and_nd]
    refine Nat.eq_of_testBit_eq (fun i => ?_)
    rw [Nat.testBit_and]
    rcases hx : (gNd (kR K) r).testBit i with _ | _
    · simp
    · rw [h i hx]; rfl
  constructor
  · intro h
    have e := h _ nl
    have c := gClo_is (cut := 0) ok.1 nl
    unfold idB
    rw [← e]
    refine c.2.1 r hr ?_
    rw [gHol.iff]
    exact ⟨Nat.zero_testBit r, self _ c.1⟩
  · intro h T hT
    have a := gClo_is (cut := 2 ^ r) ok.1 hT
    have b := gClo_is (cut := 0) ok.1 hT
    refine gSub.eq (b.2.2 _ a.1 (fun r' hr' hol => ?_)) (gClo_cut ok.1 hT)
    rw [gHol.iff] at hol
    by_cases e : r' = r
    · rw [e] at hol ⊢
      have d := gClo_is (cut := 2 ^ r) ok.1 nl
      exact d.2.2 _ (nd_sub hol.2) a.2.1 _ h
    · refine a.2.1 r' hr' ?_
      rw [gHol.iff, pow_tb]
      exact ⟨by simp [Ne.symm e], hol.2⟩
theorem c_idle {X : PX} {σ : Sg} {p : Nat} {K : Kz} {s : Cs} {P : Int → Sg → Prop} (hp : p ∈ parL) (ok : sOk K s) (hr : RP σ p K s) (q : P (stB (idB K) (kR K).1) σ) : CI X 11 [vR (some p)] σ P := by
  obtain ⟨e1, e2, e3, e4⟩ := ok.e7
  obtain ⟨r0, r1, r2, r3, r4, r5, r6⟩ := id hr
  have g10 := ok.1.1
  have r4a := r4.1
  have lp : ∀ (d r : Nat), r + d = (kR K).1 → Ev X 11 4 [some (vR (some p)), some (vI (stB (idB K) r)), some (vI r), none] [] σ (fun v τ => ∃ x, v = some (vI x) ∧ P x τ) := by
    intro d
    induction d with
    | zero =>
      intro r hr
      refine v_11_4 hp ⟨by omega, by omega, fun _ => ⟨_, rfl, ?_⟩, fun e => absurd (by omega) e⟩
      rw [show r = (kR K).1 by omega]; exact q
    | succ d ih =>
      intro r hr
      have nx := ih (r + 1) (by omega)
      rw [show stB (idB K) (r + 1) = if idB K r = true then stB (idB K) r ||| 2 ^ r else stB (idB K) r from rfl] at nx
      have p10 : 2 ^ r < 2 ^ 10 := pow_lt_n (by omega)
      have nl := nd_ltn ok.1 (r := r) (by omega)
      have g1 := gClo_lt7 (cut := 2 ^ r) ok.1 nl
      have io := ior_st (b := idB K) (k := r) (by omega)
      have gh := (ok.1.2.2 r (by omega)).1
      obtain ⟨q1, q2⟩ := r4.2 r (by omega)
      have bb := bit_0 (a := gClo (kR K) (2 ^ r) (gNd (kR K) r)) (k := (kR K).2.1 r) (by omega) (by omega)
      refine v_11_4 hp ⟨by omega, by omega, fun e => absurd e (by omega), fun _ => ⟨fun e => absurd e (by omega), fun _ => ⟨by omega, ?_⟩⟩⟩
      rw [io.1, Int.toNat_natCast, q2, b_one (by omega)]
      refine c_ex (cut := 2 ^ r) hp ok.1 r4 (by omega) nl ?_
      rw [q1]
      refine ⟨bit_rng (by omega) (by omega), fun c => ?_, fun c => ?_⟩
      · rw [if_neg (show ¬ idB K r = true from fun x => bb.mpr x c)] at nx; exact nx
      · rw [if_pos (show idB K r = true from bb.mp c)] at nx; exact nx
  exact v_11 hp (lp (kR K).1 0 (by omega))
theorem m_isIdle {X : PX} {σ : Sg} {o r : Nat} {K : Kz} {s : Cs} {P : Int → Sg → Prop} (ok : sOk K s) (hx : MX σ o K) (hr : r < (kR K).1) (k : ∀ τ : Sg, FA σ τ → MX τ o K → P (if idB K r then 1 else 0) τ) : CI X 225 [vR (some 170), vI r] σ P := by
  obtain ⟨e1, e2, e3, e4⟩ := ok.e7
  have g10 := ok.1.1
  have np := Nat.two_pow_pos (kN K)
  have p10 : 2 ^ r < 2 ^ 10 := pow_lt_n (by omega)
  have lp : ∀ (d x : Nat) (τ : Sg), x + d = 2 ^ kN K → FA σ τ → MX τ o K → (∀ T : Nat, T < x → gClo (kR K) 0 T = gClo (kR K) (2 ^ r) T) → Ev X 225 4 [some (vR (some 170)), some (vI r), some (vI 1), some (vI x), none] [] τ (fun v τ => ∃ x, v = some (vI x) ∧ P x τ) := by
    intro d
    induction d with
    | zero =>
      intro x τ hxx f m al
      have e : idB K r = true := (idle_iff ok hr).mp (fun T hT => al T (by omega))
      have := k τ f m
      rw [e, if_pos rfl] at this
      exact v_225_4 (m_every m.2.1 e3 ⟨by omega, by omega, fun _ => ⟨by omega, _, rfl, this⟩, fun e => absurd (by omega) e⟩)
    | succ d ih =>
      intro x τ hxx f m al
      have hS : x < 2 ^ kN K := by omega
      have g0 := gClo_lt7 (cut := 0) ok.1 hS
      have g1 := gClo_lt7 (cut := 2 ^ r) ok.1 hS
      have f2 : FA σ (up2 τ.1 170 17 0, τ.2) := f.trans (fa_170 _ _)
      have m2 : MX (up2 τ.1 170 17 0, τ.2) o K := m.mv (fun j hj => by dsimp only; rw [up2_if, if_neg (by omega)]) rfl
      have f3 : FA σ (up2 (up2 τ.1 170 17 0) 170 17 ((2 ^ r : Nat) : Int), τ.2) := f2.trans (fa_170 _ _)
      have m3 : MX (up2 (up2 τ.1 170 17 0) 170 17 ((2 ^ r : Nat) : Int), τ.2) o K := m2.mv (fun j hj => by dsimp only; rw [up2_if, if_neg (by omega)]) rfl
      refine v_225_4 (m_every m.2.1 e3 ⟨by omega, by omega, fun e => absurd e (by omega), fun _ => ⟨by omega, fun e => absurd e (by omega), fun _ => m_ex (cut := 0) ok.1 m2.rm (show up2 τ.1 170 17 0 170 17 = _ from up2_get _ _ _ _) (by omega) hS ?_⟩⟩)
      rw [b_one (by omega)]
      refine m_ex (cut := 2 ^ r) ok.1 m3.rm (show up2 (up2 τ.1 170 17 0) 170 17 ((2 ^ r : Nat) : Int) 170 17 = _ from up2_get _ _ _ _) (by omega) hS ⟨by omega, by omega, fun c => ?_, fun c => ih (x + 1) _ (by omega) f3 m3 (fun T hT => ?_)⟩
      · have e : ¬ idB K r = true := fun x => c (by rw [(idle_iff ok hr).mpr x _ hS])
        have := k _ f3 m3
        rw [if_neg e] at this
        exact v_225_4 (m_every m3.2.1 e3 ⟨by omega, by omega, fun _ => ⟨by omega, _, rfl, this⟩, fun _ => ⟨by omega, fun _ => ⟨by omega, _, rfl, this⟩, fun e => absurd rfl e⟩⟩)
      · rcases Nat.lt_or_ge T x with t | t
        · exact al T t
        · rw [show T = x by omega]; omega
  exact v_225 (lp (2 ^ kN K) 0 σ (by omega) FA.rfl hx (fun T hT => absurd hT (by omega)))
theorem m_idle {X : PX} {σ : Sg} {o : Nat} {K : Kz} {s : Cs} {P : Int → Sg → Prop} (ok : sOk K s) (hx : MX σ o K) (k : ∀ τ : Sg, FA σ τ → P (stB (idB K) (kR K).1) τ) : CI X 226 [vR (some 170)] σ P := by
  have g10 := ok.1.1
  have lp : ∀ (d r : Nat) (τ : Sg), r + d = (kR K).1 → FA σ τ → MX τ o K → Ev X 226 4 [some (vR (some 170)), some (vI (stB (idB K) r)), some (vI r)] [] τ (fun v τ => ∃ x, v = some (vI x) ∧ P x τ) := by
    intro d
    induction d with
    | zero =>
      intro r τ hr f m
      have h13 := m.2.2.1
      refine v_226_4 ⟨by omega, by omega, fun _ => ⟨_, rfl, ?_⟩, fun e => absurd (by omega) e⟩
      rw [show r = (kR K).1 by omega]; exact k τ f
    | succ d ih =>
      intro r τ hr f m
      have h13 := m.2.2.1
      have io := ior_st (b := idB K) (k := r) (by omega)
      refine v_226_4 ⟨by omega, by omega, fun e => absurd e (by omega), fun _ => ?_⟩
      rw [io.1, io.2]
      refine m_isIdle ok m (by omega) (fun υ f2 m2 => ?_)
      have nx := ih (r + 1) υ (by omega) (f.trans f2) m2
      rw [show stB (idB K) (r + 1) = if idB K r = true then stB (idB K) r ||| 2 ^ r else stB (idB K) r from rfl] at nx
      rcases hx : idB K r with _ | _
      · rw [hx, if_neg (by decide)] at nx
        exact ⟨by decide, fun _ => nx, fun e => absurd rfl e⟩
      · rw [hx, if_pos rfl] at nx
        exact ⟨by decide, fun e => absurd e (by decide), fun _ => nx⟩
  exact v_226 (lp (kR K).1 0 σ (by omega) FA.rfl hx)
