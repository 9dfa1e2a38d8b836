/-! lot, spared -/
theorem smN_s (f : Nat → Nat) (k : Nat) : smN f (k + 1) = smN f k + f k := rfl
def csF (K : Kz) (s : Cs) (k : Int) (m x : Nat) : Nat := if (popc x 12 : Int) = k then popc (gClo (kR K) 0 (cO s ||| x) &&& m) 12 else 0
def stF (k : Int) (x : Nat) : Nat := if (popc x 12 : Int) = k then 1 else 0
theorem csF_le {K : Kz} {s : Cs} {k : Int} {m : Nat} (x : Nat) : csF K s k m x ≤ 12 := by
  unfold csF
  split
  · exact popc_le _ 12
  · omega
theorem stF_le {k : Int} (x : Nat) : stF k x ≤ 1 := by unfold stF; split <;> omega
theorem popc_full : ∀ k : Nat, k ≤ 7 → popc (2 ^ k - 1) 12 = k := by decide +kernel
theorem st_pos {k : Int} {n : Nat} (h0 : 0 ≤ k) (h1 : k ≤ n) (n7 : n ≤ 7) : 0 < smN (stF k) (2 ^ n) := by
  have e : stF k (2 ^ k.toNat - 1) = 1 := by
    unfold stF
    rw [popc_full _ (by omega), if_pos (by omega)]
  have l : 2 ^ k.toNat ≤ 2 ^ n := Nat.pow_le_pow_right (by omega) (by omega)
  have p := Nat.two_pow_pos k.toNat
  have := smN_one (f := stF k) (b := 2 ^ k.toNat - 1) (2 ^ n) (by omega)
  omega
theorem c_cases {X : PX} {σ : Sg} {p m : Nat} {K : Kz} {s : Cs} {k : Int} {P : Int → Sg → Prop} (hp : p ∈ parL) (ok : sOk K s) (h : RP σ p K s) (hk : InR k) (hm : m < 128) (q : P (smN (csF K s k m) (2 ^ kN K)) σ) : CI X 6 [vR (some p), vI k, vI m] σ P := by
  obtain ⟨e1, e2, e3, e4⟩ := ok.e7
  obtain ⟨r0, r1, r2, r3, r4, r5, r6⟩ := id h
  have ho := ok.2.2.2.1
  have np := Nat.two_pow_pos (kN K)
  have : ∀ (d x : Nat), x + d = 2 ^ kN K → Ev X 6 4 [some (vR (some p)), some (vI k), some (vI m), some (vI (smN (csF K s k m) x)), some (vI x)] [] σ (fun v τ => ∃ x, v = some (vI x) ∧ P x τ) := by
    intro d
    induction d with
    | zero =>
      intro x hx
      refine v_6_4 hp (c_every hp r2 e3 ⟨by omega, by omega, fun _ => ⟨_, rfl, ?_⟩, fun e => absurd (by omega) e⟩)
      rw [show x = 2 ^ kN K by omega]; exact q
    | succ d ih =>
      intro x hx
      have nx := ih (x + 1) (by omega)
      unfold smN csF at nx
      have pl := popc_le x 12
      refine v_6_4 hp (c_every hp r2 e3 ⟨by omega, by omega, fun e => absurd e (by omega), fun _ => ⟨fun e => absurd e (by omega), fun _ => c_bitc (by omega) ⟨by omega, hk, fun e => ?_, fun e => ?_⟩⟩⟩)
      · rw [if_neg e] at nx
        exact nx
      · rw [if_pos (by omega)] at nx
        have hx2 : cO s ||| x < 2 ^ kN K := Nat.or_lt_two_pow ho (by omega)
        rw [r3, ior_n (by omega) (by omega)]
        have gl := gClo_lt7 (cut := 0) ok.1 hx2
        refine c_ex (cut := 0) hp ok.1 r4 (by omega) hx2 ?_
        have al : gClo (kR K) 0 (cO s ||| x) &&& m < 128 := Nat.lt_of_le_of_lt Nat.and_le_left gl
        rw [b_and (by omega) (by omega)]
        exact c_bitc (by omega) nx
  exact v_6 hp (this (2 ^ kN K) 0 (by omega))
theorem c_sets {X : PX} {σ : Sg} {p : Nat} {K : Kz} {s : Cs} {k : Int} {P : Int → Sg → Prop} (hp : p ∈ parL) (ok : sOk K s) (h : RP σ p K s) (hk : InR k) (q : P (smN (stF k) (2 ^ kN K)) σ) : CI X 7 [vR (some p), vI k] σ P := by
  obtain ⟨e1, e2, e3, e4⟩ := ok.e7
  obtain ⟨r0, r1, r2, r3, r4, r5, r6⟩ := id h
  have np := Nat.two_pow_pos (kN K)
  have : ∀ (d x : Nat), x + d = 2 ^ kN K → Ev X 7 4 [some (vR (some p)), some (vI k), some (vI (smN (stF k) x)), some (vI x)] [] σ (fun v τ => ∃ x, v = some (vI x) ∧ P x τ) := by
    intro d
    induction d with
    | zero =>
      intro x hx
      refine v_7_4 hp (c_every hp r2 e3 ⟨by omega, by omega, fun _ => ⟨_, rfl, ?_⟩, fun e => absurd (by omega) e⟩)
      rw [show x = 2 ^ kN K by omega]; exact q
    | succ d ih =>
      intro x hx
      have nx := ih (x + 1) (by omega)
      unfold smN stF at nx
      have pl := popc_le x 12
      refine v_7_4 hp (c_every hp r2 e3 ⟨by omega, by omega, fun e => absurd e (by omega), fun _ => ⟨fun e => absurd e (by omega), fun _ => c_bitc (by omega) ⟨by omega, hk, fun e => ?_, fun e => ?_⟩⟩⟩)
      · rw [if_neg e] at nx
        exact nx
      · rw [if_pos (by omega)] at nx
        exact nx
  exact v_7 hp (this (2 ^ kN K) 0 (by omega))
theorem popc_bit {E h : Nat} : ∀ k : Nat, popc (E &&& 2 ^ h) k = if h < k ∧ E.testBit h = true then 1 else 0
  | 0 => by rw [if_neg (by omega)]; rfl
  | k + 1 => by
    unfold popc
    rw [popc_bit k, Nat.testBit_and, pow_tb]
    by_cases c : h = k
    · rw [c]
      rcases E.testBit k with _ | _
      · simp
      · simp
    · rcases hx : E.testBit h with _ | _
      · simp [c]
      · by_cases d : h < k
        · simp [c, d, show h < k + 1 by omega]
        · simp [c, d, show ¬ h < k + 1 by omega]
theorem s_lot {X : PX} : Sm_16 X Rel := by
  intro a k b ha hk hb z hz σ hR
  refine same_P (a := a) hR (-1) (by omega) (fun hc => ?_) (fun τ hR2 hc => ?_) (fun K s a2 hc T => ?_)
  · exact v_141 (c_hhN hR ha hc ⟨by omega, fun e => absurd rfl e, fun _ => ⟨_, rfl, Out.rfl, rfl⟩⟩)
  · exact v_220 (m_isPN hR2 ha hc ⟨by omega, fun _ => ⟨_, rfl, FA.rfl, rfl⟩, fun e => absurd rfl e⟩)
  · obtain ⟨⟨tp, tp2⟩, ok, nw, tr, tm⟩ := id T
    obtain ⟨e1, e2, e3, e4⟩ := ok.e7
    have ho := ok.2.2.2.1
    have r2 := tr.2.2.1
    by_cases g : (0 ≤ b ∧ b < kN K) ∧ 0 ≤ k ∧ k ≤ kN K
    · obtain ⟨g2, g3⟩ := g
      have es := shl1 g2.1 (by omega)
      have hS : 2 ^ b.toNat < 2 ^ kN K := pow_lt_n (by omega)
      have sp := st_pos (k := k) g3.1 g3.2 e3
      have sl := smN_le (f := stF k) (m := 1) stF_le (2 ^ kN K)
      have ul := smN_le (f := csF K s k (2 ^ b.toNat)) (m := 12) csF_le (2 ^ kN K)
      have ll := lstT_le (smN (csF K s k (2 ^ b.toNat)) (2 ^ kN K)) (smN (stF k) (2 ^ kN K)) z
      refine ⟨lstT (smN (csF K s k (2 ^ b.toNat)) (2 ^ kN K)) (smN (stF k) (2 ^ kN K)) z, by omega, v_141 (c_hhY hR ha hb hc T ?_), fun τ hR2 hc2 T2 _ => v_220 (m_isPY hR2 ha hc2 T2 (fun υ g S _ => ⟨by omega, fun e => absurd e (by omega), fun _ => m_isH S.mx.2.1 e3 hb ?_⟩))⟩
      · rw [if_pos g2, es]
        exact ⟨by omega, fun _ => ⟨by omega, hk, fun e => absurd e (by omega), fun _ => ⟨by omega, fun _ => c_cases tp ok tr hk (by omega) (c_sets tp ok tr hk (c_lst (by omega) (by omega) sp hz ⟨_, rfl, Out.rfl, rfl⟩)), fun e => absurd (by omega) e⟩⟩, fun e => absurd (by omega) e⟩
      · rw [if_pos g2]
        refine ⟨by omega, fun e => absurd e (by omega), fun _ => c_isIn hk (by omega) (by omega) ?_⟩
        rw [if_pos (by omega)]
        obtain ⟨⟨hx, a14, a15, a16, a17, a19, a20, a21, ag⟩, a18, at'⟩ := id S
        have h17 : υ.1 170 17 = ((0 : Nat) : Int) := by rw [a17, nw.1]
        have np := Nat.two_pow_pos (kN K)
        have lp : ∀ (d x : Nat), x + d = 2 ^ kN K → Ev X 220 25 [some (vR (some 170)), none, some (vI k), some (vI b), some (vI z), some (vI (smN (stF k) x)), some (vI (smN (csF K s k (2 ^ b.toNat)) x)), some (vI x)] [] υ (fun v τ' => ∃ x, v = some (vI x) ∧ FA τ τ' ∧ x = (lstT (smN (csF K s k (2 ^ b.toNat)) (2 ^ kN K)) (smN (stF k) (2 ^ kN K)) z : Int)) := by
          intro d
          induction d with
          | zero =>
            intro x hxx
            refine v_220_25 (m_every hx.2.1 e3 ⟨by omega, by omega, fun _ => ?_, fun e => absurd (by omega) e⟩)
            rw [show x = 2 ^ kN K by omega]
            exact m_lst (by omega) (by omega) sp hz ⟨_, rfl, g.1, rfl⟩
          | succ d ih =>
            intro x hxx
            have nx := ih (x + 1) (by omega)
            rw [smN_s, smN_s] at nx
            have pl := popc_le x 12
            refine v_220_25 (m_every hx.2.1 e3 ⟨by omega, by omega, fun e => absurd e (by omega), fun _ => m_bits (by omega) ⟨by omega, hk, fun e => ?_, fun e => ?_⟩⟩)
            · have hx2 : cO s ||| x < 2 ^ kN K := Nat.or_lt_two_pow ho (by omega)
              have gl := gClo_lt7 (cut := 0) ok.1 hx2
              rw [a16, ior_n (by omega) (by omega)]
              refine m_ex ok.1 hx.rm h17 (by omega) hx2 ?_
              have e5 : stF k x = 1 := by unfold stF; rw [if_pos e]
              have e6 : csF K s k (2 ^ b.toNat) x = if (gClo (kR K) 0 (cO s ||| x)).testBit b.toNat then 1 else 0 := by
                unfold csF; rw [if_pos e, popc_bit]; simp [show b.toNat < 12 by omega]
              have e7 : iAnd (iShr ((gClo (kR K) 0 (cO s ||| x) : Nat) : Int) b) 1 = ((csF K s k (2 ^ b.toNat) x : Nat) : Int) := by
                have := b_bit (a := gClo (kR K) 0 (cO s ||| x)) (k := b.toNat) (by omega) (by omega)
                rw [show ((b.toNat : Nat) : Int) = b by omega] at this
                rw [this, e6]; split <;> rfl
              rw [e7]
              rw [e5] at nx
              exact nx
            · have e5 : stF k x = 0 := by unfold stF; rw [if_neg e]
              have e6 : csF K s k (2 ^ b.toNat) x = 0 := by unfold csF; rw [if_neg e]
              rw [e5, e6] at nx
              exact nx
        exact ⟨by omega, fun e => absurd e (by omega), fun _ => ⟨hk, by rw [hx.2.1]; omega, fun _ => lp (2 ^ kN K) 0 (by omega), fun e => absurd (by rw [hx.2.1]; omega) e⟩⟩
    · refine ⟨-1, by omega, v_141 (c_hhY hR ha hb hc T ?_), fun τ hR2 hc2 T2 _ => v_220 (m_isPY hR2 ha hc2 T2 (fun υ g' S _ => ⟨by omega, fun e => absurd e (by omega), fun _ => m_isH S.mx.2.1 e3 hb ?_⟩))⟩
      · by_cases g2 : 0 ≤ b ∧ b < kN K
        · rw [if_pos g2]
          exact ⟨by omega, fun _ => ⟨by omega, hk, fun _ => ⟨_, rfl, Out.rfl, rfl⟩, fun c => ⟨by omega, fun c2 => absurd ⟨g2, by omega, by omega⟩ g, fun _ => ⟨_, rfl, Out.rfl, rfl⟩⟩⟩, fun e => absurd (by omega) e⟩
        · rw [if_neg g2]
          exact ⟨by omega, fun e => absurd rfl e, fun _ => ⟨_, rfl, Out.rfl, rfl⟩⟩
      · have h12 := S.mx.2.1
        by_cases g2 : 0 ≤ b ∧ b < kN K
        · rw [if_pos g2]
          refine ⟨by omega, fun e => absurd e (by omega), fun _ => c_isIn hk (by omega) (by omega) ⟨by split <;> omega, fun _ => ⟨_, rfl, g'.1, rfl⟩, fun e => ⟨hk, by omega, fun e2 => ?_, fun _ => ⟨_, rfl, g'.1, rfl⟩⟩⟩⟩
          rcases Decidable.em (0 ≤ k ∧ k ≤ 7) with c | c
          · exact absurd ⟨g2, by omega, by omega⟩ g
          · rw [if_neg c] at e; exact absurd rfl e
        · rw [if_neg g2]
          exact ⟨by omega, fun _ => ⟨_, rfl, g'.1, rfl⟩, fun e => absurd rfl e⟩
theorem s_spared {X : PX} : Sm_17 X Rel := by
  intro a k ha hk z hz σ hR
  refine same_P (a := a) hR (-1) (by omega) (fun hc => ?_) (fun τ hR2 hc => ?_) (fun K s a2 hc T => ?_)
  · exact v_142 (c_hasN (s := 0) hR (by omega) ha hc ⟨by omega, fun e => absurd rfl e, fun _ => ⟨_, rfl, Out.rfl, rfl⟩⟩)
  · exact v_221 (m_isPN hR2 ha hc ⟨by omega, fun _ => ⟨_, rfl, FA.rfl, rfl⟩, fun e => absurd rfl e⟩)
  · obtain ⟨⟨tp, tp2⟩, ok, nw, tr, tm⟩ := id T
    obtain ⟨e1, e2, e3, e4⟩ := ok.e7
    have ho := ok.2.2.2.1
    have r2 := tr.2.2.1
    by_cases g3 : 0 ≤ k ∧ k ≤ kN K
    · have sp := st_pos (k := k) g3.1 g3.2 e3
      have sl := smN_le (f := stF k) (m := 1) stF_le (2 ^ kN K)
      have ul := smN_le (f := csF K s k (2 ^ kN K - 1)) (m := 12) csF_le (2 ^ kN K)
      have ll := lstT_le (smN (csF K s k (2 ^ kN K - 1)) (2 ^ kN K)) (smN (stF k) (2 ^ kN K)) z
      refine ⟨lstT (smN (csF K s k (2 ^ kN K - 1)) (2 ^ kN K)) (smN (stF k) (2 ^ kN K)) z, by omega, v_142 (c_hasY (s := 0) hR (by omega) ha hc ?_), fun τ hR2 hc2 T2 _ => v_221 (m_isPY hR2 ha hc2 T2 (fun υ g S _ => ⟨by omega, fun e => absurd e (by omega), fun _ => c_isIn hk (by omega) (by omega) ?_⟩))⟩
      · exact ⟨by omega, fun _ => ⟨by omega, hk, fun e => absurd e (by omega), fun _ => ⟨by omega, fun _ => c_every tp r2 e3 (c_cases tp ok tr hk (by omega) (c_sets tp ok tr hk (c_lst (by omega) (by omega) sp hz ⟨_, rfl, Out.rfl, rfl⟩))), fun e => absurd (by omega) e⟩⟩, fun e => absurd (by omega) e⟩
      · rw [if_pos (by omega)]
        obtain ⟨⟨hx, a14, a15, a16, a17, a19, a20, a21, ag⟩, a18, at'⟩ := id S
        have h17 : υ.1 170 17 = ((0 : Nat) : Int) := by rw [a17, nw.1]
        have np := Nat.two_pow_pos (kN K)
        have lp : ∀ (d x : Nat), x + d = 2 ^ kN K → Ev X 221 21 [some (vR (some 170)), none, some (vI k), some (vI z), some (vI (smN (stF k) x)), some (vI (smN (csF K s k (2 ^ kN K - 1)) x)), some (vI x)] [] υ (fun v τ' => ∃ x, v = some (vI x) ∧ FA τ τ' ∧ x = (lstT (smN (csF K s k (2 ^ kN K - 1)) (2 ^ kN K)) (smN (stF k) (2 ^ kN K)) z : Int)) := by
          intro d
          induction d with
          | zero =>
            intro x hxx
            refine v_221_21 (m_every hx.2.1 e3 ⟨by omega, by omega, fun _ => ?_, fun e => absurd (by omega) e⟩)
            rw [show x = 2 ^ kN K by omega]
            exact m_lst (by omega) (by omega) sp hz ⟨_, rfl, g.1, rfl⟩
          | succ d ih =>
            intro x hxx
            have nx := ih (x + 1) (by omega)
            rw [smN_s, smN_s] at nx
            have pl := popc_le x 12
            refine v_221_21 (m_every hx.2.1 e3 ⟨by omega, by omega, fun e => absurd e (by omega), fun _ => m_bits (by omega) ⟨by omega, hk, fun e => ?_, fun e => ?_⟩⟩)
            · have hx2 : cO s ||| x < 2 ^ kN K := Nat.or_lt_two_pow ho (by omega)
              have gl := gClo_lt7 (cut := 0) ok.1 hx2
              have gl2 := gClo_lt (cut := 0) ok.1 hx2
              rw [a16, ior_n (by omega) (by omega)]
              refine m_ex ok.1 hx.rm h17 (by omega) hx2 (m_bits (by omega) ?_)
              have e5 : stF k x = 1 := by unfold stF; rw [if_pos e]
              have e6 : csF K s k (2 ^ kN K - 1) x = popc (gClo (kR K) 0 (cO s ||| x)) 12 := by
                unfold csF; rw [if_pos e, Nat.and_two_pow_sub_one_eq_mod, Nat.mod_eq_of_lt gl2]
              rw [e5, e6] at nx
              exact nx
            · have e5 : stF k x = 0 := by unfold stF; rw [if_neg e]
              have e6 : csF K s k (2 ^ kN K - 1) x = 0 := by unfold csF; rw [if_neg e]
              rw [e5, e6] at nx
              exact nx
        exact ⟨by omega, fun e => absurd e (by omega), fun _ => ⟨hk, by rw [hx.2.1]; omega, fun _ => lp (2 ^ kN K) 0 (by omega), fun e => absurd (by rw [hx.2.1]; omega) e⟩⟩
    · refine ⟨-1, by omega, v_142 (c_hasY (s := 0) hR (by omega) ha hc ?_), fun τ hR2 hc2 T2 _ => v_221 (m_isPY hR2 ha hc2 T2 (fun υ g' S _ => ⟨by omega, fun e => absurd e (by omega), fun _ => c_isIn hk (by omega) (by omega) ?_⟩))⟩
      · exact ⟨by omega, fun _ => ⟨by omega, hk, fun _ => ⟨_, rfl, Out.rfl, rfl⟩, fun c => ⟨by omega, fun c2 => absurd ⟨by omega, by omega⟩ g3, fun _ => ⟨_, rfl, Out.rfl, rfl⟩⟩⟩, fun e => absurd (by omega) e⟩
      · have h12 := S.mx.2.1
        refine ⟨by split <;> omega, fun _ => ⟨_, rfl, g'.1, rfl⟩, fun e => ⟨hk, by omega, fun e2 => ?_, fun _ => ⟨_, rfl, g'.1, rfl⟩⟩⟩
        rcases Decidable.em (0 ≤ k ∧ k ≤ 7) with c | c
        · exact absurd ⟨by omega, by omega⟩ g3
        · rw [if_neg c] at e; exact absurd rfl e
