/-! seeds, cuts: the fewest, of several the least -/
def upB (gd : Nat → Bool) (all : Nat) : Nat → Nat
  | 0 => all
  | k + 1 => if popc k 12 < popc (upB gd all k) 12 ∧ gd k = true then k else upB gd all k
def dnB (gd : Nat → Bool) (all : Nat) : Nat → Nat
  | 0 => all
  | k + 1 => if popc (all - k) 12 ≤ popc (dnB gd all k) 12 ∧ gd (all - k) = true then all - k else dnB gd all k
def crB (gd : Nat → Bool) : Nat → Int
  | 0 => -1
  | k + 1 => if (crB gd k = -1 ∨ popc k 12 < popc (crB gd k).toNat 12) ∧ gd k = true then k else crB gd k
theorem full_sub {m k : Nat} (h : k < 2 ^ m) : gSub k (2 ^ m - 1) := fun i hi => by
  rw [Nat.testBit_two_pow_sub_one]
  have := tb_lt h hi
  simp [this]
theorem full_pop {m k : Nat} (hm : m ≤ 10) (h : k < 2 ^ m - 1) : popc k 12 < popc (2 ^ m - 1) 12 := by
  have l : 2 ^ m ≤ 2 ^ 10 := Nat.pow_le_pow_right (by omega) hm
  exact popc_lt12 (full_sub (by omega)) (by omega) (by omega)
theorem upB_inv {gd : Nat → Bool} {m : Nat} (hm : m ≤ 10) (hg : gd (2 ^ m - 1) = true) : ∀ k : Nat, k ≤ 2 ^ m - 1 → gd (upB gd (2 ^ m - 1) k) = true ∧ (upB gd (2 ^ m - 1) k < k ∨ upB gd (2 ^ m - 1) k = 2 ^ m - 1) ∧ ∀ T : Nat, (T < k ∨ T = 2 ^ m - 1) → gd T = true → popc (upB gd (2 ^ m - 1) k) 12 < popc T 12 ∨ (popc (upB gd (2 ^ m - 1) k) 12 = popc T 12 ∧ upB gd (2 ^ m - 1) k ≤ T)
  | 0 => fun _ => ⟨hg, Or.inr rfl, fun T hT _ => Or.inr (by rw [hT.resolve_left (by omega)]; exact ⟨rfl, Nat.le_refl _⟩)⟩
  | k + 1 => fun hk => by
    obtain ⟨h1, h2, h3⟩ := upB_inv hm hg k (by omega)
    have fp := full_pop hm (k := k) (by omega)
    unfold upB
    by_cases c : popc k 12 < popc (upB gd (2 ^ m - 1) k) 12 ∧ gd k = true
    · rw [if_pos c]
      refine ⟨c.2, Or.inl (by omega), fun T hT gT => ?_⟩
      by_cases e : T = k
      · rw [e]; exact Or.inr ⟨rfl, Nat.le_refl _⟩
      · have := h3 T (by omega) gT
        omega
    · rw [if_neg c]
      refine ⟨h1, by omega, fun T hT gT => ?_⟩
      by_cases e : T = k
      · rw [e] at gT ⊢
        have n : ¬ popc k 12 < popc (upB gd (2 ^ m - 1) k) 12 := fun x => c ⟨x, gT⟩
        rcases h2 with g | g
        · omega
        · rw [g] at n ⊢; omega
      · exact h3 T (by omega) gT
theorem dnB_inv {gd : Nat → Bool} {all : Nat} (hg : gd all = true) : ∀ k : Nat, k ≤ all + 1 → gd (dnB gd all k) = true ∧ dnB gd all k ≤ all ∧ ∀ T : Nat, T ≤ all → all < T + k → gd T = true → popc (dnB gd all k) 12 < popc T 12 ∨ (popc (dnB gd all k) 12 = popc T 12 ∧ dnB gd all k ≤ T)
  | 0 => fun _ => ⟨hg, Nat.le_refl _, fun T h1 h2 _ => absurd h2 (by omega)⟩
  | k + 1 => fun hk => by
    obtain ⟨h1, h2, h3⟩ := dnB_inv hg k (by omega)
    unfold dnB
    by_cases c : popc (all - k) 12 ≤ popc (dnB gd all k) 12 ∧ gd (all - k) = true
    · rw [if_pos c]
      refine ⟨c.2, by omega, fun T t1 t2 gT => ?_⟩
      by_cases e : T = all - k
      · rw [e]; exact Or.inr ⟨rfl, Nat.le_refl _⟩
      · have := h3 T t1 (by omega) gT
        omega
    · rw [if_neg c]
      refine ⟨h1, h2, fun T t1 t2 gT => ?_⟩
      by_cases e : T = all - k
      · rw [e] at gT ⊢
        have n : ¬ popc (all - k) 12 ≤ popc (dnB gd all k) 12 := fun x => c ⟨x, gT⟩
        omega
      · exact h3 T t1 (by omega) gT
theorem up_dn {gd : Nat → Bool} {m : Nat} (hm : m ≤ 10) (hg : gd (2 ^ m - 1) = true) : dnB gd (2 ^ m - 1) (2 ^ m - 1 + 1) = upB gd (2 ^ m - 1) (2 ^ m - 1) := by
  obtain ⟨a1, a2, a3⟩ := upB_inv hm hg (2 ^ m - 1) (Nat.le_refl _)
  obtain ⟨b1, b2, b3⟩ := dnB_inv hg (2 ^ m - 1 + 1) (Nat.le_refl _)
  have x := a3 _ (by omega) b1
  have y := b3 _ (by omega) (by omega) a1
  omega
theorem crB_inv {gd : Nat → Bool} {m : Nat} (hm : m ≤ 10) : ∀ k : Nat, k ≤ 2 ^ m - 1 → (crB gd k = -1 ∧ upB gd (2 ^ m - 1) k = 2 ^ m - 1) ∨ (crB gd k = (upB gd (2 ^ m - 1) k : Int) ∧ upB gd (2 ^ m - 1) k < k)
  | 0 => fun _ => Or.inl ⟨rfl, rfl⟩
  | k + 1 => fun hk => by
    have fp := full_pop hm (k := k) (by omega)
    unfold crB upB
    rcases crB_inv (gd := gd) hm k (by omega) with ⟨h1, h2⟩ | ⟨h1, h2⟩
    · rw [h1, h2]
      by_cases c : gd k = true
      · rw [if_pos ⟨Or.inl rfl, c⟩, if_pos ⟨fp, c⟩]; right; exact ⟨rfl, by omega⟩
      · rw [if_neg (fun x => c x.2), if_neg (fun x => c x.2)]; left; exact ⟨rfl, rfl⟩
    · rw [h1, Int.toNat_natCast]
      right
      by_cases c : popc k 12 < popc (upB gd (2 ^ m - 1) k) 12 ∧ gd k = true
      · rw [if_pos ⟨Or.inr c.1, c.2⟩, if_pos c]; exact ⟨rfl, by omega⟩
      · rw [if_neg (fun x => c ⟨x.1.resolve_left (by omega), x.2⟩), if_neg c]; exact ⟨rfl, by omega⟩
theorem up_cr {gd : Nat → Bool} {m : Nat} (hm : m ≤ 10) (hg : gd (2 ^ m - 1) = true) : crB gd (2 ^ m) = (upB gd (2 ^ m - 1) (2 ^ m - 1) : Int) := by
  have p := Nat.two_pow_pos m
  have e : crB gd (2 ^ m) = crB gd (2 ^ m - 1 + 1) := by rw [Nat.sub_add_cancel p]
  rw [e]
  unfold crB
  rcases crB_inv (gd := gd) hm (2 ^ m - 1) (Nat.le_refl _) with ⟨h1, h2⟩ | ⟨h1, h2⟩
  · rw [h1, if_pos ⟨Or.inl rfl, hg⟩, h2]
  · have fp := full_pop hm h2
    rw [h1, Int.toNat_natCast, if_neg]
    intro x
    omega
theorem upB_le {gd : Nat → Bool} {all : Nat} : ∀ k : Nat, k ≤ all → upB gd all k ≤ all
  | 0 => fun _ => Nat.le_refl _
  | k + 1 => fun hk => by
    have := upB_le (gd := gd) k (show k ≤ all by omega)
    unfold upB
    split <;> omega
theorem dnB_le {gd : Nat → Bool} {all : Nat} : ∀ k : Nat, dnB gd all k ≤ all
  | 0 => Nat.le_refl _
  | k + 1 => by
    have := dnB_le (gd := gd) (all := all) k
    unfold dnB
    split <;> omega
theorem crB_rng {gd : Nat → Bool} : ∀ k : Nat, -1 ≤ crB gd k ∧ crB gd k < k
  | 0 => by unfold crB; omega
  | k + 1 => by
    have := crB_rng (gd := gd) k
    unfold crB
    split <;> omega
/-! seeds -/
def sdG (K : Kz) (s : Cs) (S : Nat) : Bool := decide (gClo (kR K) 0 (cO s ||| S) = 2 ^ kN K - 1)
theorem sd_all {K : Kz} {s : Cs} (ok : sOk K s) : sdG K s (2 ^ kN K - 1) = true := by
  have p := Nat.two_pow_pos (kN K)
  have hS : cO s ||| (2 ^ kN K - 1) < 2 ^ kN K := Nat.or_lt_two_pow ok.2.2.2.1 (by omega)
  have l := gClo_lt (cut := 0) ok.1 hS
  unfold sdG
  rw [decide_eq_true_iff]
  refine gSub.eq (full_sub l) (fun i hi => (gClo_is (cut := 0) ok.1 hS).1 i ?_)
  rw [Nat.testBit_or, hi]; simp
theorem c_seeds {X : PX} {σ : Sg} {p : Nat} {K : Kz} {s : Cs} {P : Int → Sg → Prop} (hp : p ∈ parL) (ok : sOk K s) (h : RP σ p K s) (q : P (upB (sdG K s) (2 ^ kN K - 1) (2 ^ kN K - 1)) σ) : CI X 4 [vR (some p)] σ P := by
  obtain ⟨e1, e2, e3, e4⟩ := ok.e7
  obtain ⟨r0, r1, r2, r3, r4, r5, r6⟩ := id h
  have ho := ok.2.2.2.1
  have np := Nat.two_pow_pos (kN K)
  have lp : ∀ (d x : Nat), x + d = 2 ^ kN K - 1 → Ev X 4 7 [some (vR (some p)), some (vI ((2 ^ kN K - 1 : Nat) : Int)), some (vI (upB (sdG K s) (2 ^ kN K - 1) x)), some (vI x)] [] σ (fun v τ => ∃ x, v = some (vI x) ∧ P x τ) := by
    intro d
    induction d with
    | zero =>
      intro x hx
      refine v_4_7 hp ⟨by omega, by omega, fun _ => ⟨_, rfl, ?_⟩, fun e => absurd (by omega) e⟩
      rw [show x = 2 ^ kN K - 1 by omega]; exact q
    | succ d ih =>
      intro x hx
      have nx := ih (x + 1) (by omega)
      have ul := upB_le (gd := sdG K s) x (show x ≤ 2 ^ kN K - 1 by omega)
      rw [show upB (sdG K s) (2 ^ kN K - 1) (x + 1) = if popc x 12 < popc (upB (sdG K s) (2 ^ kN K - 1) x) 12 ∧ sdG K s x = true then x else upB (sdG K s) (2 ^ kN K - 1) x from rfl] at nx
      have pl := popc_le x 12
      have pl2 := popc_le (upB (sdG K s) (2 ^ kN K - 1) x) 12
      refine v_4_7 hp ⟨by omega, by omega, fun e => absurd e (by omega), fun _ => ⟨fun e => absurd e (by omega), fun _ => c_bitc (by omega) (c_bitc (by omega) ⟨by omega, by omega, fun e => ?_, fun e => ?_⟩)⟩⟩
      · rw [if_neg (fun c => by omega)] at nx
        exact nx
      · have hx2 : cO s ||| x < 2 ^ kN K := Nat.or_lt_two_pow ho (by omega)
        have gl := gClo_lt7 (cut := 0) ok.1 hx2
        rw [r3, ior_n (by omega) (by omega)]
        refine c_ex (cut := 0) hp ok.1 r4 (by omega) hx2 ⟨by omega, fun c => ?_, fun c => ?_⟩
        · rw [if_neg] at nx
          · exact nx
          · rintro ⟨-, c2⟩
            unfold sdG at c2
            rw [decide_eq_true_iff] at c2
            exact c (by rw [c2])
        · rw [if_pos] at nx
          · exact nx
          · refine ⟨by omega, ?_⟩
            unfold sdG
            rw [decide_eq_true_iff]
            omega
  exact v_4 hp (c_every hp r2 e3 (lp (2 ^ kN K - 1) 0 (by omega)))
theorem s_seeds {X : PX} : Sm_9 X Rel := by
  intro a ha z hz σ hR
  refine same_P (a := a) hR (-1) (by omega) (fun hc => ?_) (fun τ hR2 hc => ?_) (fun K s a2 hc T => ?_)
  · exact v_139 (c_hasN (s := 0) hR (by omega) ha hc ⟨by omega, fun e => absurd rfl e, fun _ => ⟨_, rfl, Out.rfl, rfl⟩⟩)
  · exact v_208 (m_isPN hR2 ha hc ⟨by omega, fun e => absurd rfl e, fun _ => ⟨_, rfl, FA.rfl, rfl⟩⟩)
  · obtain ⟨⟨tp, tp2⟩, ok, nw, tr, tm⟩ := id T
    obtain ⟨e1, e2, e3, e4⟩ := ok.e7
    have ho := ok.2.2.2.1
    have np := Nat.two_pow_pos (kN K)
    have ul := upB_le (gd := sdG K s) (2 ^ kN K - 1) (Nat.le_refl (2 ^ kN K - 1))
    have ud := up_dn (gd := sdG K s) (m := kN K) (by omega) (sd_all ok)
    have pl := popc_le (upB (sdG K s) (2 ^ kN K - 1) (2 ^ kN K - 1)) 12
    refine ⟨if z = 0 then (popc (upB (sdG K s) (2 ^ kN K - 1) (2 ^ kN K - 1)) 12 : Int) else (upB (sdG K s) (2 ^ kN K - 1) (2 ^ kN K - 1) : Int), by split <;> omega, v_139 (c_hasY (s := 0) hR (by omega) ha hc ⟨by omega, fun _ => ⟨by omega, c_seeds tp ok tr ⟨by omega, fun e => ?_, fun e => ?_⟩⟩, fun e => absurd (by omega) e⟩), fun τ hR2 hc2 T2 _ => v_208 (m_isPY hR2 ha hc2 T2 (fun υ g S _ => ⟨by omega, fun _ => m_every S.mx.2.1 e3 ?_, fun e => absurd (by omega) e⟩))⟩
    · rw [if_pos e]
      exact c_bitc (by omega) ⟨_, rfl, Out.rfl, rfl⟩
    · rw [if_neg e]
      exact ⟨_, rfl, Out.rfl, rfl⟩
    · obtain ⟨⟨hx, a14, a15, a16, a17, a19, a20, a21, ag⟩, a18, at'⟩ := id S
      have h17 : υ.1 170 17 = ((0 : Nat) : Int) := by rw [a17, nw.1]
      have lp : ∀ (d k : Nat) (x : Int), k + d = 2 ^ kN K - 1 + 1 → x = ((2 ^ kN K - 1 : Nat) : Int) - k → Ev X 208 11 [some (vR (some 170)), none, some (vI z), some (vI (dnB (sdG K s) (2 ^ kN K - 1) k)), some (vI x)] [] υ (fun v τ' => ∃ x, v = some (vI x) ∧ FA τ τ' ∧ x = if z = 0 then (popc (upB (sdG K s) (2 ^ kN K - 1) (2 ^ kN K - 1)) 12 : Int) else (upB (sdG K s) (2 ^ kN K - 1) (2 ^ kN K - 1) : Int)) := by
        intro d
        induction d with
        | zero =>
          intro k x hk hx2
          rw [show k = 2 ^ kN K - 1 + 1 by omega, ud]
          refine v_208_11 ⟨by omega, fun _ => ⟨by omega, fun e => ?_, fun e => ?_⟩, fun e => absurd (by omega) e⟩
          · rw [if_pos e]
            exact m_bits (by omega) ⟨_, rfl, g.1, rfl⟩
          · rw [if_neg e]
            exact ⟨_, rfl, g.1, rfl⟩
        | succ d ih =>
          intro k x hk hx2
          have nx := ih (k + 1) (x + (-1)) (by omega) (by omega)
          have dl := dnB_le (gd := sdG K s) (all := 2 ^ kN K - 1) k
          rw [show dnB (sdG K s) (2 ^ kN K - 1) (k + 1) = if popc (2 ^ kN K - 1 - k) 12 ≤ popc (dnB (sdG K s) (2 ^ kN K - 1) k) 12 ∧ sdG K s (2 ^ kN K - 1 - k) = true then 2 ^ kN K - 1 - k else dnB (sdG K s) (2 ^ kN K - 1) k from rfl] at nx
          have pl := popc_le (2 ^ kN K - 1 - k) 12
          have pl2 := popc_le (dnB (sdG K s) (2 ^ kN K - 1) k) 12
          have ex : x = ((2 ^ kN K - 1 - k : Nat) : Int) := by omega
          rw [ex] at nx ⊢
          refine v_208_11 ⟨by omega, fun e => absurd e (by omega), fun _ => m_bits (by omega) (m_bits (by omega) ⟨by omega, by omega, fun e => ?_, fun e => ?_⟩)⟩
          · rw [if_neg (fun c => by omega)] at nx
            exact nx
          · have hx3 : cO s ||| (2 ^ kN K - 1 - k) < 2 ^ kN K := Nat.or_lt_two_pow ho (by omega)
            have gl := gClo_lt7 (cut := 0) ok.1 hx3
            rw [a16, ior_n (by omega) (by omega)]
            refine m_ex ok.1 hx.rm h17 (by omega) hx3 (m_every hx.2.1 e3 ⟨by omega, by omega, fun c => ?_, fun c => ?_⟩)
            · rw [if_neg] at nx
              · exact nx
              · rintro ⟨-, c2⟩
                unfold sdG at c2
                rw [decide_eq_true_iff] at c2
                exact c (by rw [c2])
            · rw [if_pos] at nx
              · exact nx
              · refine ⟨by omega, ?_⟩
                unfold sdG
                rw [decide_eq_true_iff]
                omega
      exact lp (2 ^ kN K - 1 + 1) 0 _ (by omega) (by omega)
/-! cuts -/
def ctG (K : Kz) (s : Cs) (h S : Nat) : Bool := !(gClo (kR K) S (cO s)).testBit h
theorem ct_all {K : Kz} {s : Cs} {h : Nat} (ok : sOk K s) (hh : (cO s).testBit h = false) : ctG K s h (2 ^ (kR K).1 - 1) = true := by
  have cl : gCls (kR K) (2 ^ (kR K).1 - 1) (cO s) := fun r hr hol => by
    rw [gHol.iff, Nat.testBit_two_pow_sub_one] at hol
    simp [hr] at hol
  have e : gClo (kR K) (2 ^ (kR K).1 - 1) (cO s) = cO s := (gIs.eq ⟨gSub.rfl, cl, fun U u _ => u⟩ (gClo_is ok.1 ok.2.2.2.1)).symm
  unfold ctG
  rw [e, hh]; rfl
theorem and_bit {a h : Nat} (ha : a < 2147483648) (hh : h < 31) : InR (iAnd (a : Int) ((2 ^ h : Nat) : Int)) ∧ (iAnd (a : Int) ((2 ^ h : Nat) : Int) ≠ 0 ↔ a.testBit h = true) := by
  have l := Nat.pow_lt_pow_right (a := 2) (by omega) hh
  have l2 : a &&& 2 ^ h ≤ a := Nat.and_le_left
  rw [b_and ha (by omega)]
  refine ⟨by omega, ?_⟩
  have e : (a &&& 2 ^ h).testBit h = a.testBit h := by rw [Nat.testBit_and, pow_tb]; simp
  constructor
  · intro c
    rcases hx : a.testBit h with _ | _
    · exfalso
      apply c
      have : a &&& 2 ^ h = 0 := by
        refine Nat.eq_of_testBit_eq (fun i => ?_)
        rw [Nat.testBit_and, pow_tb, Nat.zero_testBit]
        by_cases d : h = i
        · rw [← d, hx]; rfl
        · simp [d]
      rw [this]; rfl
    · rfl
  · intro c d
    have : a &&& 2 ^ h = 0 := by omega
    rw [this, c, Nat.zero_testBit] at e
    cases e
theorem c_cuts {X : PX} {σ : Sg} {p h : Nat} {K : Kz} {s : Cs} {P : Int → Sg → Prop} (hp : p ∈ parL) (ok : sOk K s) (hr : RP σ p K s) (hh : h < kN K) (q : P (upB (ctG K s h) (2 ^ (kR K).1 - 1) (2 ^ (kR K).1 - 1)) σ) : CI X 5 [vR (some p), vI ((2 ^ h : Nat) : Int)] σ P := by
  obtain ⟨e1, e2, e3, e4⟩ := ok.e7
  obtain ⟨r0, r1, r2, r3, r4, r5, r6⟩ := id hr
  have g10 := ok.1.1
  have np := Nat.two_pow_pos (kR K).1
  have nl : 2 ^ (kR K).1 ≤ 2 ^ 10 := Nat.pow_le_pow_right (by omega) g10
  refine v_5 hp ?_
  rw [r4.1, every_n (by omega)]
  have lp : ∀ (d x : Nat), x + d = 2 ^ (kR K).1 - 1 → Ev X 5 11 [some (vR (some p)), some (vI ((2 ^ h : Nat) : Int)), some (vI ((2 ^ (kR K).1 - 1 : Nat) : Int)), some (vI (upB (ctG K s h) (2 ^ (kR K).1 - 1) x)), some (vI x)] [] σ (fun v τ => ∃ x, v = some (vI x) ∧ P x τ) := by
    intro d
    induction d with
    | zero =>
      intro x hx
      refine v_5_11 hp ⟨by omega, by omega, fun _ => ⟨_, rfl, ?_⟩, fun e => absurd (by omega) e⟩
      rw [show x = 2 ^ (kR K).1 - 1 by omega]; exact q
    | succ d ih =>
      intro x hx
      have nx := ih (x + 1) (by omega)
      have ul := upB_le (gd := ctG K s h) x (show x ≤ 2 ^ (kR K).1 - 1 by omega)
      rw [show upB (ctG K s h) (2 ^ (kR K).1 - 1) (x + 1) = if popc x 12 < popc (upB (ctG K s h) (2 ^ (kR K).1 - 1) x) 12 ∧ ctG K s h x = true then x else upB (ctG K s h) (2 ^ (kR K).1 - 1) x from rfl] at nx
      have pl := popc_le x 12
      have pl2 := popc_le (upB (ctG K s h) (2 ^ (kR K).1 - 1) x) 12
      refine v_5_11 hp ⟨by omega, by omega, fun e => absurd e (by omega), fun _ => ⟨fun e => absurd e (by omega), fun _ => c_bitc (by omega) (c_bitc (by omega) ⟨by omega, by omega, fun e => ?_, fun e => ?_⟩)⟩⟩
      · rw [if_neg (fun c => by omega)] at nx
        exact nx
      · have gl := gClo_lt7 (cut := x) ok.1 ok.2.2.2.1
        rw [r3]
        obtain ⟨b1, b2⟩ := and_bit (a := gClo (kR K) x (cO s)) (h := h) (by omega) (by omega)
        refine c_ex (cut := x) hp ok.1 r4 (by omega) ok.2.2.2.1 ⟨b1, fun c => ?_, fun c => ?_⟩
        · rw [if_neg] at nx
          · exact nx
          · rintro ⟨-, c2⟩
            unfold ctG at c2
            rw [b2.mp c] at c2; cases c2
        · rw [if_pos] at nx
          · exact nx
          · refine ⟨by omega, ?_⟩
            unfold ctG
            rcases hx : (gClo (kR K) x (cO s)).testBit h with _ | _
            · rfl
            · exact absurd (b2.mpr hx) c
  exact lp (2 ^ (kR K).1 - 1) 0 (by omega)
theorem m_cuts {X : PX} {σ : Sg} {o h : Nat} {K : Kz} {s : Cs} {P : Int → Sg → Prop} (ok : sOk K s) (hx : MX σ o K) (h16 : σ.1 170 16 = cO s) (hh : h < kN K) (k : ∀ τ : Sg, FA σ τ → P (crB (ctG K s h) (2 ^ (kR K).1)) τ) : CI X 209 [vR (some 170), vI h] σ P := by
  obtain ⟨e1, e2, e3, e4⟩ := ok.e7
  have g10 := ok.1.1
  have np := Nat.two_pow_pos (kR K).1
  have nl : 2 ^ (kR K).1 ≤ 2 ^ 10 := Nat.pow_le_pow_right (by omega) g10
  have lp : ∀ (d x : Nat) (τ : Sg), x + d = 2 ^ (kR K).1 → FA σ τ → MX τ o K → τ.1 170 16 = cO s → Ev X 209 4 [some (vR (some 170)), some (vI h), some (vI (crB (ctG K s h) x)), some (vI x)] [] τ (fun v τ => ∃ x, v = some (vI x) ∧ P x τ) := by
    intro d
    induction d with
    | zero =>
      intro x τ hxx f m i16
      refine v_209_4 ?_
      rw [m.2.2.1, b_one (by omega)]
      refine ⟨by omega, by omega, fun _ => ⟨_, rfl, ?_⟩, fun e => absurd (by omega) e⟩
      rw [show x = 2 ^ (kR K).1 by omega]; exact k τ f
    | succ d ih =>
      intro x τ hxx f m i16
      have cr := crB_rng (gd := ctG K s h) x
      have pl := popc_le x 12
      have pl2 := popc_le (crB (ctG K s h) x).toNat 12
      have gl := gClo_lt7 (cut := x) ok.1 ok.2.2.2.1
      have bb := bit_0 (a := gClo (kR K) x (cO s)) (k := h) (by omega) (by omega)
      have f2 : FA σ (up2 τ.1 170 17 (x : Int), τ.2) := f.trans (fa_170 _ _)
      have m2 : MX (up2 τ.1 170 17 (x : Int), τ.2) o K := m.mv (fun j hj => by dsimp only; rw [up2_if, if_neg (by omega)]) rfl
      have j16 : up2 τ.1 170 17 (x : Int) 170 16 = cO s := by rw [up2_if, if_neg (by omega)]; exact i16
      have e1' : crB (ctG K s h) (x + 1) = if (crB (ctG K s h) x = -1 ∨ popc x 12 < popc (crB (ctG K s h) x).toNat 12) ∧ ctG K s h x = true then (x : Int) else crB (ctG K s h) x := rfl
      have go : (crB (ctG K s h) x = -1 ∨ popc x 12 < popc (crB (ctG K s h) x).toNat 12) → CI X 197 [vR (some 170), vI (cO s)] (up2 τ.1 170 17 (x : Int), τ.2) (fun r4 τ1 => InR (iAnd (iShr r4 h) 1) ∧ (iAnd (iShr r4 h) 1 ≠ 0 → Ev X 209 4 [some (vR (some 170)), some (vI h), some (vI (crB (ctG K s h) x)), some (vI ((x : Int) + 1))] [] τ1 (fun v τ => ∃ x, v = some (vI x) ∧ P x τ)) ∧ (¬ iAnd (iShr r4 h) 1 ≠ 0 → Ev X 209 4 [some (vR (some 170)), some (vI h), some (vI x), some (vI ((x : Int) + 1))] [] τ1 (fun v τ => ∃ x, v = some (vI x) ∧ P x τ))) := fun hcr => by
        have nx := ih (x + 1) _ (by omega) f2 m2 j16
        rw [e1'] at nx
        refine m_ex (cut := x) ok.1 m2.rm (show up2 τ.1 170 17 (x : Int) 170 17 = x from up2_get _ _ _ _) (by omega) ok.2.2.2.1 ⟨bit_rng (by omega) (by omega), fun c => ?_, fun c => ?_⟩
        · rw [if_neg] at nx
          · exact nx
          · rintro ⟨-, c2⟩
            unfold ctG at c2
            rw [bb.mp c] at c2; cases c2
        · rw [if_pos] at nx
          · exact nx
          · refine ⟨hcr, ?_⟩
            unfold ctG
            rcases hx : (gClo (kR K) x (cO s)).testBit h with _ | _
            · rfl
            · exact absurd (bb.mpr hx) c
      refine v_209_4 ?_
      rw [m.2.2.1, b_one (by omega), i16]
      refine ⟨by omega, by omega, fun e => absurd e (by omega), fun _ => ⟨by omega, fun e => go (Or.inl e), fun e => m_bits (by omega) ?_⟩⟩
      have eb : crB (ctG K s h) x = (((crB (ctG K s h) x).toNat : Nat) : Int) := by omega
      have mb : CI X 195 [vI (((crB (ctG K s h) x).toNat : Nat) : Int)] τ (fun r7 τ3 => InR (popc x 12 : Int) ∧ InR r7 ∧ ((popc x 12 : Int) < r7 → CI X 197 [vR (some 170), vI (τ3.1 170 16)] (up2 τ3.1 170 17 (x : Int), τ3.2) (fun r4 τ1 => InR (iAnd (iShr r4 h) 1) ∧ (iAnd (iShr r4 h) 1 ≠ 0 → Ev X 209 4 [some (vR (some 170)), some (vI h), some (vI (crB (ctG K s h) x)), some (vI ((x : Int) + 1))] [] τ1 (fun v τ => ∃ x, v = some (vI x) ∧ P x τ)) ∧ (¬ iAnd (iShr r4 h) 1 ≠ 0 → Ev X 209 4 [some (vR (some 170)), some (vI h), some (vI x), some (vI ((x : Int) + 1))] [] τ1 (fun v τ => ∃ x, v = some (vI x) ∧ P x τ)))) ∧ (¬ (popc x 12 : Int) < r7 → Ev X 209 4 [some (vR (some 170)), some (vI h), some (vI (crB (ctG K s h) x)), some (vI ((x : Int) + 1))] [] τ3 (fun v τ => ∃ x, v = some (vI x) ∧ P x τ))) := by
        refine m_bits (by omega) ⟨by omega, by omega, fun c => ?_, fun c => ?_⟩
        · rw [i16]; exact go (Or.inr (by omega))
        · have nx := ih (x + 1) τ (by omega) f m i16
          rw [e1', if_neg] at nx
          · exact nx
          · rintro ⟨c1 | c1, -⟩
            · exact e c1
            · omega
      rw [← eb] at mb
      exact mb
  exact v_209 (lp (2 ^ (kR K).1) 0 σ (by omega) FA.rfl hx h16)
theorem s_cuts {X : PX} : Sm_10 X Rel := by
  intro a b ha hb z hz σ hR
  refine same_P (a := a) hR (-1) (by omega) (fun hc => ?_) (fun τ hR2 hc => ?_) (fun K s a2 hc T => ?_)
  · exact v_140 (c_hhN hR ha hc ⟨by omega, fun e => absurd rfl e, fun _ => ⟨_, rfl, Out.rfl, rfl⟩⟩)
  · exact v_210 (m_isPN hR2 ha hc ⟨by omega, fun _ => ⟨_, rfl, FA.rfl, rfl⟩, fun e => absurd rfl e⟩)
  · obtain ⟨⟨tp, tp2⟩, ok, nw, tr, tm⟩ := id T
    obtain ⟨e1, e2, e3, e4⟩ := ok.e7
    have ho := ok.2.2.2.1
    have g10 := ok.1.1
    obtain ⟨r0, r1, r2, r3, r4, r5, r6⟩ := id tr
    have eE : zE K s = gClo (kR K) 0 (cO s) := by unfold zE; rw [nw.1]
    by_cases g2 : 0 ≤ b ∧ b < kN K
    · obtain ⟨n, rfl⟩ := Int.eq_ofNat_of_zero_le g2.1
      have hn : n < kN K := by omega
      have es : iShl 1 (n : Int) = ((2 ^ n : Nat) : Int) := b_one (by omega)
      obtain ⟨bo1, bo2⟩ := and_bit (a := cO s) (h := n) (by omega) (by omega)
      obtain ⟨be1, be2⟩ := and_bit (a := zE K s) (h := n) (by omega) (by omega)
      have b16 := bit_1 (a := cO s) (k := n) (by omega) (by omega)
      by_cases g : (cO s).testBit n = false ∧ (zE K s).testBit n = true
      · obtain ⟨go, ge⟩ := g
        have nl : 2 ^ (kR K).1 ≤ 2 ^ 10 := Nat.pow_le_pow_right (by omega) g10
        have np := Nat.two_pow_pos (kR K).1
        have ul := upB_le (gd := ctG K s n) (2 ^ (kR K).1 - 1) (Nat.le_refl (2 ^ (kR K).1 - 1))
        have uc := up_cr (gd := ctG K s n) g10 (ct_all ok go)
        have pl := popc_le (upB (ctG K s n) (2 ^ (kR K).1 - 1) (2 ^ (kR K).1 - 1)) 12
        refine ⟨if z = 0 then (popc (upB (ctG K s n) (2 ^ (kR K).1 - 1) (2 ^ (kR K).1 - 1)) 12 : Int) else (upB (ctG K s n) (2 ^ (kR K).1 - 1) (2 ^ (kR K).1 - 1) : Int), by split <;> omega, v_140 (c_hhY hR ha hb hc T ?_), fun τ hR2 hc2 T2 _ => v_210 (m_isPY hR2 ha hc2 T2 (fun υ g S _ => ⟨by omega, fun e => absurd e (by omega), fun _ => m_isH S.mx.2.1 e3 hb ?_⟩))⟩
        · rw [if_pos g2, es, r3]
          refine ⟨by omega, fun _ => ⟨by omega, bo1, fun e => absurd (bo2.mp e) (by rw [go]; decide), fun _ => c_ex (cut := 0) tp ok.1 r4 (by omega) ho ?_⟩, fun e => absurd (by omega) e⟩
          rw [← eE]
          refine ⟨be1, fun _ => c_cuts tp ok tr hn ⟨by omega, fun e => ?_, fun e => ?_⟩, fun e => absurd (be2.mpr ge) e⟩
          · rw [if_pos e]; exact c_bitc (by omega) ⟨_, rfl, Out.rfl, rfl⟩
          · rw [if_neg e]; exact ⟨_, rfl, Out.rfl, rfl⟩
        · rw [if_pos g2]
          obtain ⟨⟨hx, a14, a15, a16, a17, a19, a20, a21, ag⟩, a18, at'⟩ := id S
          refine ⟨by omega, fun e => absurd e (by omega), fun _ => m_isEx e2 a18 (by omega) ?_⟩
          rw [ge, if_pos rfl, a16]
          refine ⟨by omega, fun e => absurd e (by omega), fun _ => ⟨bit_rng (by omega) (by omega), fun _ => m_cuts (K := K) (s := s) ok hx a16 hn (fun ω f => ?_), fun e => absurd (fun c => ?_) e⟩⟩
          · rw [uc]
            refine ⟨by omega, fun e => ?_, fun e => ?_⟩
            · rw [if_pos e]; exact m_bits (by omega) ⟨_, rfl, g.1.trans f, rfl⟩
            · rw [if_neg e]; exact ⟨_, rfl, g.1.trans f, rfl⟩
          · rw [b16.mp c] at go; cases go
      · refine ⟨-1, by omega, v_140 (c_hhY hR ha hb hc T ?_), fun τ hR2 hc2 T2 _ => v_210 (m_isPY hR2 ha hc2 T2 (fun υ g' S _ => ⟨by omega, fun e => absurd e (by omega), fun _ => m_isH S.mx.2.1 e3 hb ?_⟩))⟩
        · rw [if_pos g2, es, r3]
          refine ⟨by omega, fun _ => ⟨by omega, bo1, fun _ => ⟨_, rfl, Out.rfl, rfl⟩, fun c => c_ex (cut := 0) tp ok.1 r4 (by omega) ho ?_⟩, fun e => absurd (by omega) e⟩
          rw [← eE]
          refine ⟨be1, fun c2 => absurd ⟨?_, be2.mp c2⟩ g, fun _ => ⟨_, rfl, Out.rfl, rfl⟩⟩
          rcases hx : (cO s).testBit n with _ | _
          · rfl
          · exact absurd (bo2.mpr hx) c
        · rw [if_pos g2]
          obtain ⟨⟨hx, a14, a15, a16, a17, a19, a20, a21, ag⟩, a18, at'⟩ := id S
          refine ⟨by omega, fun e => absurd e (by omega), fun _ => m_isEx e2 a18 (by omega) ⟨by split <;> omega, fun _ => ⟨_, rfl, g'.1, rfl⟩, fun c => ?_⟩⟩
          rw [a16]
          refine ⟨bit_rng (by omega) (by omega), fun c2 => ?_, fun _ => ⟨_, rfl, g'.1, rfl⟩⟩
          refine absurd ⟨?_, ?_⟩ g
          · rcases hx : (cO s).testBit n with _ | _
            · rfl
            · exact absurd (b16.mpr hx) c2
          · rcases hx : (zE K s).testBit n with _ | _
            · rw [hx] at c; exact absurd rfl c
            · rfl
    · refine ⟨-1, by omega, v_140 (c_hhY hR ha hb hc T ?_), fun τ hR2 hc2 T2 _ => v_210 (m_isPY hR2 ha hc2 T2 (fun υ g' S _ => ⟨by omega, fun e => absurd e (by omega), fun _ => m_isH S.mx.2.1 e3 hb ?_⟩))⟩
      · rw [if_neg g2]
        exact ⟨by omega, fun e => absurd rfl e, fun _ => ⟨_, rfl, Out.rfl, rfl⟩⟩
      · rw [if_neg g2]
        exact ⟨by omega, fun _ => ⟨_, rfl, g'.1, rfl⟩, fun e => absurd rfl e⟩
