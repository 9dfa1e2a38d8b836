/-! harm, foe -/
def sOr (s : Cs) (m : Nat) : Cs := (cQ s, cP s, cO s ||| m, cC s, cG s, cY s, cD s, cS s)
theorem sOr_ok {K : Kz} {s : Cs} {m : Nat} (ok : sOk K s) (hm : m < 2 ^ kN K) : sOk K (sOr s m) := by
  obtain ⟨h1, h2, h3, h4, h5⟩ := ok
  exact ⟨h1, h2, h3, Nat.or_lt_two_pow h4 hm, h5⟩
def harmF (K : Kz) (s : Cs) (f t : Nat) : Int := cT K (sOr s (2 ^ f)) t - cT K s t
theorem harm_rng {K : Kz} {s : Cs} (ok : sOk K s) {f : Nat} (hf : f < kN K) (t : Nat) : -99 ≤ harmF K s f t ∧ harmF K s f t ≤ 99 := by
  have a := ok.t.1 t
  have b := (sOr_ok ok (pow_lt_n hf)).t.1 t
  unfold harmF
  omega
theorem ior_n {a m : Nat} (ha : a < 128) (hm : m < 128) : iOr (a : Int) (m : Int) = ((a ||| m : Nat) : Int) := b_or (by omega) (by omega)
theorem c_harm {X : PX} {σ : Sg} {p f t : Nat} {K : Kz} {s : Cs} {P : Int → Sg → Prop} (hp : p ∈ parL) (hp2 : p < 147) (ok : sOk K s) (nw : sNew s) (h : RP σ p K s) (hf : f < kN K) (ht : t < kN K) (k : ∀ τ : Sg, Out σ τ 146 156 → P (harmF K s f t) τ) : CI X 67 [vR (some 160), vR (some p), vI f, vI t] σ P := by
  obtain ⟨e1, e2, e3, e4⟩ := ok.e7
  have ho := ok.2.2.2.1
  have pf : 2 ^ f < 2 ^ kN K := pow_lt_n hf
  refine v_67 hp (c_begin hp hp2 ok nw h (fun τ f1 S => c_taxOf (v := 154) (by decide) (by omega) ?_))
  obtain ⟨⟨hr, y1, y2, y3, y4⟩, s1, s2, s3⟩ := id S
  obtain ⟨r0, r1, r2, r3, r4, r5, r6⟩ := id hr
  have et : τ.2 (154 + 1) t = cT K s t := s3 t (by omega)
  rw [et, r3, b_one (by omega), ior_n (by omega) (by omega)]
  refine c_assess (sOr_ok ok pf) ⟨⟨?_, ?_, ?_, ?_, ⟨?_, r4.2⟩, r5, r6⟩, ?_, ?_, ?_, ?_⟩ (fun υ u1 u2 u3 u4 => c_taxOf (v := 154) (by decide) (by omega) ⟨_, rfl, ?_⟩)
  · dsimp only; simp only [up2_if, Nat.reduceEqDiff, reduceIte]; exact r0
  · dsimp only; simp only [up2_if, Nat.reduceEqDiff, reduceIte]; exact r1
  · dsimp only; simp only [up2_if, Nat.reduceEqDiff, reduceIte]; exact r2
  · dsimp only; simp only [up2_if, Nat.reduceEqDiff, reduceIte]; rfl
  · dsimp only; simp only [up2_if, Nat.reduceEqDiff, reduceIte]; exact r4.1
  · dsimp only; rw [up2_ne _ _ _ (by omega)]; exact y1
  · dsimp only; rw [up2_ne _ _ _ (by omega)]; exact y2
  · dsimp only; rw [up2_ne _ _ _ (by omega)]; exact y3
  · dsimp only; rw [up2_ne _ _ _ (by omega)]; exact y4
  · have e2 : υ.2 (154 + 1) t = cT K (sOr s (2 ^ f)) t := u4.2.2.2 t (by omega)
    rw [e2]
    refine k υ (f1.trans (fun c hc => ⟨?_, u3 c (by omega) (by omega)⟩))
    rw [u1 c (by omega) (by omega)]; dsimp only; rw [up2_ne _ _ _ (by omega)]
theorem m_harm {X : PX} {σ : Sg} {o f t : Nat} {K : Kz} {s : Cs} {P : Int → Sg → Prop} (ok : sOk K s) (nw : sNew s) (hx : MX σ o K) (hp : MP σ o K s) (hf : f < kN K) (ht : t < kN K) (k : ∀ τ : Sg, FB σ τ → P (harmF K s f t) τ) : CI X 233 [vR (some 170), vI f, vI t] σ P := by
  obtain ⟨e1, e2, e3, e4⟩ := ok.e7
  have ho := ok.2.2.2.1
  have pf : 2 ^ f < 2 ^ kN K := pow_lt_n hf
  refine v_233 (m_begins ok nw hx hp (fun τ f1 S _ => ⟨by omega, ?_⟩))
  obtain ⟨⟨hx2, a14, a15, a16, a17, a19, a20, a21, ag⟩, a18, at'⟩ := id S
  rw [a16, b_one (by omega), ior_n (by omega) (by omega)]
  refine m_sh (o := o) (sOr_ok ok pf) ⟨hx2.mv (fun j hj => ?_) rfl, ?_, ?_, ?_, ?_, ?_, ?_, ?_, ag⟩ (fun υ u1 u2 u3 u4 => ⟨_, rfl, ?_⟩)
  · dsimp only; rw [up2_if, if_neg (by omega)]
  · dsimp only; simp only [up2_if, Nat.reduceEqDiff, reduceIte]; exact a14
  · dsimp only; simp only [up2_if, Nat.reduceEqDiff, reduceIte]; exact a15
  · dsimp only; simp only [up2_if, Nat.reduceEqDiff, reduceIte]; rfl
  · dsimp only; simp only [up2_if, Nat.reduceEqDiff, reduceIte]; exact a17
  · dsimp only; simp only [up2_if, Nat.reduceEqDiff, reduceIte]; exact a19
  · dsimp only; simp only [up2_if, Nat.reduceEqDiff, reduceIte]; exact a20
  · dsimp only; simp only [up2_if, Nat.reduceEqDiff, reduceIte]; exact a21
  · rw [Int.toNat_natCast, u4.2.2 t ht, at' t ht]
    refine k υ (f1.trans (FB.trans (τ := (up2 τ.1 170 16 ((cO s ||| 2 ^ f : Nat) : Int), τ.2)) ⟨fun c hc => ?_, fun j hj => ?_, fun _ _ _ _ => rfl⟩ u1.1))
    · dsimp only; rw [up2_ne _ _ _ hc]
    · dsimp only; rw [up2_if, if_neg (by omega)]
theorem s_harm {X : PX} : Sm_24 X Rel := by
  intro a f t ha hf ht σ hR
  refine same_P (a := a) hR (-999) (by omega) (fun hc => ?_) (fun τ hR2 hc => ?_) (fun K s a2 hc T => ?_)
  · exact v_148 ⟨hf, ht, fun _ => ⟨_, rfl, Out.rfl, rfl⟩, fun _ => c_hhN hR ha hc ⟨by omega, fun _ => ⟨_, rfl, Out.rfl, rfl⟩, fun e => absurd rfl e⟩⟩
  · exact v_234 (m_isPN hR2 ha hc ⟨by omega, fun _ => ⟨_, rfl, FA.rfl, rfl⟩, fun e => absurd rfl e⟩)
  · obtain ⟨⟨tp, tp2⟩, ok, nw, tr, tm⟩ := id T
    obtain ⟨e1, e2, e3, e4⟩ := ok.e7
    by_cases g : f ≠ t ∧ (0 ≤ f ∧ f < kN K) ∧ 0 ≤ t ∧ t < kN K
    · obtain ⟨g1, g2, g3⟩ := g
      have rg := harm_rng ok (f := f.toNat) (by omega) t.toNat
      have ef : (f : Int) = (f.toNat : Int) := by omega
      have et : (t : Int) = (t.toNat : Int) := by omega
      refine ⟨harmF K s f.toNat t.toNat, by omega, v_148 ⟨hf, ht, fun e => absurd e g1, fun _ => c_hhY hR ha hf hc T ?_⟩, fun τ hR2 hc2 T2 _ => v_234 (m_isPY hR2 ha hc2 T2 (fun υ g S _ => ⟨by omega, fun e => absurd e (by omega), fun _ => m_isH S.mx.2.1 e3 hf ?_⟩))⟩
      · rw [if_pos g2]
        refine ⟨by omega, fun e => absurd e (by omega), fun _ => c_hhY hR ha ht hc T ?_⟩
        rw [if_pos g3, ef, et]
        exact ⟨by omega, fun _ => ⟨by omega, c_harm tp (by omega) ok nw tr (by omega) (by omega) (fun τ f1 => ⟨_, rfl, f1.c, rfl⟩)⟩, fun e => absurd (by omega) e⟩
      · rw [if_pos g2]
        refine ⟨by omega, fun e => absurd e (by omega), fun _ => m_isH S.mx.2.1 e3 ht ?_⟩
        rw [if_pos g3]
        refine ⟨by omega, fun e => absurd e (by omega), fun _ => ⟨hf, ht, fun e => absurd e g1, fun _ => ?_⟩⟩
        rw [ef, et]
        exact m_harm (K := K) (s := s) ok nw S.mx (T2.2.2.2.2.mv (g.1.2 171 (by omega))) (by omega) (by omega) (fun τ f1 => ⟨_, rfl, g.1.trans f1.fa, rfl⟩)
    · refine ⟨-999, by omega, v_148 ⟨hf, ht, fun _ => ⟨_, rfl, Out.rfl, rfl⟩, fun g1 => c_hhY hR ha hf hc T ?_⟩, fun τ hR2 hc2 T2 _ => v_234 (m_isPY hR2 ha hc2 T2 (fun υ g' S _ => ⟨by omega, fun e => absurd e (by omega), fun _ => m_isH S.mx.2.1 e3 hf ?_⟩))⟩
      · by_cases g2 : 0 ≤ f ∧ f < kN K
        · rw [if_pos g2]
          refine ⟨by omega, fun e => absurd e (by omega), fun _ => c_hhY hR ha ht hc T ?_⟩
          rw [if_neg (fun g3 => g ⟨g1, g2, g3⟩)]
          exact ⟨by omega, fun e => absurd rfl e, fun _ => ⟨_, rfl, Out.rfl, rfl⟩⟩
        · rw [if_neg g2]
          exact ⟨by omega, fun _ => ⟨_, rfl, Out.rfl, rfl⟩, fun e => absurd rfl e⟩
      · by_cases g2 : 0 ≤ f ∧ f < kN K
        · rw [if_pos g2]
          refine ⟨by omega, fun e => absurd e (by omega), fun _ => m_isH S.mx.2.1 e3 ht ?_⟩
          by_cases g3 : 0 ≤ t ∧ t < kN K
          · rw [if_pos g3]
            exact ⟨by omega, fun e => absurd e (by omega), fun _ => ⟨hf, ht, fun _ => ⟨_, rfl, g'.1, rfl⟩, fun e => absurd ⟨e, g2, g3⟩ g⟩⟩
          · rw [if_neg g3]
            exact ⟨by omega, fun _ => ⟨_, rfl, g'.1, rfl⟩, fun e => absurd rfl e⟩
        · rw [if_neg g2]
          exact ⟨by omega, fun _ => ⟨_, rfl, g'.1, rfl⟩, fun e => absurd rfl e⟩
/-- the first of the greatest that are above 0, but one -/
def foeB (v : Nat → Int) (b : Nat) : Nat → Int × Int
  | 0 => (-1, 0)
  | h + 1 => if h ≠ b ∧ (foeB v b h).2 < v h then ((h : Int), v h) else foeB v b h
theorem foeB_inv (v : Nat → Int) (b : Nat) : ∀ k : Nat, (foeB v b k = (-1, 0)) ∨ (∃ h : Nat, h < k ∧ h ≠ b ∧ foeB v b k = ((h : Int), v h) ∧ 0 < v h)
  | 0 => Or.inl rfl
  | k + 1 => by
    unfold foeB
    by_cases c : k ≠ b ∧ (foeB v b k).2 < v k
    · rw [if_pos c]
      right
      refine ⟨k, by omega, c.1, rfl, ?_⟩
      rcases foeB_inv v b k with h | ⟨h, h1, h2, h3, h4⟩
      · rw [h] at c; exact c.2
      · rw [h3] at c; have := c.2; dsimp only at this; omega
    · rw [if_neg c]
      rcases foeB_inv v b k with h | ⟨h, h1, h2⟩
      · exact Or.inl h
      · exact Or.inr ⟨h, by omega, h2⟩
def foeV (K : Kz) (s : Cs) (b : Nat) (z : Int) (h : Nat) : Int := if z = 0 then harmF K s h b else - harmF K s h b
theorem foe_rng {K : Kz} {s : Cs} (ok : sOk K s) (b : Nat) (z : Int) : ∀ k : Nat, k ≤ kN K → -1 ≤ (foeB (foeV K s b z) b k).1 ∧ (foeB (foeV K s b z) b k).1 < k ∧ 0 ≤ (foeB (foeV K s b z) b k).2 ∧ (foeB (foeV K s b z) b k).2 ≤ 99 := by
  intro k hk
  rcases foeB_inv (foeV K s b z) b k with h | ⟨h, h1, h2, h3, h4⟩
  · rw [h]; dsimp only; omega
  · rw [h3]
    have := harm_rng ok (f := h) (by omega) b
    dsimp only
    unfold foeV at h4 ⊢
    split at h4 <;> split <;> omega
theorem c_foe {X : PX} {σ : Sg} {p b : Nat} {K : Kz} {s : Cs} {z : Int} {P : Int → Sg → Prop} (hp : p ∈ parL) (hp2 : p + 6 < 131) (ok : sOk K s) (nw : sNew s) (h : RP σ p K s) (hb : b < kN K) (hz : z = 0 ∨ z = 1) (k : ∀ τ : Sg, Out σ τ 146 156 → P (foeB (foeV K s b z) b (kN K)).1 τ) : CI X 68 [vR (some 160), vR (some p), vI b, vI z] σ P := by
  have e3 := ok.e7.2.2.1
  have : ∀ (d h : Nat) (τ : Sg), h + d = kN K → Out σ τ 146 156 → Ev X 68 6 [some (vR (some 160)), some (vR (some p)), some (vI b), some (vI z), some (vI (foeB (foeV K s b z) b h).1), some (vI (foeB (foeV K s b z) b h).2), some (vI h), none, none] [] τ (fun v τ => ∃ x, v = some (vI x) ∧ P x τ) := by
    intro d
    induction d with
    | zero =>
      intro x τ hx f
      have tr : RP τ p K s := h.out f (by omega)
      refine v_68_6 hp ⟨by omega, by rw [tr.2.2.1]; omega, fun _ => ⟨_, rfl, ?_⟩, fun e => absurd (by rw [tr.2.2.1]; omega) e⟩
      rw [show x = kN K by omega]; exact k τ f
    | succ d ih =>
      intro x τ hx f
      have tr : RP τ p K s := h.out f (by omega)
      have r2 := tr.2.2.1
      have fr := foe_rng ok b z x (by omega)
      refine v_68_6 hp ⟨by omega, by omega, fun e => absurd e (by omega), fun _ => ⟨fun e => absurd e (by omega), fun _ => ⟨by omega, fun e => ?_, fun e => c_harm hp (by omega) ok nw tr (by omega) (by omega) (fun υ f2 => ?_)⟩⟩⟩
      · have := ih (x + 1) τ (by omega) f
        unfold foeB at this
        rw [if_neg (by omega)] at this
        exact this
      · have nx := ih (x + 1) υ (by omega) (f.trans f2)
        unfold foeB at nx
        have hr := harm_rng ok (f := x) (by omega) b
        refine ⟨by omega, fun z0 => ⟨by omega, by omega, fun c => ?_, fun c => ?_⟩, fun z1 => ⟨by omega, by omega, fun c => ?_, fun c => ?_⟩⟩
        · have ev : foeV K s b z x = harmF K s x b := if_pos z0
          rw [if_neg (by omega)] at nx
          exact nx
        · have ev : foeV K s b z x = harmF K s x b := if_pos z0
          rw [if_pos ⟨by omega, by omega⟩, ev] at nx
          exact nx
        · have ev : foeV K s b z x = - harmF K s x b := if_neg z1
          rw [if_neg (by omega)] at nx
          exact nx
        · have ev : foeV K s b z x = - harmF K s x b := if_neg z1
          rw [if_pos ⟨by omega, by omega⟩, ev] at nx
          exact nx
  exact v_68 hp (this (kN K) 0 σ (by omega) Out.rfl)
theorem m_foe {X : PX} {σ : Sg} {o b : Nat} {K : Kz} {s : Cs} {w : Int} {Q : Option PV → Sg → Prop} (ok : sOk K s) (nw : sNew s) (hx : MX σ o K) (hp : MP σ o K s) (hb : b < kN K) (hw : 0 ≤ w ∧ w ≤ 3) (k : ∀ τ : Sg, FB σ τ → Q (some (vI (if w % 2 = 0 then (foeB (foeV K s b (if w < 2 then 0 else 1)) b (kN K)).1 else (foeB (foeV K s b (if w < 2 then 0 else 1)) b (kN K)).2))) τ) :
    Ev X 235 21 [some (vR (some 170)), none, some (vI b), some (vI w), some (vI (-1)), some (vI 0), some (vI 0), none] [] σ Q := by
  have e3 := ok.e7.2.2.1
  have : ∀ (d h : Nat) (τ : Sg), h + d = kN K → FB σ τ → Ev X 235 21 [some (vR (some 170)), none, some (vI b), some (vI w), some (vI (foeB (foeV K s b (if w < 2 then 0 else 1)) b h).1), some (vI (foeB (foeV K s b (if w < 2 then 0 else 1)) b h).2), some (vI h), none] [] τ Q := by
    intro d
    induction d with
    | zero =>
      intro x τ hx2 f
      have tx := hx.fb f
      rw [show x = kN K by omega]
      have er : iRem w 2 = w % 2 := b_rem (by omega) (by omega) (by omega) (by omega)
      refine v_235_21 ⟨by omega, by rw [tx.2.1]; omega, fun _ => ?_, fun e => absurd (by rw [tx.2.1]; omega) e⟩
      rw [er]
      refine ⟨by omega, fun c => ?_, fun c => ?_⟩
      · have := k τ f; rw [if_neg c] at this; exact this
      · have := k τ f; rw [if_pos (by omega)] at this; exact this
    | succ d ih =>
      intro x τ hx2 f
      have tx := hx.fb f
      have fr := foe_rng ok b (if w < 2 then 0 else 1) x (by omega)
      refine v_235_21 ⟨by omega, by rw [tx.2.1]; omega, fun e => absurd e (by rw [tx.2.1]; omega), fun _ => ⟨by omega, fun e => ⟨by omega, fun c => m_harm (K := K) (s := s) ok nw tx (hp.mv f.a171) (by omega) (by omega) (fun υ f2 => ?_), fun c => m_harm (K := K) (s := s) ok nw tx (hp.mv f.a171) (by omega) (by omega) (fun υ f2 => ?_)⟩, fun e => ?_⟩⟩
      · have nx := ih (x + 1) υ (by omega) (f.trans f2)
        unfold foeB at nx
        have hr := harm_rng ok (f := x) (by omega) b
        have ev : foeV K s b (if w < 2 then 0 else 1) x = - harmF K s x b := by rw [if_neg (by omega)]; rfl
        refine ⟨by omega, by omega, fun c2 => ?_, fun c2 => ?_⟩
        · rw [if_pos ⟨by omega, by omega⟩, ev] at nx; exact nx
        · rw [if_neg (by omega)] at nx; exact nx
      · have nx := ih (x + 1) υ (by omega) (f.trans f2)
        unfold foeB at nx
        have hr := harm_rng ok (f := x) (by omega) b
        have ev : foeV K s b (if w < 2 then 0 else 1) x = harmF K s x b := by rw [if_pos (by omega)]; rfl
        refine ⟨by omega, by omega, fun c2 => ?_, fun c2 => ?_⟩
        · rw [if_pos ⟨by omega, by omega⟩, ev] at nx; exact nx
        · rw [if_neg (by omega)] at nx; exact nx
      · have nx := ih (x + 1) τ (by omega) f
        unfold foeB at nx
        rw [if_neg (by omega)] at nx; exact nx
  exact this (kN K) 0 σ (by omega) FB.rfl
theorem s_foe {X : PX} : Sm_25 X Rel := by
  intro a b w ha hb hw σ hR
  refine same_P (a := a) hR (-2) (by omega) (fun hc => ?_) (fun τ hR2 hc => ?_) (fun K s a2 hc T => ?_)
  · exact v_149 (c_hhN hR ha hc ⟨by omega, fun _ => ⟨_, rfl, Out.rfl, rfl⟩, fun e => absurd rfl e⟩)
  · exact v_235 (m_isPN hR2 ha hc ⟨by omega, fun _ => ⟨_, rfl, FA.rfl, rfl⟩, fun e => absurd rfl e⟩)
  · obtain ⟨⟨tp, tp2⟩, ok, nw, tr, tm⟩ := id T
    obtain ⟨e1, e2, e3, e4⟩ := ok.e7
    by_cases g : (0 ≤ b ∧ b < kN K) ∧ 0 ≤ w ∧ w ≤ 3
    · obtain ⟨g2, g3⟩ := g
      have eb : (b : Int) = (b.toNat : Int) := by omega
      have rg := foe_rng ok b.toNat (if w < 2 then 0 else 1) (kN K) (by omega)
      have inv := foeB_inv (foeV K s b.toNat (if w < 2 then 0 else 1)) b.toNat (kN K)
      refine ⟨if w % 2 = 0 then (foeB (foeV K s b.toNat (if w < 2 then 0 else 1)) b.toNat (kN K)).1 else (foeB (foeV K s b.toNat (if w < 2 then 0 else 1)) b.toNat (kN K)).2, by split <;> omega, v_149 (c_hhY hR ha hb hc T ?_), fun τ hR2 hc2 T2 _ => v_235 (m_isPY hR2 ha hc2 T2 (fun υ g S _ => ⟨by omega, fun e => absurd e (by omega), fun _ => m_isH S.mx.2.1 e3 hb ?_⟩))⟩
      · rw [if_pos g2]
        have fin : ∀ (z : Int) (τ : Sg), z = (if w < 2 then 0 else 1) → Out σ τ 146 156 → w % 2 ≠ 0 → CI X 82 [vR (some (7 + 13 * a.toNat)), vI (foeB (foeV K s b.toNat z) b.toNat (kN K)).1] τ (fun r7 τ3 => InR r7 ∧ (r7 = 0 → ∃ x, some (vI 0) = some (vI x) ∧ (Out σ τ3 131 169 ∧ x = (foeB (foeV K s b.toNat (if w < 2 then 0 else 1)) b.toNat (kN K)).2)) ∧ (¬ r7 = 0 → CI X 67 [vR (some 160), vR (some (7 + 13 * a.toNat)), vI (foeB (foeV K s b.toNat z) b.toNat (kN K)).1, vI b] τ3 (fun r9 τ4 => InR r9 ∧ ∃ x, some (vI (if r9 < 0 then -r9 else r9)) = some (vI x) ∧ (Out σ τ4 131 169 ∧ x = (foeB (foeV K s b.toNat (if w < 2 then 0 else 1)) b.toNat (kN K)).2)))) := by
          intro z τ hz f hodd
          subst hz
          have tr2 : RP τ (7 + 13 * a.toNat) K s := tr.out f (by omega)
          refine c_hH tp tr2.2.2.1 e3 (by omega) ⟨by split <;> omega, fun e => ⟨_, rfl, f.c, ?_⟩, fun e => ?_⟩
          · rcases inv with h | ⟨h, h1, h2, h3, h4⟩
            · rw [h]
            · rw [h3] at e; dsimp only at e; rw [if_pos (by omega)] at e; omega
          · rcases inv with h | ⟨h, h1, h2, h3, h4⟩
            · rw [h] at e; dsimp only at e; rw [if_neg (by omega)] at e; omega
            · rw [h3, eb]
              refine c_harm tp (by omega) ok nw tr2 h1 (by omega) (fun υ f2 => ⟨by have := harm_rng ok h1 b.toNat; omega, _, rfl, (f.trans f2).c, ?_⟩)
              dsimp only
              unfold foeV at h4 ⊢
              by_cases hz : (if w < 2 then (0 : Int) else 1) = 0
              · rw [if_pos hz] at h4 ⊢; rw [if_neg (by omega), Int.toNat_natCast]
              · rw [if_neg hz] at h4 ⊢; rw [if_pos (by omega), Int.toNat_natCast]
        refine ⟨by omega, fun e => absurd e (by omega), fun _ => ⟨hw, fun e => absurd e (by omega), fun _ => ⟨fun _ => ⟨by omega, fun w2 => ?_, fun w2 => ?_⟩, fun e => absurd (by omega) e⟩⟩⟩
        · have ez : (if w < 2 then (0 : Int) else 1) = 0 := if_pos w2
          rw [eb]
          refine c_foe tp tp2 ok nw tr (by omega) (Or.inl rfl) (fun τ f => ⟨fun c => ⟨_, rfl, f.c, ?_⟩, fun c => ⟨fun c2 => ?_, fun c2 => absurd (by omega) c2⟩⟩)
          · rw [if_pos (by omega), ez, Int.toNat_natCast]
          · rw [if_neg (by omega)]
            have := fin 0 τ ez.symm f (by omega)
            rw [eb] at this
            exact this
        · have ez : (if w < 2 then (0 : Int) else 1) = 1 := if_neg w2
          rw [eb]
          refine c_foe tp tp2 ok nw tr (by omega) (Or.inr rfl) (fun τ f => ⟨fun c => absurd c (by omega), fun c => ⟨fun c2 => ?_, fun c2 => ⟨_, rfl, f.c, ?_⟩⟩⟩)
          · rw [if_neg (by omega)]
            have := fin 1 τ ez.symm f (by omega)
            rw [eb] at this
            exact this
          · rw [if_pos (by omega), ez, Int.toNat_natCast]
      · rw [if_pos g2]
        refine ⟨by omega, fun e => absurd e (by omega), fun _ => c_isIn hw (by omega) (by omega) ?_⟩
        rw [if_pos g3, eb]
        exact ⟨by omega, fun _ => m_foe (K := K) (s := s) ok nw S.mx (T2.2.2.2.2.mv (g.1.2 171 (by omega))) (by omega) g3 (fun τ f => ⟨_, rfl, g.1.trans f.fa, rfl⟩), fun e => absurd (by omega) e⟩
    · refine ⟨-2, by omega, v_149 (c_hhY hR ha hb hc T ?_), fun τ hR2 hc2 T2 _ => v_235 (m_isPY hR2 ha hc2 T2 (fun υ g' S _ => ⟨by omega, fun e => absurd e (by omega), fun _ => m_isH S.mx.2.1 e3 hb ?_⟩))⟩
      · by_cases g2 : 0 ≤ b ∧ b < kN K
        · rw [if_pos g2]
          exact ⟨by omega, fun e => absurd e (by omega), fun _ => ⟨hw, fun _ => ⟨_, rfl, Out.rfl, rfl⟩, fun c => ⟨fun c2 => absurd ⟨g2, by omega, c2⟩ g, fun _ => ⟨_, rfl, Out.rfl, rfl⟩⟩⟩⟩
        · rw [if_neg g2]
          exact ⟨by omega, fun _ => ⟨_, rfl, Out.rfl, rfl⟩, fun e => absurd rfl e⟩
      · by_cases g2 : 0 ≤ b ∧ b < kN K
        · rw [if_pos g2]
          refine ⟨by omega, fun e => absurd e (by omega), fun _ => c_isIn hw (by omega) (by omega) ?_⟩
          rw [if_neg (fun g3 => g ⟨g2, g3⟩)]
          exact ⟨by omega, fun e => absurd rfl e, fun _ => ⟨_, rfl, g'.1, rfl⟩⟩
        · rw [if_neg g2]
          exact ⟨by omega, fun _ => ⟨_, rfl, g'.1, rfl⟩, fun e => absurd rfl e⟩
