/-! burden -/
theorem gvn_gy {n E : Nat} {q : Int} {g : Nat → Int} (k : gdOk n q g) (w : 0 < gW n E g) {h : Nat} (hy : gy n E g h = 0) : ∀ i : Nat, (i : Int) ≤ lf n E q g → (gvn n E q g i).2 h = 0 ∧ (gvn n E q g i).1 h = 0
  | 0 => fun _ => by
    show r0 n E q g h = 0 ∧ t0 n E q g h = 0
    unfold r0 t0
    rw [hy, Int.mul_zero, Int.zero_emod, Int.zero_ediv]; exact ⟨rfl, rfl⟩
  | i + 1 => fun hi => by
    obtain ⟨a, b⟩ := gvn_gy k w hy i (by omega)
    have bp := gvn_pos k w (i := i) (by omega)
    have ne : h ≠ bst (gvn n E q g i).2 6 := fun e => by rw [← e, a] at bp; omega
    show up (gvn n E q g i).2 (bst (gvn n E q g i).2 6) 0 h = 0 ∧ up (gvn n E q g i).1 (bst (gvn n E q g i).2 6) ((gvn n E q g i).1 (bst (gvn n E q g i).2 6) + 1) h = 0
    rw [up_ne _ _ ne, up_ne _ _ ne]; exact ⟨a, b⟩
theorem tax_goods {K : Kz} {s : Cs} (ok : sOk K s) {h : Nat} (hh : h < kN K) (ht : 0 < cT K s h) : 0 < cG s h := by
  have g0 := ok.2.1.2.2.2 h hh
  by_cases c : 0 < cG s h
  · exact c
  · exfalso
    have hy : gy (kN K) (zE K s) (cG s) h = 0 := by
      unfold gy
      split
      · omega
      · rfl
    unfold cT txF at ht
    by_cases w : 0 < gW (kN K) (zE K s) (cG s)
    · rw [if_pos w] at ht
      have l := lf_rng (q := cQ s) w
      have := (gvn_gy ok.2.1 w hy (lf (kN K) (zE K s) (cQ s) (cG s)).toNat (by omega)).2
      omega
    · rw [if_neg w] at ht; omega
def buB (K : Kz) (s : Cs) : Nat → Int
  | 0 => -1
  | h + 1 => if 0 < cT K s h ∧ (buB K s h = -1 ∨ cT K s (buB K s h).toNat * cG s h < cT K s h * cG s (buB K s h).toNat) then (h : Int) else buB K s h
theorem buB_inv (K : Kz) (s : Cs) : ∀ h : Nat, buB K s h = -1 ∨ (0 ≤ buB K s h ∧ buB K s h < h ∧ 0 < cT K s (buB K s h).toNat)
  | 0 => Or.inl rfl
  | h + 1 => by
    unfold buB
    split
    · rename_i c; right; rw [Int.toNat_natCast]; exact ⟨by omega, by omega, c.1⟩
    · rcases buB_inv K s h with g | g
      · exact Or.inl g
      · right; exact ⟨g.1, by omega, g.2.2⟩
theorem tg_rng {K : Kz} {s : Cs} (ok : sOk K s) {h i : Nat} (hi : i < kN K) : 0 ≤ cT K s h * cG s i ∧ cT K s h * cG s i ≤ 9801 := by
  have a := ok.t.1 h
  have b := ok.2.1.2.2.2 i hi
  refine ⟨Int.mul_nonneg a.1 b.1, ?_⟩
  have := Int.mul_le_mul a.2 b.2 b.1 (by omega : (0 : Int) ≤ 99)
  omega
theorem c_burden {X : PX} {σ : Sg} {p : Nat} {K : Kz} {s : Cs} {P : Int → Sg → Prop} (hp : p ∈ parL) (hp2 : p + 6 < 131) (ok : sOk K s) (nw : sNew s) (h : RP σ p K s) (k : ∀ τ : Sg, Out σ τ 146 156 → SC τ K s → P (buB K s (kN K)) τ) : CI X 65 [vR (some 160), vR (some p)] σ P := by
  have e3 := ok.e7.2.2.1
  refine v_65 hp (c_begin hp (by omega) ok nw h (fun τ f S => ?_))
  have tr : RP τ p K s := h.out f (by omega)
  have r2 := tr.2.2.1
  have tx : ∀ i : Nat, i < 7 → τ.2 (154 + 1) i = cT K s i := fun i hi => S.2.2.2 i hi
  have gd : ∀ i : Nat, i < kN K → τ.2 (p + 1) i = cG s i := fun i hi => (tr.2.2.2.2.2.2 i hi).1
  have lp : ∀ (d h : Nat), h + d = kN K → Ev X 65 8 [some (vR (some 160)), some (vR (some p)), some (vI (buB K s h)), some (vI h), none] [] τ (fun v τ => ∃ x, v = some (vI x) ∧ P x τ) := by
    intro d
    induction d with
    | zero =>
      intro h hh
      refine v_65_8 hp ⟨by omega, by omega, fun _ => ⟨_, rfl, ?_⟩, fun e => absurd (by omega) e⟩
      rw [show h = kN K by omega]; exact k τ f S
    | succ d ih =>
      intro h hh
      have nx := ih (h + 1) (by omega)
      rw [show buB K s (h + 1) = if 0 < cT K s h ∧ (buB K s h = -1 ∨ cT K s (buB K s h).toNat * cG s h < cT K s h * cG s (buB K s h).toNat) then (h : Int) else buB K s h from rfl] at nx
      have bi := buB_inv K s h
      have th := ok.t.1 h
      refine v_65_8 hp ⟨by omega, by omega, fun e => absurd e (by omega), fun _ => ⟨fun e => absurd e (by omega), fun _ => c_taxOf (v := 154) (by decide) (by omega) ?_⟩⟩
      rw [tx h (by omega)]
      refine ⟨by omega, fun c => ?_, fun c => ⟨by omega, fun c2 => ?_, fun c2 => ⟨by omega, ?_⟩⟩⟩
      · rw [if_neg (fun x => by omega)] at nx; exact nx
      · rw [if_pos ⟨by omega, Or.inl c2⟩] at nx; exact nx
      · obtain ⟨b, hb⟩ := Int.eq_ofNat_of_zero_le (bi.resolve_left c2).1
        rw [hb] at nx bi ⊢
        have bl : b < h := by omega
        have w1 := tg_rng ok (h := h) (i := b) (by omega)
        have w2 := tg_rng ok (h := b) (i := h) (by omega)
        refine c_taxOf (v := 154) (by decide) (by omega) ?_
        rw [tx b (by omega), Int.toNat_natCast, Int.toNat_natCast, gd b (by omega), gd h (by omega)]
        rw [Int.toNat_natCast] at nx
        refine ⟨by omega, by omega, by omega, fun c3 => ?_, fun c3 => ?_⟩
        · rw [if_neg (fun x => by omega)] at nx; exact nx
        · rw [if_pos ⟨by omega, Or.inr (by omega)⟩] at nx; exact nx
  exact lp (kN K) 0 (by omega)
def buA (K : Kz) (s : Cs) (w : Int) : Int := if buB K s (kN K) = -1 ∨ w = 0 then buB K s (kN K) else (lstT (cT K s (buB K s (kN K)).toNat).toNat (cG s (buB K s (kN K)).toNat).toNat (if w = 2 then 1 else 0) : Int)
def buX (K : Kz) (s : Cs) : Prop := buB K s (kN K) ≠ -1 → ∃ b : Nat, buB K s (kN K) = b ∧ b < kN K ∧ (∃ t : Nat, cT K s b = t ∧ t ≤ 99) ∧ ∃ g : Nat, cG s b = g ∧ 0 < g ∧ g ≤ 99
theorem s_burden {X : PX} : Sm_13 X Rel := by
  intro a w ha hw σ hR
  refine same_P (a := a) hR (-1) (by omega) (fun hc => ?_) (fun τ hR2 hc => ?_) (fun K s a2 hc T => ?_)
  · exact v_146 (c_hasN (s := 0) hR (by omega) ha hc ⟨by omega, fun e => absurd rfl e, fun _ => ⟨_, rfl, Out.rfl, rfl⟩⟩)
  · exact v_215 (m_isPN hR2 ha hc ⟨by omega, fun _ => ⟨_, rfl, FA.rfl, rfl⟩, fun e => absurd rfl e⟩)
  · obtain ⟨⟨tp, tp2⟩, ok, nw, tr, tm⟩ := id T
    obtain ⟨e1, e2, e3, e4⟩ := ok.e7
    have bi := buB_inv K s (kN K)
    have fct : buX K s := fun h => by
      obtain ⟨b, hb⟩ := Int.eq_ofNat_of_zero_le (bi.resolve_left h).1
      rw [hb, Int.toNat_natCast] at bi
      have b2 := bi.resolve_left (by omega)
      have t := ok.t.1 b
      have g := ok.2.1.2.2.2 b (by omega)
      have gp := tax_goods ok (h := b) (by omega) b2.2.2
      obtain ⟨t', ht⟩ := Int.eq_ofNat_of_zero_le t.1
      obtain ⟨g', hg⟩ := Int.eq_ofNat_of_zero_le g.1
      exact ⟨b, hb, by omega, ⟨t', ht, by omega⟩, g', hg, by omega, by omega⟩
    by_cases g3 : 0 ≤ w ∧ w ≤ 2
    · refine ⟨buA K s w, ?_, v_146 (c_hasY (s := 0) hR (by omega) ha hc ⟨by omega, fun _ => ⟨by omega, c_burden tp tp2 ok nw tr (fun τ f S => ?_)⟩, fun e => absurd (by omega) e⟩), fun τ hR2 hc2 T2 _ => v_215 (m_isPY hR2 ha hc2 T2 (fun υ g S _ => ⟨by omega, fun e => absurd e (by omega), fun _ => c_isIn hw (by omega) (by omega) ?_⟩))⟩
      · unfold buA
        by_cases c : buB K s (kN K) = -1 ∨ w = 0
        · rw [if_pos c]; omega
        · rw [if_neg c]
          obtain ⟨b, hb, b1, ⟨t, ht, t1⟩, g, hg, g1, g2⟩ := fct (fun h => c (Or.inl h))
          rw [hb, Int.toNat_natCast, ht, hg, Int.toNat_natCast, Int.toNat_natCast]
          have := lstT_le t g (if w = 2 then 1 else 0)
          omega
      · have T2 := T.out f.c
        have r2 := T2.2.2.2.1.2.2.1
        refine c_hH tp r2 e3 (by omega) ?_
        unfold buA
        by_cases c : buB K s (kN K) = -1
        · rw [if_neg (by omega), if_pos (Or.inl c)]
          exact ⟨by omega, fun _ => ⟨_, rfl, f.c, c.symm⟩, fun e => absurd rfl e⟩
        · obtain ⟨b, hb, b1, ⟨t, ht, t1⟩, g, hg, g1, g2⟩ := fct c
          rw [hb, if_pos (by omega)]
          have gd : τ.2 (7 + 13 * a.toNat + 1) b = g := by rw [(T2.2.2.2.1.2.2.2.2.2.2 b b1).1]; exact hg
          have tx : τ.2 (154 + 1) b = t := by rw [show τ.2 (154 + 1) b = cT K s b from S.2.2.2 b (by omega)]; exact ht
          refine ⟨by omega, fun e => absurd e (by omega), fun _ => ⟨hw, fun e => absurd e (by omega), fun _ => ⟨fun _ => ⟨fun w0 => c_taxOf (v := 154) (by decide) (by omega) ?_, fun w0 => ⟨_, rfl, f.c, ?_⟩⟩, fun e => absurd (by omega) e⟩⟩⟩
          · rw [tx, Int.toNat_natCast, gd, if_neg (by omega), ht, hg, Int.toNat_natCast, Int.toNat_natCast]
            refine ⟨by omega, fun w2 => ?_, fun w2 => ?_⟩
            · rw [if_neg w2]; exact c_lst (by omega) (by omega) g1 (Or.inl rfl) ⟨_, rfl, f.c, rfl⟩
            · rw [if_pos (by omega)]; exact c_lst (by omega) (by omega) g1 (Or.inr rfl) ⟨_, rfl, f.c, rfl⟩
          · rw [if_pos (by omega)]
      · rw [if_pos g3]
        obtain ⟨⟨hx, a14, a15, a16, a17, a19, a20, a21, ag⟩, a18, at'⟩ := id S
        have h12 := hx.2.1
        have lp : ∀ (d h : Nat), h + d = kN K → Ev X 215 15 [some (vR (some 170)), none, some (vI w), some (vI (buB K s h)), some (vI h)] [] υ (fun v τ' => ∃ x, v = some (vI x) ∧ FA τ τ' ∧ x = buA K s w) := by
          intro d
          induction d with
          | zero =>
            intro h hh
            rw [show h = kN K by omega]
            refine v_215_15 ⟨by omega, by omega, fun _ => ⟨by omega, fun c => ⟨_, rfl, g.1, ?_⟩, fun c => ⟨hw, fun w0 => ?_, fun w0 => ⟨_, rfl, g.1, ?_⟩⟩⟩, fun e => absurd (by omega) e⟩
            · unfold buA; rw [if_pos (Or.inl c)]
            · obtain ⟨b, hb, b1, ⟨t, ht, t1⟩, g', hg, g1, g2⟩ := fct c
              unfold buA
              rw [if_neg (by intro x; rcases x with x | x; exact c x; exact w0 x), hb, Int.toNat_natCast, ag b b1, at' b b1, ht, hg, Int.toNat_natCast, Int.toNat_natCast]
              refine ⟨by omega, fun w2 => ?_, fun w2 => ?_⟩
              · rw [if_neg w2]; exact m_lst (by omega) (by omega) g1 (Or.inl rfl) ⟨_, rfl, g.1, rfl⟩
              · rw [if_pos (by omega)]; exact m_lst (by omega) (by omega) g1 (Or.inr rfl) ⟨_, rfl, g.1, rfl⟩
            · unfold buA; rw [if_pos (Or.inr (by omega))]
          | succ d ih =>
            intro h hh
            have nx := ih (h + 1) (by omega)
            rw [show buB K s (h + 1) = if 0 < cT K s h ∧ (buB K s h = -1 ∨ cT K s (buB K s h).toNat * cG s h < cT K s h * cG s (buB K s h).toNat) then (h : Int) else buB K s h from rfl] at nx
            have bi := buB_inv K s h
            have th := ok.t.1 h
            refine v_215_15 ?_
            rw [Int.toNat_natCast, at' h (by omega), ag h (by omega)]
            refine ⟨by omega, by omega, fun e => absurd e (by omega), fun _ => ⟨by omega, by omega, fun c => ?_, fun c => ⟨by omega, fun c2 => ?_, fun c2 => ?_⟩⟩⟩
            · rw [if_neg (fun x => by omega)] at nx; exact nx
            · rw [if_pos ⟨by omega, Or.inl c2⟩] at nx; exact nx
            · obtain ⟨b, hb⟩ := Int.eq_ofNat_of_zero_le (bi.resolve_left c2).1
              rw [hb] at nx bi ⊢
              have bl : b < h := by omega
              have w1 := tg_rng ok (h := h) (i := b) (by omega)
              have w2 := tg_rng ok (h := b) (i := h) (by omega)
              rw [Int.toNat_natCast, ag b (by omega), at' b (by omega)]
              rw [Int.toNat_natCast] at nx
              refine ⟨by omega, by omega, by omega, fun c3 => ?_, fun c3 => ?_⟩
              · rw [if_neg (fun x => by omega)] at nx; exact nx
              · rw [if_pos ⟨by omega, Or.inr (by omega)⟩] at nx; exact nx
        exact ⟨by omega, fun _ => lp (kN K) 0 (by omega), fun e => absurd (by omega) e⟩
    · refine ⟨-1, by omega, v_146 (c_hasY (s := 0) hR (by omega) ha hc ⟨by omega, fun _ => ⟨by omega, c_burden tp tp2 ok nw tr (fun τ f S => ?_)⟩, fun e => absurd (by omega) e⟩), fun τ hR2 hc2 T2 _ => v_215 (m_isPY hR2 ha hc2 T2 (fun υ g S _ => ⟨by omega, fun e => absurd e (by omega), fun _ => c_isIn hw (by omega) (by omega) ?_⟩))⟩
      · have T2 := T.out f.c
        have r2 := T2.2.2.2.1.2.2.1
        exact c_hH tp r2 e3 (by omega) ⟨by split <;> omega, fun _ => ⟨_, rfl, f.c, rfl⟩, fun _ => ⟨hw, fun _ => ⟨_, rfl, f.c, rfl⟩, fun c => ⟨fun c2 => absurd ⟨by omega, c2⟩ g3, fun _ => ⟨_, rfl, f.c, rfl⟩⟩⟩⟩
      · rw [if_neg g3]
        exact ⟨by omega, fun e => absurd rfl e, fun _ => ⟨_, rfl, g.1, rfl⟩⟩
/-! falls -/
def sQ (s : Cs) (q : Int) : Cs := (q, cP s, cO s, cC s, cG s, cY s, cD s, cS s)
theorem sQ_ok {K : Kz} {s : Cs} {q : Int} (ok : sOk K s) (h0 : 0 ≤ q) (h9 : q ≤ 99) : sOk K (sQ s q) := by
  obtain ⟨h1, ⟨g1, g2, g3, g4⟩, h3⟩ := ok
  exact ⟨h1, ⟨g1, h0, h9, g4⟩, h3⟩
theorem tax_0 {K : Kz} {s : Cs} (ok : sOk K s) (q0 : cQ s = 0) (h : Nat) : cT K s h = 0 := by
  obtain ⟨t1, t2, t3, t4⟩ := ok.t
  have l := ok.l
  have a := t1 h
  have e : cL K s = 0 := by unfold cL lsF; split <;> omega
  rcases Nat.lt_or_ge h 7 with c | c
  · have := sm_one (f := cT K s) (b := h) 7 (fun i _ => (t1 i).1) c
    omega
  · exact t2 h (by have := ok.e7.2.2.1; omega)
def flG (tq : Int → Int) (k : Int) : Nat → Int → Int → Int
  | 0, c, _ => if k = -1 then c else -1
  | d + 1, c, q => if tq q < tq (q - 1) then (if c = k then q else flG tq k d (c + 1) (q + 1)) else flG tq k d c (q + 1)
theorem flG_rng (tq : Int → Int) (k : Int) : ∀ (d : Nat) (c q : Int), 0 ≤ c → c ≤ q → q + d ≤ 100 → -1 ≤ flG tq k d c q ∧ flG tq k d c q ≤ 100
  | 0 => fun c q h0 h1 h2 => by unfold flG; split <;> omega
  | d + 1 => fun c q h0 h1 h2 => by
    have a := flG_rng tq k d (c + 1) (q + 1) (by omega) (by omega) (by omega)
    have b := flG_rng tq k d c (q + 1) (by omega) (by omega) (by omega)
    unfold flG
    split
    · split <;> omega
    · omega
def tqF (K : Kz) (s : Cs) (h : Nat) (q : Int) : Int := cT K (sQ s q) h
theorem c_falls {X : PX} {σ : Sg} {p h : Nat} {K : Kz} {s : Cs} {k : Int} {P : Int → Sg → Prop} (hp : p ∈ parL) (hp2 : p + 6 < 131) (ok : sOk K s) (nw : sNew s) (hr : RP σ p K s) (hh : h < kN K) (hk : InR k) (kk : ∀ τ : Sg, Out σ τ 146 156 → P (flG (tqF K s h) k 99 0 1) τ) : CI X 66 [vR (some 160), vR (some p), vI h, vI k] σ P := by
  obtain ⟨e1, e2, e3, e4⟩ := ok.e7
  have eE : zE K s = gClo (kR K) 0 (cO s) := by unfold zE; rw [nw.1]
  have lp : ∀ (d : Nat) (c q : Int) (τ : Sg), q + d = 100 → 1 ≤ q → 0 ≤ c → c < q → Out σ τ 146 156 → (∀ υ : Sg, Out σ υ 146 156 → P (flG (tqF K s h) k d c q) υ) → Ev X 66 12 [some (vR (some 160)), some (vR (some p)), some (vI h), some (vI k), some (vI (zE K s)), some (vI c), some (vI (tqF K s h (q - 1))), some (vI q), none] [] τ (fun v τ => ∃ x, v = some (vI x) ∧ P x τ) := by
    intro d
    induction d with
    | zero =>
      intro c q τ hq h1 h0 hcq f kk
      have := kk τ f
      unfold flG at this
      refine v_66_12 hp ⟨by omega, fun _ => ⟨hk, fun c1 => ⟨_, rfl, ?_⟩, fun c1 => ⟨_, rfl, ?_⟩⟩, fun e => absurd (by omega) e⟩
      · rw [if_neg c1] at this; exact this
      · rw [if_pos (by omega)] at this; exact this
    | succ d ih =>
      intro c q τ hq h1 h0 hcq f kk
      have tr : RP τ p K s := hr.out f (by omega)
      have okq := sQ_ok ok (q := q) (by omega) (by omega)
      have ok1 := sQ_ok ok (q := q - 1) (by omega) (by omega)
      refine v_66_12 hp ⟨by omega, fun e => absurd e (by omega), fun _ => c_share (v := 154) (p := p) (n := kN K) (E := zE K s) (q := q) (g := cG s) (by decide) hp okq.2.1 e2 tr.2.2.1 (fun i hi => (tr.2.2.2.2.2.2 i hi).1) (fun υ t1 t2 t3 => c_taxOf (v := 154) (by decide) (by omega) ?_)⟩
      have f2 : Out σ υ 146 156 := f.trans (fun c hc => ⟨by rw [t1, up2_ne _ _ _ (by omega)], t2 c (by omega) (by omega)⟩)
      have et : υ.2 (154 + 1) h = tqF K s h q := t3 h (by omega)
      have rq : 0 ≤ tqF K s h q ∧ tqF K s h q ≤ 99 := okq.t.1 h
      have rq1 : 0 ≤ tqF K s h (q - 1) ∧ tqF K s h (q - 1) ≤ 99 := ok1.t.1 h
      rw [et]
      unfold flG at kk
      have eq1 : q + 1 - 1 = q := by omega
      refine ⟨by omega, by omega, fun c1 => ?_, fun c1 => ⟨by omega, hk, fun c2 => ?_, fun c2 => ⟨_, rfl, ?_⟩⟩⟩
      · have nx := ih c (q + 1) υ (by omega) (by omega) h0 (by omega) f2 (fun ω fo => by have := kk ω fo; rw [if_neg (by omega)] at this; exact this)
        rw [eq1] at nx; exact nx
      · have nx := ih (c + 1) (q + 1) υ (by omega) (by omega) (by omega) (by omega) f2 (fun ω fo => by have := kk ω fo; rw [if_pos (by omega), if_neg c2] at this; exact this)
        rw [eq1] at nx; exact nx
      · have := kk υ f2; rw [if_pos (by omega), if_pos (by omega)] at this; exact this
  refine v_66 hp ?_
  rw [hr.2.2.2.1]
  refine c_ex (cut := 0) hp ok.1 hr.2.2.2.2.1 (by omega) ok.2.2.2.1 ?_
  rw [← eE]
  have := lp 99 0 1 σ (by omega) (by omega) (by omega) (by omega) Out.rfl kk
  rw [show tqF K s h (1 - 1) = 0 from tax_0 (sQ_ok ok (by omega) (by omega)) rfl h] at this
  exact this
theorem m_taxBy {X : PX} {σ : Sg} {o h : Nat} {K : Kz} {s : Cs} {q0 q : Int} {P : Int → Sg → Prop} (ok : sOk K s) (S : SM σ o K (sQ s q0)) (h0 : 0 ≤ q) (h9 : q ≤ 99) (hh : h < kN K) (k : ∀ τ : Sg, FM σ τ → SM τ o K (sQ s q) → P (tqF K s h q) τ) : CI X 216 [vR (some 170), vI q, vI h] σ P := by
  obtain ⟨e1, e2, e3, e4⟩ := ok.e7
  obtain ⟨⟨hx, a14, a15, a16, a17, a19, a20, a21, ag⟩, a18, at'⟩ := id S
  refine v_216 (m_sh (o := o) (K := K) (s := sQ s q) (sQ_ok ok h0 h9) ⟨hx.mv (fun j hj => ?_) rfl, ?_, ?_, ?_, ?_, ?_, ?_, ?_, ag⟩ (fun υ u1 u2 u3 u4 => ⟨by omega, _, rfl, ?_⟩))
  · dsimp only; rw [up2_if, if_neg (by omega)]
  · dsimp only; simp only [up2_if, Nat.reduceEqDiff, reduceIte]; rfl
  · dsimp only; simp only [up2_if, Nat.reduceEqDiff, reduceIte]; exact a15
  · dsimp only; simp only [up2_if, Nat.reduceEqDiff, reduceIte]; exact a16
  · dsimp only; simp only [up2_if, Nat.reduceEqDiff, reduceIte]; exact a17
  · dsimp only; simp only [up2_if, Nat.reduceEqDiff, reduceIte]; exact a19
  · dsimp only; simp only [up2_if, Nat.reduceEqDiff, reduceIte]; exact a20
  · dsimp only; simp only [up2_if, Nat.reduceEqDiff, reduceIte]; exact a21
  · rw [Int.toNat_natCast, u4.2.2 h hh]
    refine k υ (FM.trans (τ := (up2 σ.1 170 14 q, σ.2)) ⟨⟨fun c hc => ?_, fun j hj => ?_, fun _ _ _ _ => rfl⟩, ?_⟩ u1) u4
    · dsimp only; rw [up2_ne _ _ _ hc]
    · dsimp only; rw [up2_if, if_neg (by omega)]
    · dsimp only; rw [up2_if, if_neg (by omega)]
theorem s_falls {X : PX} : Sm_14 X Rel := by
  intro a b k ha hb hk σ hR
  refine same_P (a := a) hR (-1) (by omega) (fun hc => ?_) (fun τ hR2 hc => ?_) (fun K s a2 hc T => ?_)
  · exact v_147 (c_hhN hR ha hc ⟨by omega, fun e => absurd rfl e, fun _ => ⟨_, rfl, Out.rfl, rfl⟩⟩)
  · exact v_217 (m_isPN hR2 ha hc ⟨by omega, fun _ => ⟨_, rfl, FA.rfl, rfl⟩, fun e => absurd rfl e⟩)
  · obtain ⟨⟨tp, tp2⟩, ok, nw, tr, tm⟩ := id T
    obtain ⟨e1, e2, e3, e4⟩ := ok.e7
    by_cases g2 : 0 ≤ b ∧ b < kN K
    · obtain ⟨n, rfl⟩ := Int.eq_ofNat_of_zero_le g2.1
      have fr := flG_rng (tqF K s n) k 99 0 1 (by omega) (by omega) (by omega)
      refine ⟨flG (tqF K s n) k 99 0 1, by omega, v_147 (c_hhY hR ha hb hc T ?_), fun τ hR2 hc2 T2 _ => v_217 (m_isPY hR2 ha hc2 T2 (fun υ g S _ => ⟨by omega, fun e => absurd e (by omega), fun _ => m_isH S.mx.2.1 e3 hb ?_⟩))⟩
      · rw [if_pos g2]
        exact ⟨by omega, fun _ => ⟨by omega, c_falls tp tp2 ok nw tr (by omega) hk (fun τ f => ⟨_, rfl, f.c, rfl⟩)⟩, fun e => absurd (by omega) e⟩
      · rw [if_pos g2]
        have neg : ∀ (d : Nat) (c q : Int), k < -1 → 0 ≤ c → flG (tqF K s n) k d c q = -1 := by
          intro d
          induction d with
          | zero => intro c q hk h0; unfold flG; rw [if_neg (by omega)]
          | succ d ih =>
            intro c q hk h0
            unfold flG
            split
            · rw [if_neg (by omega)]; exact ih _ _ hk (by omega)
            · exact ih _ _ hk h0
        have lp : ∀ (d : Nat) (c q q0 : Int) (ω : Sg), q + d = 100 → 1 ≤ q → 0 ≤ c → c < q → FA τ ω → SM ω (610 + 49 * a.toNat) K (sQ s q0) → (flG (tqF K s n) k d c q = flG (tqF K s n) k 99 0 1) → Ev X 217 17 [some (vR (some 170)), none, some (vI n), some (vI k), some (vI c), some (vI q), none] [] ω (fun v τ' => ∃ x, v = some (vI x) ∧ FA τ τ' ∧ x = flG (tqF K s n) k 99 0 1) := by
          intro d
          induction d with
          | zero =>
            intro c q q0 ω hq h1 h0 hcq f Sω hfl
            unfold flG at hfl
            refine v_217_17 ⟨by omega, fun _ => ⟨hk, fun c1 => ⟨_, rfl, f, ?_⟩, fun c1 => ⟨_, rfl, f, ?_⟩⟩, fun e => absurd (by omega) e⟩
            · rw [if_neg c1] at hfl; exact hfl
            · rw [if_pos (by omega)] at hfl; exact hfl
          | succ d ih =>
            intro c q q0 ω hq h1 h0 hcq f Sω hfl
            rw [show flG (tqF K s n) k (d + 1) c q = if tqF K s n q < tqF K s n (q - 1) then (if c = k then q else flG (tqF K s n) k d (c + 1) (q + 1)) else flG (tqF K s n) k d c (q + 1) from rfl] at hfl
            have rq : 0 ≤ tqF K s n q ∧ tqF K s n q ≤ 99 := (sQ_ok ok (q := q) (by omega) (by omega)).t.1 n
            have rq1 : 0 ≤ tqF K s n (q - 1) ∧ tqF K s n (q - 1) ≤ 99 := (sQ_ok ok (q := q - 1) (by omega) (by omega)).t.1 n
            refine v_217_17 ⟨by omega, fun e => absurd e (by omega), fun _ => m_taxBy ok Sω (by omega) (by omega) (by omega) (fun ω1 f1 S1 => m_taxBy ok S1 (by omega) (by omega) (by omega) (fun ω2 f2 S2 => ?_))⟩
            have fa := f.trans (f1.fa.trans f2.fa)
            refine ⟨by omega, by omega, fun c1 => ⟨by omega, hk, fun c2 => ?_, fun c2 => ⟨_, rfl, fa, ?_⟩⟩, fun c1 => ?_⟩
            · rw [if_pos c1, if_neg c2] at hfl
              exact ih (c + 1) (q + 1) q ω2 (by omega) (by omega) (by omega) (by omega) fa S2 hfl
            · rw [if_pos c1, if_pos (by omega)] at hfl; exact hfl
            · rw [if_neg c1] at hfl
              exact ih c (q + 1) q ω2 (by omega) (by omega) h0 (by omega) fa S2 hfl
        refine ⟨by omega, fun e => absurd e (by omega), fun _ => ⟨hk, fun _ => lp 99 0 1 (cQ s) υ (by omega) (by omega) (by omega) (by omega) g.1 S rfl, fun c => ⟨_, rfl, g.1, ?_⟩⟩⟩
        rw [neg 99 0 1 (by omega) (by omega)]
    · refine ⟨-1, by omega, v_147 (c_hhY hR ha hb hc T ?_), fun τ hR2 hc2 T2 _ => v_217 (m_isPY hR2 ha hc2 T2 (fun υ g S _ => ⟨by omega, fun e => absurd e (by omega), fun _ => m_isH S.mx.2.1 e3 hb ?_⟩))⟩
      · rw [if_neg g2]
        exact ⟨by omega, fun e => absurd rfl e, fun _ => ⟨_, rfl, Out.rfl, rfl⟩⟩
      · rw [if_neg g2]
        exact ⟨by omega, fun _ => ⟨_, rfl, g.1, rfl⟩, fun e => absurd rfl e⟩
