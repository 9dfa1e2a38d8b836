/-! the reference's questions, and fits, odds, fewest -/
theorem m_like {X : PX} {σ τ : Sg} {o ol h : Nat} {K : Kz} {s : Cs} {L : Lg} {F : Nat × (Nat → Nat)} {P : Int → Sg → Prop} (ok : sOk K s) (z : Fz K F) (st : FL σ τ o ol K s L F) (hh : h < kN K) (q : P (lwF (fiT K s F h) F.1) τ) : CI X 269 [vR (some 170), vI h] τ P := by
  obtain ⟨e1, e2, n7, e4⟩ := ok.e7
  obtain ⟨f, l, Sy, t42, t182, t183, t184⟩ := id st
  have m := z.1
  rw [← lw_mx] at q
  have inn : ∀ (a : Nat) (x2 : Int), a < F.1 → InR x2 → (∀ x : Int, x = max x2 (ctF (fiT K s F h) (fiT K s F h a) F.1) → Ev X 269 4 [some (vR (some 170)), some (vI h), some (vI x), some (vI ((a : Int) + 1)), none, none] [] τ (fun v τ => ∃ x, v = some (vI x) ∧ P x τ)) → ∀ (d b : Nat), b + d = F.1 → Ev X 269 12 [some (vR (some 170)), some (vI h), some (vI x2), some (vI a), some (vI (ctF (fiT K s F h) (fiT K s F h a) b)), some (vI b)] [] τ (fun v τ => ∃ x, v = some (vI x) ∧ P x τ) := by
    intro a x2 ha hx2 kk d
    induction d with
    | zero =>
      intro b hb
      have cr := ctF_rng (fiT K s F h) (fiT K s F h a) b
      rw [← show b = F.1 by omega] at kk
      exact v_269_12 ⟨by omega, by omega, fun _ => ⟨by omega, hx2, fun c => kk _ (by omega), fun c => kk _ (by omega)⟩, fun e => absurd (by omega) e⟩
    | succ d ih =>
      intro b hb
      have nx := ih (b + 1) (by omega)
      rw [show ctF (fiT K s F h) (fiT K s F h a) (b + 1) = ctF (fiT K s F h) (fiT K s F h a) b + (if fiT K s F h b = fiT K s F h a then 1 else 0) from rfl] at nx
      have fa := fT_rng ok (z.2 a ha) h
      have fb := fT_rng ok (z.2 b (by omega)) h
      have ea : fiT K s F h a = fT K s (F.2 a) h := rfl
      have eb : fiT K s F h b = fT K s (F.2 b) h := rfl
      refine v_269_12 ?_
      rw [show (7 * (a : Int) + (h : Int)).toNat = 7 * a + h by omega, show (7 * (b : Int) + (h : Int)).toNat = 7 * b + h by omega, t183 a h ha (by omega), t183 b h (by omega) (by omega)]
      refine ⟨by omega, by omega, fun e => absurd e (by omega), fun _ => ⟨by omega, by omega, by omega, by omega, fun c => ?_, fun c => ?_⟩⟩
      · rw [if_neg (by omega)] at nx; exact nx
      · rw [if_pos (by omega)] at nx; exact nx
  have lp : ∀ (d a : Nat), a + d = F.1 → Ev X 269 4 [some (vR (some 170)), some (vI h), some (vI (mxF (fiT K s F h) F.1 a)), some (vI a), none, none] [] τ (fun v τ => ∃ x, v = some (vI x) ∧ P x τ) := by
    intro d
    induction d with
    | zero =>
      intro a ha
      refine v_269_4 ⟨by omega, by omega, fun _ => ⟨_, rfl, ?_⟩, fun e => absurd (by omega) e⟩
      rw [show a = F.1 by omega]; exact q
    | succ d ih =>
      intro a ha
      have mr := mxF_rng (fiT K s F h) F.1 a
      refine v_269_4 ⟨by omega, by omega, fun e => absurd e (by omega), fun _ => ?_⟩
      refine inn a _ (by omega) (by omega) (fun x hx => ?_) F.1 0 (by omega)
      rw [hx]; exact ih (a + 1) (by omega)
  exact v_269 (lp F.1 0 (by omega))
theorem m_ask {X : PX} {σ τ : Sg} {o ol : Nat} {K : Kz} {s : Cs} {L : Lg} {F : Nat × (Nat → Nat)} {P : Int → Sg → Prop} (ok : sOk K s) (z : Fz K F) (st : FL σ τ o ol K s L F) (q : P (asF K s F) τ) : CI X 270 [vR (some 170)] τ P := by
  obtain ⟨e1, e2, n7, e4⟩ := ok.e7
  obtain ⟨f, l, ⟨y, Sy⟩, t42, t182, t183, t184⟩ := id st
  have m := z.1
  have h12 := Sy.mx.2.1
  unfold asF at q
  by_cases nz : F.1 = 0
  · rw [if_pos nz] at q
    refine v_270 (v_270_4 ⟨by omega, by omega, fun _ => ⟨_, rfl, q⟩, fun _ => ⟨by omega, fun _ => ⟨_, rfl, q⟩, fun e => absurd (by omega) e⟩⟩)
  · rw [if_neg nz] at q
    have lp : ∀ (d h : Nat), h + d = kN K → Ev X 270 4 [some (vR (some 170)), some (vI (bsF (nlw K s F) h)), some (vI h)] [] τ (fun v τ => ∃ x, v = some (vI x) ∧ P x τ) := by
      intro d
      induction d with
      | zero =>
        intro h hh
        refine v_270_4 ⟨by omega, by omega, fun _ => ⟨_, rfl, ?_⟩, fun e => absurd (by omega) e⟩
        rw [show h = kN K by omega]; exact q
      | succ d ih =>
        intro h hh
        have nx := ih (h + 1) (by omega)
        have br := bsF_rng (nlw K s F) h
        refine v_270_4 ⟨by omega, by omega, fun e => absurd e (by omega), fun _ => ⟨by omega, fun e => absurd e (by omega), fun _ => ⟨by omega, fun c => ?_, fun c => ?_⟩⟩⟩
        · have h0 : h = 0 := by
            rcases Decidable.em (h = 0) with g | g
            · exact g
            · unfold bsF at c; rw [if_neg g] at c; omega
          rw [h0] at nx ⊢; exact nx
        · have h0 : h ≠ 0 := fun g => c (by rw [g]; rfl)
          rw [bsF_s h0] at nx
          have eb : bsF (nlw K s F) h = (bst (nlw K s F) (h - 1) : Int) := if_neg h0
          have bl := (bst_spec (nlw K s F) (h - 1)).1
          have lw := lwF_rng (fiT K s F h) F.1
          have lw2 := lwF_rng (fiT K s F (bst (nlw K s F) (h - 1))) F.1
          have en : nlw K s F h = - lwF (fiT K s F h) F.1 := rfl
          have en2 : nlw K s F (bst (nlw K s F) (h - 1)) = - lwF (fiT K s F (bst (nlw K s F) (h - 1))) F.1 := rfl
          rw [eb]
          refine m_like ok z st (by omega) (m_like ok z st (by omega) ⟨by omega, by omega, fun e => ?_, fun e => ?_⟩)
          · rw [if_neg (by omega)] at nx; exact nx
          · rw [if_pos (by omega)] at nx; exact nx
    exact v_270 (lp (kN K) 0 (by omega))
theorem m_sure {X : PX} {σ τ : Sg} {o ol h : Nat} {K : Kz} {s : Cs} {L : Lg} {F : Nat × (Nat → Nat)} {P : Int → Sg → Prop} (ok : sOk K s) (z : Fz K F) (st : FL σ τ o ol K s L F) (hh : h < 7) (q : P (srF (kN K) F.1 (cB F.2 h F.1) h) τ) : CI X 271 [vR (some 170), vI h] τ P := by
  obtain ⟨e1, e2, n7, e4⟩ := ok.e7
  obtain ⟨f, l, ⟨y, Sy⟩, t42, t182, t183, t184⟩ := id st
  have m := z.1
  have cr := cB_rng F.2 h F.1
  unfold srF at q
  refine v_271 (m_isH Sy.mx.2.1 n7 (by omega) ?_)
  by_cases c : 0 ≤ (h : Int) ∧ (h : Int) < kN K
  · rw [if_pos c, t42, Int.toNat_natCast, t184 h hh]
    refine ⟨by omega, fun e => absurd e (by omega), fun _ => ⟨by omega, fun d => ⟨_, rfl, ?_⟩, fun d => ?_⟩⟩
    · rw [if_pos (Or.inl (by omega))] at q; exact q
    · rw [if_neg (show ¬ (F.1 = 0 ∨ ¬ (h : Int) < kN K) by omega)] at q
      refine ⟨by omega, by omega, fun e => ⟨fun g => absurd e g, fun _ => ⟨_, rfl, ?_⟩⟩, fun e => ⟨fun g => ⟨fun _ => ⟨_, rfl, ?_⟩, fun g2 => absurd e g2⟩, fun g => ⟨_, rfl, ?_⟩⟩⟩
      · rw [if_neg (by omega), if_pos e] at q; exact q
      · rw [if_pos g] at q; exact q
      · rw [if_neg g, if_neg e] at q; exact q
  · rw [if_neg c]
    rw [if_pos (Or.inr (by omega))] at q
    exact ⟨by omega, fun _ => ⟨_, rfl, q⟩, fun e => absurd rfl e⟩
theorem m_few {X : PX} {σ τ : Sg} {o ol : Nat} {K : Kz} {s : Cs} {L : Lg} {F : Nat × (Nat → Nat)} {b : Int} {P : Int → Sg → Prop} (ok : sOk K s) (z : Fz K F) (st : FL σ τ o ol K s L F) (hb : b = 0 ∨ b = 1) (q : P (fwF (decide (b = 1)) (gp F) F.1) τ) : CI X 275 [vR (some 170), vI b] τ P := by
  obtain ⟨e1, e2, n7, e4⟩ := ok.e7
  obtain ⟨f, l, Sy, t42, t182, t183, t184⟩ := id st
  have m := z.1
  have lp : ∀ (d i : Nat), i + d = F.1 → Ev X 275 4 [some (vR (some 170)), some (vI b), some (vI (fwF (decide (b = 1)) (gp F) i)), some (vI i), none] [] τ (fun v τ => ∃ x, v = some (vI x) ∧ P x τ) := by
    intro d
    induction d with
    | zero =>
      intro i hi
      refine v_275_4 ⟨by omega, by omega, fun _ => ⟨_, rfl, ?_⟩, fun e => absurd (by omega) e⟩
      rw [show i = F.1 by omega]; exact q
    | succ d ih =>
      intro i hi
      have zi := z.2 i (by omega)
      have fr := fwF_rng (decide (b = 1)) F i
      have gr := gp_rng F i
      have nx := ih (i + 1) (by omega)
      rw [show fwF (decide (b = 1)) (gp F) (i + 1) = if fwF (decide (b = 1)) (gp F) i = -1 then gp F i else if decide (b = 1) then max (fwF (decide (b = 1)) (gp F) i) (gp F i) else min (fwF (decide (b = 1)) (gp F) i) (gp F i) from rfl] at nx
      refine v_275_4 ⟨by omega, by omega, fun e => absurd e (by omega), fun _ => ⟨by omega, ?_⟩⟩
      rw [Int.toNat_natCast, t182 i (by omega)]
      refine m_bits (by omega) ?_
      rw [show (popc (F.2 i) 12 : Int) = gp F i from rfl]
      refine ⟨by omega, fun c => ?_, fun c => ⟨by omega, fun b0 => ⟨by omega, fun e => ?_, fun e => ?_⟩, fun b0 => ⟨by omega, fun e => ?_, fun e => ?_⟩⟩⟩
      · rw [if_pos c] at nx; exact nx
      · rw [if_neg c, if_neg (show ¬ decide (b = 1) = true by rw [decide_eq_true_iff]; omega), Int.min_eq_left e] at nx; exact nx
      · rw [if_neg c, if_neg (show ¬ decide (b = 1) = true by rw [decide_eq_true_iff]; omega), Int.min_eq_right (by omega)] at nx; exact nx
      · rw [if_neg c, if_pos (show decide (b = 1) = true by rw [decide_eq_true_iff]; omega), Int.max_eq_left e] at nx; exact nx
      · rw [if_neg c, if_pos (show decide (b = 1) = true by rw [decide_eq_true_iff]; omega), Int.max_eq_right (by omega)] at nx; exact nx
  exact v_275 (lp F.1 0 (by omega))
theorem al_iff {K : Kz} {s : Cs} {F : Nat × (Nat → Nat)} (ok : sOk K s) (z : Fz K F) {a b : Nat} (ha : a < F.1) (hb : b < F.1) : alB K s F a b = true ↔ ∀ h : Nat, h < 7 → fT K s (F.2 a) h = fT K s (F.2 b) h := by
  have n7 := ok.e7.2.2.1
  have fa := fun j => fT_rng ok (z.2 a ha) j
  have fb := fun j => fT_rng ok (z.2 b hb) j
  unfold alB
  rw [decide_eq_true_iff, pkN_inj (fun j => (fa j).2.2.2) (fun j => (fb j).2.2.2)]
  constructor
  · intro h j hj
    rcases Nat.lt_or_ge j (kN K) with g | g
    · rw [(fa j).2.2.1, (fb j).2.2.1, h j g]
    · have x := (sOf_ok ok (z.2 a ha)).t.2.1 j (by omega)
      have y := (sOf_ok ok (z.2 b hb)).t.2.1 j (by omega)
      show cT K (sOf s (F.2 a)) j = cT K (sOf s (F.2 b)) j
      rw [x, y]
  · intro h j hj
    have := h j (by omega)
    rw [(fa j).2.2.1, (fb j).2.2.1] at this
    omega
theorem m_alike {X : PX} {σ τ : Sg} {o ol : Nat} {K : Kz} {s : Cs} {L : Lg} {F : Nat × (Nat → Nat)} {P : Int → Sg → Prop} (ok : sOk K s) (z : Fz K F) (st : FL σ τ o ol K s L F) (q : P (alT (alB K s F) F.1) τ) : CI X 274 [vR (some 170)] τ P := by
  obtain ⟨e1, e2, n7, e4⟩ := ok.e7
  obtain ⟨f, l, Sy, t42, t182, t183, t184⟩ := id st
  have m := z.1
  have cmp : ∀ (a b : Nat) (x1 : Int), a < F.1 → b < F.1 → Ev X 274 10 [some (vR (some 170)), some (vI (x1 + (if alB K s F a b then 1 else 0))), some (vI a), some (vI ((b : Int) + 1)), none, none] [] τ (fun v τ => ∃ x, v = some (vI x) ∧ P x τ) → ∀ (d h : Nat) (k : Bool), h + d = 7 → (k = true ↔ ∀ j : Nat, j < h → fT K s (F.2 a) j = fT K s (F.2 b) j) → Ev X 274 17 [some (vR (some 170)), some (vI x1), some (vI a), some (vI b), some (vI (if k then 1 else 0)), some (vI h)] [] τ (fun v τ => ∃ x, v = some (vI x) ∧ P x τ) := by
    intro a b x1 ha hb kk d
    induction d with
    | zero =>
      intro h k hh hk
      have e : alB K s F a b = k := by
        have ai := al_iff ok z ha hb
        rw [show h = 7 by omega] at hk
        rcases k with _ | _
        · rcases e : alB K s F a b with _ | _
          · rfl
          · have := hk.mpr (ai.mp e); cases this
        · exact ai.mpr (hk.mp rfl)
      rw [e] at kk
      refine v_274_17 ⟨by omega, fun _ => ?_, fun e => absurd (by omega) e⟩
      rcases k with _ | _
      · exact ⟨by decide, fun _ => kk, fun e => absurd rfl e⟩
      · exact ⟨by decide, fun e => absurd e (by decide), fun _ => kk⟩
    | succ d ih =>
      intro h k hh hk
      have fa := fT_rng ok (z.2 a ha) h
      have fb := fT_rng ok (z.2 b hb) h
      refine v_274_17 ?_
      rw [show (7 * (a : Int) + (h : Int)).toNat = 7 * a + h by omega, show (7 * (b : Int) + (h : Int)).toNat = 7 * b + h by omega, t183 a h ha (by omega), t183 b h hb (by omega)]
      rcases k with _ | _
      · refine ⟨by omega, fun e => absurd e (by omega), fun _ => ⟨by decide, fun _ => ih (h + 1) false (by omega) ⟨fun e => (by cases e), fun e => hk.mpr (fun j hj => e j (by omega))⟩, fun e => absurd rfl e⟩⟩
      · refine ⟨by omega, fun e => absurd e (by omega), fun _ => ⟨by decide, fun e => absurd e (by decide), fun _ => ⟨by omega, by omega, by omega, by omega, fun c => ih (h + 1) false (by omega) ⟨fun e => (by cases e), fun e => absurd (e h (by omega)) c⟩, fun c => ih (h + 1) true (by omega) ⟨fun _ j hj => ?_, fun _ => rfl⟩⟩⟩⟩
        rcases Nat.lt_or_ge j h with g | g
        · exact hk.mp rfl j g
        · rw [show j = h by omega]; omega
  have inn : ∀ a : Nat, a < F.1 → Ev X 274 4 [some (vR (some 170)), some (vI (alT (alB K s F) a + alI (alB K s F) a a)), some (vI ((a : Int) + 1)), none, none, none] [] τ (fun v τ => ∃ x, v = some (vI x) ∧ P x τ) → ∀ (d b : Nat), b + d = a → Ev X 274 10 [some (vR (some 170)), some (vI (alT (alB K s F) a + alI (alB K s F) a b)), some (vI a), some (vI b), none, none] [] τ (fun v τ => ∃ x, v = some (vI x) ∧ P x τ) := by
    intro a ha kk d
    induction d with
    | zero =>
      intro b hb
      rw [show b = a by omega]
      exact v_274_10 ⟨by omega, by omega, fun _ => kk, fun e => absurd (by omega) e⟩
    | succ d ih =>
      intro b hb
      have nx := ih (b + 1) (by omega)
      rw [show alI (alB K s F) a (b + 1) = alI (alB K s F) a b + (if alB K s F a b then 1 else 0) from rfl, ← Int.add_assoc] at nx
      exact v_274_10 ⟨by omega, by omega, fun e => absurd e (by omega), fun _ => cmp a b _ ha (by omega) nx 7 0 true (by omega) ⟨fun _ j hj => absurd hj (by omega), fun _ => rfl⟩⟩
  have lp : ∀ (d a : Nat), a + d = F.1 → Ev X 274 4 [some (vR (some 170)), some (vI (alT (alB K s F) a)), some (vI a), none, none, none] [] τ (fun v τ => ∃ x, v = some (vI x) ∧ P x τ) := by
    intro d
    induction d with
    | zero =>
      intro a ha
      refine v_274_4 ⟨by omega, by omega, fun _ => ⟨_, rfl, ?_⟩, fun e => absurd (by omega) e⟩
      rw [show a = F.1 by omega]; exact q
    | succ d ih =>
      intro a ha
      refine v_274_4 ⟨by omega, by omega, fun e => absurd e (by omega), fun _ => ?_⟩
      have := inn a (by omega) (ih (a + 1) (by omega)) a 0 (by omega)
      rw [show alT (alB K s F) a + alI (alB K s F) a 0 = alT (alB K s F) a from Int.add_zero _] at this
      exact this
  exact v_274 (lp F.1 0 (by omega))
/-! the LOG of both -/
def Lz (σ : Sg) (q ol : Nat) (L : Lg) : Prop := (q ∈ paiL ∧ q + 2 < 131) ∧ ol + 17 ≤ 904 ∧ lgOk L ∧ LC σ q L ∧ σ.2 171 ol = L.1 ∧ ∀ i : Nat, i < L.1 → σ.2 171 (ol + 1 + 2 * i) = L.2.1 i ∧ σ.2 171 (ol + 2 + 2 * i) = L.2.2 i
theorem Rel.log {σ : Sg} (hR : Rel σ) {b : Int} (hb : 0 ≤ b ∧ b < σ.2 6 2) : b.toNat < 2 ∧ ∃ L : Lg, Lz σ (17 + 13 * b.toNat) (870 + 17 * b.toNat) L := by
  have c := hR.cnt (s := 2) (by omega)
  have h := hR.1.2.2.2.2.2.2.2 b.toNat (by show (b.toNat : Int) < σ.2 6 2; omega)
  rw [Nat.zero_add] at h
  have h : QR σ (17 + 13 * b.toNat) (870 + 17 * b.toNat) 8 false := h
  obtain ⟨⟨z1, z2, z3⟩, el⟩ := h
  have ez : σ.1 (17 + 13 * b.toNat) 0 = ((σ.1 (17 + 13 * b.toNat) 0).toNat : Int) := by omega
  refine ⟨by omega, ((σ.1 (17 + 13 * b.toNat) 0).toNat, σ.2 (17 + 13 * b.toNat + 1), σ.2 (17 + 13 * b.toNat + 2)), ⟨?_, by omega⟩, by omega, ⟨by dsimp only; omega, fun i hi => ?_⟩, ⟨ez, fun i hi => ⟨rfl, rfl⟩⟩, ?_, fun i hi => ?_⟩
  · rcases (show b = 0 ∨ b = 1 by omega) with rfl | rfl <;> decide
  · have hi : i < (σ.1 (17 + 13 * b.toNat) 0).toNat := hi
    obtain ⟨-, -, e⟩ := el i (by omega)
    rw [if_neg (by decide)] at e
    exact ⟨⟨e.1, e.2.1⟩, e.2.2.1, e.2.2.2⟩
  · dsimp only; omega
  · have hi : i < (σ.1 (17 + 13 * b.toNat) 0).toNat := hi
    obtain ⟨d1, d2, -⟩ := el i (by omega)
    exact ⟨d1, d2⟩
theorem Lz.fr {σ τ : Sg} {q ol : Nat} {L : Lg} (h : Lz σ q ol L) (f : Fr σ τ) : Lz τ q ol L := by
  obtain ⟨h1, h2, h3, h4, h5, h6⟩ := h
  unfold Lz LC
  rw [f.1 q (by omega), f.2.1 (q + 1) (by omega), f.2.1 (q + 2) (by omega), f.2.2.1]
  exact ⟨h1, h2, h3, h4, h5, h6⟩
theorem m_isLY {X : PX} {σ : Sg} {P : Int → Sg → Prop} {b : Int} (hR : Rel σ) (hb : InR b) (h : 0 ≤ b ∧ b < σ.2 6 2) (q : P 1 (up2 σ.1 170 41 (870 + 17 * b), σ.2)) : CI X 265 [vR (some 170), vI b] σ P := by
  have c := hR.cnt (s := 2) (by omega)
  exact m_isLog hb (by omega) (fun _ => q) (fun n => absurd (by omega) n)
theorem m_isLN {X : PX} {σ : Sg} {P : Int → Sg → Prop} {b : Int} (hR : Rel σ) (hb : InR b) (h : ¬ (0 ≤ b ∧ b < σ.2 6 2)) (q : P 0 σ) : CI X 265 [vR (some 170), vI b] σ P := by
  have c := hR.cnt (s := 2) (by omega)
  exact m_isLog hb (by omega) (fun n => absurd (by omega) h) (fun _ => q)
theorem m_laysL {X : PX} {σ τ : Sg} {q o : Nat} {b : Int} {K : Kz} {s : Cs} {L : Lg} {P : Sg → Prop} (ok : sOk K s) (f : FA σ τ) (S : SM τ o K s) (hb0 : 0 ≤ b) (z : Lz σ q (870 + 17 * b.toNat) L) (k : ∀ υ : Sg, FL σ υ o (870 + 17 * b.toNat) K s L (ftI K s L (2 ^ kN K)) → P υ) : CV X 268 [vR (some 170)] (up2 τ.1 170 41 (870 + 17 * b), τ.2) P := by
  obtain ⟨h1, h2, h3, h4, h5, h6⟩ := z
  have e171 : τ.2 171 = σ.2 171 := f.2 171 (by omega)
  refine m_lays (ol := 870 + 17 * b.toNat) ok (S.mv (fun j h1 h2 => by dsimp only; rw [up2_if, if_neg (by omega)]) rfl rfl rfl) ⟨?_, h2, ?_, ?_⟩ h3 (fun υ st => k υ ⟨f.trans ((fa_170 _ _).trans st.1), st.2⟩)
  · dsimp only; rw [up2_get]; omega
  · dsimp only; rw [e171]; exact h5
  · dsimp only; rw [e171]; exact h6
def fiF (K : Kz) (s : Cs) (F : Nat × (Nat → Nat)) (w : Int) : Int := if w = 0 then F.1 else if w = 1 then asF K s F else if w < 9 then srF (kN K) F.1 (cB F.2 (w - 2).toNat F.1) (w - 2) else if w = 9 then -2 else if w - 10 < F.1 then F.2 (w - 10).toNat else -2
theorem fiF_rng {K : Kz} {s : Cs} {F : Nat × (Nat → Nat)} (ok : sOk K s) (z : Fz K F) {w : Int} (hw : 0 ≤ w) : InR (fiF K s F w) := by
  obtain ⟨e1, e2, n7, e4⟩ := ok.e7
  have m := z.1
  unfold fiF
  split
  · omega
  · split
    · unfold asF
      have := bsF_rng (nlw K s F) (kN K)
      split <;> omega
    · split
      · unfold srF
        repeat' split
        all_goals omega
      · split
        · omega
        · split
          · have := z.2 (w - 10).toNat (by omega); omega
          · omega
theorem s_fits {X : PX} : Sm_19 X Rel := by
  intro a b w ha hb hw σ hR
  refine same_P (a := a) hR (-2) (by omega) (fun hc => ?_) (fun τ hR2 hc => ?_) (fun K s a2 hc T => ?_)
  · exact v_155 (c_hasN (s := 0) hR (by omega) ha hc ⟨by omega, fun _ => ⟨_, rfl, Out.rfl, rfl⟩, fun e => absurd rfl e⟩)
  · exact v_272 (m_isPN hR2 ha hc ⟨by omega, fun _ => ⟨_, rfl, FA.rfl, rfl⟩, fun e => absurd rfl e⟩)
  · obtain ⟨⟨tp, tp2⟩, ok, nw, tr, tm⟩ := id T
    obtain ⟨e1, e2, n7, e4⟩ := ok.e7
    by_cases g : (0 ≤ b ∧ b < σ.2 6 2) ∧ 0 ≤ w
    · obtain ⟨gb, gw⟩ := g
      obtain ⟨b2, L, Z⟩ := hR.log gb
      obtain ⟨⟨z1, z1'⟩, z2, z3, z4, z5, z6⟩ := id Z
      have fz := ftI_z (s := s) ok L
      have m := fz.1
      refine ⟨fiF K s (ftI K s L (2 ^ kN K)) w, fiF_rng ok fz gw, v_155 (c_hasY (s := 0) hR (by omega) ha hc ⟨by omega, fun e => absurd e (by omega), fun _ => c_hasY (s := 2) hR (by omega) hb gb ⟨by omega, fun e => absurd e (by omega), fun _ => ⟨hw, fun _ => ⟨by omega, by omega, c_find tp tp2 z1 z1' ok nw tr z4 z3 (fun τ st => ?_)⟩, fun e => absurd gw e⟩⟩⟩), fun τ hR2 hc2 T2 fr => v_272 (m_isPY hR2 ha hc2 T2 (fun υ g' S h22 => ⟨by omega, fun e => absurd e (by omega), fun _ => ?_⟩))⟩
      · generalize ftI K s L (2 ^ kN K) = F at st fz m
        obtain ⟨f, s0, s1, s2⟩ := id st
        unfold fiF
        refine ⟨fun w0 => ⟨fun w1 => ⟨fun w9 => ⟨by omega, fun c => ⟨_, rfl, f, ?_⟩, fun c => ?_⟩, fun w9 => v_45 ?_⟩, fun w1 => c_ask ok fz st (fun υ su => ⟨_, rfl, su.1, ?_⟩)⟩, fun w0 => ⟨_, rfl, f, ?_⟩⟩
        · rw [if_neg w0, if_neg w1, if_neg (by omega), if_pos (by omega)]
        · rw [show (w - 2 : Int) = ((w - 2).toNat : Int) by omega, if_neg w0, if_neg w1, if_pos (by omega)]
          refine c_sure ok fz st (by omega) ⟨_, rfl, f, ?_⟩
          rw [Int.toNat_natCast]
        · rw [s0]
          refine ⟨by omega, fun e => absurd e (by omega), fun _ => ⟨by omega, fun e => ⟨_, rfl, _, rfl, f, ?_⟩, fun e => ⟨fun e2 => absurd e2 (by omega), fun _ => ⟨by omega, _, rfl, _, rfl, f, ?_⟩⟩⟩⟩
          · rw [if_neg w0, if_neg w1, if_neg (by omega), if_neg (by omega), if_neg (by omega)]
          · rw [if_neg w0, if_neg w1, if_neg (by omega), if_neg (by omega), if_pos (by omega)]
            exact (s2 _ (by omega)).1
        · rw [if_neg w0, if_pos (by omega)]
        · rw [if_pos (by omega)]; exact s0
      · have hR3 := hR2.fr g'.1.fr
        have g3 : 0 ≤ b ∧ b < υ.2 6 2 := by rw [g'.1.2 6 (by omega), fr.2.1 6 (by omega)]; exact gb
        refine m_isLY hR3 hb g3 ⟨by omega, fun e => absurd e (by omega), fun _ => ⟨hw, fun e => absurd e (by omega), fun _ => ⟨fun w9 => m_laysL ok g'.1 S gb.1 (Z.fr fr) (fun ω st => ?_), fun w9 => ⟨_, rfl, g'.1.trans (fa_170 _ _), ?_⟩⟩⟩⟩
        · generalize ftI K s L (2 ^ kN K) = F at st fz m
          obtain ⟨f, l, Sy, t42, t182, t183, t184⟩ := id st
          unfold fiF
          rw [t42]
          refine ⟨fun w2 => ⟨fun w9' => ⟨by omega, by omega, fun e => ⟨_, rfl, f, ?_⟩, fun e => ⟨by omega, _, rfl, f, ?_⟩⟩, fun w9' => ?_⟩, fun w2 => ⟨fun w0 => m_ask ok fz st ⟨_, rfl, f, ?_⟩, fun w0 => ⟨_, rfl, f, ?_⟩⟩⟩
          · rw [if_neg (by omega), if_neg (by omega), if_neg (by omega), if_neg (by omega), if_neg (by omega)]
          · rw [if_neg (by omega), if_neg (by omega), if_neg (by omega), if_neg (by omega), if_pos (by omega)]
            exact t182 _ (by omega)
          · rw [show (w - 2 : Int) = ((w - 2).toNat : Int) by omega, if_neg (by omega), if_neg (by omega), if_pos (by omega)]
            refine m_sure ok fz st (by omega) ⟨_, rfl, f, ?_⟩
            rw [Int.toNat_natCast]
          · rw [if_neg w0, if_pos (by omega)]
          · rw [if_pos (by omega)]
        · unfold fiF
          rw [if_neg (by omega), if_neg (by omega), if_neg (by omega), if_pos (by omega)]
    · refine ⟨-2, by omega, v_155 (c_hasY (s := 0) hR (by omega) ha hc ⟨by omega, fun e => absurd e (by omega), fun _ => ?_⟩), fun τ hR2 hc2 T2 fr => v_272 (m_isPY hR2 ha hc2 T2 (fun υ g' S h22 => ⟨by omega, fun e => absurd e (by omega), fun _ => ?_⟩))⟩
      · by_cases gb : 0 ≤ b ∧ b < σ.2 6 2
        · exact c_hasY (s := 2) hR (by omega) hb gb ⟨by omega, fun e => absurd e (by omega), fun _ => ⟨hw, fun e => absurd ⟨gb, e⟩ g, fun _ => ⟨_, rfl, Out.rfl, rfl⟩⟩⟩
        · exact c_hasN (s := 2) hR (by omega) hb gb ⟨by omega, fun _ => ⟨_, rfl, Out.rfl, rfl⟩, fun e => absurd rfl e⟩
      · have hR3 := hR2.fr g'.1.fr
        have e6 : υ.2 6 2 = σ.2 6 2 := by rw [g'.1.2 6 (by omega), fr.2.1 6 (by omega)]
        by_cases gb : 0 ≤ b ∧ b < σ.2 6 2
        · exact m_isLY hR3 hb (by rw [e6]; exact gb) ⟨by omega, fun e => absurd e (by omega), fun _ => ⟨hw, fun _ => ⟨_, rfl, g'.1.trans (fa_170 _ _), rfl⟩, fun e => absurd ⟨gb, by omega⟩ g⟩⟩
        · exact m_isLN hR3 hb (by rw [e6]; exact gb) ⟨by omega, fun _ => ⟨_, rfl, g'.1, rfl⟩, fun e => absurd rfl e⟩
def odF (F : Nat × (Nat → Nat)) (h : Nat) (z : Int) : Int := if F.1 = 0 then -1 else (lstT (cB F.2 h F.1).toNat F.1 z : Int)
theorem s_odds {X : PX} : Sm_31 X Rel := by
  intro a b h ha hb hh z hz σ hR
  refine same_P (a := a) hR (-1) (by omega) (fun hc => ?_) (fun τ hR2 hc => ?_) (fun K s a2 hc T => ?_)
  · exact v_156 (c_hhN hR ha hc ⟨by omega, fun _ => ⟨_, rfl, Out.rfl, rfl⟩, fun e => absurd rfl e⟩)
  · exact v_273 (m_isPN hR2 ha hc ⟨by omega, fun _ => ⟨_, rfl, FA.rfl, rfl⟩, fun e => absurd rfl e⟩)
  · obtain ⟨⟨tp, tp2⟩, ok, nw, tr, tm⟩ := id T
    obtain ⟨e1, e2, n7, e4⟩ := ok.e7
    by_cases g : (0 ≤ b ∧ b < σ.2 6 2) ∧ 0 ≤ h ∧ h < kN K
    · obtain ⟨gb, gh⟩ := g
      obtain ⟨b2, L, Z⟩ := hR.log gb
      obtain ⟨⟨z1, z1'⟩, z2, z3, z4, z5, z6⟩ := id Z
      obtain ⟨n, rfl⟩ := Int.eq_ofNat_of_zero_le gh.1
      have fz := ftI_z (s := s) ok L
      have m := fz.1
      have cr := cB_rng (ftI K s L (2 ^ kN K)).2 n (ftI K s L (2 ^ kN K)).1
      have ll := lstT_le (cB (ftI K s L (2 ^ kN K)).2 n (ftI K s L (2 ^ kN K)).1).toNat (ftI K s L (2 ^ kN K)).1 z
      have rg : InR (odF (ftI K s L (2 ^ kN K)) n z) := by
        unfold odF
        split <;> omega
      refine ⟨odF (ftI K s L (2 ^ kN K)) n z, rg, v_156 (c_hhY hR ha hh hc T ?_), fun τ hR2 hc2 T2 fr => v_273 (m_isPY hR2 ha hc2 T2 (fun υ g' S h22 => ⟨by omega, fun e => absurd e (by omega), fun _ => ?_⟩))⟩
      · rw [if_pos gh]
        refine ⟨by omega, fun e => absurd e (by omega), fun _ => c_hasY (s := 2) hR (by omega) hb gb ⟨by omega, fun _ => ⟨by omega, by omega, c_find tp tp2 z1 z1' ok nw tr z4 z3 (fun τ st => ?_)⟩, fun e => absurd (by omega) e⟩⟩
        generalize ftI K s L (2 ^ kN K) = F at st fz m cr ll
        obtain ⟨f, s0, s1, s2⟩ := id st
        refine c_hold ok fz st (by omega) ?_
        rw [s0, show cB F.2 n F.1 = ((cB F.2 n F.1).toNat : Int) by omega]
        unfold odF
        by_cases m0 : F.1 = 0
        · rw [if_pos m0]
          have cx : (cB F.2 n F.1).toNat < 65536 := by omega
          generalize (cB F.2 n F.1).toNat = x at cx ⊢
          rw [m0]
          refine v_158 (v_159 (c_gcdl 1 x 0 0 (by omega) (by omega) (by omega) (by omega) ⟨_, rfl, by omega, fun _ => ⟨_, rfl, _, rfl, f, rfl⟩, fun e => absurd (by omega) e⟩))
        · rw [if_neg m0]
          exact c_lst (by omega) (by omega) (by omega) hz ⟨_, rfl, f, rfl⟩
      · have hR3 := hR2.fr g'.1.fr
        have g3 : 0 ≤ b ∧ b < υ.2 6 2 := by rw [g'.1.2 6 (by omega), fr.2.1 6 (by omega)]; exact gb
        refine m_isLY hR3 hb g3 ⟨by omega, fun e => absurd e (by omega), fun _ => m_isH (n := kN K) ?_ n7 hh ?_⟩
        · dsimp only; rw [up2_if, if_neg (by omega)]; exact S.mx.2.1
        · rw [if_pos gh]
          refine ⟨by omega, fun _ => m_laysL ok g'.1 S gb.1 (Z.fr fr) (fun ω st => ?_), fun e => absurd (by omega) e⟩
          generalize ftI K s L (2 ^ kN K) = F at st fz m cr ll
          obtain ⟨f, l, Sy, t42, t182, t183, t184⟩ := id st
          rw [t42, Int.toNat_natCast, t184 n (by omega), show cB F.2 n F.1 = ((cB F.2 n F.1).toNat : Int) by omega]
          unfold odF
          refine ⟨by omega, fun c => ⟨by omega, ?_⟩, fun c => ⟨_, rfl, f, ?_⟩⟩
          · rw [if_neg (by omega)]
            exact m_lst (by omega) (by omega) (by omega) hz ⟨_, rfl, f, rfl⟩
          · rw [if_pos (by omega)]
    · refine ⟨-1, by omega, v_156 (c_hhY hR ha hh hc T ?_), fun τ hR2 hc2 T2 fr => v_273 (m_isPY hR2 ha hc2 T2 (fun υ g' S h22 => ⟨by omega, fun e => absurd e (by omega), fun _ => ?_⟩))⟩
      · by_cases gh : 0 ≤ h ∧ h < kN K
        · rw [if_pos gh]
          exact ⟨by omega, fun e => absurd e (by omega), fun _ => c_hasN (s := 2) hR (by omega) hb (fun gb => g ⟨gb, gh⟩) ⟨by omega, fun e => absurd rfl e, fun _ => ⟨_, rfl, Out.rfl, rfl⟩⟩⟩
        · rw [if_neg gh]
          exact ⟨by omega, fun _ => ⟨_, rfl, Out.rfl, rfl⟩, fun e => absurd rfl e⟩
      · have hR3 := hR2.fr g'.1.fr
        have e6 : υ.2 6 2 = σ.2 6 2 := by rw [g'.1.2 6 (by omega), fr.2.1 6 (by omega)]
        by_cases gb : 0 ≤ b ∧ b < σ.2 6 2
        · refine m_isLY hR3 hb (by rw [e6]; exact gb) ⟨by omega, fun e => absurd e (by omega), fun _ => m_isH (n := kN K) ?_ n7 hh ?_⟩
          · dsimp only; rw [up2_if, if_neg (by omega)]; exact S.mx.2.1
          · rw [if_neg (fun gh => g ⟨gb, gh⟩)]
            exact ⟨by omega, fun e => absurd rfl e, fun _ => ⟨_, rfl, g'.1.trans (fa_170 _ _), rfl⟩⟩
        · exact m_isLN hR3 hb (by rw [e6]; exact gb) ⟨by omega, fun _ => ⟨_, rfl, g'.1, rfl⟩, fun e => absurd rfl e⟩
def feF (K : Kz) (s : Cs) (F : Nat × (Nat → Nat)) (w : Int) : Int := if w = 0 then fwF false (gp F) F.1 else if w = 1 then fwF true (gp F) F.1 else if w = 2 then alT (alB K s F) F.1 else -2
theorem s_fewest {X : PX} : Sm_32 X Rel := by
  intro a b w ha hb hw σ hR
  refine same_P (a := a) hR (-2) (by omega) (fun hc => ?_) (fun τ hR2 hc => ?_) (fun K s a2 hc T => ?_)
  · exact v_157 (c_hasN (s := 0) hR (by omega) ha hc ⟨by omega, fun _ => ⟨_, rfl, Out.rfl, rfl⟩, fun e => absurd rfl e⟩)
  · exact v_276 (m_isPN hR2 ha hc ⟨by omega, fun _ => ⟨_, rfl, FA.rfl, rfl⟩, fun e => absurd rfl e⟩)
  · obtain ⟨⟨tp, tp2⟩, ok, nw, tr, tm⟩ := id T
    obtain ⟨e1, e2, n7, e4⟩ := ok.e7
    by_cases gb : 0 ≤ b ∧ b < σ.2 6 2
    · obtain ⟨b2, L, Z⟩ := hR.log gb
      obtain ⟨⟨z1, z1'⟩, z2, z3, z4, z5, z6⟩ := id Z
      have fz := ftI_z (s := s) ok L
      have m := fz.1
      have r1 := fwF_rng false (ftI K s L (2 ^ kN K)) (ftI K s L (2 ^ kN K)).1
      have r2 := fwF_rng true (ftI K s L (2 ^ kN K)) (ftI K s L (2 ^ kN K)).1
      have r3 := alT_rng (alB K s (ftI K s L (2 ^ kN K))) (ftI K s L (2 ^ kN K)).1 m
      have rg : InR (feF K s (ftI K s L (2 ^ kN K)) w) := by
        unfold feF
        split
        · omega
        · split
          · omega
          · split <;> omega
      refine ⟨feF K s (ftI K s L (2 ^ kN K)) w, rg, v_157 (c_hasY (s := 0) hR (by omega) ha hc ⟨by omega, fun e => absurd e (by omega), fun _ => c_hasY (s := 2) hR (by omega) hb gb ⟨by omega, fun _ => ⟨by omega, by omega, c_find tp tp2 z1 z1' ok nw tr z4 z3 (fun τ st => ?_)⟩, fun e => absurd (by omega) e⟩⟩), fun τ hR2 hc2 T2 fr => v_276 (m_isPY hR2 ha hc2 T2 (fun υ g' S h22 => ⟨by omega, fun e => absurd e (by omega), fun _ => ?_⟩))⟩
      · generalize ftI K s L (2 ^ kN K) = F at st fz m
        have f := st.1
        refine ⟨hw, fun e => ?_, fun e => ?_, fun e => ?_, fun e => ⟨_, rfl, f, ?_⟩⟩
        · rw [e]; exact c_few ok fz st ⟨_, rfl, f, by unfold feF; rw [if_pos rfl]⟩
        · rw [e]; exact c_most ok fz st ⟨_, rfl, f, by unfold feF; rw [if_neg (by omega), if_pos rfl]⟩
        · rw [e]; exact c_alike ok fz st ⟨_, rfl, f, by unfold feF; rw [if_neg (by omega), if_neg (by omega), if_pos rfl]⟩
        · unfold feF; rw [if_neg (by omega), if_neg (by omega), if_neg (by omega)]
      · have hR3 := hR2.fr g'.1.fr
        have g3 : 0 ≤ b ∧ b < υ.2 6 2 := by rw [g'.1.2 6 (by omega), fr.2.1 6 (by omega)]; exact gb
        refine m_isLY hR3 hb g3 ⟨by omega, fun _ => m_laysL ok g'.1 S gb.1 (Z.fr fr) (fun ω st => ?_), fun e => absurd (by omega) e⟩
        generalize ftI K s L (2 ^ kN K) = F at st fz m
        have f := st.1
        refine ⟨hw, fun e => ⟨fun _ => ?_, fun x => absurd (by omega) x⟩, fun e => ⟨fun x => absurd e x, fun _ => ?_⟩, fun e => ?_, fun e => ⟨_, rfl, f, ?_⟩⟩
        · rw [e]; exact m_few ok fz st (Or.inl rfl) ⟨_, rfl, f, by unfold feF; rw [if_pos rfl]; rfl⟩
        · rw [e]; exact m_few ok fz st (Or.inr rfl) ⟨_, rfl, f, by unfold feF; rw [if_neg (by omega), if_pos rfl]; rfl⟩
        · rw [e]; exact m_alike ok fz st ⟨_, rfl, f, by unfold feF; rw [if_neg (by omega), if_neg (by omega), if_pos rfl]⟩
        · unfold feF; rw [if_neg (by omega), if_neg (by omega), if_neg (by omega)]
    · refine ⟨-2, by omega, v_157 (c_hasY (s := 0) hR (by omega) ha hc ⟨by omega, fun e => absurd e (by omega), fun _ => c_hasN (s := 2) hR (by omega) hb gb ⟨by omega, fun e => absurd rfl e, fun _ => ⟨_, rfl, Out.rfl, rfl⟩⟩⟩), fun τ hR2 hc2 T2 fr => v_276 (m_isPY hR2 ha hc2 T2 (fun υ g' S h22 => ⟨by omega, fun e => absurd e (by omega), fun _ => ?_⟩))⟩
      have hR3 := hR2.fr g'.1.fr
      have g3 : ¬ (0 ≤ b ∧ b < υ.2 6 2) := by rw [g'.1.2 6 (by omega), fr.2.1 6 (by omega)]; exact gb
      exact m_isLN hR3 hb g3 ⟨by omega, fun e => absurd rfl e, fun _ => ⟨_, rfl, g'.1, rfl⟩⟩
