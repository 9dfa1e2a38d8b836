/-! fits, odds, fewest: the questions -/
def Fz (K : Kz) (F : Nat × (Nat → Nat)) : Prop := F.1 ≤ 128 ∧ ∀ i : Nat, i < F.1 → F.2 i < 2 ^ kN K
theorem ftI_z {K : Kz} {s : Cs} (ok : sOk K s) (L : Lg) : Fz K (ftI K s L (2 ^ kN K)) := by
  obtain ⟨e1, e2, n7, e4⟩ := ok.e7
  obtain ⟨a, b⟩ := ftI_inv K s L (2 ^ kN K)
  exact ⟨by omega, b⟩
theorem c_hold {X : PX} {σ τ : Sg} {h : Nat} {K : Kz} {s : Cs} {F : Nat × (Nat → Nat)} {P : Int → Sg → Prop} (ok : sOk K s) (z : Fz K F) (st : FC' σ τ K s F) (hh : h < 7) (q : P (cB F.2 h F.1) τ) : CI X 46 [vR (some 163), vI h] τ P := by
  obtain ⟨e1, e2, n7, e4⟩ := ok.e7
  obtain ⟨f, s0, s1, s2⟩ := id st
  have m := z.1
  have lp : ∀ (d i : Nat), i + d = F.1 → Ev X 46 4 [some (vR (some 163)), some (vI h), some (vI (cB F.2 h i)), some (vI i)] [] τ (fun v τ => ∃ x, v = some (vI x) ∧ P x τ) := by
    intro d
    induction d with
    | zero =>
      intro i hi
      refine v_46_4 ⟨by omega, by omega, fun _ => ⟨_, rfl, ?_⟩, fun e => absurd (by omega) e⟩
      rw [show i = F.1 by omega]; exact q
    | succ d ih =>
      intro i hi
      have zi := z.2 i (by omega)
      refine v_46_4 ⟨by omega, by omega, fun e => absurd e (by omega), fun _ => ⟨fun e => absurd e (by omega), fun _ => ⟨by omega, ?_⟩⟩⟩
      rw [Int.toNat_natCast, (s2 i (by omega)).1, b_bit (by omega) (by omega)]
      exact ih (i + 1) (by omega)
  exact v_46 (lp F.1 0 (by omega))
def srF (n m : Nat) (c : Int) (h : Int) : Int := if m = 0 ∨ ¬ h < n then -1 else if c = m then 1 else if c = 0 then 0 else -1
theorem c_sure {X : PX} {σ τ : Sg} {h : Nat} {K : Kz} {s : Cs} {F : Nat × (Nat → Nat)} {P : Int → Sg → Prop} (ok : sOk K s) (z : Fz K F) (st : FC' σ τ K s F) (hh : h < 7) (q : P (srF (kN K) F.1 (cB F.2 h F.1) h) τ) : CI X 47 [vR (some 163), vI h] τ P := by
  obtain ⟨e1, e2, n7, e4⟩ := ok.e7
  obtain ⟨f, s0, s1, s2⟩ := id st
  have m := z.1
  have cr := cB_rng F.2 h F.1
  unfold srF at q
  refine v_47 ?_
  rw [s0, s1]
  refine ⟨by omega, fun c => ⟨_, rfl, ?_⟩, fun c => ⟨by omega, fun e => absurd e (by omega), fun _ => ⟨by omega, fun d => c_hold ok z st hh ?_, fun d => ⟨_, rfl, ?_⟩⟩⟩⟩
  · rw [if_pos (Or.inl (by omega))] at q; exact q
  · rw [if_neg (show ¬ (F.1 = 0 ∨ ¬ (h : Int) < kN K) by omega)] at q
    rw [s0]
    refine ⟨by omega, by omega, fun e => ⟨fun g => ⟨_, rfl, ?_⟩, fun g => ⟨_, rfl, ?_⟩⟩, fun e => ⟨_, rfl, ?_⟩⟩
    · rw [if_neg e, if_neg g] at q; exact q
    · rw [if_neg e, if_pos (by omega)] at q; exact q
    · rw [if_pos (by omega)] at q; exact q
  · rw [if_pos (Or.inr d)] at q; exact q
/-! how often the same -/
def ctF (f : Nat → Int) (v : Int) : Nat → Int
  | 0 => 0
  | i + 1 => ctF f v i + (if f i = v then 1 else 0)
def lwF (f : Nat → Int) : Nat → Int
  | 0 => 0
  | i + 1 => max (lwF f i) (ctF f (f i) (i + 1))
def mxF (f : Nat → Int) (m : Nat) : Nat → Int
  | 0 => 0
  | a + 1 => max (mxF f m a) (ctF f (f a) m)
theorem ctF_rng (f : Nat → Int) (v : Int) : ∀ i : Nat, 0 ≤ ctF f v i ∧ ctF f v i ≤ i
  | 0 => by unfold ctF; omega
  | i + 1 => by
    have := ctF_rng f v i
    unfold ctF
    split <;> omega
theorem lwF_rng (f : Nat → Int) : ∀ i : Nat, 0 ≤ lwF f i ∧ lwF f i ≤ i
  | 0 => by unfold lwF; omega
  | i + 1 => by
    have := lwF_rng f i
    have := ctF_rng f (f i) (i + 1)
    unfold lwF
    omega
theorem lwF_inv (f : Nat → Int) : ∀ m : Nat, (∀ v : Int, ctF f v m ≤ lwF f m) ∧ (m = 0 ∨ ∃ a : Nat, a < m ∧ ctF f (f a) m = lwF f m)
  | 0 => ⟨fun v => Int.le_refl 0, Or.inl rfl⟩
  | m + 1 => by
    obtain ⟨h1, h2⟩ := lwF_inv f m
    have e : ∀ v : Int, ctF f v (m + 1) = ctF f v m + (if f m = v then 1 else 0) := fun v => rfl
    have el : lwF f (m + 1) = max (lwF f m) (ctF f (f m) (m + 1)) := rfl
    refine ⟨fun v => ?_, Or.inr ?_⟩
    · rw [el]
      by_cases c : f m = v
      · rw [← c]; omega
      · rw [e v, if_neg c]; have := h1 v; omega
    · by_cases c : lwF f m ≤ ctF f (f m) (m + 1)
      · exact ⟨m, by omega, by rw [el]; omega⟩
      · rcases h2 with g | ⟨a, a1, a2⟩
        · rw [g] at c
          have := (ctF_rng f (f 0) (0 + 1)).1
          have e0 : lwF f 0 = 0 := rfl
          omega
        · refine ⟨a, by omega, ?_⟩
          rw [el, e (f a)]
          by_cases d : f m = f a
          · exfalso
            have := e (f m)
            rw [if_pos rfl, d] at this
            rw [d] at c
            omega
          · rw [if_neg d]; omega
theorem mxF_le {f : Nat → Int} {m : Nat} {B : Int} (hB : 0 ≤ B) (h : ∀ v : Int, ctF f v m ≤ B) : ∀ a : Nat, mxF f m a ≤ B
  | 0 => hB
  | a + 1 => by
    have := mxF_le hB h a
    have := h (f a)
    unfold mxF; omega
theorem mxF_ge {f : Nat → Int} {m b : Nat} : ∀ a : Nat, b < a → ctF f (f b) m ≤ mxF f m a
  | 0 => fun h => absurd h (by omega)
  | a + 1 => fun h => by
    unfold mxF
    rcases Nat.lt_or_ge b a with g | g
    · have := mxF_ge (f := f) (m := m) a g; omega
    · rw [show b = a by omega]; omega
theorem lw_mx (f : Nat → Int) (m : Nat) : mxF f m m = lwF f m := by
  obtain ⟨h1, h2⟩ := lwF_inv f m
  have a := mxF_le (lwF_rng f m).1 h1 m
  rcases h2 with g | ⟨b, b1, b2⟩
  · rw [g]; rfl
  · have := mxF_ge (f := f) (m := m) m b1
    omega
theorem mxF_rng (f : Nat → Int) (m : Nat) : ∀ a : Nat, 0 ≤ mxF f m a ∧ mxF f m a ≤ m
  | 0 => by unfold mxF; omega
  | a + 1 => by
    have := mxF_rng f m a
    have := ctF_rng f (f a) m
    unfold mxF; omega
def fiT (K : Kz) (s : Cs) (F : Nat × (Nat → Nat)) (h i : Nat) : Int := fT K s (F.2 i) h
theorem FC'.tal {σ τ υ : Sg} {K : Kz} {s : Cs} {F : Nat × (Nat → Nat)} (st : FC' σ τ K s F) (f : Out τ υ 166 166) : FC' σ υ K s F := by
  obtain ⟨h1, h2, h3, h4⟩ := st
  refine ⟨h1.trans (f.wide (by omega) (by omega)), ?_, ?_, ?_⟩
  · rw [(f 163 (by omega)).1]; exact h2
  · rw [(f 163 (by omega)).1]; exact h3
  · rw [(f 164 (by omega)).2, (f 165 (by omega)).2]; exact h4
theorem c_left {X : PX} {σ τ : Sg} {h : Nat} {K : Kz} {s : Cs} {F : Nat × (Nat → Nat)} {P : Int → Sg → Prop} (ok : sOk K s) (z : Fz K F) (st : FC' σ τ K s F) (hh : h < kN K) (q : ∀ υ : Sg, FC' σ υ K s F → P (lwF (fiT K s F h) F.1) υ) : CI X 49 [vR (some 163), vI h] τ P := by
  obtain ⟨e1, e2, n7, e4⟩ := ok.e7
  have m := z.1
  have lp : ∀ (d i : Nat) (υ : Sg), i + d = F.1 → FC' σ υ K s F → (∀ v : Nat, v < 128 → υ.2 166 v = ctF (fiT K s F h) v i) → Ev X 49 16 [some (vR (some 163)), some (vI h), some (vI (lwF (fiT K s F h) i)), some (vI i), none] [] υ (fun v τ => ∃ x, v = some (vI x) ∧ P x τ) := by
    intro d
    induction d with
    | zero =>
      intro i υ hi su tl
      obtain ⟨f, s0, s1, s2⟩ := id su
      refine v_49_16 ⟨by omega, by omega, fun _ => ⟨_, rfl, ?_⟩, fun e => absurd (by omega) e⟩
      rw [show i = F.1 by omega]; exact q υ su
    | succ d ih =>
      intro i υ hi su tl
      obtain ⟨f, s0, s1, s2⟩ := id su
      have zi := z.2 i (by omega)
      have fr := fT_rng ok zi h
      have ht : ∀ j : Nat, fTn K s (F.2 i) j < 128 := fun j => (fT_rng ok zi j).2.2.2
      have pl := pkN_lt ht n7
      have lw := lwF_rng (fiT K s F h) i
      have ct := ctF_rng (fiT K s F h) (fTn K s (F.2 i) h : Int) i
      have dl : pk (fTn K s (F.2 i)) (kN K) / 2 ^ (7 * h) ≤ pk (fTn K s (F.2 i)) (kN K) := Nat.div_le_self _ _
      have ev : iAnd (iL2i (lShr (υ.2 165 i) ((h : Int) * 7))) 127 = (fTn K s (F.2 i) h : Int) := by
        rw [(s2 i (by omega)).2, l_shr (by omega) (by omega), l_low (by omega), pkN_at ht hh]
      have efi : fiT K s F h i = (fTn K s (F.2 i) h : Int) := fr.2.2.1
      refine v_49_16 ?_
      rw [Int.toNat_natCast, ev, Int.toNat_natCast, up2_get, tl _ fr.2.2.2]
      refine ⟨by omega, by omega, fun e => absurd e (by omega), fun _ => ⟨fun e => absurd e (by omega), fun _ => ⟨by omega, by omega, by omega, by omega, ?_⟩⟩⟩
      have ec : ctF (fiT K s F h) (fTn K s (F.2 i) h : Int) i + 1 = ctF (fiT K s F h) (fiT K s F h i) (i + 1) := by
        rw [efi]
        show _ = ctF (fiT K s F h) (fTn K s (F.2 i) h : Int) i + (if fiT K s F h i = (fTn K s (F.2 i) h : Int) then 1 else 0)
        rw [if_pos efi]
      have nx := ih (i + 1) (υ.1, up2 υ.2 166 (fTn K s (F.2 i) h) (ctF (fiT K s F h) (fTn K s (F.2 i) h : Int) i + 1)) (by omega) (su.tal (fun c hc => ⟨rfl, by dsimp only; rw [up2_ne _ _ _ (by omega)]⟩)) (fun v hv => ?_)
      · rw [show lwF (fiT K s F h) (i + 1) = max (lwF (fiT K s F h) i) (ctF (fiT K s F h) (fiT K s F h i) (i + 1)) from rfl, ← ec] at nx
        exact nx
      · dsimp only
        rw [up2_if, show ctF (fiT K s F h) (v : Int) (i + 1) = ctF (fiT K s F h) (v : Int) i + (if fiT K s F h i = (v : Int) then 1 else 0) from rfl]
        by_cases c : v = fTn K s (F.2 i) h
        · rw [if_pos c, if_pos (by rw [efi, c]), c]
        · rw [if_neg c, if_neg (by rw [efi]; omega), tl v hv]; omega
  have z0 : ∀ (d i : Nat) (υ : Sg), i + d = 128 → FC' σ υ K s F → (∀ v : Nat, v < i → υ.2 166 v = 0) → Ev X 49 2 [some (vR (some 163)), some (vI h), some (vI i), none, none] [] υ (fun v τ => ∃ x, v = some (vI x) ∧ P x τ) := by
    intro d
    induction d with
    | zero =>
      intro i υ hi su tl
      exact v_49_2 ⟨by omega, fun _ => lp F.1 0 υ (by omega) su (fun v hv => tl v (by omega)), fun e => absurd (by omega) e⟩
    | succ d ih =>
      intro i υ hi su tl
      refine v_49_2 ⟨by omega, fun e => absurd e (by omega), fun _ => ⟨by omega, ?_⟩⟩
      rw [Int.toNat_natCast]
      refine ih (i + 1) _ (by omega) (su.tal (fun c hc => ⟨rfl, by dsimp only; rw [up2_ne _ _ _ (by omega)]⟩)) (fun v hv => ?_)
      dsimp only; rw [up2_if]
      by_cases c : v = i
      · rw [if_pos c]
      · rw [if_neg c]; exact tl v (by omega)
  exact v_49 (z0 128 0 τ (by omega) st (fun v hv => absurd hv (by omega)))
def nlw (K : Kz) (s : Cs) (F : Nat × (Nat → Nat)) (h : Nat) : Int := - lwF (fiT K s F h) F.1
def asF (K : Kz) (s : Cs) (F : Nat × (Nat → Nat)) : Int := if F.1 = 0 then -1 else bsF (nlw K s F) (kN K)
theorem c_ask {X : PX} {σ τ : Sg} {K : Kz} {s : Cs} {F : Nat × (Nat → Nat)} {P : Int → Sg → Prop} (ok : sOk K s) (z : Fz K F) (st : FC' σ τ K s F) (q : ∀ υ : Sg, FC' σ υ K s F → P (asF K s F) υ) : CI X 48 [vR (some 163)] τ P := by
  obtain ⟨e1, e2, n7, e4⟩ := ok.e7
  have m := z.1
  have s0 := st.2.1
  unfold asF at q
  have lp : F.1 ≠ 0 → ∀ (d h : Nat) (υ : Sg) (x2 : Int), h + d = kN K → FC' σ υ K s F → x2 = (if h = 0 then 129 else - nlw K s F (bsF (nlw K s F) h).toNat) → Ev X 48 11 [some (vR (some 163)), some (vI (bsF (nlw K s F) h)), some (vI x2), some (vI h), none] [] υ (fun v τ => ∃ x, v = some (vI x) ∧ P x τ) := by
    intro nz d
    induction d with
    | zero =>
      intro h υ x2 hh su hx
      have s1 := su.2.2.1
      have := q υ su
      rw [if_neg nz] at this
      refine v_48_11 ⟨by omega, by omega, fun _ => ⟨_, rfl, ?_⟩, fun e => absurd (by omega) e⟩
      rw [show h = kN K by omega]; exact this
    | succ d ih =>
      intro h υ x2 hh su hx
      have s1 := su.2.2.1
      have lw := lwF_rng (fiT K s F h) F.1
      have en : nlw K s F h = - lwF (fiT K s F h) F.1 := rfl
      refine v_48_11 ⟨by omega, by omega, fun e => absurd e (by omega), fun _ => c_left ok z su (by omega) (fun ω so => ?_)⟩
      by_cases h0 : h = 0
      · rw [if_pos h0] at hx
        refine ⟨by omega, by omega, fun e => absurd e (by omega), fun _ => ?_⟩
        have nx := ih (h + 1) ω (lwF (fiT K s F h) F.1) (by omega) so (by rw [if_neg (by omega), h0]; show _ = - nlw K s F ((0 : Nat) : Int).toNat; rw [Int.toNat_natCast, ← h0, en]; omega)
        rw [h0] at nx ⊢; exact nx
      · rw [if_neg h0] at hx
        have eb : bsF (nlw K s F) h = (bst (nlw K s F) (h - 1) : Int) := if_neg h0
        rw [eb, Int.toNat_natCast] at hx
        have lw2 := lwF_rng (fiT K s F (bst (nlw K s F) (h - 1))) F.1
        have en2 : nlw K s F (bst (nlw K s F) (h - 1)) = - lwF (fiT K s F (bst (nlw K s F) (h - 1))) F.1 := rfl
        refine ⟨by omega, by omega, fun e => ?_, fun e => ?_⟩
        · have nx := ih (h + 1) ω x2 (by omega) so
          rw [bsF_s h0, if_neg (show ¬ nlw K s F (bst (nlw K s F) (h - 1)) < nlw K s F h by omega), if_neg (by omega), Int.toNat_natCast] at nx
          rw [eb]; exact nx hx
        · have nx := ih (h + 1) ω (lwF (fiT K s F h) F.1) (by omega) so
          rw [bsF_s h0, if_pos (show nlw K s F (bst (nlw K s F) (h - 1)) < nlw K s F h by omega), if_neg (by omega), Int.toNat_natCast] at nx
          exact nx (by omega)
  refine v_48 ?_
  rw [s0]
  refine ⟨by omega, fun c => lp (by omega) (kN K) 0 τ 129 (by omega) st (by rw [if_pos rfl]), fun c => ⟨_, rfl, ?_⟩⟩
  have := q τ st
  rw [if_pos (by omega)] at this; exact this
def fwF (b : Bool) (g : Nat → Int) : Nat → Int
  | 0 => -1
  | i + 1 => if fwF b g i = -1 then g i else if b then max (fwF b g i) (g i) else min (fwF b g i) (g i)
def gp (F : Nat × (Nat → Nat)) (i : Nat) : Int := popc (F.2 i) 12
theorem gp_rng (F : Nat × (Nat → Nat)) (i : Nat) : 0 ≤ gp F i ∧ gp F i ≤ 12 := by
  have := popc_le (F.2 i) 12
  unfold gp; omega
theorem fwF_rng (b : Bool) (F : Nat × (Nat → Nat)) : ∀ i : Nat, -1 ≤ fwF b (gp F) i ∧ fwF b (gp F) i ≤ 12
  | 0 => by unfold fwF; omega
  | i + 1 => by
    have := fwF_rng b F i
    have := gp_rng F i
    unfold fwF
    split
    · omega
    · split <;> omega
theorem c_few {X : PX} {σ τ : Sg} {K : Kz} {s : Cs} {F : Nat × (Nat → Nat)} {P : Int → Sg → Prop} (ok : sOk K s) (z : Fz K F) (st : FC' σ τ K s F) (q : P (fwF false (gp F) F.1) τ) : CI X 50 [vR (some 163)] τ P := by
  obtain ⟨e1, e2, n7, e4⟩ := ok.e7
  obtain ⟨f, s0, s1, s2⟩ := id st
  have m := z.1
  have lp : ∀ (d i : Nat), i + d = F.1 → Ev X 50 4 [some (vR (some 163)), some (vI (fwF false (gp F) i)), some (vI i), none] [] τ (fun v τ => ∃ x, v = some (vI x) ∧ P x τ) := by
    intro d
    induction d with
    | zero =>
      intro i hi
      refine v_50_4 ⟨by omega, by omega, fun _ => ⟨_, rfl, ?_⟩, fun e => absurd (by omega) e⟩
      rw [show i = F.1 by omega]; exact q
    | succ d ih =>
      intro i hi
      have zi := z.2 i (by omega)
      have fr := fwF_rng false F i
      have gr := gp_rng F i
      have nx := ih (i + 1) (by omega)
      rw [show fwF false (gp F) (i + 1) = if fwF false (gp F) i = -1 then gp F i else min (fwF false (gp F) i) (gp F i) from rfl] at nx
      refine v_50_4 ⟨by omega, by omega, fun e => absurd e (by omega), fun _ => ⟨fun e => absurd e (by omega), fun _ => ⟨by omega, ?_⟩⟩⟩
      rw [Int.toNat_natCast, (s2 i (by omega)).1]
      refine c_bitc (by omega) ?_
      rw [show (popc (F.2 i) 12 : Int) = gp F i from rfl]
      refine ⟨by omega, fun c => ⟨by omega, ?_⟩, fun c => ?_⟩
      · rw [if_neg c] at nx; exact nx
      · rw [if_pos (by omega)] at nx; exact nx
  exact v_50 (lp F.1 0 (by omega))
theorem c_most {X : PX} {σ τ : Sg} {K : Kz} {s : Cs} {F : Nat × (Nat → Nat)} {P : Int → Sg → Prop} (ok : sOk K s) (z : Fz K F) (st : FC' σ τ K s F) (q : P (fwF true (gp F) F.1) τ) : CI X 51 [vR (some 163)] τ P := by
  obtain ⟨e1, e2, n7, e4⟩ := ok.e7
  obtain ⟨f, s0, s1, s2⟩ := id st
  have m := z.1
  have lp : ∀ (d i : Nat), i + d = F.1 → Ev X 51 4 [some (vR (some 163)), some (vI (fwF true (gp F) i)), some (vI i)] [] τ (fun v τ => ∃ x, v = some (vI x) ∧ P x τ) := by
    intro d
    induction d with
    | zero =>
      intro i hi
      refine v_51_4 ⟨by omega, by omega, fun _ => ⟨_, rfl, ?_⟩, fun e => absurd (by omega) e⟩
      rw [show i = F.1 by omega]; exact q
    | succ d ih =>
      intro i hi
      have zi := z.2 i (by omega)
      have fr := fwF_rng true F i
      have gr := gp_rng F i
      have nx := ih (i + 1) (by omega)
      rw [show fwF true (gp F) (i + 1) = if fwF true (gp F) i = -1 then gp F i else max (fwF true (gp F) i) (gp F i) from rfl] at nx
      refine v_51_4 ⟨by omega, by omega, fun e => absurd e (by omega), fun _ => ⟨fun e => absurd e (by omega), fun _ => ⟨by omega, ?_⟩⟩⟩
      rw [Int.toNat_natCast, (s2 i (by omega)).1]
      refine c_bitc (by omega) ?_
      rw [show (popc (F.2 i) 12 : Int) = gp F i from rfl]
      refine ⟨by omega, by omega, ?_⟩
      by_cases c : fwF true (gp F) i = -1
      · rw [if_pos c] at nx; rw [Int.max_eq_right (by omega)]; exact nx
      · rw [if_neg c] at nx; exact nx
  exact v_51 (lp F.1 0 (by omega))
def alB (K : Kz) (s : Cs) (F : Nat × (Nat → Nat)) (i j : Nat) : Bool := decide (pk (fTn K s (F.2 i)) (kN K) = pk (fTn K s (F.2 j)) (kN K))
def alI (b : Nat → Nat → Bool) (i : Nat) : Nat → Int
  | 0 => 0
  | j + 1 => alI b i j + (if b i j then 1 else 0)
def alT (b : Nat → Nat → Bool) : Nat → Int
  | 0 => 0
  | i + 1 => alT b i + alI b i i
theorem alI_rng (b : Nat → Nat → Bool) (i : Nat) : ∀ j : Nat, 0 ≤ alI b i j ∧ alI b i j ≤ j
  | 0 => by unfold alI; omega
  | j + 1 => by
    have := alI_rng b i j
    unfold alI
    split <;> omega
theorem alT_rng (b : Nat → Nat → Bool) : ∀ i : Nat, i ≤ 128 → 0 ≤ alT b i ∧ alT b i ≤ 128 * i
  | 0 => fun _ => by unfold alT; omega
  | i + 1 => fun h => by
    have := alT_rng b i (by omega)
    have := alI_rng b i i
    unfold alT; omega
theorem c_alike {X : PX} {σ τ : Sg} {K : Kz} {s : Cs} {F : Nat × (Nat → Nat)} {P : Int → Sg → Prop} (ok : sOk K s) (z : Fz K F) (st : FC' σ τ K s F) (q : P (alT (alB K s F) F.1) τ) : CI X 52 [vR (some 163)] τ P := by
  obtain ⟨e1, e2, n7, e4⟩ := ok.e7
  obtain ⟨f, s0, s1, s2⟩ := id st
  have m := z.1
  have inn : ∀ a : Nat, a < F.1 → Ev X 52 4 [some (vR (some 163)), some (vI (alT (alB K s F) a + alI (alB K s F) a a)), some (vI ((a : Int) + 1)), none] [] τ (fun v τ => ∃ x, v = some (vI x) ∧ P x τ) → ∀ (d b : Nat), b + d = a → Ev X 52 13 [some (vR (some 163)), some (vI (alT (alB K s F) a + alI (alB K s F) a b)), some (vI a), some (vI b)] [] τ (fun v τ => ∃ x, v = some (vI x) ∧ P x τ) := by
    intro a ha kk d
    induction d with
    | zero =>
      intro b hb
      rw [show b = a by omega]
      exact v_52_13 ⟨by omega, by omega, fun _ => kk, fun e => absurd (by omega) e⟩
    | succ d ih =>
      intro b hb
      have nx := ih (b + 1) (by omega)
      rw [show alI (alB K s F) a (b + 1) = alI (alB K s F) a b + (if alB K s F a b then 1 else 0) from rfl] at nx
      have za := z.2 a ha
      have zb := z.2 b (by omega)
      have pa := pkN_lt (fun j => (fT_rng ok za j).2.2.2) n7
      have pb := pkN_lt (fun j => (fT_rng ok zb j).2.2.2) n7
      obtain ⟨l1, l2⟩ := l_cmp (a := pk (fTn K s (F.2 a)) (kN K)) (b := pk (fTn K s (F.2 b)) (kN K)) (by omega) (by omega)
      refine v_52_13 ?_
      rw [Int.toNat_natCast, Int.toNat_natCast, (s2 a ha).2, (s2 b (by omega)).2]
      refine ⟨by omega, by omega, fun e => absurd e (by omega), fun _ => ⟨by omega, by omega, l1, fun c => ?_, fun c => ?_⟩⟩
      · rw [if_neg (show ¬ alB K s F a b = true by unfold alB; rw [decide_eq_true_iff]; exact fun x => c (l2.mpr x)), Int.add_zero] at nx
        exact nx
      · rw [if_pos (show alB K s F a b = true by unfold alB; rw [decide_eq_true_iff]; exact l2.mp (by omega))] at nx
        rw [Int.add_assoc]; exact nx
  have lp : ∀ (d a : Nat), a + d = F.1 → Ev X 52 4 [some (vR (some 163)), some (vI (alT (alB K s F) a)), some (vI a), none] [] τ (fun v τ => ∃ x, v = some (vI x) ∧ P x τ) := by
    intro d
    induction d with
    | zero =>
      intro a ha
      refine v_52_4 ⟨by omega, by omega, fun _ => ⟨_, rfl, ?_⟩, fun e => absurd (by omega) e⟩
      rw [show a = F.1 by omega]; exact q
    | succ d ih =>
      intro a ha
      refine v_52_4 ⟨by omega, by omega, fun e => absurd e (by omega), fun _ => ⟨fun e => absurd e (by omega), fun _ => ?_⟩⟩
      have := inn a (by omega) (ih (a + 1) (by omega)) a 0 (by omega)
      rw [show alT (alB K s F) a + alI (alB K s F) a 0 = alT (alB K s F) a from Int.add_zero _] at this
      exact this
  exact v_52 (lp F.1 0 (by omega))
