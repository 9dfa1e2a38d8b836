/-! the class: Levy.share -/
theorem par_le : ∀ p ∈ parL, p ≤ 147 := by decide +kernel
theorem lev_ge : ∀ v ∈ levL, 154 ≤ v := by decide +kernel
theorem give_in {X : PX} {v : Nat} {c : Nat → Int} {σ : Sg} {Q : Option PV → Sg → Prop} (hv : v ∈ levL) (hc : ∀ h : Nat, h < 7 → σ.2 (v + 2) h = c h) (hr : ∀ h : Nat, h < 7 → InR (c h))
    (k : Q none (σ.1, up2 (up2 σ.2 (v + 1) (bst c 6) (σ.2 (v + 1) (bst c 6) + 1)) (v + 2) (bst c 6) 0)) : ∀ (d x : Nat), x + d = 6 → Ev X 56 4 [some (vR (some v)), some (vI (bst c x)), some (vI ((x + 1 : Nat) : Int))] [] σ Q := by
  intro d
  induction d with
  | zero =>
    intro x hx
    have b := (bst_spec c x).1
    rw [show x = 6 by omega] at b ⊢
    refine v_56_4 hv ⟨by omega, fun _ => ⟨by omega, ?_⟩, fun q => absurd (by omega) q⟩
    rw [Int.toNat_natCast]
    exact k
  | succ d ih =>
    intro x hx
    have b := (bst_spec c x).1
    have nx := ih (x + 1) (by omega)
    refine v_56_4 hv ?_
    rw [Int.toNat_natCast, Int.toNat_natCast, hc (x + 1) (by omega), hc (bst c x) (by omega)]
    have r1 := hr (x + 1) (by omega)
    have r2 := hr (bst c x) (by omega)
    refine ⟨by omega, fun q => absurd q (by omega), fun _ => ⟨by omega, by omega, r1, r2, fun q => ?_, fun q => ?_⟩⟩
    · unfold bst at nx
      rw [if_neg (by omega)] at nx
      exact nx
    · unfold bst at nx
      rw [if_pos (by omega)] at nx
      exact nx
theorem c_give {X : PX} {v : Nat} {c : Nat → Int} {σ : Sg} {P : Sg → Prop} (hv : v ∈ levL) (hc : ∀ h : Nat, h < 7 → σ.2 (v + 2) h = c h) (hr : ∀ h : Nat, h < 7 → InR (c h))
    (k : P (σ.1, up2 (up2 σ.2 (v + 1) (bst c 6) (σ.2 (v + 1) (bst c 6) + 1)) (v + 2) (bst c 6) 0)) : CV X 56 [vR (some v)] σ P :=
  v_56 hv (give_in hv hc hr ⟨rfl, k⟩ 6 0 (by omega))
/-- nothing but the two rows of v has changed -/
def ShF (σ τ : Sg) (v : Nat) : Prop := τ.1 = σ.1 ∧ ∀ c : Nat, c ≠ v + 1 → c ≠ v + 2 → τ.2 c = σ.2 c
def ShA (τ : Sg) (v : Nat) (t c : Nat → Int) : Prop := ∀ h : Nat, h < 7 → τ.2 (v + 1) h = t h ∧ τ.2 (v + 2) h = c h
theorem ShF.up {σ τ : Sg} {v i j : Nat} {x y : Int} (h : ShF σ τ v) : ShF σ (τ.1, up2 (up2 τ.2 (v + 1) i x) (v + 2) j y) v :=
  ⟨h.1, fun c h1 h2 => by dsimp only; rw [up2_ne _ _ _ h2, up2_ne _ _ _ h1]; exact h.2 c h1 h2⟩
theorem ShA.up {τ : Sg} {v b : Nat} {t c : Nat → Int} {x y : Int} (h : ShA τ v t c) : ShA (τ.1, up2 (up2 τ.2 (v + 1) b x) (v + 2) b y) v (up t b x) (up c b y) := by
  intro i hi
  obtain ⟨h1, h2⟩ := h i hi
  dsimp only
  rw [up2_ne _ _ _ (by omega), up2_if, up2_if, up2_ne _ _ _ (by omega), h1, h2]
  exact ⟨rfl, rfl⟩
theorem sh_3 {X : PX} {v n E : Nat} {q : Int} {g : Nat → Int} {σ : Sg} {Q : Option PV → Sg → Prop} (hv : v ∈ levL) (kk : gdOk n q g) (w : 0 < gW n E g)
    (k : ∀ τ : Sg, ShF σ τ v → ShA τ v (gvn n E q g (lf n E q g).toNat).1 (gvn n E q g (lf n E q g).toNat).2 → Q none τ) : ∀ (d i : Nat) (τ : Sg), i + d = (lf n E q g).toNat → ShF σ τ v → ShA τ v (gvn n E q g i).1 (gvn n E q g i).2 → Ev X 55 100 [some (vR (some v)), none, none, none, none, some (vI (lf n E q g)), some (vI i), none] [] τ Q := by
  have l := lf_rng (q := q) w
  intro d
  induction d with
  | zero =>
    intro i τ hi hf ha
    refine v_55_100 hv ⟨by omega, by omega, fun _ => k τ hf ?_, fun q => absurd (by omega) q⟩
    rw [← show i = (lf n E q g).toNat by omega]; exact ha
  | succ d ih =>
    intro i τ hi hf ha
    have inv := (gvn_inv kk w i (by omega)).1
    have wr := gW_rng (E := E) kk
    refine v_55_100 hv ⟨by omega, by omega, fun q => absurd q (by omega), fun _ => ⟨fun q => absurd q (by omega), fun _ => c_give (c := (gvn n E q g i).2) hv (fun h hh => (ha h hh).2) (fun h hh => by have := inv h; omega) (ih (i + 1) _ (by omega) hf.up ?_)⟩⟩
    have b := (bst_spec (gvn n E q g i).2 6).1
    rw [(ha (bst (gvn n E q g i).2 6) (by omega)).1]
    exact ha.up
theorem sh_2 {X : PX} {v p n E : Nat} {q : Int} {g : Nat → Int} {σ : Sg} {Q : Option PV → Sg → Prop} (hv : v ∈ levL) (hp : p ∈ parL) (kk : gdOk n q g) (hE : E < 128) (h2 : σ.1 p 2 = n) (hg : ∀ h : Nat, h < n → σ.2 (p + 1) h = g h) (w : 0 < gW n E g)
    (k : ∀ τ : Sg, ShF σ τ v → ShA τ v (gvn n E q g (lf n E q g).toNat).1 (gvn n E q g (lf n E q g).toNat).2 → Q none τ) : ∀ (d h : Nat) (τ : Sg), h + d = n → ShF σ τ v → ShA τ v (fun i => if i < h then t0 n E q g i else 0) (fun i => if i < h then r0 n E q g i else 0) → Ev X 55 50 [some (vR (some v)), some (vR (some p)), some (vI q), some (vI E), some (vI (gW n E g)), some (vI (q - sm (t0 n E q g) h)), some (vI h), none] [] τ Q := by
  have pl := par_le p hp
  have vg := lev_ge v hv
  have n7 := kk.1
  have wr := gW_rng (E := E) kk
  have z : ∀ i : Nat, gy n E g i = 0 → t0 n E q g i = 0 ∧ r0 n E q g i = 0 := fun i c => by
    unfold t0 r0; rw [c, Int.mul_zero, Int.zero_ediv, Int.zero_emod]; exact ⟨rfl, rfl⟩
  intro d
  induction d with
  | zero =>
    intro h τ hh hf ha
    have hn : h = n := by omega
    have e2 : τ.1 p 2 = n := by rw [hf.1]; exact h2
    have nx : Ev X 55 100 [some (vR (some v)), none, none, none, none, some (vI (lf n E q g)), some (vI ((0 : Nat) : Int)), none] [] τ Q := by
      refine sh_3 hv kk w k (lf n E q g).toNat 0 τ (by omega) hf (fun i hi => ?_)
      obtain ⟨a1, a2⟩ := ha i hi
      rw [a1, a2]; dsimp only
      by_cases c : i < h
      · rw [if_pos c, if_pos c]; exact ⟨rfl, rfl⟩
      · rw [if_neg c, if_neg c]
        obtain ⟨z1, z2⟩ := z i (by unfold gy; rw [if_neg (by omega)])
        exact ⟨z1.symm, z2.symm⟩
    have el : q - sm (t0 n E q g) h = lf n E q g := by
      unfold lf
      rw [hn, sm_tail 7 n7 (fun i h1 _ => (z i (by unfold gy; rw [if_neg (by omega)])).1)]
    rw [el]
    exact v_55_50 hv hp ⟨by omega, by omega, fun _ => nx, fun q => absurd (by omega) q⟩
  | succ d ih =>
    intro h τ hh hf ha
    have e2 : τ.1 p 2 = n := by rw [hf.1]; exact h2
    have eg : τ.2 (p + 1) h = g h := by rw [hf.2 _ (by omega) (by omega)]; exact hg h (by omega)
    have bt := bit_0 (a := E) (k := h) (by omega) (by omega)
    refine v_55_50 hv hp ⟨by omega, by omega, fun q => absurd q (by omega), fun _ => ⟨fun q => absurd q (by omega), fun _ => ⟨bit_rng (by omega) (by omega), fun c => ?_, fun c => ⟨by omega, by omega, by omega, ?_⟩⟩⟩⟩
    · obtain ⟨z1, z2⟩ := z h (by unfold gy; rw [if_neg (by rw [bt.mp c]; simp)])
      have := ih (h + 1) τ (by omega) hf (fun i hi => by
        obtain ⟨a1, a2⟩ := ha i hi
        rw [a1, a2]; dsimp only
        by_cases c1 : i < h
        · rw [if_pos c1, if_pos c1, if_pos (by omega), if_pos (by omega)]; exact ⟨rfl, rfl⟩
        · rw [if_neg c1, if_neg c1]
          by_cases c2 : i = h
          · rw [if_pos (by omega), if_pos (by omega), c2, z1, z2]; exact ⟨rfl, rfl⟩
          · rw [if_neg (by omega), if_neg (by omega)]; exact ⟨rfl, rfl⟩)
      unfold sm at this
      rw [z1, Int.add_zero] at this
      exact this
    · have ef : E.testBit h = false := by
        rcases hx : E.testBit h with _ | _
        · rfl
        · exact absurd (bt.mpr hx) c
      have ey : gy n E g h = g h := if_pos ⟨by omega, ef⟩
      have qr := qg_rng (E := E) kk h
      rw [ey] at qr
      have ed : iDiv (q * g h) (gW n E g) = t0 n E q g h := by
        rw [b_div qr.1 (by omega) w (by omega)]; unfold t0; rw [ey]
      have er : q * g h - t0 n E q g h * gW n E g = r0 n E q g h := by
        unfold t0 r0; rw [ey]
        have := Int.mul_ediv_add_emod (q * g h) (gW n E g)
        rw [Int.mul_comm] at this
        omega
      rw [up2_ne _ _ _ (show v + 1 ≠ v + 2 by omega), up2_get, Int.toNat_natCast, eg, ed, er]
      have := ih (h + 1) (τ.1, up2 (up2 τ.2 (v + 1) h (t0 n E q g h)) (v + 2) h (r0 n E q g h)) (by omega) hf.up (fun i hi => by
        obtain ⟨a1, a2⟩ := ha.up (b := h) (x := t0 n E q g h) (y := r0 n E q g h) i hi
        rw [a1, a2]; dsimp only
        by_cases c1 : i = h
        · rw [c1, up_same, up_same, if_pos (by omega), if_pos (by omega)]; exact ⟨rfl, rfl⟩
        · rw [up_ne _ _ c1, up_ne _ _ c1]
          by_cases c2 : i < h
          · rw [if_pos c2, if_pos c2, if_pos (by omega), if_pos (by omega)]; exact ⟨rfl, rfl⟩
          · rw [if_neg c2, if_neg c2, if_neg (by omega), if_neg (by omega)]; exact ⟨rfl, rfl⟩)
      unfold sm at this
      rw [show q - (sm (t0 n E q g) h + t0 n E q g h) = q - sm (t0 n E q g) h - t0 n E q g h by omega] at this
      exact this
theorem sh_1 {X : PX} {v p n E : Nat} {q : Int} {g : Nat → Int} {σ : Sg} {Q : Option PV → Sg → Prop} (hv : v ∈ levL) (hp : p ∈ parL) (kk : gdOk n q g) (hE : E < 128) (h2 : σ.1 p 2 = n) (hg : ∀ h : Nat, h < n → σ.2 (p + 1) h = g h)
    (k : ∀ τ : Sg, ShF (up2 σ.1 v 0 (lsF n E q g), σ.2) τ v → (∀ h : Nat, h < 7 → τ.2 (v + 1) h = txF n E q g h) → Q none τ) : ∀ (d h : Nat) (τ : Sg), h + d = 7 → ShF σ τ v → (∀ i : Nat, i < h → τ.2 (v + 1) i = 0 ∧ τ.2 (v + 2) i = 0) → Ev X 55 4 [some (vR (some v)), some (vR (some p)), some (vI q), some (vI E), some (vI (sm (gy n E g) h)), some (vI h), none, none] [] τ Q := by
  have pl := par_le p hp
  have vg := lev_ge v hv
  have n7 := kk.1
  have wr := gW_rng (E := E) kk
  intro d
  induction d with
  | zero =>
    intro h τ hh hf ha
    have h7 : h = 7 := by omega
    have eW : sm (gy n E g) h = gW n E g := by rw [h7]; rfl
    have fr : ∀ x : Int, ShF (up2 σ.1 v 0 x, σ.2) (up2 τ.1 v 0 x, τ.2) v := fun x => ⟨by dsimp only; rw [hf.1], hf.2⟩
    rw [eW]
    refine v_55_4 hv hp ⟨by omega, fun _ => ⟨by omega, fun c => ⟨fun c2 => absurd c2 (by omega), fun _ => ?_⟩, fun c => ⟨fun c2 => ?_, fun c2 => absurd (by omega) c2⟩⟩, fun q => absurd (by omega) q⟩
    · have el : lsF n E q g = q := if_neg (by omega)
      rw [el] at k
      refine k _ (fr q) (fun i hi => ?_)
      rw [(ha i (by omega)).1]
      unfold txF
      rw [if_neg (by omega)]
    · have el : lsF n E q g = 0 := if_pos c2
      rw [el] at k
      have e0 : q = q - sm (t0 n E q g) 0 := by unfold sm; omega
      have := sh_2 (X := X) (σ := (up2 τ.1 v 0 0, τ.2)) (Q := Q) hv hp kk hE (by dsimp only; rw [up2_ne _ _ _ (by omega), hf.1]; exact h2) (fun i hi => by dsimp only; rw [hf.2 _ (by omega) (by omega)]; exact hg i hi) c2 (fun υ f a => k υ ⟨f.1.trans (fr 0).1, fun c c1 c2 => (f.2 c c1 c2).trans ((fr 0).2 c c1 c2)⟩ (fun i hi => by rw [(a i hi).1]; unfold txF; rw [if_pos c2])) n 0 (up2 τ.1 v 0 0, τ.2) (by omega) ⟨rfl, fun _ _ _ => rfl⟩ (fun i hi => ha i (by omega))
      rw [← e0] at this
      exact this
  | succ d ih =>
    intro h τ hh hf ha
    have e2 : τ.1 p 2 = n := by rw [hf.1]; exact h2
    have eg : h < n → τ.2 (p + 1) h = g h := fun hn => by rw [hf.2 _ (by omega) (by omega)]; exact hg h hn
    have bt := bit_0 (a := E) (k := h) (by omega) (by omega)
    have nx := ih (h + 1) (τ.1, up2 (up2 τ.2 (v + 1) h 0) (v + 2) h 0) (by omega) hf.up (fun i hi => by
      dsimp only
      rw [up2_ne _ _ _ (show v + 1 ≠ v + 2 by omega), up2_if, up2_if, up2_ne _ _ _ (show v + 2 ≠ v + 1 by omega)]
      by_cases c : i = h
      · rw [if_pos c, if_pos c]; exact ⟨rfl, rfl⟩
      · rw [if_neg c, if_neg c]; exact ha i (by omega))
    unfold sm at nx
    refine v_55_4 hv hp ⟨by omega, fun q => absurd q (by omega), fun _ => ?_⟩
    rw [Int.toNat_natCast, up2_ne _ _ _ (show p + 1 ≠ v + 2 by omega), up2_ne _ _ _ (show p + 1 ≠ v + 1 by omega)]
    refine ⟨by omega, by omega, fun c => ?_, fun c => ⟨bit_rng (by omega) (by omega), fun c2 => ?_, fun c2 => ?_⟩⟩
    · have ey : gy n E g h = 0 := if_neg (by omega)
      rw [ey, Int.add_zero] at nx
      exact nx
    · have ey : gy n E g h = 0 := if_neg (by rw [bt.mp c2]; simp)
      rw [ey, Int.add_zero] at nx
      exact nx
    · have ef : E.testBit h = false := by
        rcases hx : E.testBit h with _ | _
        · rfl
        · exact absurd (bt.mpr hx) c2
      have ey : gy n E g h = g h := if_pos ⟨by omega, ef⟩
      rw [ey] at nx
      rw [eg (by omega)]
      exact nx
theorem c_share {X : PX} {v p n E : Nat} {q : Int} {g : Nat → Int} {σ : Sg} {P : Sg → Prop} (hv : v ∈ levL) (hp : p ∈ parL) (kk : gdOk n q g) (hE : E < 128) (h2 : σ.1 p 2 = n) (hg : ∀ h : Nat, h < n → σ.2 (p + 1) h = g h)
    (k : ∀ τ : Sg, τ.1 = up2 σ.1 v 0 (lsF n E q g) → (∀ c : Nat, c ≠ v + 1 → c ≠ v + 2 → τ.2 c = σ.2 c) → (∀ h : Nat, h < 7 → τ.2 (v + 1) h = txF n E q g h) → P τ) : CV X 55 [vR (some v), vR (some p), vI q, vI E] σ P :=
  v_55 hv hp (sh_1 hv hp kk hE h2 hg (fun τ f a => ⟨rfl, k τ f.1 f.2 a⟩) 7 0 σ (by omega) ⟨rfl, fun _ _ _ => rfl⟩ (fun i hi => absurd hi (by omega)))
