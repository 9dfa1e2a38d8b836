/-! the reference: shares -/
theorem m_isEx {X : PX} {σ : Sg} {E h : Nat} {P : Int → Sg → Prop} (hE : E < 128) (h18 : σ.1 170 18 = E) (hh : h < 32) (q : P (if E.testBit h then 1 else 0) σ) : CI X 198 [vR (some 170), vI h] σ P := by
  have b := bit_1 (a := E) (k := h) (by omega) hh
  refine v_198 ?_
  rw [h18]
  refine ⟨bit_rng (by omega) hh, fun c => ⟨_, rfl, ?_⟩, fun c => ⟨_, rfl, ?_⟩⟩
  · rw [if_neg (fun e => c (b.mpr e))] at q; exact q
  · rw [if_pos (b.mp (by omega))] at q; exact q
def Lk (n : Nat) (c r : Nat → Int) : Prop := ∀ h : Nat, h < n → (0 < c h → r h = c h) ∧ (c h ≤ 0 → -1 ≤ r h ∧ r h ≤ 0)
theorem bst_lk {n : Nat} {c r : Nat → Int} (n7 : n ≤ 7) (hp : 0 < c (bst c 6)) (hn : ∀ h : Nat, 0 < c h → h < n) (l : Lk n c r) : 0 < n ∧ bst r (n - 1) = bst c 6 := by
  obtain ⟨g1, g2, g3⟩ := bst_spec c 6
  have bn := hn _ hp
  refine ⟨by omega, bst_uni (by omega) (fun h hh => ?_) (fun h hh => ?_)⟩
  · rw [(l (bst c 6) bn).1 hp]
    by_cases e : 0 < c h
    · rw [(l h (by omega)).1 e]; exact g2 h (by omega)
    · have := (l h (by omega)).2 (by omega); omega
  · rw [(l (bst c 6) bn).1 hp]
    by_cases e : 0 < c h
    · rw [(l h (by omega)).1 e]; exact g3 h hh
    · have := (l h (by omega)).2 (by omega); omega
/-- nothing but tax and cutOff has changed -/
def MsF (σ τ : Sg) : Prop := τ.1 = σ.1 ∧ ∀ c : Nat, c ≠ 175 → c ≠ 176 → τ.2 c = σ.2 c
theorem MsF.rfl {σ : Sg} : MsF σ σ := ⟨Eq.refl _, fun _ _ _ => Eq.refl _⟩
theorem MsF.up {σ τ : Sg} {i j : Nat} {x y : Int} (h : MsF σ τ) : MsF σ (τ.1, up2 (up2 τ.2 175 i x) 176 j y) :=
  ⟨h.1, fun c h1 h2 => by dsimp only; rw [up2_ne _ _ _ h2, up2_ne _ _ _ h1]; exact h.2 c h1 h2⟩
theorem ms_at (A : Nat → Nat → Int) (i j : Nat) (x y : Int) : up2 (up2 A 175 i x) 176 i y 175 j = (if j = i then x else A 175 j) ∧ up2 (up2 A 175 i x) 176 i y 176 j = (if j = i then y else A 176 j) := by
  rw [up2_ne _ _ _ (show (175 : Nat) ≠ 176 by omega), up2_if, up2_if, up2_ne _ _ _ (show (176 : Nat) ≠ 175 by omega)]
  exact ⟨rfl, rfl⟩
theorem ms_4 {X : PX} {n : Nat} {x2 : Int} {r : Nat → Int} {τ : Sg} {Q : Option PV → Sg → Prop} (n7 : n ≤ 7) (h12 : τ.1 170 12 = n) (hr : ∀ h : Nat, h < n → τ.2 176 h = r h ∧ InR (r h))
    (k : Ev X 199 95 [some (vR (some 170)), none, some (vI (x2 + (-1))), none, none] [] (τ.1, up2 (up2 τ.2 175 (bst r (n - 1)) (τ.2 175 (bst r (n - 1)) + 1)) 176 (bst r (n - 1)) (-1)) Q) : ∀ (d x : Nat), x + 1 + d = n → Ev X 199 101 [some (vR (some 170)), none, some (vI x2), some (vI (bst r x)), some (vI ((x + 1 : Nat) : Int))] [] τ Q := by
  intro d
  induction d with
  | zero =>
    intro x hx
    have b := (bst_spec r x).1
    have hx : x = n - 1 := by omega
    rw [← hx] at k
    refine v_199_101 ⟨by omega, by omega, fun _ => ⟨by omega, ?_⟩, fun q => absurd (by omega) q⟩
    rw [Int.toNat_natCast]
    exact k
  | succ d ih =>
    intro x hx
    have b := (bst_spec r x).1
    have nx := ih (x + 1) (by omega)
    refine v_199_101 ?_
    rw [Int.toNat_natCast, Int.toNat_natCast, (hr (x + 1) (by omega)).1, (hr (bst r x) (by omega)).1]
    have r1 := (hr (x + 1) (by omega)).2
    have r2 := (hr (bst r x) (by omega)).2
    unfold bst at nx
    refine ⟨by omega, by omega, fun q => absurd q (by omega), fun _ => ⟨by omega, by omega, r1, r2, fun q => ?_, fun q => ?_⟩⟩
    · rw [if_neg (by omega)] at nx
      exact nx
    · rw [if_pos (by omega)] at nx
      exact nx
theorem ms_3 {X : PX} {n E : Nat} {q : Int} {g : Nat → Int} {σ : Sg} {Q : Option PV → Sg → Prop} (kk : gdOk n q g) (w : 0 < gW n E g) (h12 : σ.1 170 12 = n)
    (k : ∀ τ : Sg, MsF σ τ → (∀ h : Nat, h < n → τ.2 175 h = (gvn n E q g (lf n E q g).toNat).1 h) → Q none τ) : ∀ (d i : Nat) (τ : Sg), i + d = (lf n E q g).toNat → MsF σ τ → (∀ h : Nat, h < n → τ.2 175 h = (gvn n E q g i).1 h) → Lk n (gvn n E q g i).2 (τ.2 176) → Ev X 199 95 [some (vR (some 170)), none, some (vI (lf n E q g - i)), none, none] [] τ Q := by
  have l := lf_rng (q := q) w
  intro d
  induction d with
  | zero =>
    intro i τ hi hf ha hl
    refine v_199_95 ⟨by omega, fun _ => k τ hf ?_, fun q => absurd (by omega) q⟩
    rw [← show i = (lf n E q g).toNat by omega]; exact ha
  | succ d ih =>
    intro i τ hi hf ha hl
    obtain ⟨inv, inv2, -⟩ := gvn_inv kk w i (by omega)
    have wr := gW_rng (E := E) kk
    have bp := gvn_pos kk w (i := i) (by omega)
    obtain ⟨n0, be⟩ := bst_lk kk.1 bp (fun h hh => (inv2 h hh).1) hl
    have bn := (inv2 _ bp).1
    have e12 : τ.1 170 12 = n := by rw [hf.1]; exact h12
    refine v_199_95 ⟨by omega, fun q => absurd q (by omega), fun _ => ms_4 (r := τ.2 176) kk.1 e12 (fun h hh => ⟨rfl, ?_⟩) ?_ (n - 1) 0 (by omega)⟩
    · have a := hl h hh
      have b := inv h
      by_cases e : 0 < (gvn n E q g i).2 h
      · rw [a.1 e]; omega
      · have := a.2 (by omega); omega
    · rw [be, show lf n E q g - (i : Int) + -1 = lf n E q g - ((i + 1 : Nat) : Int) by omega]
      refine ih (i + 1) _ (by omega) hf.up (fun h hh => ?_) (fun h hh => ?_)
      · dsimp only
        rw [(ms_at _ _ _ _ _).1]
        show _ = up (gvn n E q g i).1 (bst (gvn n E q g i).2 6) ((gvn n E q g i).1 (bst (gvn n E q g i).2 6) + 1) h
        by_cases e : h = bst (gvn n E q g i).2 6
        · rw [if_pos e, e, up_same, ha _ bn]
        · rw [if_neg e, up_ne _ _ e, ha h hh]
      · dsimp only
        rw [(ms_at _ _ _ _ _).2]
        have e2 : (gvn n E q g (i + 1)).2 h = up (gvn n E q g i).2 (bst (gvn n E q g i).2 6) 0 h := rfl
        rw [e2]
        by_cases e : h = bst (gvn n E q g i).2 6
        · rw [if_pos e, e, up_same]; omega
        · rw [if_neg e, up_ne _ _ e]; exact hl h hh
theorem ms_2 {X : PX} {n E : Nat} {q : Int} {g : Nat → Int} {σ : Sg} {Q : Option PV → Sg → Prop} (kk : gdOk n q g) (hE : E < 128) (h12 : σ.1 170 12 = n) (h14 : σ.1 170 14 = q) (h18 : σ.1 170 18 = E) (hg : ∀ h : Nat, h < n → σ.2 174 h = g h)
    (k : ∀ τ : Sg, MsF σ τ → (∀ h : Nat, h < n → τ.2 175 h = txF n E q g h) → Q none τ) : ∀ (d h : Nat) (τ : Sg), h + d = n → MsF σ τ → (∀ i : Nat, i < h → τ.2 175 i = (if 0 < gW n E g then t0 n E q g i else 0) ∧ τ.2 176 i = (if 0 < gW n E g ∧ E.testBit i = false then r0 n E q g i else -1)) → Ev X 199 38 [some (vR (some 170)), some (vI (gW n E g)), some (vI (if 0 < gW n E g then q - sm (t0 n E q g) h else 0)), some (vI h), none] [] τ Q := by
  have n7 := kk.1
  have wr := gW_rng (E := E) kk
  have z : ∀ i : Nat, gy n E g i = 0 → t0 n E q g i = 0 ∧ r0 n E q g i = 0 := fun i c => by
    unfold t0 r0; rw [c, Int.mul_zero, Int.zero_ediv, Int.zero_emod]; exact ⟨rfl, rfl⟩
  intro d
  induction d with
  | zero =>
    intro h τ hh hf ha
    have hn : h = n := by omega
    have e12 : τ.1 170 12 = n := by rw [hf.1]; exact h12
    refine v_199_38 ⟨by omega, by omega, fun _ => ?_, fun q => absurd (by omega) q⟩
    by_cases w : 0 < gW n E g
    · rw [if_pos w]
      have el : q - sm (t0 n E q g) h = lf n E q g - ((0 : Nat) : Int) := by
        unfold lf
        rw [hn, sm_tail 7 n7 (fun i h1 _ => (z i (by unfold gy; rw [if_neg (by omega)])).1)]
        omega
      rw [el]
      refine ms_3 (E := E) (q := q) (g := g) kk w h12 (fun υ f a => k υ f (fun i hi => ?_)) (lf n E q g).toNat 0 τ (by omega) hf (fun i hi => ?_) (fun i hi => ?_)
      · rw [a i hi]; unfold txF; rw [if_pos w]
      · rw [(ha i (by omega)).1, if_pos w]; rfl
      · rw [(ha i (by omega)).2]
        have e2 : (gvn n E q g 0).2 i = r0 n E q g i := rfl
        have rr := r0_rng (q := q) w i
        rw [e2]
        by_cases c : E.testBit i = false
        · rw [if_pos ⟨w, c⟩]; exact ⟨fun _ => rfl, fun _ => by omega⟩
        · rw [if_neg (fun x => c x.2)]
          have := (z i (by unfold gy; rw [if_neg (fun x => c x.2)])).2
          omega
    · rw [if_neg w]
      refine v_199_95 ⟨by omega, fun _ => k τ hf (fun i hi => ?_), fun q => absurd (by omega) q⟩
      rw [(ha i (by omega)).1, if_neg w]; unfold txF; rw [if_neg w]
  | succ d ih =>
    intro h τ hh hf ha
    have e12 : τ.1 170 12 = n := by rw [hf.1]; exact h12
    have e14 : τ.1 170 14 = q := by rw [hf.1]; exact h14
    have e18 : τ.1 170 18 = E := by rw [hf.1]; exact h18
    have eg : τ.2 174 h = g h := by rw [hf.2 _ (by omega) (by omega)]; exact hg h (by omega)
    have nx : ∀ x y : Int, x = (if 0 < gW n E g then t0 n E q g h else 0) → y = (if 0 < gW n E g ∧ E.testBit h = false then r0 n E q g h else -1) → Ev X 199 38 [some (vR (some 170)), some (vI (gW n E g)), some (vI ((if 0 < gW n E g then q - sm (t0 n E q g) h else 0) - x)), some (vI ((h : Int) + 1)), none] [] (τ.1, up2 (up2 τ.2 175 h x) 176 h y) Q := fun x y hx hy => by
      have := ih (h + 1) (τ.1, up2 (up2 τ.2 175 h x) 176 h y) (by omega) hf.up (fun i hi => by
        dsimp only
        rw [(ms_at _ _ _ _ _).1, (ms_at _ _ _ _ _).2]
        by_cases c : i = h
        · rw [if_pos c, if_pos c, c]; exact ⟨hx, hy⟩
        · rw [if_neg c, if_neg c]; exact ha i (by omega))
      have es : (if 0 < gW n E g then q - sm (t0 n E q g) (h + 1) else 0) = (if 0 < gW n E g then q - sm (t0 n E q g) h else 0) - x := by
        rw [hx]
        by_cases w : 0 < gW n E g
        · rw [if_pos w, if_pos w, if_pos w]; show q - (sm (t0 n E q g) h + t0 n E q g h) = _; omega
        · rw [if_neg w, if_neg w, if_neg w]; omega
      rw [es] at this
      exact this
    refine v_199_38 ?_
    rw [Int.toNat_natCast, (ms_at _ _ _ _ _).1, if_pos rfl]
    refine ⟨by omega, by omega, fun q => absurd q (by omega), fun _ => ⟨by omega, fun c => ⟨by omega, nx 0 (-1) ?_ ?_⟩, fun c => m_isEx hE e18 (by omega) ⟨by split <;> omega, fun c2 => ⟨by omega, ?_⟩, fun c2 => ⟨by omega, by omega, ?_⟩⟩⟩⟩
    · rw [if_neg (by omega)]
    · rw [if_neg (by omega)]
    · have ex : E.testBit h = true := by
        rcases hx : E.testBit h with _ | _
        · rw [hx] at c2; exact absurd rfl c2
        · rfl
      rw [(ms_at _ _ _ _ _).1, if_pos rfl]
      refine nx 0 (-1) ?_ ?_
      · rw [if_pos (by omega), (z h (by unfold gy; rw [if_neg (by rw [ex]; simp)])).1]
      · rw [if_neg (by rw [ex]; simp)]
    · have ex : E.testBit h = false := by
        rcases hx : E.testBit h with _ | _
        · rfl
        · rw [hx] at c2; simp at c2
      have ey : gy n E g h = g h := if_pos ⟨by omega, ex⟩
      have qr := qg_rng (E := E) kk h
      rw [ey] at qr
      have ed : iDiv (q * g h) (gW n E g) = t0 n E q g h := by
        rw [b_div qr.1 (by omega) (by omega) (by omega)]; unfold t0; rw [ey]
      have er : iRem (q * g h) (gW n E g) = r0 n E q g h := by
        rw [b_rem qr.1 (by omega) (by omega) (by omega)]; unfold r0; rw [ey]
      rw [(ms_at _ _ _ _ _).1, if_pos rfl, e14, eg, ed, er]
      refine nx _ _ ?_ ?_
      · rw [if_pos (by omega)]
      · rw [if_pos ⟨by omega, ex⟩]
theorem ms_1 {X : PX} {n E : Nat} {q : Int} {g : Nat → Int} {σ : Sg} {Q : Option PV → Sg → Prop} (kk : gdOk n q g) (hE : E < 128) (h12 : σ.1 170 12 = n) (h14 : σ.1 170 14 = q) (h18 : σ.1 170 18 = E) (hg : ∀ h : Nat, h < n → σ.2 174 h = g h)
    (k : ∀ τ : Sg, MsF σ τ → (∀ h : Nat, h < n → τ.2 175 h = txF n E q g h) → Q none τ) : ∀ (d h : Nat), h + d = n → Ev X 199 10 [some (vR (some 170)), some (vI (sm (gy n E g) h)), some (vI h), none, none] [] σ Q := by
  have n7 := kk.1
  have wr := gW_rng (E := E) kk
  intro d
  induction d with
  | zero =>
    intro h hh
    have hn : h = n := by omega
    have nx := ms_2 (X := X) kk hE h12 h14 h18 hg k n 0 σ (by omega) MsF.rfl (fun i hi => absurd hi (by omega))
    rw [hn, ← gW_n n7]
    refine v_199_10 ⟨by omega, by omega, fun _ => ⟨by omega, fun c => ?_, fun c => ?_⟩, fun q => absurd (by omega) q⟩
    · rw [if_pos (by omega), show q - sm (t0 n E q g) 0 = q by unfold sm; omega] at nx
      rw [h14]; exact nx
    · rw [if_neg (by omega)] at nx
      exact nx
  | succ d ih =>
    intro h hh
    have nx := ih (h + 1) (by omega)
    unfold sm at nx
    refine v_199_10 ⟨by omega, by omega, fun q => absurd q (by omega), fun _ => m_isEx hE h18 (by omega) ⟨by split <;> omega, fun c => ⟨by omega, ?_⟩, fun c => ?_⟩⟩
    · have ex : E.testBit h = false := by
        rcases hx : E.testBit h with _ | _
        · rfl
        · rw [hx] at c; simp at c
      have ey : gy n E g h = g h := if_pos ⟨by omega, ex⟩
      rw [Int.toNat_natCast, hg h (by omega)]
      rw [ey] at nx
      exact nx
    · have ex : E.testBit h = true := by
        rcases hx : E.testBit h with _ | _
        · rw [hx] at c; exact absurd rfl c
        · rfl
      have ey : gy n E g h = 0 := if_neg (by rw [ex]; simp)
      rw [ey] at nx
      exact nx
theorem RM.mv {σ τ : Sg} {G : Gs} (h : RM σ G) (h1 : τ.1 170 11 = σ.1 170 11) (h2 : τ.1 170 13 = σ.1 170 13) (h3 : τ.2 171 = σ.2 171) : RM τ G := by
  unfold RM
  rw [h1, h2, h3]
  exact h
theorem m_shares {X : PX} {n cut off : Nat} {G : Gs} {q : Int} {g : Nat → Int} {σ : Sg} {P : Sg → Prop} (hG : gOk G n) (kk : gdOk n q g) (hR : RM σ G) (h12 : σ.1 170 12 = n) (h14 : σ.1 170 14 = q) (h16 : σ.1 170 16 = off) (h17 : σ.1 170 17 = cut) (ho : off < 2 ^ n) (hc : cut < 2048) (hg : ∀ h : Nat, h < n → σ.2 174 h = g h)
    (k : ∀ τ : Sg, τ.1 = up2 σ.1 170 18 (gClo G cut off) → (∀ c : Nat, c ≠ 175 → c ≠ 176 → τ.2 c = σ.2 c) → (∀ h : Nat, h < n → τ.2 175 h = txF n (gClo G cut off) q g h) → P τ) : CV X 199 [vR (some 170)] σ P := by
  refine v_199 ?_
  rw [h16]
  refine m_ex hG hR h17 hc ho ?_
  have lt := gClo_lt7 (cut := cut) hG ho
  generalize gClo G cut off = E at lt k ⊢
  refine ms_1 (X := X) (E := E) (q := q) (g := g) (σ := (up2 σ.1 170 18 E, σ.2)) kk lt ?_ ?_ ?_ hg (fun τ f a => ⟨rfl, k τ f.1 f.2 a⟩) n 0 (by omega)
  · dsimp only; rw [up2_at, up_ne _ _ (by omega)]; exact h12
  · dsimp only; rw [up2_at, up_ne _ _ (by omega)]; exact h14
  · dsimp only; rw [up2_get]
