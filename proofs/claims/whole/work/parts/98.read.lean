/-! READS: both sides' reading of a text -/
def GF (n : Nat) (fp : Int × Int) : Prop := (0 ≤ fp.1 ∧ fp.1 ≤ 4) ∧ -1 ≤ fp.2 ∧ fp.2 ≤ n
theorem GF.nt {n : Nat} {fp : Int × Int} {k : Int} {a : Nat} (h : GF n fp) (hk : 1 ≤ k ∧ k ≤ 4) (ha : a ≤ n) : GF n (note k a fp) := by
  unfold note
  split
  · unfold GF; dsimp only; omega
  · exact h
theorem note_n1 {fp : Int × Int} {k : Int} {a : Nat} (h : fp.1 ≠ 1) (hk : k ≠ 1) : (note k a fp).1 ≠ 1 := by
  unfold note
  split
  · exact hk
  · exact h
theorem nms_g {B : Nat → Int} {n : Nat} {ru : Bool} : ∀ (ls pv : List Int) (i : Nat) (fp : Int × Int) (b : Bool) (j : Nat) (f2 : Int × Int) (vs : List Int), nms B n ru ls pv i fp = (b, j, f2, vs) → i ≤ n → GF n fp → j ≤ n ∧ GF n f2
  | [], pv, i, fp, b, j, f2, vs, h, hi, g => by
    rw [nms_e] at h
    injection h with _ h; injection h with h0 h; injection h with h1 h2
    rw [← h0, ← h1]
    exact ⟨hi, g⟩
  | l :: ls, pv, i, fp, b, j, f2, vs, h, hi, g => by
    rw [nms_c] at h
    by_cases c : kdA B n i = 2
    · rw [if_pos c] at h
      have nr := nxt_rng (B := B) (kd_in (B := B) (n := n) (i := i) (by omega))
      have gg : GF n (nmF B n ru l pv i fp) := by
        unfold nmF
        split
        · exact g.nt (by omega) hi
        · exact g
      exact nms_g ls _ _ _ b j f2 vs h nr.2 gg
    · rw [if_neg c] at h
      injection h with _ h; injection h with h0 h; injection h with h1 h2
      rw [← h0, ← h1]
      exact ⟨hi, g⟩
theorem lnTk_in {a i n : Nat} {B : Nat → Int} (h : lnTk a B n i ≠ -1) : i < n := by
  by_cases z : i < n
  · exact z
  · refine absurd ?_ h
    unfold lnTk
    rw [bAt_n z, if_neg (by decide)]
theorem lineP_g {γ : Type} {full : γ → Nat → Bool} {keep : γ → Nat → List Int → γ} {a i n : Nat} {B : Nat → Int} {fp : Int × Int} {c : γ} {b : Bool} {j : Nat} {f2 : Int × Int} {c2 : γ} (h : lineP a full keep B n i fp c = (b, j, f2, c2)) (hi : i ≤ n) (g : GF n fp) : j ≤ n ∧ GF n f2 ∧ (b = true → i < j) ∧ (b = false → f2 = (1, (j : Int))) := by
  rcases lnTk_rng (a := a) (B := B) (n := n) (i := i) with e | ⟨e0, e1⟩
  · rw [lineP_n e] at h
    injection h with h0 h; injection h with h1 h; injection h with h2 h3
    rw [← h0, ← h1, ← h2]
    exact ⟨hi, by unfold GF; dsimp only; omega, fun e => absurd e (by decide), fun _ => rfl⟩
  · have hin := lnTk_in (a := a) (B := B) (n := n) (i := i) (by omega)
    have nr := nxt_rng (B := B) hin
    rw [lineP_l (l := (lnTk a B n i).toNat) (by omega)] at h
    have gg : GF n (if full c (lnTk a B n i).toNat = true then note 3 i fp else fp) := by
      split
      · exact g.nt (by omega) hi
      · exact g
    generalize hr : nms B n (ruL a (lnTk a B n i).toNat) (lms a (lnTk a B n i).toNat) [] (nxt B n i) (if full c (lnTk a B n i).toNat = true then note 3 i fp else fp) = r at h
    obtain ⟨b', j', f', vs⟩ := r
    obtain ⟨r1, r2⟩ := nms_g _ _ _ _ _ _ _ _ hr nr.2 gg
    have r4 := nms_ge _ _ _ _ _ _ _ _ hr
    cases b' with
    | false =>
      injection h with h0 h; injection h with h1 h; injection h with h2 h3
      rw [← h0, ← h1, ← h2]
      exact ⟨r1, by unfold GF; dsimp only; omega, fun e => absurd e (by decide), fun _ => rfl⟩
    | true =>
      unfold lnE at h
      dsimp only at h
      by_cases k3 : kdA B n j' = 3
      · rw [if_pos k3] at h
        injection h with h0 h; injection h with h1 h; injection h with h2 h3
        have nj := nxt_rng (B := B) (kd_in (B := B) (n := n) (i := j') (by omega))
        rw [← h0, ← h1, ← h2]
        exact ⟨nj.2, r2, fun _ => by omega, fun e => absurd e (by decide)⟩
      · rw [if_neg k3] at h
        injection h with h0 h; injection h with h1 h; injection h with h2 h3
        rw [← h0, ← h1, ← h2]
        exact ⟨r1, by unfold GF; dsimp only; omega, fun e => absurd e (by decide), fun _ => rfl⟩
theorem rdP_g {γ : Type} {full : γ → Nat → Bool} {keep : γ → Nat → List Int → γ} {a n : Nat} {B : Nat → Int} {b : Bool} {j : Nat} {f2 : Int × Int} {c2 : γ} : ∀ (d i : Nat) (fp : Int × Int) (c : γ), rdP a full keep B n d i fp c = (b, j, f2, c2) → i ≤ n → GF n fp → GF n f2
  | 0, i, fp, c, h, hi, g => by
    injection h with h0 h; injection h with h1 h; injection h with h2 h3
    rw [← h2]; exact g
  | d + 1, i, fp, c, h, hi, g => by
    unfold rdP at h
    by_cases k0 : kdA B n i = 0
    · rw [if_pos k0] at h
      injection h with h0 h; injection h with h1 h; injection h with h2 h3
      rw [← h2]; exact g
    · rw [if_neg k0] at h
      generalize hr : lineP a full keep B n i fp c = r at h
      obtain ⟨b', j', f', c'⟩ := r
      obtain ⟨g1, g2, -⟩ := lineP_g hr hi g
      cases b' with
      | true => exact rdP_g d j' f' c' h g1 g2
      | false =>
        injection h with h0 h; injection h with h1 h; injection h with h2 h3
        rw [← h2]; exact g2
theorem nms_n1 {B : Nat → Int} {n : Nat} {ru : Bool} : ∀ (ls pv : List Int) (i : Nat) (fp : Int × Int) (b : Bool) (j : Nat) (f2 : Int × Int) (vs : List Int), nms B n ru ls pv i fp = (b, j, f2, vs) → fp.1 ≠ 1 → f2.1 ≠ 1
  | [], pv, i, fp, b, j, f2, vs, h, g => by
    rw [nms_e] at h
    injection h with _ h; injection h with h0 h; injection h with h1 h2
    rw [← h1]
    exact g
  | l :: ls, pv, i, fp, b, j, f2, vs, h, g => by
    rw [nms_c] at h
    by_cases c : kdA B n i = 2
    · rw [if_pos c] at h
      have gg : (nmF B n ru l pv i fp).1 ≠ 1 := by
        unfold nmF
        split
        · exact note_n1 g (by omega)
        · exact g
      exact nms_n1 ls _ _ _ b j f2 vs h gg
    · rw [if_neg c] at h
      injection h with _ h; injection h with h0 h; injection h with h1 h2
      rw [← h1]
      exact g
theorem lineP_n1 {γ : Type} {full : γ → Nat → Bool} {keep : γ → Nat → List Int → γ} {a i n : Nat} {B : Nat → Int} {fp : Int × Int} {c : γ} {j : Nat} {f2 : Int × Int} {c2 : γ} (h : lineP a full keep B n i fp c = (true, j, f2, c2)) (nf : fp.1 ≠ 1) : f2.1 ≠ 1 := by
  rcases lnTk_rng (a := a) (B := B) (n := n) (i := i) with e | ⟨e0, e1⟩
  · rw [lineP_n e] at h
    exact absurd (show false = true from congrArg Prod.fst h) (by decide)
  · rw [lineP_l (l := (lnTk a B n i).toNat) (by omega)] at h
    have gg : (if full c (lnTk a B n i).toNat = true then note 3 i fp else fp).1 ≠ 1 := by
      split
      · exact note_n1 nf (by omega)
      · exact nf
    generalize hr : nms B n (ruL a (lnTk a B n i).toNat) (lms a (lnTk a B n i).toNat) [] (nxt B n i) (if full c (lnTk a B n i).toNat = true then note 3 i fp else fp) = r at h
    obtain ⟨b', j', f', vs⟩ := r
    have r3 := nms_n1 _ _ _ _ _ _ _ _ hr gg
    cases b' with
    | false => exact absurd (show false = true from congrArg Prod.fst h) (by decide)
    | true =>
      unfold lnE at h
      dsimp only at h
      by_cases k3 : kdA B n j' = 3
      · rw [if_pos k3] at h
        injection h with h0 h; injection h with h1 h; injection h with h2 h3
        rw [← h2]; exact r3
      · rw [if_neg k3] at h
        exact absurd (show false = true from congrArg Prod.fst h) (by decide)
/-! the class reads -/
def IN0 (σ : Sg) : Prop := (σ.1 132 0 = 10 ∧ σ.1 132 1 = 10 ∧ σ.1 132 2 = 0 ∧ σ.1 132 3 = 0 ∧ σ.1 132 4 = 0) ∧ σ.1 131 11 = 0 ∧ σ.1 139 0 = 0 ∧ σ.1 142 0 = 0
theorem c_readG {γ : Type} {CC : Sg → γ → Prop} {full : γ → Nat → Bool} {keep : γ → Nat → List Int → γ} {L : Nat} {xs : Nat → Int32} {B : Nat → Int} {n a : Nat} {c0 : γ} {σ : Sg} {P : Sg → Prop} (ha : a < 3)
    (hfr : ∀ (σ τ : Sg) (c : γ), FQ σ τ → CC σ c → CC τ c)
    (hfull : ∀ (σ : Sg) (c : γ) (l : Nat) (P : Int → Sg → Prop), l < (lmT a).length → CC σ c → P (if full c l = true then 1 else 0) σ → CI (XX L xs) 96 [vR (some 131), vI a, vI l] σ P)
    (hkeep : ∀ (σ : Sg) (i : Nat) (fp : Int × Int) (c : γ) (l j : Nat) (f1 : Int × Int) (vs : List Int) (P : Sg → Prop), l < (lmT a).length → CC σ c → NV σ vs → vs.length = (lms a l).length → nms B n (ruL a l) (lms a l) [] (nxt B n i) (if full c l = true then note 3 i fp else fp) = (true, j, f1, vs) → f1.1 = 0 → (∀ τ : Sg, Out σ τ 131 145 → (∀ j : Nat, j ≠ 11 → τ.1 131 j = σ.1 131 j) → CC τ (keep c l vs) → P τ) → CV (XX L xs) 94 [vR (some 131), vI a, vI l] σ P)
    (h0 : ∀ σ : Sg, IN0 σ → CC σ c0) (h : TC σ B n)
    (kE : ∀ (τ : Sg) (b : Bool) (j : Nat) (f2 : Int × Int) (c2 : γ), Out σ τ 131 145 → rdP a full keep B n 601 (rn isBl B n 0) (0, -1) c0 = (b, j, f2, c2) → CF τ f2 → CC τ c2 → en92 (XX L xs) a τ (fun v τ => v = none ∧ P τ)) : CV (XX L xs) 92 [vR (some 131), vI a] σ P := by
  have n6 := h.2.1
  refine v_92 (v_78 (by decide) ⟨rfl, ?_⟩)
  dsimp only
  generalize hρ : ((up2 (up2 (up2 (up2 (up2 (up2 (up2 (up2 (up2 (up2 (up2 σ.1 132 0 10) 132 1 10) 132 2 0) 132 3 0) 132 4 0) 139 0 0) 142 0 0) 131 3 0) 131 4 (-1)) 131 11 0) 131 9 0, σ.2) : Sg) = ρ
  have o : Out σ ρ 131 145 := by
    rw [← hρ]
    refine Out.rows (fun c hc => ?_) (fun _ _ => rfl)
    rw [up2_ne _ _ _ (by omega), up2_ne _ _ _ (by omega), up2_ne _ _ _ (by omega), up2_ne _ _ _ (by omega), up2_ne _ _ _ (by omega), up2_ne _ _ _ (by omega), up2_ne _ _ _ (by omega), up2_ne _ _ _ (by omega), up2_ne _ _ _ (by omega), up2_ne _ _ _ (by omega), up2_ne _ _ _ (by omega)]
  have i0 : IN0 ρ := by
    rw [← hρ]
    unfold IN0
    simp only [up2_app, Nat.reduceEqDiff, reduceIte]
    exact ⟨⟨trivial, trivial, trivial, trivial, trivial⟩, trivial, trivial, trivial⟩
  have cf : CF ρ (0, -1) := by
    rw [← hρ]
    unfold CF
    simp only [up2_app, Nat.reduceEqDiff, reduceIte]
    exact ⟨trivial, trivial⟩
  have e9 : ρ.1 131 9 = (0 : Nat) := by
    rw [← hρ]
    simp only [up2_app, Nat.reduceEqDiff, reduceIte]
    rfl
  have tc := h.out o
  have rr := rn_rng (g := isBl) (B := B) (n := n) (i := 0)
  refine c_next tc e9 (by omega) (fun τ f t => ?_)
  exact c_loop (CC := CC) (full := full) (keep := keep) ha n6 hfr hfull hkeep 601 0 (rn isBl B n 0) (0, -1) c0 τ (by omega) (by omega) ⟨tc.fn f, t, rr.2 (by omega), cf.fn f, by decide, hfr ρ τ c0 f.fq (h0 ρ i0)⟩ (by decide) (fun υ b j f2 c2 ou er cfu ccu _ _ => kE υ b j f2 c2 (o.trans (f.fq.out.trans ou)) er cfu ccu) (fun i fp c j f2 c2 nf e => lineP_n1 e nf)
