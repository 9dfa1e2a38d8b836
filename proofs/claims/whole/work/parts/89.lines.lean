/-! LINES: the reference's steps over tokens -/
theorem rnF_all {g : Int → Bool} {B : Nat → Int} {n : Nat} : ∀ d i j : Nat, i ≤ j → j < rnF g B n d i → g (B j) = true
  | 0, i, j => fun h1 h2 => absurd h2 (by unfold rnF; omega)
  | d + 1, i, j => fun h1 h2 => by
    unfold rnF at h2
    by_cases c : i < n ∧ g (B i) = true
    · rw [if_pos c] at h2
      by_cases e : j = i
      · rw [e]; exact c.2
      · exact rnF_all d (i + 1) j (by omega) h2
    · rw [if_neg c] at h2; omega
theorem rn_all {g : Int → Bool} {B : Nat → Int} {n i j : Nat} (h1 : i ≤ j) (h2 : j < rn g B n i) : g (B j) = true := rnF_all _ _ _ h1 h2
theorem kd_in {B : Nat → Int} {n i : Nat} (h : kdA B n i ≠ 0) : i < n := by
  by_cases c : i < n
  · exact c
  · refine absurd ?_ h
    unfold kdA
    rw [bAt_n c, if_neg (by decide), if_neg (by decide), if_pos rfl]
theorem en_rng {B : Nat → Int} {n i : Nat} (h : i < n) : i + 1 ≤ enA B n i ∧ enA B n i ≤ n := by
  unfold enA
  rw [bAt_in h]
  by_cases c : isLt (B i) = true
  · rw [if_pos c]; exact ⟨rn_gt h c, rn_rng.2 (by omega)⟩
  · rw [if_neg c]
    by_cases d : isDg (B i) = true
    · rw [if_pos d]; exact ⟨rn_gt h d, rn_rng.2 (by omega)⟩
    · rw [if_neg d]; omega
def nxt (B : Nat → Int) (n i : Nat) : Nat := rn isBl B n (enA B n i)
theorem nxt_rng {B : Nat → Int} {n i : Nat} (h : i < n) : i < nxt B n i ∧ nxt B n i ≤ n := by
  have e := en_rng (B := B) h
  have r := rn_rng (g := isBl) (B := B) (n := n) (i := enA B n i)
  unfold nxt; omega
def vA (B : Nat → Int) (n i : Nat) : Int := vl B i (enA B n i - i)
theorem kd_2 {B : Nat → Int} {n i : Nat} : kdA B n i = 2 ↔ kdM B n i = 1 := by
  unfold kdA kdM
  repeat' split
  all_goals omega
theorem kd_3 {B : Nat → Int} {n i : Nat} : kdA B n i = 3 ↔ kdM B n i = 2 := by
  unfold kdA kdM
  repeat' split
  all_goals omega
theorem kd_0 {B : Nat → Int} {n i : Nat} : kdA B n i = 0 ↔ kdM B n i = 0 := by
  unfold kdA kdM
  repeat' split
  all_goals omega
theorem kdM_rng {B : Nat → Int} {n i : Nat} : 0 ≤ kdM B n i ∧ kdM B n i ≤ 4 := by
  unfold kdM
  repeat' split
  all_goals omega
theorem kdA_rng {B : Nat → Int} {n i : Nat} : 0 ≤ kdA B n i ∧ kdA B n i ≤ 4 := by
  unfold kdA
  repeat' split
  all_goals omega
theorem vA_rng {B : Nat → Int} {n i : Nat} (h : kdA B n i = 2) : 0 ≤ vA B n i ∧ vA B n i ≤ 99 := by
  have hi := kd_in (B := B) (n := n) (i := i) (by omega)
  unfold vA
  unfold kdA at h
  unfold enA
  rw [bAt_in hi] at h ⊢
  by_cases c : isLt (B i) = true
  · rw [if_pos c] at h; omega
  · rw [if_neg c] at h ⊢
    by_cases d : isDg (B i) = true
    · rw [if_pos d] at h ⊢
      have g := rn_gt hi d
      have al : ∀ j : Nat, i ≤ j → j < rn isDg B n i → 48 ≤ B j ∧ B j ≤ 57 := fun j h1 h2 => isDg_r.mp (rn_all h1 h2)
      generalize rn isDg B n i = e at h g al ⊢
      by_cases l : 2 < e - i
      · rw [if_pos l] at h; omega
      · have a0 := al i (by omega) (by omega)
        by_cases l1 : e - i = 1
        · rw [l1]; show 0 ≤ (0 * 10 + B (i + 0) - 48 : Int) ∧ (0 * 10 + B (i + 0) - 48 : Int) ≤ 99
          rw [Nat.add_zero]; omega
        · have a1 := al (i + 1) (by omega) (by omega)
          rw [show e - i = 2 by omega]
          show 0 ≤ ((0 * 10 + B (i + 0) - 48) * 10 + B (i + 1) - 48 : Int) ∧ ((0 * 10 + B (i + 0) - 48) * 10 + B (i + 1) - 48 : Int) ≤ 99
          rw [Nat.add_zero]; omega
    · rw [if_neg d] at h
      repeat' split at h
      all_goals omega
def note (k : Int) (a : Nat) (fp : Int × Int) : Int × Int := if fp.1 = 0 then (k, (a : Int)) else fp
def FF (σ τ : Sg) (fp : Int × Int) : Prop := τ.1 = σ.1 ∧ (∀ c : Nat, c ≠ 171 → τ.2 c = σ.2 c) ∧ (∀ j : Nat, j ≠ 5 → j ≠ 6 → τ.2 171 j = σ.2 171 j) ∧ τ.2 171 5 = fp.1 ∧ τ.2 171 6 = fp.2
def FZ (σ τ : Sg) : Prop := (∀ c : Nat, c ≠ 170 → τ.1 c = σ.1 c) ∧ (∀ j : Nat, j < 3 ∨ 8 < j → τ.1 170 j = σ.1 170 j) ∧ (∀ c : Nat, c ≠ 171 → τ.2 c = σ.2 c) ∧ (∀ j : Nat, j ≠ 5 → j ≠ 6 → τ.2 171 j = σ.2 171 j)
theorem FZ.rfl {σ : Sg} : FZ σ σ := ⟨fun _ _ => Eq.refl _, fun _ _ => Eq.refl _, fun _ _ => Eq.refl _, fun _ _ _ => Eq.refl _⟩
theorem FZ.trans {σ τ υ : Sg} (h : FZ σ τ) (g : FZ τ υ) : FZ σ υ := ⟨fun c q => (g.1 c q).trans (h.1 c q), fun c q => (g.2.1 c q).trans (h.2.1 c q), fun c q => (g.2.2.1 c q).trans (h.2.2.1 c q), fun c q r => (g.2.2.2 c q r).trans (h.2.2.2 c q r)⟩
theorem FF.fz {σ τ : Sg} {fp : Int × Int} (h : FF σ τ fp) : FZ σ τ := ⟨fun c _ => by rw [h.1], fun j _ => by rw [h.1], h.2.1, h.2.2.1⟩
theorem FT.fz {σ τ : Sg} (h : FT σ τ) : FZ σ τ := ⟨h.1, fun j hj => h.2.1 j (by omega), fun c _ => by rw [h.2.2], fun j _ _ => by rw [h.2.2]⟩
/-- the reference stands before the token at i, its first fault is fp -/
def MTk (σ : Sg) (B : Nat → Int) (n i : Nat) (fp : Int × Int) : Prop := TM σ B n ∧ σ.1 170 8 = 0 ∧ TkM σ B n i ∧ i ≤ n ∧ σ.2 171 5 = fp.1 ∧ σ.2 171 6 = fp.2 ∧ (0 ≤ fp.1 ∧ fp.1 ≤ 4) ∧ (fp.1 ≠ 0 → 0 ≤ fp.2 ∧ fp.2 < i)
/-- it can't go on: fault 1 at i -/
def MBk (σ : Sg) (i : Nat) : Prop := σ.1 170 8 = 1 ∧ σ.2 171 5 = 1 ∧ σ.2 171 6 = i
theorem TM.fz {σ τ : Sg} {B : Nat → Int} {n : Nat} (h : TM σ B n) (f : FZ σ τ) : TM τ B n := by
  refine ⟨by rw [f.2.1 2 (by omega)]; exact h.1, h.2.1, fun i hi => ?_⟩
  rw [f.2.2.2 (10 + i) (by omega) (by omega)]
  exact h.2.2 i hi
theorem m_ends {X : PX} {σ : Sg} {B : Nat → Int} {n i : Nat} {fp : Int × Int} {P : Sg → Prop} (h : MTk σ B n i fp) (k : ∀ τ : Sg, FZ σ τ → MBk τ i → P τ) : CV X 171 [vR (some 170)] σ P := by
  obtain ⟨h1, h8, ⟨t5, t4, t3, t6, t7⟩, hi, h5, h6, h7⟩ := h
  refine v_171 ⟨by omega, fun _ => ⟨rfl, ?_⟩, fun e => absurd h8 e⟩
  rw [t4]
  refine k _ ⟨fun c hc => up2_ne _ _ _ hc, fun j hj => by dsimp only; rw [up2_if, if_neg (by omega)], fun c hc => by dsimp only; rw [up2_ne _ _ _ hc, up2_ne _ _ _ hc], fun j h1 h2 => by dsimp only; rw [up2_if, if_neg h2, up2_if, if_neg h1]⟩ ⟨?_, ?_, ?_⟩
  · dsimp only; rw [up2_get]
  · dsimp only; rw [up2_if, if_neg (by omega), up2_get]
  · dsimp only; rw [up2_get]
theorem m_endsB {X : PX} {σ : Sg} {i : Nat} {P : Sg → Prop} (h : MBk σ i) (q : P σ) : CV X 171 [vR (some 170)] σ P := by
  have h8 := h.1
  exact v_171 ⟨by omega, fun e => absurd e (by omega), fun _ => ⟨rfl, q⟩⟩
theorem m_also {X : PX} {σ : Sg} {k : Int} {a : Nat} {fp : Int × Int} {P : Sg → Prop} (h8 : σ.1 170 8 = 0) (h5 : σ.2 171 5 = fp.1) (h6 : σ.2 171 6 = fp.2) (hk : InR k) (ha : a ≤ 600) (r : 0 ≤ fp.1 ∧ fp.1 ≤ 4) (hp : fp.1 ≠ 0 → 0 ≤ fp.2 ∧ (fp.2 < a ∨ (fp.2 = a ∧ fp.1 ≤ k))) (q : ∀ τ : Sg, FF σ τ (note k a fp) → P τ) : CV X 172 [vR (some 170), vI k, vI a] σ P := by
  have rf : fp.1 ≠ 0 → FF σ σ (note k a fp) := fun c => by unfold note; rw [if_neg c]; exact ⟨rfl, fun _ _ => rfl, fun _ _ _ => rfl, h5, h6⟩
  refine v_172 ?_
  rw [h8, h5, h6]
  refine ⟨by omega, fun e => absurd rfl e, fun _ => ⟨by omega, fun c => ⟨rfl, q _ ?_⟩, fun c => ?_⟩⟩
  · unfold note
    rw [if_pos c]
    refine ⟨rfl, fun c hc => by dsimp only; rw [up2_ne _ _ _ hc, up2_ne _ _ _ hc], fun j h1 h2 => by dsimp only; rw [up2_if, if_neg h2, up2_if, if_neg h1], ?_, ?_⟩
    · dsimp only; rw [up2_if, if_neg (by omega), up2_get]
    · dsimp only; rw [up2_get]
  · have hp := hp c
    exact ⟨by omega, by omega, fun _ => ⟨rfl, q σ (rf c)⟩, fun d => ⟨fun e => absurd (by omega) e, fun _ => ⟨hk, fun e => absurd e (by omega), fun _ => ⟨rfl, q σ (rf c)⟩⟩⟩⟩
theorem note_rng {k : Int} {a : Nat} {fp : Int × Int} (hk : 1 ≤ k ∧ k ≤ 4) (r : 0 ≤ fp.1 ∧ fp.1 ≤ 4) : 0 ≤ (note k a fp).1 ∧ (note k a fp).1 ≤ 4 := by
  unfold note; split
  · dsimp only; omega
  · exact r
theorem note_pl {k : Int} {a b : Nat} {fp : Int × Int} (h : fp.1 ≠ 0 → 0 ≤ fp.2 ∧ fp.2 < b) (ab : a < b) : (note k a fp).1 ≠ 0 → 0 ≤ (note k a fp).2 ∧ (note k a fp).2 < b := by
  unfold note
  split
  · intro _; dsimp only; omega
  · exact h
/-- over one token that is there -/
theorem m_adv {X : PX} {σ : Sg} {B : Nat → Int} {n i : Nat} {fp : Int × Int} {P : Sg → Prop} (h : TM σ B n) (h8 : σ.1 170 8 = 0) (hi : i < n) (h3 : σ.1 170 3 = enA B n i) (h5 : σ.2 171 5 = fp.1) (h6 : σ.2 171 6 = fp.2) (r : 0 ≤ fp.1 ∧ fp.1 ≤ 4) (hp : fp.1 ≠ 0 → 0 ≤ fp.2 ∧ fp.2 < nxt B n i) (k : ∀ τ : Sg, FT σ τ → MTk τ B n (nxt B n i) fp → P τ) : CV X 170 [vR (some 170)] σ P := by
  have e := en_rng (B := B) hi
  have nr := nxt_rng (B := B) hi
  refine m_next h h3 e.2 (fun τ f t => k τ f ⟨h.ft f, ?_, t, nr.2, ?_, ?_, r, hp⟩)
  · rw [f.2.1 8 (by omega)]; exact h8
  · rw [f.2.2]; exact h5
  · rw [f.2.2]; exact h6
theorem bAt_ge {σ : Sg} {B : Nat → Int} {n i : Nat} (h : TM σ B n) (hi : i < n) : bAt B n i ≠ -1 := by
  rw [bAt_in hi]; have := h.2.2 i hi; omega
theorem m_num {X : PX} {σ : Sg} {B : Nat → Int} {n i : Nat} {fp : Int × Int} {l : Int} {P : Int → Sg → Prop} (h : MTk σ B n i fp) (hl : 0 ≤ l ∧ l ≤ 99)
    (q1 : kdA B n i = 2 → ∀ τ : Sg, FZ σ τ → MTk τ B n (nxt B n i) (if l < vA B n i then note 2 i fp else fp) → P (if l < vA B n i then 0 else vA B n i) τ)
    (q0 : kdA B n i ≠ 2 → ∀ τ : Sg, FZ σ τ → MBk τ i → P 0 τ) : CI X 173 [vR (some 170), vI 0, vI l] σ P := by
  obtain ⟨h1, h8, ⟨t5, t4, t3, t6, t7⟩, hi, h5, h6, h7, h9⟩ := id h
  have n6 := h1.2.1
  have kr := kdM_rng (B := B) (n := n) (i := i)
  refine v_173 ⟨by omega, fun e => absurd h8 e, fun _ => ⟨by omega, fun c => ?_, fun c => m_ends h (fun τ f b => ⟨_, rfl, q0 (fun e => c (by rw [t5]; exact kd_2.mp e)) τ f b⟩)⟩⟩
  have k2 : kdA B n i = 2 := kd_2.mpr (by omega)
  have v := vA_rng k2
  have hin : i < n := kd_in (B := B) (by omega)
  have nr := nxt_rng (B := B) hin
  have e6 : σ.1 170 6 = vA B n i := t6 (by omega)
  have e3 : σ.1 170 3 = enA B n i := t3 (bAt_ge h1 hin)
  have q1 := q1 k2
  rw [e6]
  refine c_isIn (by omega) (by omega) (by omega) ?_
  by_cases d : l < vA B n i
  · rw [if_neg (by omega)]
    rw [if_pos d, if_pos d] at q1
    refine ⟨by omega, fun e => absurd rfl e, fun _ => ?_⟩
    rw [t4]
    refine m_also h8 h5 h6 (by omega) (by omega) h7 (fun e => ⟨(h9 e).1, Or.inl (h9 e).2⟩) (fun τ f => ?_)
    refine m_adv (i := i) (fp := note 2 i fp) (h1.fz f.fz) (by rw [f.1]; exact h8) hin (by rw [f.1]; exact e3) f.2.2.2.1 f.2.2.2.2 (note_rng (by omega) h7) (note_pl (fun e => ⟨(h9 e).1, by have := (h9 e).2; omega⟩) nr.1) (fun υ g m => c_isIn (by omega) (by omega) (by omega) ?_)
    rw [if_neg (by omega)]
    exact ⟨by omega, fun _ => ⟨_, rfl, q1 υ (f.fz.trans g.fz) m⟩, fun e => absurd rfl e⟩
  · rw [if_pos (by omega)]
    rw [if_neg d, if_neg d] at q1
    refine ⟨by omega, fun _ => m_adv (i := i) (fp := fp) h1 h8 hin e3 h5 h6 h7 (fun e => ⟨(h9 e).1, by have := (h9 e).2; omega⟩) (fun υ g m => c_isIn (by omega) (by omega) (by omega) ?_), fun e => absurd (by omega) e⟩
    rw [if_pos (by omega)]
    exact ⟨by omega, fun e => absurd e (by omega), fun _ => ⟨_, rfl, q1 υ g.fz m⟩⟩
theorem m_numB {X : PX} {σ : Sg} {i : Nat} {l : Int} {P : Int → Sg → Prop} (h : MBk σ i) (q : P 0 σ) : CI X 173 [vR (some 170), vI 0, vI l] σ P := by
  have h8 := h.1
  exact v_173 ⟨by omega, fun _ => m_endsB h ⟨_, rfl, q⟩, fun e => absurd (by omega) e⟩
theorem m_semi {X : PX} {σ : Sg} {B : Nat → Int} {n i : Nat} {fp : Int × Int} {P : Sg → Prop} (h : MTk σ B n i fp)
    (q1 : kdA B n i = 3 → ∀ τ : Sg, FZ σ τ → MTk τ B n (nxt B n i) fp → P τ) (q0 : kdA B n i ≠ 3 → ∀ τ : Sg, FZ σ τ → MBk τ i → P τ) : CV X 175 [vR (some 170)] σ P := by
  obtain ⟨h1, h8, ⟨t5, t4, t3, t6, t7⟩, hi, h5, h6, h7, h9⟩ := id h
  have kr := kdM_rng (B := B) (n := n) (i := i)
  refine v_175 ⟨by omega, fun e => absurd h8 e, fun _ => ⟨by omega, fun c => m_ends h (fun τ f b => ⟨rfl, q0 (fun e => c (by rw [t5]; exact kd_3.mp e)) τ f b⟩), fun c => ?_⟩⟩
  have k3 : kdA B n i = 3 := kd_3.mpr (by omega)
  have hin : i < n := kd_in (B := B) (by omega)
  have nr := nxt_rng (B := B) hin
  exact m_adv (i := i) (fp := fp) h1 h8 hin (t3 (bAt_ge h1 hin)) h5 h6 h7 (fun e => ⟨(h9 e).1, by have := (h9 e).2; omega⟩) (fun υ g m => ⟨rfl, q1 k3 υ g.fz m⟩)
theorem m_semiB {X : PX} {σ : Sg} {i : Nat} {P : Sg → Prop} (h : MBk σ i) (q : P σ) : CV X 175 [vR (some 170)] σ P := by
  have h8 := h.1
  exact v_175 ⟨by omega, fun _ => m_endsB h ⟨rfl, q⟩, fun e => absurd (by omega) e⟩
