/-! LINES: the reference's steps over tokens -/
theorem rnF_all {g : Int → Bool} {B : Nat → Int} {n : Nat} : ∀ d i j : Nat, i ≤ j → j < rnF g B n d i → g (B j) = true
  | 0, i, j => fun h1 h2 => absurd h2 (by unfold rnF; omega)
  | d + 1, i, j => fun h1 h2 => by
    unfold rnF at h2
    by_cases c : i < n ∧ g (B i) = true
    · rw [if_pos c] at h2
      by_cases e : j = i
      · rw [e]; exact c.2
      · exact rnF_all d (i + 1) j (by omega) h2
    · rw [if_neg c] at h2; omega
theorem rn_all {g : Int → Bool} {B : Nat → Int} {n i j : Nat} (h1 : i ≤ j) (h2 : j < rn g B n i) : g (B j) = true := rnF_all _ _ _ h1 h2
theorem kd_in {B : Nat → Int} {n i : Nat} (h : kdA B n i ≠ 0) : i < n := by
  by_cases c : i < n
  · exact c
  · refine absurd ?_ h
    unfold kdA
    rw [bAt_n c, if_neg (by decide), if_neg (by decide), if_pos rfl]
theorem en_rng {B : Nat → Int} {n i : Nat} (h : i < n) : i + 1 ≤ enA B n i ∧ enA B n i ≤ n := by
  unfold enA
  rw [bAt_in h]
  by_cases c : isLt (B i) = true
  · rw [if_pos c]; exact ⟨rn_gt h c, rn_rng.2 (by omega)⟩
  · rw [if_neg c]
    by_cases d : isDg (B i) = true
    · rw [if_pos d]; exact ⟨rn_gt h d, rn_rng.2 (by omega)⟩
    · rw [if_neg d]; omega
def nxt (B : Nat → Int) (n i : Nat) : Nat := rn isBl B n (enA B n i)
theorem nxt_rng {B : Nat → Int} {n i : Nat} (h : i < n) : i < nxt B n i ∧ nxt B n i ≤ n := by
  have e := en_rng (B := B) h
  have r := rn_rng (g := isBl) (B := B) (n := n) (i := enA B n i)
  unfold nxt; omega
def vA (B : Nat → Int) (n i : Nat) : Int := vl B i (enA B n i - i)
theorem kd_2 {B : Nat → Int} {n i : Nat} : kdA B n i = 2 ↔ kdM B n i = 1 := by
  unfold kdA kdM
  repeat' split
  all_goals omega
theorem kd_3 {B : Nat → Int} {n i : Nat} : kdA B n i = 3 ↔ kdM B n i = 2 := by
  unfold kdA kdM
  repeat' split
  all_goals omega
theorem kd_0 {B : Nat → Int} {n i : Nat} : kdA B n i = 0 ↔ kdM B n i = 0 := by
  unfold kdA kdM
  repeat' split
  all_goals omega
theorem kdM_rng {B : Nat → Int} {n i : Nat} : 0 ≤ kdM B n i ∧ kdM B n i ≤ 4 := by
  unfold kdM
  repeat' split
  all_goals omega
theorem kdA_rng {B : Nat → Int} {n i : Nat} : 0 ≤ kdA B n i ∧ kdA B n i ≤ 4 := by
  unfold kdA
  repeat' split
  all_goals omega
theorem vA_rng {B : Nat → Int} {n i : Nat} (h : kdA B n i = 2) : 0 ≤ vA B n i ∧ vA B n i ≤ 99 := by
  have hi := kd_in (B := B) (n := n) (i := i) (by omega)
  unfold vA
  unfold kdA at h
  unfold enA
  rw [bAt_in hi] at h ⊢
  by_cases c : isLt (B i) = true
  · rw [if_pos c] at h; omega
  · rw [if_neg c] at h ⊢
    by_cases d : isDg (B i) = true
    · rw [if_pos d] at h ⊢
      have g := rn_gt hi d
      have al : ∀ j : Nat, i ≤ j → j < rn isDg B n i → 48 ≤ B j ∧ B j ≤ 57 := fun j h1 h2 => isDg_r.mp (rn_all h1 h2)
      generalize rn isDg B n i = e at h g al ⊢
      by_cases l : 2 < e - i
      · rw [if_pos l] at h; omega
      · have a0 := al i (by omega) (by omega)
        by_cases l1 : e - i = 1
        · rw [l1]; show 0 ≤ (0 * 10 + B (i + 0) - 48 : Int) ∧ (0 * 10 + B (i + 0) - 48 : Int) ≤ 99
          rw [Nat.add_zero]; omega
        · have a1 := al (i + 1) (by omega) (by omega)
          rw [show e - i = 2 by omega]
          show 0 ≤ ((0 * 10 + B (i + 0) - 48) * 10 + B (i + 1) - 48 : Int) ∧ ((0 * 10 + B (i + 0) - 48) * 10 + B (i + 1) - 48 : Int) ≤ 99
          rw [Nat.add_zero]; omega
    · rw [if_neg d] at h
      repeat' split at h
      all_goals omega
def note (k : Int) (a : Nat) (fp : Int × Int) : Int × Int := if fp.1 = 0 then (k, (a : Int)) else fp
def FF (σ τ : Sg) (fp : Int × Int) : Prop := τ.1 = σ.1 ∧ (∀ c : Nat, c ≠ 171 → τ.2 c = σ.2 c) ∧ (∀ j : Nat, j ≠ 5 → j ≠ 6 → τ.2 171 j = σ.2 171 j) ∧ τ.2 171 5 = fp.1 ∧ τ.2 171 6 = fp.2
def FZ (σ τ : Sg) : Prop := (∀ c : Nat, c ≠ 170 → τ.1 c = σ.1 c) ∧ (∀ j : Nat, j < 3 ∨ 8 < j → τ.1 170 j = σ.1 170 j) ∧ (∀ c : Nat, c ≠ 171 → τ.2 c = σ.2 c) ∧ (∀ j : Nat, j ≠ 5 → j ≠ 6 → τ.2 171 j = σ.2 171 j)
theorem FZ.rfl {σ : Sg} : FZ σ σ := ⟨fun _ _ => Eq.refl _, fun _ _ => Eq.refl _, fun _ _ => Eq.refl _, fun _ _ _ => Eq.refl _⟩
theorem FZ.trans {σ τ υ : Sg} (h : FZ σ τ) (g : FZ τ υ) : FZ σ υ := ⟨fun c q => (g.1 c q).trans (h.1 c q), fun c q => (g.2.1 c q).trans (h.2.1 c q), fun c q => (g.2.2.1 c q).trans (h.2.2.1 c q), fun c q r => (g.2.2.2 c q r).trans (h.2.2.2 c q r)⟩
theorem FF.fz {σ τ : Sg} {fp : Int × Int} (h : FF σ τ fp) : FZ σ τ := ⟨fun c _ => by rw [h.1], fun j _ => by rw [h.1], h.2.1, h.2.2.1⟩
theorem FT.fz {σ τ : Sg} (h : FT σ τ) : FZ σ τ := ⟨h.1, fun j hj => h.2.1 j (by omega), fun c _ => by rw [h.2.2], fun j _ _ => by rw [h.2.2]⟩
/-- the reference stands before the token at i, its first fault is fp -/
def MTk (σ : Sg) (B : Nat → Int) (n i : Nat) (fp : Int × Int) : Prop := TM σ B n ∧ σ.1 170 8 = 0 ∧ TkM σ B n i ∧ i ≤ n ∧ σ.2 171 5 = fp.1 ∧ σ.2 171 6 = fp.2 ∧ (0 ≤ fp.1 ∧ fp.1 ≤ 4) ∧ (fp.1 ≠ 0 → 0 ≤ fp.2 ∧ fp.2 < i)
/-- it can't go on: fault 1 at i -/
def MBk (σ : Sg) (i : Nat) : Prop := σ.1 170 8 = 1 ∧ σ.2 171 5 = 1 ∧ σ.2 171 6 = i
theorem TM.fz {σ τ : Sg} {B : Nat → Int} {n : Nat} (h : TM σ B n) (f : FZ σ τ) : TM τ B n := by
  refine ⟨by rw [f.2.1 2 (by omega)]; exact h.1, h.2.1, fun i hi => ?_⟩
  rw [f.2.2.2 (10 + i) (by omega) (by omega)]
  exact h.2.2 i hi
theorem m_ends {X : PX} {σ : Sg} {B : Nat → Int} {n i : Nat} {fp : Int × Int} {P : Sg → Prop} (h : MTk σ B n i fp) (k : ∀ τ : Sg, FZ σ τ → MBk τ i → P τ) : CV X 171 [vR (some 170)] σ P := by
  obtain ⟨h1, h8, ⟨t5, t4, t3, t6, t7⟩, hi, h5, h6, h7⟩ := h
  refine v_171 ⟨by omega, fun _ => ⟨rfl, ?_⟩, fun e => absurd h8 e⟩
  rw [t4]
  refine k _ ⟨fun c hc => up2_ne _ _ _ hc, fun j hj => by dsimp only; rw [up2_if, if_neg (by omega)], fun c hc => by dsimp only; rw [up2_ne _ _ _ hc, up2_ne _ _ _ hc], fun j h1 h2 => by dsimp only; rw [up2_if, if_neg h2, up2_if, if_neg h1]⟩ ⟨?_, ?_, ?_⟩
  · dsimp only; rw [up2_get]
  · dsimp only; rw [up2_if, if_neg (by omega), up2_get]
  · dsimp only; rw [up2_get]
theorem m_endsB {X : PX} {σ : Sg} {i : Nat} {P : Sg → Prop} (h : MBk σ i) (q : P σ) : CV X 171 [vR (some 170)] σ P := by
  have h8 := h.1
  exact v_171 ⟨by omega, fun e => absurd e (by omega), fun _ => ⟨rfl, q⟩⟩
theorem m_also {X : PX} {σ : Sg} {k : Int} {a : Nat} {fp : Int × Int} {P : Sg → Prop} (h8 : σ.1 170 8 = 0) (h5 : σ.2 171 5 = fp.1) (h6 : σ.2 171 6 = fp.2) (hk : InR k) (ha : a ≤ 600) (r : 0 ≤ fp.1 ∧ fp.1 ≤ 4) (hp : fp.1 ≠ 0 → 0 ≤ fp.2 ∧ (fp.2 < a ∨ (fp.2 = a ∧ fp.1 ≤ k))) (q : ∀ τ : Sg, FF σ τ (note k a fp) → P τ) : CV X 172 [vR (some 170), vI k, vI a] σ P := by
  have rf : fp.1 ≠ 0 → FF σ σ (note k a fp) := fun c => by unfold note; rw [if_neg c]; exact ⟨rfl, fun _ _ => rfl, fun _ _ _ => rfl, h5, h6⟩
  refine v_172 ?_
  rw [h8, h5, h6]
  refine ⟨by omega, fun e => absurd rfl e, fun _ => ⟨by omega, fun c => ⟨rfl, q _ ?_⟩, fun c => ?_⟩⟩
  · unfold note
    rw [if_pos c]
    refine ⟨rfl, fun c hc => by dsimp only; rw [up2_ne _ _ _ hc, up2_ne _ _ _ hc], fun j h1 h2 => by dsimp only; rw [up2_if, if_neg h2, up2_if, if_neg h1], ?_, ?_⟩
    · dsimp only; rw [up2_if, if_neg (by omega), up2_get]
    · dsimp only; rw [up2_get]
  · have hp := hp c
    exact ⟨by omega, by omega, fun _ => ⟨rfl, q σ (rf c)⟩, fun d => ⟨fun e => absurd (by omega) e, fun _ => ⟨hk, fun e => absurd e (by omega), fun _ => ⟨rfl, q σ (rf c)⟩⟩⟩⟩
theorem note_rng {k : Int} {a : Nat} {fp : Int × Int} (hk : 1 ≤ k ∧ k ≤ 4) (r : 0 ≤ fp.1 ∧ fp.1 ≤ 4) : 0 ≤ (note k a fp).1 ∧ (note k a fp).1 ≤ 4 := by
  unfold note; split
  · dsimp only; omega
  · exact r
theorem note_pl {k : Int} {a b : Nat} {fp : Int × Int} (h : fp.1 ≠ 0 → 0 ≤ fp.2 ∧ fp.2 < b) (ab : a < b) : (note k a fp).1 ≠ 0 → 0 ≤ (note k a fp).2 ∧ (note k a fp).2 < b := by
  unfold note
  split
  · intro _; dsimp only; omega
  · exact h
/-- over one token that is there -/
theorem m_adv {X : PX} {σ : Sg} {B : Nat → Int} {n i : Nat} {fp : Int × Int} {P : Sg → Prop} (h : TM σ B n) (h8 : σ.1 170 8 = 0) (hi : i < n) (h3 : σ.1 170 3 = enA B n i) (h5 : σ.2 171 5 = fp.1) (h6 : σ.2 171 6 = fp.2) (r : 0 ≤ fp.1 ∧ fp.1 ≤ 4) (hp : fp.1 ≠ 0 → 0 ≤ fp.2 ∧ fp.2 < nxt B n i) (k : ∀ τ : Sg, FT σ τ → MTk τ B n (nxt B n i) fp → P τ) : CV X 170 [vR (some 170)] σ P := by
  have e := en_rng (B := B) hi
  have nr := nxt_rng (B := B) hi
  refine m_next h h3 e.2 (fun τ f t => k τ f ⟨h.ft f, ?_, t, nr.2, ?_, ?_, r, hp⟩)
  · rw [f.2.1 8 (by omega)]; exact h8
  · rw [f.2.2]; exact h5
  · rw [f.2.2]; exact h6
theorem bAt_ge {σ : Sg} {B : Nat → Int} {n i : Nat} (h : TM σ B n) (hi : i < n) : bAt B n i ≠ -1 := by
  rw [bAt_in hi]; have := h.2.2 i hi; omega
theorem m_num {X : PX} {σ : Sg} {B : Nat → Int} {n i : Nat} {fp : Int × Int} {l : Int} {P : Int → Sg → Prop} (h : MTk σ B n i fp) (hl : 0 ≤ l ∧ l ≤ 99)
    (q1 : kdA B n i = 2 → ∀ τ : Sg, FZ σ τ → MTk τ B n (nxt B n i) (if l < vA B n i then note 2 i fp else fp) → P (if l < vA B n i then 0 else vA B n i) τ)
    (q0 : kdA B n i ≠ 2 → ∀ τ : Sg, FZ σ τ → MBk τ i → P 0 τ) : CI X 173 [vR (some 170), vI 0, vI l] σ P := by
  obtain ⟨h1, h8, ⟨t5, t4, t3, t6, t7⟩, hi, h5, h6, h7, h9⟩ := id h
  have n6 := h1.2.1
  have kr := kdM_rng (B := B) (n := n) (i := i)
  refine v_173 ⟨by omega, fun e => absurd h8 e, fun _ => ⟨by omega, fun c => ?_, fun c => m_ends h (fun τ f b => ⟨_, rfl, q0 (fun e => c (by rw [t5]; exact kd_2.mp e)) τ f b⟩)⟩⟩
  have k2 : kdA B n i = 2 := kd_2.mpr (by omega)
  have v := vA_rng k2
  have hin : i < n := kd_in (B := B) (by omega)
  have nr := nxt_rng (B := B) hin
  have e6 : σ.1 170 6 = vA B n i := t6 (by omega)
  have e3 : σ.1 170 3 = enA B n i := t3 (bAt_ge h1 hin)
  have q1 := q1 k2
  rw [e6]
  refine c_isIn (by omega) (by omega) (by omega) ?_
  by_cases d : l < vA B n i
  · rw [if_neg (by omega)]
    rw [if_pos d, if_pos d] at q1
    refine ⟨by omega, fun e => absurd rfl e, fun _ => ?_⟩
    rw [t4]
    refine m_also h8 h5 h6 (by omega) (by omega) h7 (fun e => ⟨(h9 e).1, Or.inl (h9 e).2⟩) (fun τ f => ?_)
    refine m_adv (i := i) (fp := note 2 i fp) (h1.fz f.fz) (by rw [f.1]; exact h8) hin (by rw [f.1]; exact e3) f.2.2.2.1 f.2.2.2.2 (note_rng (by omega) h7) (note_pl (fun e => ⟨(h9 e).1, by have := (h9 e).2; omega⟩) nr.1) (fun υ g m => c_isIn (by omega) (by omega) (by omega) ?_)
    rw [if_neg (by omega)]
    exact ⟨by omega, fun _ => ⟨_, rfl, q1 υ (f.fz.trans g.fz) m⟩, fun e => absurd rfl e⟩
  · rw [if_pos (by omega)]
    rw [if_neg d, if_neg d] at q1
    refine ⟨by omega, fun _ => m_adv (i := i) (fp := fp) h1 h8 hin e3 h5 h6 h7 (fun e => ⟨(h9 e).1, by have := (h9 e).2; omega⟩) (fun υ g m => c_isIn (by omega) (by omega) (by omega) ?_), fun e => absurd (by omega) e⟩
    rw [if_pos (by omega)]
    exact ⟨by omega, fun e => absurd e (by omega), fun _ => ⟨_, rfl, q1 υ g.fz m⟩⟩
theorem m_numB {X : PX} {σ : Sg} {i : Nat} {l : Int} {P : Int → Sg → Prop} (h : MBk σ i) (q : P 0 σ) : CI X 173 [vR (some 170), vI 0, vI l] σ P := by
  have h8 := h.1
  exact v_173 ⟨by omega, fun _ => m_endsB h ⟨_, rfl, q⟩, fun e => absurd (by omega) e⟩
theorem m_semi {X : PX} {σ : Sg} {B : Nat → Int} {n i : Nat} {fp : Int × Int} {P : Sg → Prop} (h : MTk σ B n i fp)
    (q1 : kdA B n i = 3 → ∀ τ : Sg, FZ σ τ → MTk τ B n (nxt B n i) fp → P τ) (q0 : kdA B n i ≠ 3 → ∀ τ : Sg, FZ σ τ → MBk τ i → P τ) : CV X 175 [vR (some 170)] σ P := by
  obtain ⟨h1, h8, ⟨t5, t4, t3, t6, t7⟩, hi, h5, h6, h7, h9⟩ := id h
  have kr := kdM_rng (B := B) (n := n) (i := i)
  refine v_175 ⟨by omega, fun e => absurd h8 e, fun _ => ⟨by omega, fun c => m_ends h (fun τ f b => ⟨rfl, q0 (fun e => c (by rw [t5]; exact kd_3.mp e)) τ f b⟩), fun c => ?_⟩⟩
  have k3 : kdA B n i = 3 := kd_3.mpr (by omega)
  have hin : i < n := kd_in (B := B) (by omega)
  have nr := nxt_rng (B := B) hin
  exact m_adv (i := i) (fp := fp) h1 h8 hin (t3 (bAt_ge h1 hin)) h5 h6 h7 (fun e => ⟨(h9 e).1, by have := (h9 e).2; omega⟩) (fun υ g m => ⟨rfl, q1 k3 υ g.fz m⟩)
theorem m_semiB {X : PX} {σ : Sg} {i : Nat} {P : Sg → Prop} (h : MBk σ i) (q : P σ) : CV X 175 [vR (some 170)] σ P := by
  have h8 := h.1
  exact v_175 ⟨by omega, fun _ => m_endsB h ⟨rfl, q⟩, fun e => absurd (by omega) e⟩
theorem m_wd {X : PX} {σ : Sg} {B : Nat → Int} {n i : Nat} {fp : Int × Int} {a b : Int} {P : Int → Sg → Prop} (h : MTk σ B n i fp) (hab : 0 ≤ a ∧ b ≤ 11 ∧ InR a ∧ InR b)
    (q1 : isLt (bAt B n i) = true → a ≤ wid B i (enA B n i - i) → wid B i (enA B n i - i) ≤ b → ∀ τ : Sg, FZ σ τ → MTk τ B n (nxt B n i) fp → P (wid B i (enA B n i - i)) τ)
    (q0 : ¬ (isLt (bAt B n i) = true ∧ a ≤ wid B i (enA B n i - i) ∧ wid B i (enA B n i - i) ≤ b) → ∀ τ : Sg, FZ σ τ → MBk τ i → P 0 τ) : CI X 174 [vR (some 170), vI a, vI b] σ P := by
  obtain ⟨h1, h8, ⟨t5, t4, t3, t6, t7⟩, hi, h5, h6, h7, h9⟩ := id h
  have kr := kdM_rng (B := B) (n := n) (i := i)
  have wr := wid_rng (B := B) (s := i) (L := enA B n i - i)
  have k3 : kdM B n i = 3 ↔ isLt (bAt B n i) = true ∧ wid B i (enA B n i - i) ≠ 99 := by
    unfold kdM enA
    by_cases c : isLt (bAt B n i) = true
    · rw [if_pos c, if_pos c]
      by_cases d : wid B i (rn isLt B n i - i) = 99
      · rw [if_pos d]; exact ⟨fun e => absurd e (by omega), fun e => absurd d e.2⟩
      · rw [if_neg d]; exact ⟨fun _ => ⟨c, d⟩, fun _ => rfl⟩
    · rw [if_neg c]
      refine ⟨fun e => ?_, fun e => absurd e.1 c⟩
      repeat' split at e
      all_goals omega
  refine v_174 ⟨by omega, fun e => absurd h8 e, fun _ => ⟨by omega, fun c => m_ends h (fun τ f b => ⟨_, rfl, q0 (fun e => c (by rw [t5]; exact k3.mpr ⟨e.1, by omega⟩)) τ f b⟩), fun c => ?_⟩⟩
  obtain ⟨il, w9⟩ := k3.mp (by omega)
  have hin : i < n := by
    by_cases z : i < n
    · exact z
    · rw [bAt_n z] at il; exact absurd il (by decide)
  have nr := nxt_rng (B := B) hin
  have e7 := t7 il
  refine c_isIn (by omega) (by omega) (by omega) ?_
  rw [e7]
  by_cases d : a ≤ wid B i (enA B n i - i) ∧ wid B i (enA B n i - i) ≤ b
  · rw [if_pos d]
    exact ⟨by omega, fun _ => m_adv (i := i) (fp := fp) h1 h8 hin (t3 (bAt_ge h1 hin)) h5 h6 h7 (fun e => ⟨(h9 e).1, by have := (h9 e).2; omega⟩) (fun υ g m => ⟨_, rfl, q1 il d.1 d.2 υ g.fz m⟩), fun e => absurd (by omega) e⟩
  · rw [if_neg d]
    exact ⟨by omega, fun e => absurd rfl e, fun _ => m_ends h (fun τ f b => ⟨_, rfl, q0 (fun e => d e.2) τ f b⟩)⟩
/-! the class's steps -/
def FQ (σ τ : Sg) : Prop := (∀ c : Nat, c ≠ 131 → τ.1 c = σ.1 c) ∧ (∀ j : Nat, j < 3 ∨ 10 < j → τ.1 131 j = σ.1 131 j) ∧ (∀ c : Nat, c ≠ 145 → τ.2 c = σ.2 c)
theorem FQ.rfl {σ : Sg} : FQ σ σ := ⟨fun _ _ => Eq.refl _, fun _ _ => Eq.refl _, fun _ _ => Eq.refl _⟩
theorem FQ.trans {σ τ υ : Sg} (h : FQ σ τ) (g : FQ τ υ) : FQ σ υ := ⟨fun c q => (g.1 c q).trans (h.1 c q), fun c q => (g.2.1 c q).trans (h.2.1 c q), fun c q => (g.2.2 c q).trans (h.2.2 c q)⟩
theorem FN.fq {σ τ : Sg} (h : FN σ τ) : FQ σ τ := ⟨h.1, fun j hj => h.2.1 j (by omega), fun c _ => by rw [h.2.2]⟩
theorem TC.fq {σ τ : Sg} {B : Nat → Int} {n : Nat} (h : TC σ B n) (f : FQ σ τ) : TC τ B n := by
  unfold TC; rw [f.1 1 (by omega), f.2.2 2 (by omega)]; exact h
/-- the class's first fault -/
def CF (σ : Sg) (fp : Int × Int) : Prop := σ.1 131 3 = fp.1 ∧ σ.1 131 4 = fp.2
theorem CF.fn {σ τ : Sg} {fp : Int × Int} (h : CF σ fp) (f : FN σ τ) : CF τ fp := by
  unfold CF; rw [f.2.1 3 (by omega), f.2.1 4 (by omega)]; exact h
def FG (σ τ : Sg) : Prop := (∀ c : Nat, c ≠ 131 → τ.1 c = σ.1 c) ∧ (∀ j : Nat, j ≠ 3 → j ≠ 4 → τ.1 131 j = σ.1 131 j) ∧ τ.2 = σ.2
theorem FG.fq {σ τ : Sg} (h : FG σ τ) : FQ σ τ := ⟨h.1, fun j hj => h.2.1 j (by omega) (by omega), fun c _ => by rw [h.2.2]⟩
theorem c_brk {X : PX} {σ : Sg} {i : Nat} {P : Sg → Prop} (h8 : σ.1 131 8 = i) (k : ∀ τ : Sg, FG σ τ → CF τ (1, i) → P τ) : CV X 104 [vR (some 131)] σ P := by
  refine v_104 ⟨rfl, ?_⟩
  rw [h8]
  refine k _ ⟨fun c hc => by dsimp only; rw [up2_ne _ _ _ hc, up2_ne _ _ _ hc], fun j h1 h2 => by dsimp only; rw [up2_if, if_neg h2, up2_if, if_neg h1], rfl⟩ ⟨?_, ?_⟩
  · dsimp only; rw [up2_if, if_neg (by omega), up2_get]
  · dsimp only; rw [up2_get]
theorem c_notF {X : PX} {σ : Sg} {k : Int} {a : Nat} {fp : Int × Int} {P : Sg → Prop} (h : CF σ fp) (r : 0 ≤ fp.1 ∧ fp.1 ≤ 4) (q : ∀ τ : Sg, FG σ τ → CF τ (note k a fp) → P τ) : CV X 105 [vR (some 131), vI k, vI a] σ P := by
  have h3 := h.1
  refine v_105 ⟨by omega, fun c => ⟨rfl, q σ ⟨fun _ _ => rfl, fun _ _ _ => rfl, rfl⟩ ?_⟩, fun c => ⟨rfl, q _ ⟨fun c hc => by dsimp only; rw [up2_ne _ _ _ hc, up2_ne _ _ _ hc], fun j h1 h2 => by dsimp only; rw [up2_if, if_neg h2, up2_if, if_neg h1], rfl⟩ ?_⟩⟩
  · unfold note; rw [if_neg (by omega)]; exact h
  · unfold note; rw [if_pos (by omega)]
    refine ⟨?_, ?_⟩
    · dsimp only; rw [up2_if, if_neg (by omega), up2_get]
    · dsimp only; rw [up2_get]
def lmT (a : Nat) : List (List Int) := if a = 0 then [[99], [99], [6], [99, 9], [6, 6], [6, 6, 6]] else if a = 1 then [[], [6], [6], [99], [99], [9]] else [[6, 99]]
def lms (a l : Nat) : List Int := (lmT a).getD l []
theorem lm_0 : ∀ l : Nat, l < 6 → ∀ x : Nat, x < 3 → lmP.getD (l * 3 + x) 0 = (lms 0 l).getD x (-1) := by decide +kernel
theorem lm_1 : ∀ l : Nat, l < 6 → ∀ x : Nat, x < 3 → lmY.getD (l * 3 + x) 0 = (lms 1 l).getD x (-1) := by decide +kernel
theorem lm_2 : ∀ l : Nat, l < 1 → ∀ x : Nat, x < 3 → lmL.getD (l * 3 + x) 0 = (lms 2 l).getD x (-1) := by decide +kernel
theorem c_lim {L : Nat} {xs : Nat → Int32} {σ : Sg} {a l x : Nat} {P : Int → Sg → Prop} (ha : a < 3) (hl : l < (lmT a).length) (hx : x < 3) (q : P ((lms a l).getD x (-1)) σ) : CI (XX L xs) 99 [vR (some 131), vI a, vI l, vI x] σ P := by
  have e1 : XX L xs 11 = (18, fun i => lmP.getD i 0) := rfl
  have e2 : XX L xs 12 = (18, fun i => lmY.getD i 0) := rfl
  have e3 : XX L xs 13 = (3, fun i => lmL.getD i 0) := rfl
  refine v_99 ?_
  rw [e1, e2, e3, show ((l : Int) * 3 + (x : Int)).toNat = l * 3 + x by omega]
  dsimp only
  have c3 : a = 0 ∨ a = 1 ∨ a = 2 := by omega
  rcases c3 with c | c | c
  · subst c
    have hl : l < 6 := hl
    refine ⟨by omega, fun e => absurd rfl e, fun _ => ⟨by omega, fun e => absurd e (by omega), fun _ => ⟨by omega, fun e => absurd e (by omega), fun _ => ⟨by omega, _, rfl, ?_⟩⟩⟩⟩
    rw [lm_0 l hl x hx]; exact q
  · subst c
    have hl : l < 6 := hl
    refine ⟨by omega, fun _ => ⟨fun e => absurd rfl e, fun _ => ⟨by omega, fun e => absurd e (by omega), fun _ => ⟨by omega, fun e => absurd e (by omega), fun _ => ⟨by omega, _, rfl, ?_⟩⟩⟩⟩, fun e => absurd (by omega) e⟩
    rw [lm_1 l hl x hx]; exact q
  · subst c
    have hl : l < 1 := hl
    refine ⟨by omega, fun _ => ⟨fun _ => ⟨by omega, fun e => absurd e (by omega), fun _ => ⟨by omega, fun e => absurd e (by omega), fun _ => ⟨by omega, _, rfl, ?_⟩⟩⟩, fun e => absurd (by omega) e⟩, fun e => absurd (by omega) e⟩
    rw [lm_2 l hl x hx]; exact q
def ruL (a l : Nat) : Bool := decide (a = 0 ∧ (l = 4 ∨ l = 5))
theorem c_isRu {X : PX} {σ : Sg} {a l : Nat} {P : Int → Sg → Prop} (ha : a < 3) (hl : l < 6) (q : P (if ruL a l = true then 1 else 0) σ) : CI X 97 [vR (some 131), vI a, vI l] σ P := by
  unfold ruL at q
  simp only [decide_eq_true_eq] at q
  refine v_97 ⟨by omega, fun c => ⟨_, rfl, ?_⟩, fun c => ⟨by omega, fun d => ⟨_, rfl, ?_⟩, fun d => ⟨fun e => ⟨_, rfl, ?_⟩, fun e => ⟨_, rfl, ?_⟩⟩⟩⟩
  · rw [if_neg (by omega)] at q; exact q
  · rw [if_pos (by omega)] at q; exact q
  · rw [if_neg (by omega)] at q; exact q
  · rw [if_pos (by omega)] at q; exact q
/-- the numbers read so far -/
def NV (σ : Sg) (pv : List Int) : Prop := ∀ m : Nat, m < pv.length → σ.2 145 m = pv.getD m 0 ∧ 0 ≤ pv.getD m 0 ∧ pv.getD m 0 ≤ 99
def inL (v : Int) (pv : List Int) : Bool := pv.any (fun y => decide (y = v))
theorem inL_ap {v y : Int} {pv : List Int} : inL v (pv ++ [y]) = (inL v pv || decide (y = v)) := by
  unfold inL; rw [List.any_append]; simp
theorem take_ap {pv : List Int} {m : Nat} (h : m < pv.length) : pv.take (m + 1) = pv.take m ++ [pv.getD m 0] := by
  rw [List.take_succ, List.getD_eq_getElem?_getD, List.getElem?_eq_getElem h]; rfl
theorem c_rep {X : PX} {σ : Sg} {pv : List Int} {v : Int} {P : Int → Sg → Prop} (h : NV σ pv) (h3 : pv.length ≤ 3) (hv : σ.1 131 10 = v) (rv : 0 ≤ v ∧ v ≤ 99) (q : P (if inL v pv = true then 1 else 0) σ) : CI X 98 [vR (some 131), vI pv.length] σ P := by
  have lp : ∀ (d m : Nat), m + d = pv.length → inL v (pv.take m) = false → Ev X 98 2 [some (vR (some 131)), some (vI pv.length), some (vI m)] [] σ (fun w τ => ∃ x, w = some (vI x) ∧ P x τ) := by
    intro d
    induction d with
    | zero =>
      intro m hm hf
      rw [show m = pv.length by omega, List.take_length] at hf
      refine v_98_2 ⟨by omega, by omega, fun _ => ⟨_, rfl, ?_⟩, fun e => absurd (by omega) e⟩
      rw [hf] at q; exact q
    | succ d ih =>
      intro m hm hf
      obtain ⟨g1, g2⟩ := h m (by omega)
      refine v_98_2 ?_
      rw [Int.toNat_natCast, g1, hv]
      refine ⟨by omega, by omega, fun e => absurd e (by omega), fun _ => ⟨fun e => absurd e (by omega), fun _ => ⟨by omega, by omega, by omega, fun c => ?_, fun c => ⟨_, rfl, ?_⟩⟩⟩⟩
      · refine ih (m + 1) (by omega) ?_
        rw [take_ap (by omega), inL_ap, hf, Bool.false_or]
        exact decide_eq_false c
      · have : inL v pv = true := by
          unfold inL
          rw [List.any_eq_true]
          refine ⟨pv.getD m 0, ?_, decide_eq_true (by omega)⟩
          rw [List.getD_eq_getElem?_getD, List.getElem?_eq_getElem (by omega)]
          exact List.getElem_mem _
        rw [this] at q; exact q
  exact v_98 (lp pv.length 0 (by omega) rfl)
/-- the numbers of a line, from the token at i on -/
def nms (B : Nat → Int) (n : Nat) (ru : Bool) : List Int → List Int → Nat → Int × Int → Bool × Nat × (Int × Int) × List Int
  | [], pv, i, fp => (true, i, fp, pv)
  | l :: ls, pv, i, fp => if kdA B n i = 2 then nms B n ru ls (pv ++ [vA B n i]) (nxt B n i) (if l < vA B n i ∨ (ru = true ∧ inL (vA B n i) pv = true) then note 2 i fp else fp) else (false, i, fp, pv)
def tl93 (X : PX) (a l : Int) (σ : Sg) (Q : Option PV → Sg → Prop) : Prop := CV X 106 [vR (some 131)] σ (fun τ1 => InR (τ1.1 131 7) ∧ (τ1.1 131 7 = 3 → InR (τ1.1 131 3) ∧ (τ1.1 131 3 ≠ 0 → CV X 106 [vR (some 131)] τ1 (fun τ2 => Q none τ2)) ∧ (¬ τ1.1 131 3 ≠ 0 → CV X 94 [vR (some 131), vI a, vI l] τ1 (fun τ3 => CV X 106 [vR (some 131)] τ3 (fun τ4 => Q none τ4)))) ∧ (¬ τ1.1 131 7 = 3 → CV X 104 [vR (some 131)] τ1 (fun τ5 => Q none τ5)))
theorem lms_len : ∀ a : Nat, a < 3 → ∀ l : Nat, l < (lmT a).length → (lms a l).length ≤ 3 ∧ ∀ x : Nat, x < (lms a l).length → 0 ≤ (lms a l).getD x (-1) ∧ (lms a l).getD x (-1) ≤ 99 := by decide +kernel
theorem lmT_len : ∀ a : Nat, a < 3 → (lmT a).length ≤ 6 := by decide +kernel
theorem c_nums {L : Nat} {xs : Nat → Int32} {B : Nat → Int} {n a l : Nat} {Q : Option PV → Sg → Prop} (ha : a < 3) (hl : l < (lmT a).length) : ∀ (ls pv : List Int) (σ : Sg) (e : Nat) (fp : Int × Int), pv.length + ls.length = (lms a l).length → (∀ x : Nat, x < ls.length → (lms a l).getD (pv.length + x) (-1) = ls.getD x (-1)) → TC σ B n → CF σ fp → (0 ≤ fp.1 ∧ fp.1 ≤ 4) → σ.1 131 9 = e → e ≤ n → NV σ pv →
    (∀ (τ : Sg) (e2 j : Nat) (f2 : Int × Int) (vs : List Int), FQ σ τ → nms B n (ruL a l) ls pv (rn isBl B n e) fp = (true, j, f2, vs) → TC τ B n → CF τ f2 → (0 ≤ f2.1 ∧ f2.1 ≤ 4) → τ.1 131 9 = e2 → e2 ≤ n → rn isBl B n e2 = j → NV τ vs → tl93 (XX L xs) a l τ Q) →
    (∀ (τ : Sg) (j : Nat) (f2 : Int × Int) (vs : List Int), FQ σ τ → nms B n (ruL a l) ls pv (rn isBl B n e) fp = (false, j, f2, vs) → CF τ (1, j) → (0 ≤ τ.1 131 7 ∧ τ.1 131 7 ≤ 4) → Q none τ) →
    Ev (XX L xs) 93 22 [some (vR (some 131)), some (vI a), some (vI l), some (vI pv.length)] [] σ Q := by
  have ll := lms_len a ha l hl
  have l6 := lmT_len a ha
  intro ls
  induction ls with
  | nil =>
    intro pv σ e fp hlen hls h hf rf h9 hen hn kT kB
    simp only [List.length_nil, Nat.add_zero] at hlen
    have t := kT σ e (rn isBl B n e) fp pv FQ.rfl rfl h hf rf h9 hen rfl hn
    refine v_93_22 ⟨by omega, fun _ => t, fun c => c_lim ha hl (by omega) ?_⟩
    have : (lms a l).getD pv.length (-1) = -1 := by rw [List.getD_eq_getElem?_getD, List.getElem?_eq_none (by omega)]; rfl
    rw [this]
    exact ⟨by omega, fun _ => t, fun e => absurd rfl e⟩
  | cons y ls ih =>
    intro pv σ e fp hlen hls h hf rf h9 hen hn kT kB
    simp only [List.length_cons] at hlen
    have ly : (lms a l).getD pv.length (-1) = y := hls 0 (by simp)
    have yr := ll.2 pv.length (by omega)
    rw [ly] at yr
    refine v_93_22 ⟨by omega, fun c => absurd c (by omega), fun _ => c_lim ha hl (by omega) ?_⟩
    rw [ly]
    refine ⟨by omega, fun c => absurd c (by omega), fun _ => c_next h h9 hen (fun τ f t => ?_)⟩
    obtain ⟨t7, t8, t9, t10⟩ := t
    have kr := kdA_rng (B := B) (n := n) (i := rn isBl B n e)
    generalize hi : rn isBl B n e = i at kT kB t7 t8 t9 t10 kr
    unfold nms at kT kB
    rw [t7]
    refine ⟨by omega, fun c => ⟨by omega, c_lim ha hl (by omega) ?_⟩, fun c => c_brk t8 (fun υ g cf => ?_)⟩
    · have hin := kd_in (B := B) (n := n) (i := i) (by omega)
      have vr := vA_rng c
      have er := en_rng (B := B) hin
      have e10 : τ.1 131 10 = vA B n i := t10 c
      rw [if_pos c] at kT kB
      rw [ly, e10, Int.toNat_natCast]
      -- the number is kept
      have fq : FQ σ (τ.1, up2 τ.2 145 pv.length (vA B n i)) := f.fq.trans ⟨fun _ _ => rfl, fun _ _ => rfl, fun c hc => by dsimp only; rw [up2_ne _ _ _ hc]⟩
      have nv : NV (τ.1, up2 τ.2 145 pv.length (vA B n i)) (pv ++ [vA B n i]) := by
        intro m hm
        simp only [List.length_append, List.length_cons, List.length_nil] at hm
        dsimp only
        rw [up2_if]
        by_cases d : m = pv.length
        · rw [if_pos d, d, List.getD_eq_getElem?_getD, List.getElem?_append_right (Nat.le_refl _), Nat.sub_self]
          exact ⟨rfl, vr⟩
        · rw [if_neg d, List.getD_eq_getElem?_getD, List.getElem?_append_left (by omega), ← List.getD_eq_getElem?_getD, f.2.2]
          exact hn m (by omega)
      have nv0 : NV (τ.1, up2 τ.2 145 pv.length (vA B n i)) pv := by
        intro m hm
        dsimp only
        rw [up2_if, if_neg (by omega), f.2.2]
        exact hn m hm
      have go : ∀ (υ : Sg) (f2 : Int × Int), FG (τ.1, up2 τ.2 145 pv.length (vA B n i)) υ → CF υ f2 → (0 ≤ f2.1 ∧ f2.1 ≤ 4) → f2 = (if y < vA B n i ∨ (ruL a l = true ∧ inL (vA B n i) pv = true) then note 2 i fp else fp) → Ev (XX L xs) 93 22 [some (vR (some 131)), some (vI a), some (vI l), some (vI ((pv.length : Int) + 1))] [] υ Q := by
        intro υ f2 g cf r2 e2
        rw [← e2] at kT kB
        have u9 : υ.1 131 9 = enA B n i := by rw [g.2.1 9 (by omega) (by omega)]; exact t9
        have ihh := ih (pv ++ [vA B n i]) υ (enA B n i) f2 (by simp only [List.length_append, List.length_cons, List.length_nil]; omega) (fun x hx => by
          simp only [List.length_append, List.length_cons, List.length_nil]
          have := hls (x + 1) (by simp only [List.length_cons]; omega)
          rw [List.getD_cons_succ] at this
          rw [← this, show pv.length + (0 + 1) + x = pv.length + (x + 1) by omega]) (h.fq (fq.trans g.fq)) cf r2 u9 er.2 (by unfold NV; rw [g.2.2]; exact nv) (fun ω e2 j f3 vs fw => kT ω e2 j f3 vs (fq.trans (g.fq.trans fw))) (fun ω j f3 vs fw => kB ω j f3 vs (fq.trans (g.fq.trans fw)))
        simp only [List.length_append, List.length_cons, List.length_nil] at ihh
        exact ihh
      have cf1 : CF τ fp := hf.fn f
      have cf0 : CF (τ.1, up2 τ.2 145 pv.length (vA B n i)) fp := cf1
      have g8 : (τ.1, up2 τ.2 145 pv.length (vA B n i)).1 131 8 = i := t8
      have g10 : (τ.1, up2 τ.2 145 pv.length (vA B n i)).1 131 10 = vA B n i := e10
      generalize hω : (τ.1, up2 τ.2 145 pv.length (vA B n i)) = ω at cf0 g8 g10 go nv0 ⊢
      have rfg : FG ω ω := ⟨fun _ _ => rfl, fun _ _ _ => rfl, rfl⟩
      refine ⟨by omega, by omega, fun d => ?_, fun d => c_isRu ha (by omega) ?_⟩
      · rw [g8]
        exact c_notF cf0 rf (fun υ g cf => go υ _ g cf (note_rng (by omega) rf) (by rw [if_pos (Or.inl d)]))
      · by_cases ru : ruL a l = true
        · rw [if_pos ru]
          refine ⟨by omega, fun e => absurd e (by omega), fun _ => c_rep nv0 (by omega) g10 vr ?_⟩
          by_cases il : inL (vA B n i) pv = true
          · rw [if_pos il, g8]
            exact ⟨by omega, fun e => absurd e (by omega), fun _ => c_notF cf0 rf (fun υ g cf => go υ _ g cf (note_rng (by omega) rf) (by rw [if_pos (Or.inr ⟨ru, il⟩)]))⟩
          · rw [if_neg il]
            exact ⟨by omega, fun _ => go ω fp rfg cf0 rf (by rw [if_neg (fun z => z.elim d (fun z => il z.2))]), fun e => absurd rfl e⟩
        · rw [if_neg ru]
          exact ⟨by omega, fun _ => go ω fp rfg cf0 rf (by rw [if_neg (fun z => z.elim d (fun z => ru z.1))]), fun e => absurd rfl e⟩
    · rw [if_neg (by omega)] at kB
      exact kB υ i fp pv (f.fq.trans g.fq) rfl cf (by rw [g.2.1 7 (by omega) (by omega), t7]; exact kr)
