/-! LINE: readLine, whatever the contents γ are -/
def lineP {γ : Type} (a : Nat) (full : γ → Nat → Bool) (keep : γ → Nat → List Int → γ) (B : Nat → Int) (n i : Nat) (fp : Int × Int) (c : γ) : Bool × Nat × (Int × Int) × γ :=
  if lnTk a B n i = -1 then (false, i, (1, (i : Int)), c) else
    match nms B n (ruL a (lnTk a B n i).toNat) (lms a (lnTk a B n i).toNat) [] (nxt B n i) (if full c (lnTk a B n i).toNat = true then note 3 i fp else fp) with
    | (true, j, f2, vs) => if kdA B n j = 3 then (true, nxt B n j, f2, if f2.1 = 0 then keep c (lnTk a B n i).toNat vs else c) else (false, j, (1, (j : Int)), c)
    | (false, j, _, _) => (false, j, (1, (j : Int)), c)
theorem FQ.out {σ τ : Sg} (f : FQ σ τ) : Out σ τ 131 145 := fun c hc => ⟨f.1 c (by omega), f.2.2 c (by omega)⟩
theorem TC.out {σ τ : Sg} {B : Nat → Int} {n : Nat} (h : TC σ B n) (f : Out σ τ 131 145) : TC τ B n := by
  unfold TC; rw [(f 1 (by omega)).1, (f 2 (by omega)).2]; exact h
/-- the class stands before the token at i -/
def CS {γ : Type} (CC : Sg → γ → Prop) (σ : Sg) (B : Nat → Int) (n i : Nat) (fp : Int × Int) (c : γ) : Prop := TC σ B n ∧ TkC σ B n i ∧ i ≤ n ∧ CF σ fp ∧ (0 ≤ fp.1 ∧ fp.1 ≤ 4) ∧ CC σ c
theorem nms_len {B : Nat → Int} {n : Nat} {ru : Bool} : ∀ (ls pv : List Int) (i : Nat) (fp : Int × Int) (j : Nat) (f2 : Int × Int) (vs : List Int), nms B n ru ls pv i fp = (true, j, f2, vs) → vs.length = pv.length + ls.length
  | [], pv, i, fp, j, f2, vs, h => by
    unfold nms at h
    injection h with _ h; injection h with _ h; injection h with _ h
    rw [← h]; rfl
  | l :: ls, pv, i, fp, j, f2, vs, h => by
    unfold nms at h
    by_cases c : kdA B n i = 2
    · rw [if_pos c] at h
      have := nms_len ls _ _ _ j f2 vs h
      simp only [List.length_append, List.length_cons, List.length_nil] at this ⊢
      omega
    · rw [if_neg c] at h
      exact absurd (show false = true from congrArg Prod.fst h) (by decide)
theorem nms_ge {B : Nat → Int} {n : Nat} {ru : Bool} : ∀ (ls pv : List Int) (i : Nat) (fp : Int × Int) (b : Bool) (j : Nat) (f2 : Int × Int) (vs : List Int), nms B n ru ls pv i fp = (b, j, f2, vs) → i ≤ j
  | [], pv, i, fp, b, j, f2, vs, h => by
    unfold nms at h
    injection h with _ h; injection h with h _
    omega
  | l :: ls, pv, i, fp, b, j, f2, vs, h => by
    unfold nms at h
    by_cases c : kdA B n i = 2
    · rw [if_pos c] at h
      have := nms_ge ls _ _ _ b j f2 vs h
      have := nxt_rng (B := B) (kd_in (B := B) (n := n) (i := i) (by omega))
      omega
    · rw [if_neg c] at h
      injection h with _ h; injection h with h _
      omega
theorem c_line {γ : Type} {CC : Sg → γ → Prop} {full : γ → Nat → Bool} {keep : γ → Nat → List Int → γ} {L : Nat} {xs : Nat → Int32} {B : Nat → Int} {n a i : Nat} {fp : Int × Int} {c : γ} {σ : Sg} {P : Sg → Prop} (ha : a < 3)
    (hfr : ∀ (σ τ : Sg) (c : γ), FQ σ τ → CC σ c → CC τ c)
    (hfull : ∀ (σ : Sg) (c : γ) (l : Nat) (P : Int → Sg → Prop), l < (lmT a).length → CC σ c → P (if full c l = true then 1 else 0) σ → CI (XX L xs) 96 [vR (some 131), vI a, vI l] σ P)
    (hkeep : ∀ (σ : Sg) (l j : Nat) (f1 : Int × Int) (vs : List Int) (P : Sg → Prop), l < (lmT a).length → CC σ c → NV σ vs → vs.length = (lms a l).length → nms B n (ruL a l) (lms a l) [] (nxt B n i) (if full c l = true then note 3 i fp else fp) = (true, j, f1, vs) → f1.1 = 0 → (∀ τ : Sg, Out σ τ 131 145 → (∀ j : Nat, j ≠ 11 → τ.1 131 j = σ.1 131 j) → CC τ (keep c l vs) → P τ) → CV (XX L xs) 94 [vR (some 131), vI a, vI l] σ P)
    (h : CS CC σ B n i fp c)
    (kT : ∀ (τ : Sg) (j : Nat) (f2 : Int × Int) (c2 : γ), Out σ τ 131 145 → lineP a full keep B n i fp c = (true, j, f2, c2) → CS CC τ B n j f2 c2 → i < j → P τ)
    (kB : ∀ (τ : Sg) (j : Nat) (f2 : Int × Int) (c2 : γ), Out σ τ 131 145 → lineP a full keep B n i fp c = (false, j, f2, c2) → CF τ f2 → CC τ c2 → f2.1 = 1 → (0 ≤ τ.1 131 7 ∧ τ.1 131 7 ≤ 4) → P τ) : CV (XX L xs) 93 [vR (some 131), vI a] σ P := by
  obtain ⟨h1, ht, hi, hf, rf, hc⟩ := h
  obtain ⟨t7, t8, t9, t10⟩ := id ht
  unfold lineP at kT kB
  refine v_93 (c_lineOf h1 ht ha ?_)
  rcases lnTk_rng (a := a) (B := B) (n := n) (i := i) with e | ⟨e0, e1⟩
  · rw [if_pos e] at kB
    rw [e]
    exact ⟨by omega, fun x => absurd rfl x, fun _ => c_brk t8 (fun τ g cf => ⟨rfl, kB τ i _ c g.fq.out rfl cf (hfr σ τ c g.fq hc) rfl (by rw [g.2.1 7 (by omega) (by omega), t7]; exact kdA_rng)⟩)⟩
  · have ne : ¬ lnTk a B n i = -1 := by omega
    rw [if_neg ne] at kT kB
    have l6 := lmT_len a ha
    have hin : i < n := by
      by_cases z : i < n
      · exact z
      · refine absurd ?_ ne
        unfold lnTk
        rw [bAt_n z, if_neg (by decide)]
    have er := en_rng (B := B) hin
    have nr := nxt_rng (B := B) hin
    generalize hl : (lnTk a B n i).toNat = l at kT kB
    have el : lnTk a B n i = (l : Int) := by omega
    have l1 : l < (lmT a).length := by omega
    rw [el]
    refine ⟨by omega, fun _ => hfull σ c l _ l1 hc ?_, fun e => absurd (by omega) e⟩
    have go : ∀ (τ : Sg) (f1 : Int × Int), FG σ τ → CF τ f1 → (0 ≤ f1.1 ∧ f1.1 ≤ 4) → f1 = (if full c l = true then note 3 i fp else fp) → Ev (XX L xs) 93 22 [some (vR (some 131)), some (vI a), some (vI l), some (vI 0)] [] τ (fun v τ => v = none ∧ P τ) := by
      intro τ f1 g cf r1 e1
      have hk := hkeep
      rw [← e1] at kT kB
      have u9 : τ.1 131 9 = enA B n i := by rw [g.2.1 9 (by omega) (by omega)]; exact t9
      refine c_nums ha l1 (lms a l) [] τ (enA B n i) f1 (by simp) (fun x _ => by simp) (h1.fq g.fq) cf r1 u9 er.2 (fun m hm => absurd hm (by simp)) (fun υ e2 j f2 vs fu en tc cf2 r2 u92 e2n ej nv => ?_) (fun υ j f2 vs fu en cf2 k7 => ?_)
      · have en : nms B n (ruL a l) (lms a l) [] (nxt B n i) f1 = (true, j, f2, vs) := en
        rw [en] at kT kB
        dsimp only at kT kB
        have cc : CC υ c := hfr τ υ c fu (hfr σ τ c g.fq hc)
        refine c_next tc u92 e2n (fun ω fw tw => ?_)
        rw [ej] at tw
        obtain ⟨w7, w8, w9, w10⟩ := id tw
        have kr := kdA_rng (B := B) (n := n) (i := j)
        have cfw := cf2.fn fw
        have o1 : Out σ ω 131 145 := g.fq.out.trans (fu.out.trans fw.fq.out)
        rw [w7]
        refine ⟨by omega, fun k3 => ?_, fun k3 => c_brk w8 (fun ω2 gw cw => ⟨rfl, kB ω2 j _ c (o1.trans gw.fq.out) (by rw [if_neg k3]) cw (hfr ω ω2 c gw.fq (hfr υ ω c fw.fq cc)) rfl (by rw [gw.2.1 7 (by omega) (by omega), w7]; exact kdA_rng)⟩)⟩
        rw [if_pos k3] at kT
        have hj := kd_in (B := B) (n := n) (i := j) (by omega)
        have ej2 := en_rng (B := B) hj
        have nj := nxt_rng (B := B) hj
        have ij : i < j := by have := nms_ge _ _ _ _ _ _ _ _ en; omega
        have c3 := cfw.1
        refine ⟨by omega, fun z => ?_, fun z => ?_⟩
        · rw [if_neg (show ¬ f2.1 = 0 by omega)] at kT
          exact c_next (h1.out o1) w9 ej2.2 (fun ω3 f3 t3 => ⟨rfl, kT ω3 (nxt B n j) f2 c (o1.trans f3.fq.out) rfl ⟨(h1.out o1).fn f3, t3, nj.2, cfw.fn f3, r2, hfr ω ω3 c f3.fq (hfr υ ω c fw.fq cc)⟩ (by omega)⟩)
        · rw [if_pos (show f2.1 = 0 by omega)] at kT
          have nvw : NV ω vs := by unfold NV; rw [fw.2.2]; exact nv
          have vl2 := nms_len _ _ _ _ _ _ _ en
          refine hk ω l j f2 vs _ l1 (hfr υ ω c fw.fq cc) nvw (by rw [vl2]; simp) (by rw [← e1]; exact en) (by omega) (fun ω2 o2 s2 c2 => ?_)
          have tc2 := h1.out (o1.trans o2)
          exact c_next tc2 (by rw [s2 9 (by omega)]; exact w9) ej2.2 (fun ω3 f3 t3 => ⟨rfl, kT ω3 (nxt B n j) f2 _ (o1.trans (o2.trans f3.fq.out)) rfl ⟨tc2.fn f3, t3, nj.2, (show CF ω2 f2 by unfold CF; rw [s2 3 (by omega), s2 4 (by omega)]; exact cfw).fn f3, r2, hfr ω2 ω3 _ f3.fq c2⟩ (by omega)⟩)
      · have en : nms B n (ruL a l) (lms a l) [] (nxt B n i) f1 = (false, j, f2, vs) := en
        rw [en] at kB
        exact ⟨rfl, kB υ j _ c (g.fq.out.trans fu.out) rfl cf2 (hfr τ υ c fu (hfr σ τ c g.fq hc)) rfl k7⟩
    by_cases fl : full c l = true
    · rw [if_pos fl]
      refine ⟨by omega, fun e => absurd e (by omega), fun _ => ?_⟩
      rw [t8]
      exact c_notF hf rf (fun τ g cf => go τ _ g cf (note_rng (by omega) rf) (by rw [if_pos fl]))
    · rw [if_neg fl]
      exact ⟨by omega, fun _ => go σ fp ⟨fun _ _ => rfl, fun _ _ _ => rfl, rfl⟩ hf rf (by rw [if_neg fl]), fun e => absurd rfl e⟩
/-- all lines from the token at i on -/
def rdP {γ : Type} (a : Nat) (full : γ → Nat → Bool) (keep : γ → Nat → List Int → γ) (B : Nat → Int) (n : Nat) : Nat → Nat → Int × Int → γ → Bool × Nat × (Int × Int) × γ
  | 0, i, fp, c => (true, i, fp, c)
  | d + 1, i, fp, c => if kdA B n i = 0 then (true, i, fp, c) else
    match lineP a full keep B n i fp c with
    | (true, j, f2, c2) => rdP a full keep B n d j f2 c2
    | (false, j, f2, c2) => (false, j, f2, c2)
def en92 (X : PX) (a : Int) (σ : Sg) (Q : Option PV → Sg → Prop) : Prop := InR a ∧ (a ≠ 0 → Q none σ) ∧ (¬ a ≠ 0 → InR (iShr (σ.1 131 11) (σ.1 132 2)) ∧ (iShr (σ.1 131 11) (σ.1 132 2) = 0 → Q none σ) ∧ (¬ iShr (σ.1 131 11) (σ.1 132 2) = 0 → CV X 105 [vR (some 131), vI 4, vI (σ.1 1 1)] σ (fun τ1 => Q none τ1)))
theorem c_loop {γ : Type} {CC : Sg → γ → Prop} {full : γ → Nat → Bool} {keep : γ → Nat → List Int → γ} {L : Nat} {xs : Nat → Int32} {B : Nat → Int} {n a : Nat} {Q : Option PV → Sg → Prop} (ha : a < 3) (n6 : n ≤ 600)
    (hfr : ∀ (σ τ : Sg) (c : γ), FQ σ τ → CC σ c → CC τ c)
    (hfull : ∀ (σ : Sg) (c : γ) (l : Nat) (P : Int → Sg → Prop), l < (lmT a).length → CC σ c → P (if full c l = true then 1 else 0) σ → CI (XX L xs) 96 [vR (some 131), vI a, vI l] σ P)
    (hkeep : ∀ (σ : Sg) (i : Nat) (fp : Int × Int) (c : γ) (l j : Nat) (f1 : Int × Int) (vs : List Int) (P : Sg → Prop), l < (lmT a).length → CC σ c → NV σ vs → vs.length = (lms a l).length → nms B n (ruL a l) (lms a l) [] (nxt B n i) (if full c l = true then note 3 i fp else fp) = (true, j, f1, vs) → f1.1 = 0 → (∀ τ : Sg, Out σ τ 131 145 → (∀ j : Nat, j ≠ 11 → τ.1 131 j = σ.1 131 j) → CC τ (keep c l vs) → P τ) → CV (XX L xs) 94 [vR (some 131), vI a, vI l] σ P) :
    ∀ (d x i : Nat) (fp : Int × Int) (c : γ) (σ : Sg), x + d = 601 → x ≤ i → CS CC σ B n i fp c → fp.1 ≠ 1 →
      (∀ (τ : Sg) (b : Bool) (j : Nat) (f2 : Int × Int) (c2 : γ), Out σ τ 131 145 → rdP a full keep B n d i fp c = (b, j, f2, c2) → CF τ f2 → CC τ c2 → (b = true → CS CC τ B n j f2 c2 ∧ kdA B n j = 0 ∧ f2.1 ≠ 1) → (b = false → f2.1 = 1) → en92 (XX L xs) a τ Q) →
      (∀ (i : Nat) (fp : Int × Int) (c : γ) (j : Nat) (f2 : Int × Int) (c2 : γ), fp.1 ≠ 1 → lineP a full keep B n i fp c = (true, j, f2, c2) → f2.1 ≠ 1) →
      Ev (XX L xs) 92 27 [some (vR (some 131)), some (vI a), some (vI x)] [] σ Q := by
  intro d
  induction d with
  | zero =>
    intro x i fp c σ hx hxi h nf kE hn
    have := h.2.2.1
    omega
  | succ d ih =>
    intro x i fp c σ hx hxi h nf kE hn
    obtain ⟨h1, ht, hi, hf, rf, hc⟩ := id h
    have kr := kdA_rng (B := B) (n := n) (i := i)
    unfold rdP at kE
    refine v_92_27 ?_
    rw [ht.1, hf.1]
    refine ⟨by omega, fun e => absurd e (by omega), fun _ => ⟨by omega, fun k0 => ?_, fun k0 => ⟨by omega, fun e => absurd e nf, fun _ => ?_⟩⟩⟩
    · exact kE σ true i fp c Out.rfl (by rw [if_pos k0]) hf hc (fun _ => ⟨h, k0, nf⟩) (fun e => absurd e (by decide))
    · rw [if_neg k0] at kE
      refine c_line ha hfr hfull (fun σ l j f1 vs P => hkeep σ i fp c l j f1 vs P) h (fun τ j f2 c2 o e cs ij => ?_) (fun τ j f2 c2 o e cf cc f1 k7 => ?_)
      · rw [e] at kE
        rw [show (x : Int) + 1 = ((x + 1 : Nat) : Int) by omega]
        exact ih (x + 1) j f2 c2 τ (by omega) (by omega) cs (hn i fp c j f2 c2 nf e) (fun υ b j3 f3 c3 o3 => kE υ b j3 f3 c3 (o.trans o3)) hn
      · rw [e] at kE
        have kk := kE τ false j f2 c2 o rfl cf cc (fun e => absurd e (by decide)) (fun _ => f1)
        have c3 := cf.1
        have xi : x ≤ 600 := by omega
        exact v_92_27 ⟨by omega, fun _ => kk, fun _ => ⟨by omega, fun _ => kk, fun _ => ⟨by omega, fun _ => kk, fun e => absurd (by omega) e⟩⟩⟩
