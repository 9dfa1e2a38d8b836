/-! MLINES: a line of each sort -/
theorem lnTk_w {a i n : Nat} {B : Nat → Int} (il : isLt (bAt B n i) = true) : lnTk a B n i = lnW a (wid B i (enA B n i - i)) := if_pos il
theorem is_in {i n : Nat} {B : Nat → Int} (il : isLt (bAt B n i) = true) : i < n := by
  by_cases z : i < n
  · exact z
  · rw [bAt_n z] at il; exact absurd il (by decide)
theorem m_pline {X : PX} {σ : Sg} {B : Nat → Int} {n i : Nat} {fp : Int × Int} {c : PCt} {P : Sg → Prop} (hm : MTk σ B n i fp) (hb : MBP σ) (hc : fp.1 = 0 → MCP σ c) (K : KP B n σ P (lineP 0 fullP keepP B n i fp c)) : CV X 180 [vR (some 170)] σ P := by
  have hp : fp.1 ≠ 0 → fp.2 < i := fun e => (hm.2.2.2.2.2.2.2 e).2
  have t4 : σ.1 170 4 = i := hm.2.2.1.2.1
  refine v_180 (m_wd hm (by omega) (fun il w1 w6 τ f mt => ?_) (fun nw τ f mb => ?_))
  · have hin := is_in il
    have fr : FR σ τ := f.fy.fr
    have b1 := hb.fz f
    have hc1 : fp.1 = 0 → MCP τ c := fun z => (hc z).fz f
    have t8 := mt.2.1
    have lw := lnTk_w (a := 0) il
    rw [t4]
    generalize wid B i (enA B n i - i) = w at w1 w6 lw ⊢
    have nof : ∀ l : Nat, l < 3 → fullP c l = false := fun l hl => by unfold fullP; exact decide_eq_false (by omega)
    have put : ∀ (υ : Sg) (j : Nat) (x : Int), ∀ d : Nat, d ≠ 173 → up2 υ.2 173 j x d = υ.2 d := fun υ j x d hd => up2_ne _ _ _ hd
    refine ⟨by omega, fun _ => ⟨by omega, fun e => ?_, fun e => ?_, fun e => ?_, fun e => ?_, fun e => ?_, fun e => ?_, fun e => absurd e (by omega)⟩, fun e => absurd t8 e⟩
    · -- office
      rw [lineP_l (l := 2) (by rw [lw, e]; rfl), nof 2 (by omega), if_neg (by decide), show lms 0 2 = [6] from rfl, show ruL 0 2 = false from rfl, nms_c] at K
      refine m_house mt b1.2.2 (fun k1 υ g mu h9 e9 => ?_) (fun k1 υ g mb h9 => ?_)
      · rw [if_pos k1, nms_e] at K
        rw [← nmF_nil (ru := false)] at mu
        have v1 := vA_rng k1
        have e3 : υ.2 173 = τ.2 173 := g.2.2.1 173 (by omega)
        refine m_eol (MB := MBP) (MC := MCP) (keep := keepP) (c := c) (fun _ _ => MBP.fz) (fun _ _ _ => MCP.fz) (mu.mv (fun _ _ => rfl) (put υ 4 (iOr (τ.2 173 4) (iShl 1 (nV B n 6 (nxt B n i)))) 171 (by omega))) (fr.trans (g.fr.trans (FR.up (put υ 4 (iOr (τ.2 173 4) (iShl 1 (nV B n 6 (nxt B n i)))))))) ?_ (fun z => ?_) K
        · unfold MBP at b1 ⊢
          dsimp only
          rw [up2_if, if_neg (by omega), up2_if, if_neg (by omega), e3]
          exact ⟨b1.1, b1.2.1, h9⟩
        · obtain ⟨z1, l1, e1⟩ := nmF_0 z
          have mc : MCA (τ.2 173) (τ.1 170 9) c := hc1 z1
          have h27 : c.1 2 ≤ 7 := by have := mc.1.2.2.1; have := b1.1; omega
          show MCA ((up2 υ.2 173 4 (iOr (τ.2 173 4) (iShl 1 (nV B n 6 (nxt B n i))))) 173) (υ.1 170 9) _
          rw [up2_at, e3, e9, e1]
          exact mca_2 mc h27 ⟨v1.1, l1⟩
      · rw [if_neg k1] at K
        exact m_eolB (mb.mv rfl (put υ 4 (iOr (τ.2 173 4) (iShl 1 0)) 171 (by omega))) (fr.trans (g.fr.trans (FR.up (put υ 4 (iOr (τ.2 173 4) (iShl 1 0)))))) K
    · -- house
      rw [lineP_l (l := 3) (by rw [lw, e]; rfl)] at K
      exact m_hline mt hp hin fr b1 hc1 K
    · -- tie
      rw [lineP_l (l := 4) (by rw [lw, e]; rfl)] at K
      exact ⟨fun _ => m_rline (pa := false) mt hp hin fr b1 hc1 K, fun d => absurd (by omega) d⟩
    · -- pact
      rw [lineP_l (l := 5) (by rw [lw, e]; rfl)] at K
      exact ⟨fun d => absurd e d, fun _ => m_rline (pa := true) mt hp hin fr b1 hc1 K⟩
    · -- quota
      rw [lineP_l (l := 0) (by rw [lw, e]; rfl), nof 0 (by omega), if_neg (by decide), show lms 0 0 = [99] from rfl, show ruL 0 0 = false from rfl, nms_c] at K
      refine m_num mt (by omega) (fun k1 υ g mu => ?_) (fun k1 υ g mb => ?_)
      · rw [if_pos k1, nms_e] at K
        rw [← nmF_nil (ru := false)] at mu
        have v1 := vA_rng k1
        have e3 : υ.2 173 = τ.2 173 := g.2.2.1 173 (by omega)
        refine m_eol (MB := MBP) (MC := MCP) (keep := keepP) (c := c) (fun _ _ => MBP.fz) (fun _ _ _ => MCP.fz) (mu.mv (fun _ _ => rfl) (put υ 0 (nV B n 99 (nxt B n i)) 171 (by omega))) (fr.trans (g.fy.fr.trans (FR.up (put υ 0 (nV B n 99 (nxt B n i)))))) ?_ (fun z => ?_) K
        · have b2 := b1.fz g
          unfold MBP H9 at b2 ⊢
          dsimp only
          rw [up2_if, if_neg (by omega), up2_if, if_neg (by omega)]
          exact b2
        · obtain ⟨z1, l1, e1⟩ := nmF_0 z
          have mc : MCA (υ.2 173) (υ.1 170 9) c := (hc1 z1).fz g
          have h27 : c.1 2 ≤ 7 := by have := mc.1.2.2.1; have := (b1.fz g).1; omega
          show MCA ((up2 υ.2 173 0 (nV B n 99 (nxt B n i))) 173) (υ.1 170 9) _
          rw [up2_at, e1]
          exact mca_0 mc h27 v1.1
      · rw [if_neg k1] at K
        exact m_eolB (mb.mv rfl (put υ 0 0 171 (by omega))) (fr.trans (g.fy.fr.trans (FR.up (put υ 0 0)))) K
    · -- price
      rw [lineP_l (l := 1) (by rw [lw, e]; rfl), nof 1 (by omega), if_neg (by decide), show lms 0 1 = [99] from rfl, show ruL 0 1 = false from rfl, nms_c] at K
      refine m_num mt (by omega) (fun k1 υ g mu => ?_) (fun k1 υ g mb => ?_)
      · rw [if_pos k1, nms_e] at K
        rw [← nmF_nil (ru := false)] at mu
        have v1 := vA_rng k1
        refine m_eol (MB := MBP) (MC := MCP) (keep := keepP) (c := c) (fun _ _ => MBP.fz) (fun _ _ _ => MCP.fz) (mu.mv (fun _ _ => rfl) (put υ 1 (nV B n 99 (nxt B n i)) 171 (by omega))) (fr.trans (g.fy.fr.trans (FR.up (put υ 1 (nV B n 99 (nxt B n i)))))) ?_ (fun z => ?_) K
        · have b2 := b1.fz g
          unfold MBP H9 at b2 ⊢
          dsimp only
          rw [up2_if, if_neg (by omega), up2_if, if_neg (by omega)]
          exact b2
        · obtain ⟨z1, l1, e1⟩ := nmF_0 z
          have mc : MCA (υ.2 173) (υ.1 170 9) c := (hc1 z1).fz g
          have h27 : c.1 2 ≤ 7 := by have := mc.1.2.2.1; have := (b1.fz g).1; omega
          show MCA ((up2 υ.2 173 1 (nV B n 99 (nxt B n i))) 173) (υ.1 170 9) _
          rw [up2_at, e1]
          exact mca_1 mc h27 v1.1
      · rw [if_neg k1] at K
        exact m_eolB (mb.mv rfl (put υ 1 0 171 (by omega))) (fr.trans (g.fy.fr.trans (FR.up (put υ 1 0)))) K
  · have ln : lnTk 0 B n i = -1 := by
      by_cases il : isLt (bAt B n i) = true
      · rw [lnTk_w il]
        have : ¬ (1 ≤ wid B i (enA B n i - i) ∧ wid B i (enA B n i - i) ≤ 6) := fun z => nw ⟨il, z⟩
        unfold lnW
        rw [if_pos rfl]
        unfold lnP
        repeat' split
        all_goals omega
      · exact if_neg il
    rw [lineP_n ln] at K
    have t8 := mb.1
    have nd : CV X 175 [vR (some 170)] τ (fun τ => (none : Option PV) = none ∧ P τ) := m_semiB mb ⟨rfl, K.2 τ f.fy.fr rfl mb⟩
    exact ⟨by omega, fun e => absurd e (by omega), fun _ => ⟨fun e => absurd e (by omega), fun e => absurd e (by omega), fun e => absurd e (by omega), fun e => absurd e (by omega), fun e => absurd e (by omega), fun e => absurd e (by omega), fun _ => nd⟩⟩
/-! DEEDS and FACTS -/
abbrev QCt : Type := Nat × (Nat → Nat → Int)
def kq (c : QCt) (v w : Int) : QCt := (c.1 + 1, up2 (up2 c.2 0 c.1 v) 1 c.1 w)
def fullQ (cap : Nat) (c : QCt) (_ : Nat) : Bool := decide (cap ≤ c.1)
def keepY (c : QCt) (l : Nat) (vs : List Int) : QCt := kq c l (if l = 0 then -1 else vs.getD 0 0)
def keepL (c : QCt) (_ : Nat) (vs : List Int) : QCt := kq c (vs.getD 0 0) (vs.getD 1 0)
def MQA (A : Nat → Int) (c : QCt) : Prop := A 0 = c.1 ∧ ∀ k : Nat, k < c.1 → A (1 + 2 * k) = c.2 0 k ∧ A (2 + 2 * k) = c.2 1 k
theorem mqa_1 {A A' : Nat → Int} {v w : Int} {c : QCt} (h : MQA A c) (hA : ∀ j : Nat, A' j = if j = 0 then (c.1 : Int) + 1 else if j = 2 + 2 * c.1 then w else if j = 1 + 2 * c.1 then v else A j) : MQA A' (kq c v w) := by
  obtain ⟨h0, h1⟩ := h
  unfold kq MQA
  dsimp only
  refine ⟨?_, fun k hk => ?_⟩
  · rw [hA, if_pos rfl]; omega
  · rw [up2_ne _ _ _ (show (0 : Nat) ≠ 1 by omega), up2_if, up2_if, up2_ne _ _ _ (show (1 : Nat) ≠ 0 by omega), hA, hA]
    by_cases e : k = c.1
    · rw [if_pos e, if_pos e, if_neg (by omega), if_neg (by omega), if_pos (by omega), if_neg (by omega), if_pos (by omega)]; exact ⟨rfl, rfl⟩
    · rw [if_neg e, if_neg e, if_neg (by omega), if_neg (by omega), if_neg (by omega), if_neg (by omega), if_neg (by omega), if_neg (by omega)]; exact h1 k (by omega)
def MBQ (cap : Nat) (σ : Sg) : Prop := 0 ≤ σ.2 173 0 ∧ σ.2 173 0 ≤ cap
def MCQ (σ : Sg) (c : QCt) : Prop := MQA (σ.2 173) c
theorem MBQ.fz {cap : Nat} {σ τ : Sg} (f : FZ σ τ) (h : MBQ cap σ) : MBQ cap τ := by
  unfold MBQ at h ⊢; rw [f.2.2.1 173 (by omega)]; exact h
theorem MCQ.fz {σ τ : Sg} {c : QCt} (f : FZ σ τ) (h : MCQ σ c) : MCQ τ c := by
  unfold MCQ at h ⊢; rw [f.2.2.1 173 (by omega)]; exact h
def pwG (X : PX) (cap : Int) (r s : Int) (τ : Sg) (Q : Option PV → Sg → Prop) : Prop := (cap ≤ τ.2 173 0 → CV X 175 [vR (some 170)] τ (fun τ4 => Q none τ4)) ∧ (¬ cap ≤ τ.2 173 0 → (0 ≤ 1 + (2 * (τ.2 173 0)) ∧ 1 + (2 * (τ.2 173 0)) < 81) ∧ (0 ≤ 2 + (2 * ((up2 τ.2 173 (1 + (2 * (τ.2 173 0))).toNat r) 173 0)) ∧ 2 + (2 * ((up2 τ.2 173 (1 + (2 * (τ.2 173 0))).toNat r) 173 0)) < 81) ∧ CV X 175 [vR (some 170)] (τ.1, up2 (up2 (up2 τ.2 173 (1 + (2 * (τ.2 173 0))).toNat r) 173 (2 + (2 * ((up2 τ.2 173 (1 + (2 * (τ.2 173 0))).toNat r) 173 0))).toNat s) 173 0 (((up2 (up2 τ.2 173 (1 + (2 * (τ.2 173 0))).toNat r) 173 (2 + (2 * ((up2 τ.2 173 (1 + (2 * (τ.2 173 0))).toNat r) 173 0))).toNat s) 173 0) + 1)) (fun τ5 => Q none τ5))
theorem m_pw {X : PX} {cap : Nat} {cp : Int} {r s : Int} {τ : Sg} {Q : Option PV → Sg → Prop} {k : Nat} (hcp : cp = (cap : Int)) (hk : τ.2 173 0 = k) (h4 : cap ≤ 40) (q : ∀ A : Nat → Nat → Int, (∀ c : Nat, c ≠ 173 → A c = τ.2 c) → (k < cap → ∀ j : Nat, A 173 j = if j = 0 then (k : Int) + 1 else if j = 2 + 2 * k then s else if j = 1 + 2 * k then r else τ.2 173 j) → (¬ k < cap → A = τ.2) → CV X 175 [vR (some 170)] (τ.1, A) (fun τ5 => Q none τ5)) : pwG X cp r s τ Q := by
  unfold pwG
  rw [hk, hcp]
  refine ⟨fun c => q τ.2 (fun _ _ => rfl) (fun d => absurd d (by omega)) (fun _ => rfl), fun c => ?_⟩
  rw [show (1 + 2 * (k : Int)).toNat = 1 + 2 * k by omega]
  have z : up2 τ.2 173 (1 + 2 * k) r 173 0 = k := by rw [up2_if, if_neg (by omega), hk]
  rw [z, show (2 + 2 * (k : Int)).toNat = 2 + 2 * k by omega]
  have z2 : up2 (up2 τ.2 173 (1 + 2 * k) r) 173 (2 + 2 * k) s 173 0 = k := by rw [up2_if, if_neg (by omega), z]
  rw [z2]
  exact ⟨⟨by omega, by omega⟩, ⟨by omega, by omega⟩, q _ (fun c hc => by rw [up2_ne _ _ _ hc, up2_ne _ _ _ hc, up2_ne _ _ _ hc]) (fun _ j => by rw [up2_if, up2_if, up2_if]) (fun d => absurd (by omega) d)⟩
theorem MBQ.pw {cap : Nat} {τ : Sg} {A : Nat → Nat → Int} {r s : Int} {k : Nat} (h : MBQ cap τ) (a2 : k < cap → ∀ j : Nat, A 173 j = if j = 0 then (k : Int) + 1 else if j = 2 + 2 * k then s else if j = 1 + 2 * k then r else τ.2 173 j) (a3 : ¬ k < cap → A = τ.2) : MBQ cap (τ.1, A) := by
  by_cases c : k < cap
  · unfold MBQ; dsimp only; rw [a2 c, if_pos rfl]; omega
  · rw [a3 c]; exact h
