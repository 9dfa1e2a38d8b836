/-! MPAIRS: the reference's lines of years and of a log -/
abbrev KQ (cap : Nat) (B : Nat → Int) (n : Nat) (σ : Sg) (P : Sg → Prop) (r : Bool × Nat × (Int × Int) × QCt) : Prop := KL B n (MBQ cap) MCQ σ P r
/-- a DEED or FACT more, and the line's end -/
theorem m_qT {X : PX} {cap : Nat} {cp : Int} {keep : QCt → Nat → List Int → QCt} {σ ρ τ : Sg} {B : Nat → Int} {n j l : Nat} {f2 : Int × Int} {c : QCt} {vs : List Int} {P : Sg → Prop} {r s v w : Int} (hcp : cp = (cap : Int)) (h4 : cap ≤ 40) (f : FZ ρ τ) (m : MTk τ B n j f2) (fr : FR σ ρ) (hb : MBQ cap ρ) (hk : keep c l vs = kq c v w) (hz : f2.1 = 0 → MCQ ρ c ∧ c.1 < cap ∧ r = v ∧ s = w) (K : KQ cap B n σ P (lnE keep l B n c (true, j, f2, vs))) : InR (τ.2 173 0) ∧ pwG X cp r s τ (fun v τ => v = none ∧ P τ) := by
  have b1 := hb.fz f
  obtain ⟨k, ek⟩ : ∃ k : Nat, τ.2 173 0 = k := ⟨(τ.2 173 0).toNat, by have := b1.1; omega⟩
  refine ⟨by have := b1.1; have := b1.2; omega, m_pw hcp ek h4 (fun A a1 a2 a3 => m_eol (MB := MBQ cap) (MC := MCQ) (keep := keep) (c := c) (fun _ _ => MBQ.fz) (fun _ _ _ => MCQ.fz) (m.mv (fun _ _ => rfl) (a1 171 (by omega))) (fr.trans (f.fy.fr.trans (FR.up a1))) (b1.pw a2 a3) (fun z => ?_) K)⟩
  obtain ⟨mc, lc, er, es⟩ := hz z
  have mt : MQA (τ.2 173) c := mc.fz f
  have ck : c.1 = k := by have := mt.1; omega
  rw [hk]
  rw [er, es] at a2
  exact mqa_1 mt (by rw [ck]; exact a2 (by omega))
theorem m_qB {X : PX} {cap : Nat} {cp : Int} {keep : QCt → Nat → List Int → QCt} {σ ρ τ : Sg} {B : Nat → Int} {n j l : Nat} {f2 : Int × Int} {c : QCt} {vs : List Int} {P : Sg → Prop} {r s : Int} (hcp : cp = (cap : Int)) (h4 : cap ≤ 40) (f : FZ ρ τ) (m : MBk τ j) (fr : FR σ ρ) (hb : MBQ cap ρ) (K : KQ cap B n σ P (lnE keep l B n c (false, j, f2, vs))) : InR (τ.2 173 0) ∧ pwG X cp r s τ (fun v τ => v = none ∧ P τ) := by
  have b1 := hb.fz f
  obtain ⟨k, ek⟩ : ∃ k : Nat, τ.2 173 0 = k := ⟨(τ.2 173 0).toNat, by have := b1.1; omega⟩
  exact ⟨by have := b1.1; have := b1.2; omega, m_pw hcp ek h4 (fun A a1 a2 a3 => m_eolB (m.mv rfl (a1 171 (by omega))) (fr.trans (f.fy.fr.trans (FR.up a1))) K)⟩
theorem m_lline {X : PX} {σ : Sg} {B : Nat → Int} {n i : Nat} {fp : Int × Int} {c : QCt} {P : Sg → Prop} (hm : MTk σ B n i fp) (hb : MBQ 8 σ) (hc : fp.1 = 0 → MCQ σ c) (K : KQ 8 B n σ P (lineP 2 (fullQ 8) keepL B n i fp c)) : CV X 183 [vR (some 170)] σ P := by
  have hp : fp.1 ≠ 0 → 0 ≤ fp.2 ∧ fp.2 < i := fun e => hm.2.2.2.2.2.2.2 e
  have t4 : σ.1 170 4 = i := hm.2.2.1.2.1
  have n6 := hm.1.2.1
  refine v_183 (m_wd hm (by omega) (fun il w1 w6 τ f mt => ?_) (fun nw τ f mb => ?_))
  · have hin := is_in il
    have nr := nxt_rng (B := B) hin
    have fr : FR σ τ := f.fy.fr
    have b1 := hb.fz f
    have hc1 : fp.1 = 0 → MCQ τ c := fun z => (hc z).fz f
    have lw := lnTk_w (a := 2) il
    have e11 : wid B i (enA B n i - i) = 11 := by omega
    rw [lineP_l (l := 0) (by rw [lw, e11]; rfl), show lms 2 0 = [6, 99] from rfl, show ruL 2 0 = false from rfl, nms_c] at K
    have hn : fp.1 = 0 → (c.1 : Int) = τ.2 173 0 := fun z => by have := (hc1 z).1; omega
    have go : ∀ υ : Sg, FZ τ υ → MTk υ B n (nxt B n i) (if fullQ 8 c 0 = true then note 3 i fp else fp) → CI X 173 [vR (some 170), vI 0, vI 6] υ (fun r9 τ6 => CI X 173 [vR (some 170), vI 0, vI 99] τ6 (fun r10 τ7 => InR (τ7.2 173 0) ∧ pwG X 8 r9 r10 τ7 (fun v τ => v = none ∧ P τ))) := by
      intro υ g mu
      refine m_two mu (by omega) (by omega) (fun k1 k2 ω h mw => ?_) (fun k1 ω h mb => ?_) (fun k1 k2 ω h mb r => ?_)
      · rw [if_pos k1, nms_c, if_pos k2, nms_e] at K
        refine m_qT (cap := 8) rfl (by omega) (g.trans h) mw fr b1 rfl (fun z => ?_) K
        obtain ⟨z2, l2, e2⟩ := nmF_0 z
        obtain ⟨z1, l1, e1⟩ := nmF_0 z2
        obtain ⟨z0, fl⟩ := full_0 z1
        have := of_decide_eq_false fl
        exact ⟨hc1 z0, by omega, e1, e2⟩
      · rw [if_neg k1] at K
        exact m_qB (cap := 8) rfl (by omega) (g.trans h) mb fr b1 K
      · rw [if_pos k1, nms_c, if_neg k2] at K
        exact m_qB (cap := 8) rfl (by omega) (g.trans h) mb fr b1 K
    obtain ⟨h1, h8, ht, hi, h5, h6, h7, h9⟩ := id mt
    have q1 := b1.1
    have q2 := b1.2
    rw [t4]
    refine ⟨by omega, fun e => absurd h8 e, fun _ => ⟨by omega, fun d => go τ FZ.rfl ?_, fun d => m_also h8 h5 h6 (by omega) (by omega) h7 (fun e => ⟨(hp e).1, Or.inl (hp e).2⟩) (fun υ g => go υ g.fz ?_)⟩⟩
    · rw [full_no (fun z => by
        have := hn z
        exact decide_eq_false (by omega))]
      exact mt
    · rw [full_yes (fun z => by
        have := hn z
        exact decide_eq_true (by omega))]
      exact mt.ff g (by omega) nr.1
  · have ln : lnTk 2 B n i = -1 := by
      by_cases il : isLt (bAt B n i) = true
      · rw [lnTk_w il]
        have : ¬ (11 ≤ wid B i (enA B n i - i) ∧ wid B i (enA B n i - i) ≤ 11) := fun z => nw ⟨il, z⟩
        show lnL _ = -1
        unfold lnL
        rw [if_neg (by omega)]
      · exact if_neg il
    rw [lineP_n ln] at K
    have t8 := mb.1
    have K2 : KQ 8 B n σ P (lnE keepL 0 B n c (false, i, fp, [])) := K
    exact ⟨by omega, fun _ => m_numB mb (m_numB mb (m_qB (cap := 8) rfl (by omega) FZ.rfl mb f.fy.fr (hb.fz f) K2)), fun e => absurd (by omega) e⟩
def dOf (a : Int) : Int := if a = 5 then 3 else if a = 6 then 4 else if a = 10 then 5 else a - 6 - 1
theorem m_deedOf {X : PX} {σ : Sg} {a : Int} {P : Int → Sg → Prop} (ha : InR a) (q : P (dOf a) σ) : CI X 181 [vI a] σ P := by
  unfold dOf at q
  refine v_181 ⟨ha, fun e => ⟨_, rfl, ?_⟩, fun e => ⟨_, rfl, ?_⟩, fun e => ⟨_, rfl, ?_⟩, fun e => ⟨_, rfl, ?_⟩⟩
  · rw [if_pos e] at q; exact q
  · rw [if_neg (by omega), if_pos e] at q; exact q
  · rw [if_neg (by omega), if_neg (by omega), if_pos e] at q; exact q
  · rw [if_neg e.1, if_neg e.2.1, if_neg e.2.2] at q; exact q
theorem dOf_l {w : Int} (h : 5 ≤ w ∧ w ≤ 10) : ∃ l : Nat, l < 6 ∧ dOf w = (l : Int) ∧ lnY w = (l : Int) := by
  rcases (show w = 5 ∨ w = 6 ∨ w = 7 ∨ w = 8 ∨ w = 9 ∨ w = 10 by omega) with e | e | e | e | e | e <;> subst e
  · exact ⟨3, by decide, by decide, by decide⟩
  · exact ⟨4, by decide, by decide, by decide⟩
  · exact ⟨0, by decide, by decide, by decide⟩
  · exact ⟨1, by decide, by decide, by decide⟩
  · exact ⟨2, by decide, by decide, by decide⟩
  · exact ⟨5, by decide, by decide, by decide⟩
def yR (X : PX) (l : Int) (τ : Sg) (Q : Option PV → Sg → Prop) : Prop := InR l ∧ (l ≠ 0 → (3 ≤ l → (5 ≤ l → CI X 173 [vR (some 170), vI 0, vI 9] τ (fun r τ3 => InR (τ3.2 173 0) ∧ pwG X 40 l r τ3 Q)) ∧ (¬ 5 ≤ l → CI X 173 [vR (some 170), vI 0, vI 99] τ (fun r τ3 => InR (τ3.2 173 0) ∧ pwG X 40 l r τ3 Q))) ∧ (¬ 3 ≤ l → CI X 173 [vR (some 170), vI 0, vI 6] τ (fun r τ3 => InR (τ3.2 173 0) ∧ pwG X 40 l r τ3 Q))) ∧ (¬ l ≠ 0 → InR (τ.2 173 0) ∧ pwG X 40 l (-1) τ Q)
theorem lms_y : ∀ l : Nat, l < 6 → lms 1 l = if l = 0 then [] else if l < 3 then [6] else if l < 5 then [99] else [9] := by decide
theorem m_yline {X : PX} {σ : Sg} {B : Nat → Int} {n i : Nat} {fp : Int × Int} {c : QCt} {P : Sg → Prop} (hm : MTk σ B n i fp) (hb : MBQ 40 σ) (hc : fp.1 = 0 → MCQ σ c) (K : KQ 40 B n σ P (lineP 1 (fullQ 40) keepY B n i fp c)) : CV X 182 [vR (some 170)] σ P := by
  have hp : fp.1 ≠ 0 → 0 ≤ fp.2 ∧ fp.2 < i := fun e => hm.2.2.2.2.2.2.2 e
  have t4 : σ.1 170 4 = i := hm.2.2.1.2.1
  have n6 := hm.1.2.1
  refine v_182 (m_wd hm (by omega) (fun il w1 w6 τ f mt => m_deedOf (by omega) ?_) (fun nw τ f mb => m_deedOf (by omega) ?_))
  · have hin := is_in il
    have nr := nxt_rng (B := B) hin
    have fr : FR σ τ := f.fy.fr
    have b1 := hb.fz f
    have hc1 : fp.1 = 0 → MCQ τ c := fun z => (hc z).fz f
    have lw := lnTk_w (a := 1) il
    obtain ⟨l, l6, d1, d2⟩ := dOf_l ⟨w1, w6⟩
    rw [d1, t4]
    rw [lineP_l (l := l) (by rw [lw]; exact d2), lms_y l l6, show ruL 1 l = false from decide_eq_false (by omega)] at K
    have hn : fp.1 = 0 → (c.1 : Int) = τ.2 173 0 := fun z => by have := (hc1 z).1; omega
    have go : ∀ υ : Sg, FZ τ υ → MTk υ B n (nxt B n i) (if fullQ 40 c l = true then note 3 i fp else fp) → yR X l υ (fun v τ => v = none ∧ P τ) := by
      intro υ g mu
      have num : ∀ y : Int, 0 ≤ y ∧ y ≤ 99 → l ≠ 0 → (if l = 0 then [] else if l < 3 then [6] else if l < 5 then [99] else [9]) = [y] → CI X 173 [vR (some 170), vI 0, vI y] υ (fun r τ3 => InR (τ3.2 173 0) ∧ pwG X 40 l r τ3 (fun v τ => v = none ∧ P τ)) := by
        intro y hy l0 ey
        rw [ey, nms_c] at K
        refine m_num mu hy (fun k1 ω h mw => ?_) (fun k1 ω h mb => ?_)
        · rw [if_pos k1, nms_e] at K
          rw [← nmF_nil (ru := false)] at mw
          refine m_qT (cap := 40) (w := vA B n (nxt B n i)) (v := l) rfl (by omega) (g.trans h) mw fr b1 ?_ (fun z => ?_) K
          · unfold keepY; rw [if_neg l0]; rfl
          · obtain ⟨z1, l1, e1⟩ := nmF_0 z
            obtain ⟨z0, fl⟩ := full_0 z1
            have := of_decide_eq_false fl
            exact ⟨hc1 z0, by omega, rfl, e1⟩
        · rw [if_neg k1] at K
          exact m_qB (cap := 40) rfl (by omega) (g.trans h) mb fr b1 K
      refine ⟨by omega, fun l0 => ⟨fun l3 => ⟨fun l5 => num 9 (by omega) (by omega) ?_, fun l5 => num 99 (by omega) (by omega) ?_⟩, fun l3 => num 6 (by omega) (by omega) ?_⟩, fun l0 => ?_⟩
      · rw [if_neg (by omega), if_neg (by omega), if_neg (by omega)]
      · rw [if_neg (by omega), if_neg (by omega), if_pos (by omega)]
      · rw [if_neg (by omega), if_pos (by omega)]
      · have e0 : l = 0 := by omega
        rw [if_pos e0, nms_e] at K
        refine m_qT (cap := 40) (w := -1) (v := l) rfl (by omega) g mu fr b1 ?_ (fun z => ?_) K
        · unfold keepY; rw [if_pos e0]
        · obtain ⟨z0, fl⟩ := full_0 z
          have := of_decide_eq_false fl
          exact ⟨hc1 z0, by omega, rfl, rfl⟩
    obtain ⟨h1, h8, ht, hi, h5, h6, h7, h9⟩ := id mt
    have q1 := b1.1
    have q2 := b1.2
    refine ⟨by omega, fun e => absurd h8 e, fun _ => ⟨by omega, fun d => ?_, fun d => m_also h8 h5 h6 (by omega) (by omega) h7 (fun e => ⟨(hp e).1, Or.inl (hp e).2⟩) (fun υ g => go υ g.fz ?_)⟩⟩
    · have y := go τ FZ.rfl (by
        rw [full_no (fun z => by
          have := hn z
          exact decide_eq_false (by omega))]
        exact mt)
      exact ⟨y.1, y.2.1, fun e => (y.2.2 e).2⟩
    · rw [full_yes (fun z => by
        have := hn z
        exact decide_eq_true (by omega))]
      exact mt.ff g (by omega) nr.1
  · have ln : lnTk 1 B n i = -1 := by
      by_cases il : isLt (bAt B n i) = true
      · rw [lnTk_w il]
        have : ¬ (5 ≤ wid B i (enA B n i - i) ∧ wid B i (enA B n i - i) ≤ 10) := fun z => nw ⟨il, z⟩
        show lnY _ = -1
        unfold lnY
        repeat' split
        all_goals omega
      · exact if_neg il
    rw [lineP_n ln] at K
    have t8 := mb.1
    have K2 : KQ 40 B n σ P (lnE keepY 0 B n c (false, i, fp, [])) := K
    rw [show dOf 0 = -7 from rfl]
    exact ⟨by omega, fun _ => ⟨by omega, fun _ => ⟨fun e => absurd e (by omega), fun _ => m_numB mb (m_qB (cap := 40) rfl (by omega) FZ.rfl mb f.fy.fr (hb.fz f) K2)⟩, fun e => absurd (by omega) e⟩, fun e => absurd (by omega) e⟩
