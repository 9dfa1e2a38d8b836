/-! text -/
theorem c_grow {X : PX} {σ : Sg} {a : Nat} {x : Int} {P : Sg → Prop} (ha : a < 3) (hx : InR x) (hc : 0 ≤ σ.2 6 a ∧ σ.2 6 a ≤ 2) (q : ∀ χ : Sg, χ.1 = σ.1 → (∀ c : Nat, c ≠ 6 → χ.2 c = σ.2 c) → (∀ t : Nat, t ≠ a → χ.2 6 t = σ.2 6 t) → χ.2 6 a = (if x ≤ σ.2 6 a then σ.2 6 a else x) → P χ) : CV X 117 [vR (some 1), vI a, vI x] σ P := by
  refine v_117 (by decide) ?_
  rw [Int.toNat_natCast]
  refine ⟨by omega, fun e => absurd e (by omega), fun _ => ⟨fun e => absurd e (by omega), fun _ => ⟨by omega, ⟨by show -2147483648 ≤ σ.2 6 a; omega, by show σ.2 6 a < 2147483648; omega⟩, hx, fun c => ⟨rfl, q σ rfl (fun _ _ => rfl) (fun _ _ => rfl) ?_⟩, fun c => ⟨rfl, q _ rfl (fun d hd => up2_ne _ _ _ hd) (fun t ht => ?_) ?_⟩⟩⟩⟩
  · rw [if_pos (show x ≤ σ.2 6 a from c)]
  · show up2 σ.2 6 a x 6 t = _
    rw [up2_if, if_neg ht]
  · rw [if_neg (show ¬ x ≤ σ.2 6 a from c)]
    show up2 σ.2 6 a x 6 a = x
    rw [up2_get]
def NEWP (s : Nat) (χ : Sg) (c : PCt) : Prop := (∀ j : Nat, j < 5 → χ.1 (7 + 13 * s) j = c.1 j) ∧ (∀ h : Nat, h < c.1 2 → χ.2 (7 + 13 * s + 1) h = c.2 0 h ∧ χ.2 (7 + 13 * s + 2) h = c.2 1 h) ∧ (∀ r : Nat, r < c.1 4 → χ.2 (7 + 13 * s + 3) r = c.2 2 r ∧ χ.2 (7 + 13 * s + 4) r = c.2 3 r ∧ χ.2 (7 + 13 * s + 5) r = c.2 4 r ∧ χ.2 (7 + 13 * s + 6) r = (ndI (c.2 3 r) (c.2 4 r) : Nat)) ∧ OKP c
theorem c_copyP {X : PX} {s : Nat} {τ : Sg} {c2 : PCt} {P : Sg → Prop} (hs : s < 2) (h : CCP τ c2) (hc : 0 ≤ τ.2 6 0 ∧ τ.2 6 0 ≤ 2) (q : ∀ χ : Sg, (∀ c : Nat, ¬ (clO 0 s ≤ c ∧ c < clO 0 s + clW 0) → χ.1 c = τ.1 c) → (∀ c : Nat, ¬ (clO 0 s ≤ c ∧ c < clO 0 s + clW 0) → c ≠ 6 → χ.2 c = τ.2 c) → (∀ t : Nat, t ≠ 0 → χ.2 6 t = τ.2 6 t) → χ.2 6 0 = (if (s : Int) + 1 ≤ τ.2 6 0 then τ.2 6 0 else (s : Int) + 1) → NEWP s χ c2 → P χ) : CV X 123 [vR (some 0), vI (0 : Nat), vI s] τ P := by
  obtain ⟨⟨h0, h1, h2, h3, h4, h5⟩, h6, h7, ok⟩ := id h
  have o2 := ok.2.2.1
  have o4 := ok.2.2.2.1
  have mem : 7 + 13 * s ∈ parL ∧ 7 + 13 * s ≠ 132 := by
    rcases (show s = 0 ∨ s = 1 by omega) with e | e <;> subst e <;> decide
  have e0 : clO 0 s = 7 + 13 * s := rfl
  have e7 : clW 0 = 7 := rfl
  rw [e0, e7] at q
  refine v_123 ⟨by omega, fun e => absurd e (by omega), fun _ => ⟨fun _ => ⟨by omega, fun e => absurd rfl e, fun _ => ⟨by omega, ?_⟩⟩, fun e => absurd (by omega) e⟩⟩
  rw [Int.toNat_natCast]
  refine c_pcopy mem.1 (by decide) mem.2 (by omega) (by omega) (fun υ y1 y2 y3 y4 y5 => ?_)
  have c6 : υ.2 6 = τ.2 6 := y3 6 (by omega)
  refine c_grow (a := 0) (by omega) (by omega) (by rw [c6]; exact hc) (fun χ z1 z2 z3 z4 => ⟨rfl, q χ (fun c hc => ?_) (fun c hc h6 => ?_) (fun t ht => ?_) ?_ ⟨fun j hj => ?_, fun k hk => ?_, fun r hr => ?_, ok⟩⟩)
  · rw [z1]; exact y1 c (by omega)
  · rw [z2 c h6]; exact y3 c (by omega)
  · rw [z3 t ht, c6]
  · rw [z4, c6]
  · rw [z1, y2 j hj]
    rcases (show j = 0 ∨ j = 1 ∨ j = 2 ∨ j = 3 ∨ j = 4 by omega) with e | e | e | e | e <;> subst e
    · exact h0
    · exact h1
    · exact h2
    · exact h3
    · exact h4
  · have a := y4 k (by omega)
    rw [z2 _ (by omega), z2 _ (by omega), a.1, a.2]
    exact h6 k hk
  · have a := y5 r (by omega)
    rw [z2 _ (by omega), z2 _ (by omega), z2 _ (by omega), z2 _ (by omega), a.1, a.2.1, a.2.2.1, a.2.2.2]
    exact h7 r hr
theorem c_enP {X : PX} {τ : Sg} {f2 : Int × Int} {c2 : PCt} {n : Nat} {P : Sg → Prop} (cf : CF τ f2) (cc : CCP τ c2) (t : τ.1 1 1 = n) (g : GF n f2) (k : ∀ υ : Sg, FG τ υ → CF υ (finP n f2 c2) → P υ) : en92 X (0 : Nat) τ (fun v τ => v = none ∧ P τ) := by
  obtain ⟨⟨h0, h1, h2, h3, h4, h5⟩, h6, h7, ok⟩ := id cc
  have o2 := ok.2.2.1
  have o5 := ok.2.2.2.2.2.1
  have sh : iShr (τ.1 131 11) (τ.1 132 2) = ((c2.1 5 / 2 ^ (c2.1 2) : Nat) : Int) := by rw [h5, h2]; exact b_shr (by omega) (by omega)
  have dl := Nat.div_le_self (c2.1 5) (2 ^ (c2.1 2))
  generalize hd : c2.1 5 / 2 ^ (c2.1 2) = d at sh dl
  unfold en92
  rw [sh, t]
  refine ⟨by omega, fun e => absurd rfl e, fun _ => ⟨by omega, fun z => ⟨rfl, k τ ⟨fun _ _ => rfl, fun _ _ _ => rfl, rfl⟩ ?_⟩, fun z => c_notF cf g.1 (fun υ f cu => ⟨rfl, k υ f ?_⟩)⟩⟩
  · unfold finP
    rw [if_neg (fun w => by have := Nat.div_pos w (Nat.two_pow_pos _); rw [hd] at this; omega)]
    exact cf
  · unfold finP
    rw [if_pos (Decidable.not_not.mp (fun w => z (by rw [← hd, Nat.div_eq_of_lt (by omega)]; rfl)))]
    exact cu
def c0P : PCt := (fun j => if j < 2 then 10 else 0, fun _ _ => 0)
theorem c0P_c {σ : Sg} (h : IN0 σ) : CCP σ c0P := by
  obtain ⟨⟨a0, a1, a2, a3, a4⟩, a5, -, -⟩ := h
  refine ⟨⟨a0, a1, a2, a3, a4, a5⟩, fun h hh => absurd hh (by show ¬ h < 0; omega), fun h hh => absurd hh (by show ¬ h < 0; omega), by decide, by decide, by decide, by decide, by decide, by decide, fun h hh => absurd hh (by show ¬ h < 0; omega), fun h hh => absurd hh (by show ¬ h < 0; omega), fun h hh => ⟨hh, fun r hr => absurd hr (by show ¬ r < 0; omega)⟩⟩
theorem c0P_m {σ : Sg} (h : ∀ j : Nat, j < 81 → σ.2 173 j = if 0 = 0 ∧ j < 2 then 10 else 0) (h9 : σ.1 170 9 = -1) : MBP σ ∧ MCP σ c0P := by
  have a : ∀ j : Nat, 2 ≤ j → j < 81 → σ.2 173 j = 0 := fun j h1 h2 => by rw [h j h2, if_neg (by omega)]
  have a0 : σ.2 173 0 = 10 := by rw [h 0 (by omega), if_pos (by omega)]
  have a1 : σ.2 173 1 = 10 := by rw [h 1 (by omega), if_pos (by omega)]
  have a2 := a 2 (by omega) (by omega)
  have a3 := a 3 (by omega) (by omega)
  have a4 := a 4 (by omega) (by omega)
  refine ⟨⟨by omega, by omega, by unfold H9; omega⟩, ⟨a0, a1, a2, a3, a4⟩, by decide, fun h hh => absurd hh (by show ¬ h < 0; omega), fun h hh => by rw [a _ (by omega) (by omega)]; omega, fun h hh => absurd hh (by show ¬ h < 0; omega), fun k => ?_⟩
  rw [h9]
  exact ⟨fun _ => by omega, fun _ => Nat.two_pow_pos k⟩
theorem s_textP {L : Nat} {xs : Nat → Int32} {s : Nat} {b : Int} {σ : Sg} (hs2 : s < 2) (hb : InR b) (hR : Rel σ) (hs : slO (σ.2 6 0) b = (s : Int)) : CI (XX L xs) 122 [vR (some 0), vI (0 : Nat), vI b] σ (fun r τ => CI (XX L xs) 187 [vR (some 170), vI (0 : Nat), vI b] τ (fun r2 υ => r2 = r ∧ InR r ∧ Rel υ)) := by
  have t1 := hR.1.1
  obtain ⟨n, en⟩ : ∃ n : Nat, σ.1 1 1 = n := ⟨(σ.1 1 1).toNat, by omega⟩
  refine s_textG (CC := CCP) (MB := MBP) (MC := MCP) (NEW := NEWP s) (full := fullP) (keep := keepP) (fin := finP n) (c0 := c0P) (B := σ.2 2) (n := n) (a := 0) (by omega) hs2 hb hR rfl en (fun _ _ _ f h => h.fq f) (fun _ _ _ _ hl h q => c_fullP hl h q) (fun σ i fp c l j f1 vs P hl h nv vl e z k => c_keepP hl h nv vl e z k) (fun _ h => c0P_c h) (fun σ τ c f1 f2 h => ?_) (fun _ _ _ _ cf cc t g k => c_enP cf cc t g k) (fun f2 c2 g => ?_) (fun σ i fp c P h1 h2 h3 h4 => m_pline h1 h2 h3 h4) (fun _ h h9 => c0P_m h h9) (fun τ b2 j f2 c2 Q g hT hF q1 q2 => m_tlP g hT hF q1 q2) hs (fun τ c2 P h hc q => c_copyP hs2 h hc q) (fun χ υ μ f2 c2 z nw fc mc wn => ⟨fun _ => ?_, fun e => absurd e (by omega), fun e => absurd e (by omega)⟩)
  · unfold CCP at h ⊢
    rw [f1 132 (by omega), f1 131 (by omega), f2]; exact h
  · unfold finP
    split
    · exact g.nt (by omega) (by omega)
    · exact g
  · obtain ⟨w1, w2, w3, ok⟩ := nw
    have fc : ∀ c : Nat, 7 + 13 * s ≤ c → c < 7 + 13 * s + 7 → υ.1 c = χ.1 c ∧ υ.2 c = χ.2 c := fc
    have hm : c2.1 5 < 2 ^ c2.1 2 := by
      by_cases w : 2 ^ c2.1 2 ≤ c2.1 5
      · unfold finP at z
        rw [if_pos w] at z
        exact absurd z (note_ne (by omega))
      · omega
    refine PR.of (c := c2) (A := μ.2 173) (x := μ.1 170 9) (fun j hj => ?_) (fun h hh => ?_) (fun r hr => ?_) wn mc ok hm
    · rw [(fc _ (by omega) (by omega)).1]; exact w1 j hj
    · rw [(fc (7 + 13 * s + 1) (by omega) (by omega)).2, (fc (7 + 13 * s + 2) (by omega) (by omega)).2]; exact w2 h hh
    · rw [(fc (7 + 13 * s + 3) (by omega) (by omega)).2, (fc (7 + 13 * s + 4) (by omega) (by omega)).2, (fc (7 + 13 * s + 5) (by omega) (by omega)).2, (fc (7 + 13 * s + 6) (by omega) (by omega)).2]; exact w3 r hr
def NEWQ (q cap : Nat) (ok : Int → Int → Prop) (χ : Sg) (c : QCt) : Prop := (χ.1 q 0 = c.1 ∧ c.1 ≤ cap) ∧ ∀ k : Nat, k < c.1 → (χ.2 (q + 1) k = c.2 0 k ∧ χ.2 (q + 2) k = c.2 1 k) ∧ ok (c.2 0 k) (c.2 1 k)
def c0Q : QCt := (0, fun _ _ => 0)
/-- DEEDS or FACTS are copied -/
theorem c_copyQ {X : PX} {s a q0 cap : Nat} {ok : Int → Int → Prop} {τ : Sg} {c2 : QCt} {P : Sg → Prop} (hs : s < 2) (ha : a = 1 ∧ q0 = 139 ∧ cap = 40 ∨ a = 2 ∧ q0 = 142 ∧ cap = 8) (h : CCQ q0 cap ok τ c2) (hc : 0 ≤ τ.2 6 a ∧ τ.2 6 a ≤ 2) (q : ∀ χ : Sg, (∀ c : Nat, ¬ (clO a s ≤ c ∧ c < clO a s + clW a) → χ.1 c = τ.1 c) → (∀ c : Nat, ¬ (clO a s ≤ c ∧ c < clO a s + clW a) → c ≠ 6 → χ.2 c = τ.2 c) → (∀ t : Nat, t ≠ a → χ.2 6 t = τ.2 6 t) → χ.2 6 a = (if (s : Int) + 1 ≤ τ.2 6 a then τ.2 6 a else (s : Int) + 1) → NEWQ (clO a s) cap ok χ c2 → P χ) : CV X 123 [vR (some 0), vI a, vI s] τ P := by
  obtain ⟨⟨h0, h1⟩, h2⟩ := id h
  have a3 : a < 3 := by omega
  have e3 : clW a = 3 := by rcases ha with ⟨e, -⟩ | ⟨e, -⟩ <;> subst e <;> rfl
  have mem : clO a s ∈ paiL ∧ clO a s ≠ q0 ∧ q0 ∈ paiL ∧ 7 ≤ clO a s ∧ clO a s ≤ 30 := by
    rcases ha with ⟨e, e2, -⟩ | ⟨e, e2, -⟩ <;> subst e <;> subst e2 <;> rcases (show s = 0 ∨ s = 1 by omega) with e | e <;> subst e <;> decide
  obtain ⟨m1, m2, m3, m4, m5⟩ := mem
  rw [e3] at q
  have go : CV X 76 [vR (some (clO a s)), vR (some q0)] τ (fun τ1 => CV X 117 [vR (some 1), vI a, vI ((s : Int) + 1)] τ1 (fun τ2 => (none : Option PV) = none ∧ P τ2)) := by
    refine c_qcopy m1 m3 m2 (by omega) (fun υ y1 y2 y3 => ?_)
    have c6 : υ.2 6 = τ.2 6 := y2 6 (by omega) (by omega)
    refine c_grow a3 (by omega) (by rw [c6]; exact hc) (fun χ z1 z2 z3 z4 => ⟨rfl, q χ (fun c hc => ?_) (fun c hc h6 => ?_) (fun t ht => ?_) ?_ ⟨⟨?_, h1⟩, fun k hk => ?_⟩⟩)
    · rw [z1, y1, up2_ne _ _ _ (by omega)]
    · rw [z2 c h6]; exact y2 c (by omega) (by omega)
    · rw [z3 t ht, c6]
    · rw [z4, c6]
    · rw [z1, y1, up2_get]; exact h0
    · have b := y3 k (by omega)
      rw [z2 _ (by omega), z2 _ (by omega), b.1, b.2]
      exact h2 k hk
  refine v_123 ⟨by omega, fun e => absurd e (by omega), fun _ => ⟨fun _ => ⟨by omega, fun _ => ⟨fun e1 => ⟨by omega, ?_⟩, fun e1 => ⟨by omega, ?_⟩⟩, fun e => absurd (by omega) e⟩, fun e => absurd (by omega) e⟩⟩
  · rw [Int.toNat_natCast]
    have e : clO a s = 17 + 13 * s ∧ q0 = 142 := by
      rcases ha with ⟨e, -⟩ | ⟨e, e2, -⟩
      · omega
      · subst e; exact ⟨rfl, e2⟩
    rw [e.1, e.2] at go; exact go
  · rw [Int.toNat_natCast]
    have e : clO a s = 14 + 13 * s ∧ q0 = 139 := by
      rcases ha with ⟨e, e2, -⟩ | ⟨e, -⟩
      · subst e; exact ⟨rfl, e2⟩
      · omega
    rw [e.1, e.2] at go; exact go
theorem c0Q_m {cap a : Nat} {σ : Sg} (ha : a ≠ 0) (h : ∀ j : Nat, j < 81 → σ.2 173 j = if a = 0 ∧ j < 2 then 10 else 0) : MBQ cap σ ∧ MCQ σ c0Q := by
  have a0 : σ.2 173 0 = 0 := by rw [h 0 (by omega), if_neg (fun e => ha e.1)]
  exact ⟨⟨by omega, by omega⟩, a0, fun k hk => absurd hk (by show ¬ k < 0; omega)⟩
theorem s_textY {L : Nat} {xs : Nat → Int32} {s : Nat} {b : Int} {σ : Sg} (hs2 : s < 2) (hb : InR b) (hR : Rel σ) (hs : slO (σ.2 6 1) b = (s : Int)) : CI (XX L xs) 122 [vR (some 0), vI (1 : Nat), vI b] σ (fun r τ => CI (XX L xs) 187 [vR (some 170), vI (1 : Nat), vI b] τ (fun r2 υ => r2 = r ∧ InR r ∧ Rel υ)) := by
  have t1 := hR.1.1
  obtain ⟨n, en⟩ : ∃ n : Nat, σ.1 1 1 = n := ⟨(σ.1 1 1).toNat, by omega⟩
  refine s_textG (CC := CCY) (MB := MBQ 40) (MC := MCQ) (NEW := NEWQ (clO 1 s) 40 okD) (full := fullQ 40) (keep := keepY) (fin := fun f _ => f) (c0 := c0Q) (B := σ.2 2) (n := n) (a := 1) (by omega) hs2 hb hR rfl en (fun _ _ _ f h => h.fq (by omega) (by omega) f) (fun _ _ _ _ hl h q => c_fullY h q) (fun σ i fp c l j f1 vs P hl h nv vl e z k => c_keepY hl h nv vl e z k) (fun _ h => ⟨⟨h.2.2.1, by decide⟩, fun k hk => absurd hk (by show ¬ k < 0; omega)⟩) (fun σ τ c f1 f2 h => ?_) (fun τ _ _ _ cf cc t g k => ⟨by omega, fun _ => ⟨rfl, k τ ⟨fun _ _ => rfl, fun _ _ _ => rfl, rfl⟩ cf⟩, fun e => absurd (by omega) e⟩) (fun f2 c2 g => g) (fun σ i fp c P h1 h2 h3 h4 => m_yline h1 h2 h3 h4) (fun _ h h9 => c0Q_m (by omega) h) (fun τ b2 j f2 c2 Q g hT hF q1 q2 => m_tlQ (MB := MBQ 40) (MC := MCQ) (by omega) (by omega) g hT hF q1 q2) hs (fun τ c2 P h hc q => c_copyQ hs2 (Or.inl ⟨rfl, rfl, rfl⟩) h hc q) (fun χ υ μ f2 c2 z nw fc mc wn => ⟨fun e => absurd e (by omega), fun _ => ?_, fun e => absurd e (by omega)⟩)
  · unfold CCY CCQ at h ⊢
    rw [f1 139 (by omega), f2]; exact h
  · obtain ⟨⟨w1, w2⟩, w3⟩ := nw
    have fc : ∀ c : Nat, 14 + 13 * s ≤ c → c < 14 + 13 * s + 3 → υ.1 c = χ.1 c ∧ υ.2 c = χ.2 c := fc
    refine QR.of (c := c2) (A := μ.2 173) ?_ w2 (fun k hk => ?_) wn mc
    · rw [(fc _ (by omega) (by omega)).1]; exact w1
    · rw [(fc (14 + 13 * s + 1) (by omega) (by omega)).2, (fc (14 + 13 * s + 2) (by omega) (by omega)).2]; exact w3 k hk
theorem s_textL {L : Nat} {xs : Nat → Int32} {s : Nat} {b : Int} {σ : Sg} (hs2 : s < 2) (hb : InR b) (hR : Rel σ) (hs : slO (σ.2 6 2) b = (s : Int)) : CI (XX L xs) 122 [vR (some 0), vI (2 : Nat), vI b] σ (fun r τ => CI (XX L xs) 187 [vR (some 170), vI (2 : Nat), vI b] τ (fun r2 υ => r2 = r ∧ InR r ∧ Rel υ)) := by
  have t1 := hR.1.1
  obtain ⟨n, en⟩ : ∃ n : Nat, σ.1 1 1 = n := ⟨(σ.1 1 1).toNat, by omega⟩
  refine s_textG (CC := CCL) (MB := MBQ 8) (MC := MCQ) (NEW := NEWQ (clO 2 s) 8 okF) (full := fullQ 8) (keep := keepL) (fin := fun f _ => f) (c0 := c0Q) (B := σ.2 2) (n := n) (a := 2) (by omega) hs2 hb hR rfl en (fun _ _ _ f h => h.fq (by omega) (by omega) f) (fun _ _ _ _ hl h q => c_fullL h q) (fun σ i fp c l j f1 vs P hl h nv vl e z k => c_keepL hl h nv vl e z k) (fun _ h => ⟨⟨h.2.2.2, by decide⟩, fun k hk => absurd hk (by show ¬ k < 0; omega)⟩) (fun σ τ c f1 f2 h => ?_) (fun τ _ _ _ cf cc t g k => ⟨by omega, fun _ => ⟨rfl, k τ ⟨fun _ _ => rfl, fun _ _ _ => rfl, rfl⟩ cf⟩, fun e => absurd (by omega) e⟩) (fun f2 c2 g => g) (fun σ i fp c P h1 h2 h3 h4 => m_lline h1 h2 h3 h4) (fun _ h h9 => c0Q_m (by omega) h) (fun τ b2 j f2 c2 Q g hT hF q1 q2 => m_tlQ (MB := MBQ 8) (MC := MCQ) (by omega) (by omega) g hT hF q1 q2) hs (fun τ c2 P h hc q => c_copyQ hs2 (Or.inr ⟨rfl, rfl, rfl⟩) h hc q) (fun χ υ μ f2 c2 z nw fc mc wn => ⟨fun e => absurd e (by omega), fun e => absurd e (by omega), fun _ => ?_⟩)
  · unfold CCL CCQ at h ⊢
    rw [f1 142 (by omega), f2]; exact h
  · obtain ⟨⟨w1, w2⟩, w3⟩ := nw
    have fc : ∀ c : Nat, 17 + 13 * s ≤ c → c < 17 + 13 * s + 3 → υ.1 c = χ.1 c ∧ υ.2 c = χ.2 c := fc
    refine QR.of (c := c2) (A := μ.2 173) ?_ w2 (fun k hk => ?_) wn mc
    · rw [(fc _ (by omega) (by omega)).1]; exact w1
    · rw [(fc (17 + 13 * s + 1) (by omega) (by omega)).2, (fc (17 + 13 * s + 2) (by omega) (by omega)).2]; exact w3 k hk
theorem s_text {L : Nat} {xs : Nat → Int32} : Sm_2 (XX L xs) Rel := by
  intro a b ha hb σ hR
  obtain ⟨t1, t2, t3, t4, t5, -⟩ := id hR.1
  have cc : ∀ t : Nat, t < 3 → σ.2 171 t = σ.2 6 t ∧ 0 ≤ σ.2 6 t ∧ σ.2 6 t ≤ 2 := fun t ht => by have := t5 t ht; rw [Nat.zero_add] at this; exact this
  have no : (if 0 ≤ a ∧ a < 3 then slO (σ.2 6 a.toNat) b else -2) = -2 → CI (XX L xs) 122 [vR (some 0), vI a, vI b] σ (fun r τ => CI (XX L xs) 187 [vR (some 170), vI a, vI b] τ (fun r2 υ => r2 = r ∧ InR r ∧ Rel υ)) := by
    intro e
    refine v_122 (c_slot ha hb (fun h1 h2 => (cc _ (by omega)).2) ?_)
    dsimp only
    rw [e]
    refine ⟨by omega, fun e => absurd rfl e, fun _ => ⟨_, rfl, ?_⟩⟩
    have fin : Rel (up2 (up2 (up2 (up2 σ.1 1 6 0) 1 7 (-1)) 1 1 0) 170 2 (σ.2 171 4), up2 (up2 (up2 σ.2 171 4 0) 171 5 0) 171 6 (-1)) := by
      refine hR.fail (f := (0, -1)) (n := 0) (by omega) (by unfold GF; dsimp only; omega) ?_ ?_ (fun c c1 c2 => ?_) (fun c c1 => ?_) ?_ (fun j j4 j5 j6 => ?_)
      · simp only [up2_app, Nat.reduceEqDiff, reduceIte]; exact ⟨trivial, trivial, trivial⟩
      · simp only [up2_app, Nat.reduceEqDiff, reduceIte]; exact ⟨trivial, trivial, trivial⟩
      · dsimp only; rw [up2_ne _ _ _ (by omega), up2_ne _ _ _ c1, up2_ne _ _ _ c1, up2_ne _ _ _ c1]
      · dsimp only; rw [up2_ne _ _ _ (by omega), up2_ne _ _ _ (by omega), up2_ne _ _ _ (by omega)]
      · dsimp only; rw [up2_ne _ _ _ (by omega), up2_ne _ _ _ (by omega), up2_ne _ _ _ (by omega)]
      · dsimp only; rw [up2_if, if_neg j6, up2_if, if_neg j5, up2_if, if_neg j4]
    have c171 : ∀ j : Nat, j < 3 → up2 (up2 (up2 σ.2 171 4 0) 171 5 0) 171 6 (-1) 171 j = σ.2 171 j := fun j hj => by rw [up2_if, if_neg (by omega), up2_if, if_neg (by omega), up2_if, if_neg (by omega)]
    refine v_187 (c_isIn ha (by omega) (by omega) ?_)
    by_cases h : 0 ≤ a ∧ a ≤ 2
    · rw [if_pos h]
      rw [if_pos (by omega)] at e
      have c1 := cc a.toNat (by omega)
      unfold slO at e
      refine ⟨by omega, fun e => absurd e (by omega), fun _ => ⟨hb, fun b1 => ?_, fun b1 => ?_⟩⟩
      · rw [if_neg b1] at e
        have nb : ¬ (0 ≤ b ∧ b < σ.2 6 a.toNat) := fun z => by rw [if_pos z] at e; omega
        refine m_isOf (by omega) (by omega) hb (by dsimp only; rw [c171 _ (by omega), c1.1]; exact c1.2) ?_
        dsimp only
        rw [if_neg (by rw [c171 _ (by omega), c1.1]; exact nb)]
        exact ⟨by omega, fun e => absurd rfl e, fun _ => ⟨_, rfl, rfl, by omega, fin⟩⟩
      · rw [if_pos (by omega)] at e
        have n2 : 2 ≤ σ.2 6 a.toNat := by
          by_cases z : 2 ≤ σ.2 6 a.toNat
          · exact z
          · rw [if_neg z] at e; omega
        dsimp only
        rw [c171 _ (by omega), c1.1]
        exact ⟨by omega, by omega, fun e => absurd e (by omega), fun _ => ⟨_, rfl, rfl, by omega, fin⟩⟩
    · rw [if_neg h]
      exact ⟨by omega, fun _ => ⟨_, rfl, rfl, by omega, fin⟩, fun e => absurd rfl e⟩
  by_cases h : 0 ≤ a ∧ a < 3
  · by_cases e : slO (σ.2 6 a.toNat) b = -2
    · exact no (by rw [if_pos h]; exact e)
    · have cs := (cc a.toNat (by omega)).2
      have sl : 0 ≤ slO (σ.2 6 a.toNat) b ∧ slO (σ.2 6 a.toNat) b < 2 := by
        unfold slO at e ⊢
        by_cases b1 : b = -1
        · rw [if_pos b1] at e ⊢
          by_cases z : 2 ≤ σ.2 6 a.toNat
          · rw [if_pos z] at e; exact absurd rfl e
          · rw [if_neg z]; omega
        · rw [if_neg b1] at e ⊢
          by_cases z : 0 ≤ b ∧ b < σ.2 6 a.toNat
          · rw [if_pos z]; omega
          · rw [if_neg z] at e; exact absurd rfl e
      obtain ⟨s, es⟩ : ∃ s : Nat, slO (σ.2 6 a.toNat) b = (s : Int) := ⟨(slO (σ.2 6 a.toNat) b).toNat, by omega⟩
      rcases (show a = 0 ∨ a = 1 ∨ a = 2 by omega) with x | x | x <;> subst x
      · exact s_textP (by omega) hb hR es
      · exact s_textY (by omega) hb hR es
      · exact s_textL (by omega) hb hR es
  · exact no (if_neg h)
