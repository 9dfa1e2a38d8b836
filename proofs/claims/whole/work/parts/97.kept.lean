/-! KEPT: what the class keeps of a line -/
theorem up2_app (f : Nat → Nat → Int) (c j a b : Nat) (x : Int) : up2 f c j x a b = if a = c then (if b = j then x else f a b) else f a b := rfl
theorem nms_lim {B : Nat → Int} {n : Nat} {ru : Bool} : ∀ (ls pv : List Int) (i : Nat) (fp : Int × Int) (j : Nat) (f2 : Int × Int) (vs : List Int), nms B n ru ls pv i fp = (true, j, f2, vs) → f2.1 = 0 → fp.1 = 0 ∧ (∀ m : Nat, m < pv.length → vs.getD m 0 = pv.getD m 0) ∧ ∀ x : Nat, x < ls.length → 0 ≤ vs.getD (pv.length + x) 0 ∧ vs.getD (pv.length + x) 0 ≤ ls.getD x 0
  | [], pv, i, fp, j, f2, vs, h, z => by
    rw [nms_e] at h
    injection h with _ h; injection h with _ h; injection h with h1 h2
    rw [← h1] at z
    rw [← h2]
    exact ⟨z, fun _ _ => rfl, fun x hx => absurd hx (by simp)⟩
  | l :: ls, pv, i, fp, j, f2, vs, h, z => by
    rw [nms_c] at h
    by_cases c : kdA B n i = 2
    · rw [if_pos c] at h
      obtain ⟨a1, a2, a3⟩ := nms_lim ls _ _ _ j f2 vs h z
      obtain ⟨b1, b2, b3⟩ := nmF_0 a1
      have v := vA_rng c
      simp only [List.length_append, List.length_cons, List.length_nil] at a2 a3
      refine ⟨b1, fun m hm => ?_, fun x hx => ?_⟩
      · rw [a2 m (by omega), List.getD_eq_getElem?_getD, List.getElem?_append_left hm, ← List.getD_eq_getElem?_getD]
      · cases x with
        | zero =>
          have e := a2 pv.length (by omega)
          rw [List.getD_eq_getElem?_getD (l := pv ++ [vA B n i]), List.getElem?_append_right (Nat.le_refl _), Nat.sub_self] at e
          rw [Nat.add_zero, e]
          show 0 ≤ vA B n i ∧ vA B n i ≤ l
          omega
        | succ x =>
          simp only [List.length_cons] at hx
          have e := a3 x (by omega)
          rw [show pv.length + (0 + 1) + x = pv.length + (x + 1) by omega] at e
          rw [List.getD_cons_succ]
          exact e
    · rw [if_neg c] at h
      exact absurd (show false = true from congrArg Prod.fst h) (by decide)
def ndI (p s : Int) : Nat := if s = -1 then 2 ^ p.toNat else 2 ^ p.toNat ||| 2 ^ s.toNat
def OKP (c : PCt) : Prop := c.1 0 ≤ 99 ∧ c.1 1 ≤ 99 ∧ c.1 2 ≤ 7 ∧ c.1 4 ≤ 10 ∧ c.1 3 < 128 ∧ c.1 5 < 128 ∧ (∀ h : Nat, h < c.1 2 → (0 ≤ c.2 0 h ∧ c.2 0 h ≤ 99) ∧ (0 ≤ c.2 1 h ∧ c.2 1 h ≤ 9)) ∧ (∀ r : Nat, r < c.1 4 → 0 ≤ c.2 2 r ∧ 0 ≤ c.2 3 r ∧ -1 ≤ c.2 4 r) ∧ (∀ h : Nat, c.1 5 < 2 ^ h → c.1 3 < 2 ^ h ∧ ∀ r : Nat, r < c.1 4 → c.2 2 r < h ∧ c.2 3 r < h ∧ c.2 4 r < h)
def CCP (σ : Sg) (c : PCt) : Prop := (σ.1 132 0 = c.1 0 ∧ σ.1 132 1 = c.1 1 ∧ σ.1 132 2 = c.1 2 ∧ σ.1 132 3 = c.1 3 ∧ σ.1 132 4 = c.1 4 ∧ σ.1 131 11 = c.1 5) ∧ (∀ h : Nat, h < c.1 2 → σ.2 133 h = c.2 0 h ∧ σ.2 134 h = c.2 1 h) ∧ (∀ r : Nat, r < c.1 4 → σ.2 135 r = c.2 2 r ∧ σ.2 136 r = c.2 3 r ∧ σ.2 137 r = c.2 4 r ∧ σ.2 138 r = (ndI (c.2 3 r) (c.2 4 r) : Nat)) ∧ OKP c
theorem CCP.fq {σ τ : Sg} {c : PCt} (f : FQ σ τ) (h : CCP σ c) : CCP τ c := by
  unfold CCP at h ⊢
  rw [f.1 132 (by omega), f.2.1 11 (by omega), f.2.2 133 (by omega), f.2.2 134 (by omega), f.2.2 135 (by omega), f.2.2 136 (by omega), f.2.2 137 (by omega), f.2.2 138 (by omega)]
  exact h
theorem c_fullP {L : Nat} {xs : Nat → Int32} {σ : Sg} {c : PCt} {l : Nat} {P : Int → Sg → Prop} (hl : l < (lmT 0).length) (h : CCP σ c) (q : P (if fullP c l = true then 1 else 0) σ) : CI (XX L xs) 96 [vR (some 131), vI (0 : Nat), vI l] σ P := by
  have hl : l < 6 := hl
  obtain ⟨⟨h0, h1, h2, h3, h4, h5⟩, -, -, o0, o1, o2, o4, -⟩ := h
  unfold fullP at q
  simp only [decide_eq_true_eq] at q
  have ru : ∀ (Q : Option PV → Sg → Prop), (∀ r : Int, r = (if ruL 0 l = true then 1 else 0) → InR r ∧ (r = 0 → Q (some (vI 0)) σ) ∧ (¬ r = 0 → InR (σ.1 132 4) ∧ (σ.1 132 4 < 10 → Q (some (vI 0)) σ) ∧ (¬ σ.1 132 4 < 10 → Q (some (vI 1)) σ))) → CI (XX L xs) 97 [vR (some 131), vI (0 : Nat), vI l] σ (fun r3 τ1 => InR r3 ∧ (r3 = 0 → Q (some (vI 0)) τ1) ∧ (¬ r3 = 0 → InR (τ1.1 132 4) ∧ (τ1.1 132 4 < 10 → Q (some (vI 0)) τ1) ∧ (¬ τ1.1 132 4 < 10 → Q (some (vI 1)) τ1))) := fun Q z => c_isRu (a := 0) (by omega) (by omega) (z _ rfl)
  have rr : ruL 0 l = true ↔ (l = 4 ∨ l = 5) := by unfold ruL; simp
  refine v_96 ⟨by omega, fun _ => ⟨fun _ => ⟨by omega, fun l3 => ru (fun v τ => ∃ x, v = some (vI x) ∧ P x τ) (fun r er => ?_), fun l3 => ⟨by omega, fun d => ⟨_, rfl, ?_⟩, fun d => ru (fun v τ => ∃ x, v = some (vI x) ∧ P x τ) (fun r er => ?_)⟩⟩, fun e => absurd (by omega) e⟩, fun e => absurd (by omega) e⟩
  · by_cases y : ruL 0 l = true
    · rw [if_pos y] at er
      have := rr.mp y
      refine ⟨by omega, fun e => absurd e (by omega), fun _ => ⟨by omega, fun d => ⟨_, rfl, ?_⟩, fun d => ⟨_, rfl, ?_⟩⟩⟩
      · rw [if_neg (by omega)] at q; exact q
      · rw [if_pos (by omega)] at q; exact q
    · rw [if_neg y] at er
      have : ¬ (l = 4 ∨ l = 5) := fun z => y (rr.mpr z)
      refine ⟨by omega, fun _ => ⟨_, rfl, ?_⟩, fun e => absurd er e⟩
      rw [if_neg (by omega)] at q; exact q
  · rw [if_pos (by omega)] at q; exact q
  · have y : ¬ ruL 0 l = true := fun z => by have := rr.mp z; omega
    rw [if_neg y] at er
    refine ⟨by omega, fun _ => ⟨_, rfl, ?_⟩, fun e => absurd er e⟩
    rw [if_neg (by omega)] at q; exact q
theorem c_addH {X : PX} {σ : Sg} {a b : Int} {k : Nat} {P : Sg → Prop} (hk : σ.1 132 2 = k) (k7 : k < 7) (q : P (up2 σ.1 132 2 ((k : Int) + 1), up2 (up2 σ.2 133 k a) 134 k b)) : CV X 80 [vR (some 132), vI a, vI b] σ P := by
  refine v_80 (by decide) ?_
  rw [hk]
  refine ⟨by omega, fun e => absurd e (by omega), fun _ => ⟨fun e => absurd e (by omega), fun _ => ⟨by omega, rfl, ?_⟩⟩⟩
  rw [Int.toNat_natCast]; exact q
theorem c_addR {X : PX} {σ : Sg} {a b s : Int} {k : Nat} {P : Sg → Prop} (hk : σ.1 132 4 = k) (k7 : k < 10) (hb : 0 ≤ b ∧ b ≤ 6) (hs : -1 ≤ s ∧ s ≤ 6) (q : P (up2 σ.1 132 4 ((k : Int) + 1), up2 (up2 (up2 (up2 σ.2 135 k a) 136 k b) 137 k s) 138 k (ndI b s : Nat))) : CV X 81 [vR (some 132), vI a, vI b, vI s] σ P := by
  have p7 := p7_lt hb
  refine v_81 (by decide) ?_
  rw [hk, b_one' hb]
  refine ⟨by omega, fun e => absurd e (by omega), fun _ => ⟨fun e => absurd e (by omega), fun _ => ⟨by omega, by omega, fun s1 => ⟨rfl, ?_⟩, fun s1 => ⟨rfl, ?_⟩⟩⟩⟩
  · have p8 := p7_lt (v := s) (by omega)
    rw [Int.toNat_natCast, b_one' (v := s) (by omega), b_or (by omega) (by omega)]
    unfold ndI at q
    rw [if_neg s1] at q
    exact q
  · rw [Int.toNat_natCast, show (0 : Int) = ((0 : Nat) : Int) from rfl, b_or (by omega) (by omega), Nat.or_zero]
    unfold ndI at q
    rw [if_pos (by omega)] at q
    exact q
theorem OKP.rule {c : PCt} {v w z : Int} {m : Nat} (h : OKP c) (h4 : c.1 4 < 10) (m7 : m < 128) (hv : 0 ≤ v) (hw : 0 ≤ w) (hz : -1 ≤ z) (hm : ∀ h : Nat, m < 2 ^ h → c.1 5 < 2 ^ h ∧ v < h ∧ w < h ∧ z < h) : OKP (up (up c.1 4 (c.1 4 + 1)) 5 m, up2 (up2 (up2 c.2 2 (c.1 4) v) 3 (c.1 4) w) 4 (c.1 4) z) := by
  obtain ⟨o0, o1, o2, o4, o3, o5, o6, o7, o8⟩ := h
  unfold OKP
  simp only [up2_app, up_if, Nat.reduceEqDiff, reduceIte]
  refine ⟨o0, o1, o2, by omega, o3, m7, o6, fun r hr => ?_, fun h hh => ?_⟩
  · by_cases e : r = c.1 4
    · rw [if_pos e, if_pos e, if_pos e]; exact ⟨hv, hw, hz⟩
    · rw [if_neg e, if_neg e, if_neg e]; exact o7 r (by omega)
  · obtain ⟨g1, g2⟩ := hm h hh
    obtain ⟨g3, g4⟩ := o8 h g1
    refine ⟨g3, fun r hr => ?_⟩
    by_cases e : r = c.1 4
    · rw [if_pos e, if_pos e, if_pos e]; exact g2
    · rw [if_neg e, if_neg e, if_neg e]; exact g4 r (by omega)
theorem CCP.rule {σ : Sg} {c : PCt} {v w z : Int} {m : Nat} (h : CCP σ c) (ok : OKP (up (up c.1 4 (c.1 4 + 1)) 5 m, up2 (up2 (up2 c.2 2 (c.1 4) v) 3 (c.1 4) w) 4 (c.1 4) z)) : CCP (up2 (up2 σ.1 132 4 ((c.1 4 : Int) + 1)) 131 11 (m : Int), up2 (up2 (up2 (up2 σ.2 135 (c.1 4) v) 136 (c.1 4) w) 137 (c.1 4) z) 138 (c.1 4) (ndI w z : Nat)) (up (up c.1 4 (c.1 4 + 1)) 5 m, up2 (up2 (up2 c.2 2 (c.1 4) v) 3 (c.1 4) w) 4 (c.1 4) z) := by
  obtain ⟨⟨h0, h1, h2, h3, h4, h5⟩, h6, h7, -⟩ := h
  refine ⟨?_, ?_, ?_, ok⟩
  all_goals simp only [up2_app, up_if, Nat.reduceEqDiff, reduceIte]
  · exact ⟨h0, h1, h2, h3, by omega, trivial⟩
  · exact h6
  · intro r hr
    by_cases e : r = c.1 4
    · simp only [if_pos e]; exact ⟨trivial, trivial, trivial, trivial⟩
    · simp only [if_neg e]; exact h7 r (by omega)
theorem Out.rows {σ : Sg} {F A : Nat → Nat → Int} (h1 : ∀ c : Nat, c < 131 ∨ 145 < c → F c = σ.1 c) (h2 : ∀ c : Nat, c < 131 ∨ 145 < c → A c = σ.2 c) : Out σ (F, A) 131 145 := fun c hc => ⟨h1 c hc, h2 c hc⟩
theorem CCP.k0 {σ : Sg} {c : PCt} {v : Int} (h : CCP σ c) (hv : 0 ≤ v ∧ v ≤ 99) : CCP (up2 σ.1 132 0 v, σ.2) (kp0 c v) := by
  obtain ⟨⟨h0, h1, h2, h3, h4, h5⟩, h6, h7, o0, o⟩ := h
  unfold kp0 CCP OKP
  simp only [up2_app, up_if, Nat.reduceEqDiff, reduceIte]
  exact ⟨⟨by omega, h1, h2, h3, h4, h5⟩, h6, h7, by omega, o⟩
theorem CCP.k1 {σ : Sg} {c : PCt} {v : Int} (h : CCP σ c) (hv : 0 ≤ v ∧ v ≤ 99) : CCP (up2 σ.1 132 1 v, σ.2) (kp1 c v) := by
  obtain ⟨⟨h0, h1, h2, h3, h4, h5⟩, h6, h7, o0, o1, o⟩ := h
  unfold kp1 CCP OKP
  simp only [up2_app, up_if, Nat.reduceEqDiff, reduceIte]
  exact ⟨⟨h0, by omega, h2, h3, h4, h5⟩, h6, h7, o0, by omega, o⟩
theorem CCP.k2 {σ : Sg} {c : PCt} {v : Int} (h : CCP σ c) (hv : 0 ≤ v ∧ v ≤ 6) : CCP (up2 (up2 σ.1 132 3 (iOr (σ.1 132 3) (iShl 1 v))) 131 11 (iOr (σ.1 131 11) (iShl 1 v)), σ.2) (kp2 c v) := by
  obtain ⟨⟨h0, h1, h2, h3, h4, h5⟩, h6, h7, o0, o1, o2, o4, o3, o5, o6, o7, o8⟩ := h
  have p7 := p7_lt hv
  rw [h3, h5, b_one' hv, b_or (by omega) (by omega), b_or (by omega) (by omega)]
  unfold kp2 CCP OKP
  simp only [up2_app, up_if, Nat.reduceEqDiff, reduceIte]
  refine ⟨⟨h0, h1, h2, trivial, h4, trivial⟩, h6, h7, o0, o1, o2, o4, Nat.or_lt_two_pow (n := 7) o3 p7, Nat.or_lt_two_pow (n := 7) o5 p7, o6, o7, fun h hh => ?_⟩
  rw [or_lt] at hh
  obtain ⟨g1, g2⟩ := o8 h hh.1
  exact ⟨or_lt.mpr ⟨g1, hh.2⟩, g2⟩
theorem CCP.k3 {σ : Sg} {c : PCt} {v w : Int} (h : CCP σ c) (hc : c.1 2 < 7) (hv : 0 ≤ v ∧ v ≤ 99) (hw : 0 ≤ w ∧ w ≤ 9) : CCP (up2 σ.1 132 2 ((c.1 2 : Int) + 1), up2 (up2 σ.2 133 (c.1 2) v) 134 (c.1 2) w) (kp3 c v w) := by
  obtain ⟨⟨h0, h1, h2, h3, h4, h5⟩, h6, h7, o0, o1, o2, o4, o3, o5, o6, o7, o8⟩ := h
  unfold kp3 CCP OKP
  simp only [up2_app, up_if, Nat.reduceEqDiff, reduceIte]
  refine ⟨⟨h0, h1, by omega, h3, h4, h5⟩, fun h hh => ?_, h7, o0, o1, by omega, o4, o3, o5, fun h hh => ?_, o7, o8⟩
  · by_cases e : h = c.1 2
    · simp only [if_pos e]; exact ⟨trivial, trivial⟩
    · simp only [if_neg e]; exact h6 h (by omega)
  · by_cases e : h = c.1 2
    · simp only [if_pos e]; exact ⟨hv, hw⟩
    · simp only [if_neg e]; exact o6 h (by omega)
theorem c_keepP {L : Nat} {xs : Nat → Int32} {B : Nat → Int} {n i : Nat} {fp : Int × Int} {σ : Sg} {c : PCt} {l j : Nat} {f1 : Int × Int} {vs : List Int} {P : Sg → Prop} (hl : l < (lmT 0).length) (h : CCP σ c) (nv : NV σ vs) (vl : vs.length = (lms 0 l).length) (en : nms B n (ruL 0 l) (lms 0 l) [] (nxt B n i) (if fullP c l = true then note 3 i fp else fp) = (true, j, f1, vs)) (z : f1.1 = 0) (k : ∀ τ : Sg, Out σ τ 131 145 → (∀ j : Nat, j ≠ 11 → τ.1 131 j = σ.1 131 j) → CCP τ (keepP c l vs) → P τ) : CV (XX L xs) 94 [vR (some 131), vI (0 : Nat), vI l] σ P := by
  obtain ⟨z1, -, lim⟩ := nms_lim _ _ _ _ _ _ _ en z
  obtain ⟨z0, fl⟩ := full_0 z1
  have fl := of_decide_eq_false fl
  simp only [List.length_nil, Nat.zero_add] at lim
  obtain ⟨⟨h0, h1, h2, h3, h4, h5⟩, h6, h7, ok⟩ := id h
  have o5 := ok.2.2.2.2.2.1
  have hl : l < 6 := hl
  refine v_94 ⟨by omega, fun _ => ⟨fun _ => v_95 ⟨by omega, fun e => ?_, fun e => ?_, fun e => ?_, fun e => ?_, fun e => ?_, fun e => ?_⟩, fun e => absurd (by omega) e⟩, fun e => absurd (by omega) e⟩
  · have e : l = 0 := by omega
    subst e
    have v0 : 0 ≤ vs.getD 0 0 ∧ vs.getD 0 0 ≤ 99 := lim 0 (by decide)
    rw [(nv 0 (by rw [vl]; decide)).1]
    exact ⟨rfl, rfl, k _ (Out.rows (fun c hc => up2_ne _ _ _ (by omega)) (fun _ _ => rfl)) (fun j hj => by dsimp only; rw [up2_ne _ _ _ (by omega)]) (h.k0 v0)⟩
  · have e : l = 1 := by omega
    subst e
    have v0 : 0 ≤ vs.getD 0 0 ∧ vs.getD 0 0 ≤ 99 := lim 0 (by decide)
    rw [(nv 0 (by rw [vl]; decide)).1]
    exact ⟨rfl, rfl, k _ (Out.rows (fun c hc => up2_ne _ _ _ (by omega)) (fun _ _ => rfl)) (fun j hj => by dsimp only; rw [up2_ne _ _ _ (by omega)]) (h.k1 v0)⟩
  · have e : l = 2 := by omega
    subst e
    have v0 : 0 ≤ vs.getD 0 0 ∧ vs.getD 0 0 ≤ 6 := lim 0 (by decide)
    rw [(nv 0 (by rw [vl]; decide)).1]
    exact ⟨rfl, rfl, k _ (Out.rows (fun c hc => by rw [up2_ne _ _ _ (by omega), up2_ne _ _ _ (by omega)]) (fun _ _ => rfl)) (fun j hj => by dsimp only; rw [up2_if, if_neg hj, up2_ne _ _ _ (by omega)]) (h.k2 v0)⟩
  · have e : l = 3 := by omega
    subst e
    have v0 : 0 ≤ vs.getD 0 0 ∧ vs.getD 0 0 ≤ 99 := lim 0 (by decide)
    have v1 : 0 ≤ vs.getD 1 0 ∧ vs.getD 1 0 ≤ 9 := lim 1 (by decide)
    have c7 : c.1 2 < 7 := by omega
    rw [(nv 0 (by rw [vl]; decide)).1, (nv 1 (by rw [vl]; decide)).1]
    exact c_addH h2 c7 ⟨rfl, rfl, k _ (Out.rows (fun c hc => up2_ne _ _ _ (by omega)) (fun c hc => by rw [up2_ne _ _ _ (by omega), up2_ne _ _ _ (by omega)])) (fun j hj => by dsimp only; rw [up2_ne _ _ _ (by omega)]) (h.k3 c7 v0 v1)⟩
  · have e : l = 4 := by omega
    subst e
    have v0 : 0 ≤ vs.getD 0 0 ∧ vs.getD 0 0 ≤ 6 := lim 0 (by decide)
    have v1 : 0 ≤ vs.getD 1 0 ∧ vs.getD 1 0 ≤ 6 := lim 1 (by decide)
    have c10 : c.1 4 < 10 := by omega
    have n0 := (nv 0 (by rw [vl]; decide)).1
    have n1 := (nv 1 (by rw [vl]; decide)).1
    have p0 := p7_lt v0
    have p1 := p7_lt v1
    have p01 : (2 ^ (vs.getD 0 0).toNat ||| 2 ^ (vs.getD 1 0).toNat) < 128 := Nat.or_lt_two_pow (n := 7) p0 p1
    have pm : ((c.1 5 ||| 2 ^ (vs.getD 0 0).toNat) ||| 2 ^ (vs.getD 1 0).toNat) < 128 := Nat.or_lt_two_pow (n := 7) (Nat.or_lt_two_pow (n := 7) o5 p0) p1
    rw [n0, n1]
    refine c_addR h4 c10 v1 (by omega) ⟨rfl, rfl, ?_⟩
    dsimp only
    have m0 : ∀ (A : Nat → Nat → Int) (q : Nat) (x : Int) (p : Nat), q ≠ 145 → up2 A q p x 145 = A 145 := fun A q x p hq => up2_ne _ _ _ (Ne.symm hq)
    rw [m0 _ 138 _ _ (by omega), m0 _ 137 _ _ (by omega), m0 _ 136 _ _ (by omega), m0 _ 135 _ _ (by omega), n0, n1, up2_ne _ _ _ (show (131 : Nat) ≠ 132 by omega), h5, b_one' v0, b_one' v1, b_or (by omega) (by omega), b_or (by omega) (by omega), ← Nat.or_assoc]
    refine k _ (Out.rows (fun c hc => by rw [up2_ne _ _ _ (by omega), up2_ne _ _ _ (by omega)]) (fun c hc => by rw [up2_ne _ _ _ (by omega), up2_ne _ _ _ (by omega), up2_ne _ _ _ (by omega), up2_ne _ _ _ (by omega)])) (fun j hj => by dsimp only; rw [up2_if, if_neg hj, up2_ne _ _ _ (by omega)]) (h.rule (ok.rule c10 pm v0.1 v1.1 (by omega) (fun h hh => ?_)))
    rw [or_lt, or_lt, pw_lt, pw_lt] at hh
    omega
  · have e : l = 5 := by omega
    subst e
    have v0 : 0 ≤ vs.getD 0 0 ∧ vs.getD 0 0 ≤ 6 := lim 0 (by decide)
    have v1 : 0 ≤ vs.getD 1 0 ∧ vs.getD 1 0 ≤ 6 := lim 1 (by decide)
    have v2 : 0 ≤ vs.getD 2 0 ∧ vs.getD 2 0 ≤ 6 := lim 2 (by decide)
    have c10 : c.1 4 < 10 := by omega
    have n0 := (nv 0 (by rw [vl]; decide)).1
    have n1 := (nv 1 (by rw [vl]; decide)).1
    have n2 := (nv 2 (by rw [vl]; decide)).1
    have p0 := p7_lt v0
    have p1 := p7_lt v1
    have p2 := p7_lt v2
    have p01 : (2 ^ (vs.getD 0 0).toNat ||| 2 ^ (vs.getD 1 0).toNat) < 128 := Nat.or_lt_two_pow (n := 7) p0 p1
    have p02 : ((2 ^ (vs.getD 0 0).toNat ||| 2 ^ (vs.getD 1 0).toNat) ||| 2 ^ (vs.getD 2 0).toNat) < 128 := Nat.or_lt_two_pow (n := 7) p01 p2
    have pm : (((c.1 5 ||| 2 ^ (vs.getD 0 0).toNat) ||| 2 ^ (vs.getD 1 0).toNat) ||| 2 ^ (vs.getD 2 0).toNat) < 128 := Nat.or_lt_two_pow (n := 7) (Nat.or_lt_two_pow (n := 7) (Nat.or_lt_two_pow (n := 7) o5 p0) p1) p2
    rw [n0, n1, n2]
    refine c_addR h4 c10 v1 (by omega) ⟨rfl, rfl, ?_⟩
    dsimp only
    have m0 : ∀ (A : Nat → Nat → Int) (q : Nat) (x : Int) (p : Nat), q ≠ 145 → up2 A q p x 145 = A 145 := fun A q x p hq => up2_ne _ _ _ (Ne.symm hq)
    rw [m0 _ 138 _ _ (by omega), m0 _ 137 _ _ (by omega), m0 _ 136 _ _ (by omega), m0 _ 135 _ _ (by omega), n0, n1, n2, up2_ne _ _ _ (show (131 : Nat) ≠ 132 by omega), h5, b_one' v0, b_one' v1, b_one' v2, b_or (by omega) (by omega), b_or (by omega) (by omega), b_or (by omega) (by omega), ← Nat.or_assoc, ← Nat.or_assoc]
    refine k _ (Out.rows (fun c hc => by rw [up2_ne _ _ _ (by omega), up2_ne _ _ _ (by omega)]) (fun c hc => by rw [up2_ne _ _ _ (by omega), up2_ne _ _ _ (by omega), up2_ne _ _ _ (by omega), up2_ne _ _ _ (by omega)])) (fun j hj => by dsimp only; rw [up2_if, if_neg hj, up2_ne _ _ _ (by omega)]) (h.rule (ok.rule c10 pm v0.1 v1.1 (by omega) (fun h hh => ?_)))
    rw [or_lt, or_lt, or_lt, pw_lt, pw_lt, pw_lt] at hh
    omega
/-! DEEDS and FACTS -/
def okD (x y : Int) : Prop := 0 ≤ x ∧ x ≤ 5 ∧ (x = 0 → y = -1) ∧ (x ≠ 0 → 0 ≤ y ∧ y ≤ 99) ∧ (x = 1 ∨ x = 2 → y ≤ 6) ∧ (x = 5 → y ≤ 9)
def okF (x y : Int) : Prop := 0 ≤ x ∧ x ≤ 6 ∧ 0 ≤ y ∧ y ≤ 99
def CCQ (q cap : Nat) (ok : Int → Int → Prop) (σ : Sg) (c : QCt) : Prop := (σ.1 q 0 = c.1 ∧ c.1 ≤ cap) ∧ ∀ k : Nat, k < c.1 → (σ.2 (q + 1) k = c.2 0 k ∧ σ.2 (q + 2) k = c.2 1 k) ∧ ok (c.2 0 k) (c.2 1 k)
theorem CCQ.fq {q cap : Nat} {ok : Int → Int → Prop} {σ τ : Sg} {c : QCt} (h1 : 132 ≤ q) (h2 : q + 2 < 145) (f : FQ σ τ) (h : CCQ q cap ok σ c) : CCQ q cap ok τ c := by
  unfold CCQ at h ⊢
  rw [f.1 q (by omega), f.2.2 (q + 1) (by omega), f.2.2 (q + 2) (by omega)]
  exact h
theorem c_addQ {X : PX} {q cap : Nat} {ok : Int → Int → Prop} {σ : Sg} {c : QCt} {v w : Int} {P : Sg → Prop} (hq : q ∈ paiL) (h1 : 132 ≤ q) (h2 : q + 2 < 145) (h : CCQ q cap ok σ c) (hc : c.1 < cap) (h4 : cap ≤ 40) (hv : ok v w) (k : ∀ τ : Sg, Out σ τ 131 145 → τ.1 131 = σ.1 131 → CCQ q cap ok τ (kq c v w) → P τ) : CV X 74 [vR (some q), vI v, vI w] σ P := by
  obtain ⟨⟨g1, g2⟩, g3⟩ := h
  refine v_74 hq ?_
  rw [g1, Int.toNat_natCast]
  refine ⟨by omega, fun e => absurd e (by omega), fun _ => ⟨fun e => absurd e (by omega), fun _ => ⟨by omega, rfl, k _ (Out.rows (fun c hc => up2_ne _ _ _ (by omega)) (fun c hc => by rw [up2_ne _ _ _ (by omega), up2_ne _ _ _ (by omega)])) (up2_ne _ _ _ (by omega)) ⟨⟨?_, ?_⟩, fun j hj => ?_⟩⟩⟩⟩
  · dsimp only [kq]; rw [up2_get]; omega
  · dsimp only [kq]; omega
  · dsimp only [kq] at hj ⊢
    rw [up2_ne _ _ _ (show q + 1 ≠ q + 2 by omega), up2_if, up2_if, up2_ne _ _ _ (show q + 2 ≠ q + 1 by omega), up2_ne _ _ _ (show (0 : Nat) ≠ 1 by omega), up2_if, up2_if, up2_ne _ _ _ (show (1 : Nat) ≠ 0 by omega)]
    by_cases e : j = c.1
    · rw [if_pos e, if_pos e, if_pos e, if_pos e]; exact ⟨⟨rfl, rfl⟩, hv⟩
    · rw [if_neg e, if_neg e, if_neg e, if_neg e]; exact g3 j (by omega)
abbrev CCY (σ : Sg) (c : QCt) : Prop := CCQ 139 40 okD σ c
abbrev CCL (σ : Sg) (c : QCt) : Prop := CCQ 142 8 okF σ c
theorem c_fullY {L : Nat} {xs : Nat → Int32} {σ : Sg} {c : QCt} {l : Nat} {P : Int → Sg → Prop} (h : CCY σ c) (q : P (if fullQ 40 c l = true then 1 else 0) σ) : CI (XX L xs) 96 [vR (some 131), vI (1 : Nat), vI l] σ P := by
  obtain ⟨⟨g1, g2⟩, -⟩ := h
  unfold fullQ at q
  simp only [decide_eq_true_eq] at q
  refine v_96 ⟨by omega, fun e => absurd (by omega) e, fun _ => ⟨by omega, fun e => ⟨_, rfl, ?_⟩, fun e => ⟨_, rfl, ?_⟩⟩⟩
  · rw [if_neg (by omega)] at q; exact q
  · rw [if_pos (by omega)] at q; exact q
theorem c_fullL {L : Nat} {xs : Nat → Int32} {σ : Sg} {c : QCt} {l : Nat} {P : Int → Sg → Prop} (h : CCL σ c) (q : P (if fullQ 8 c l = true then 1 else 0) σ) : CI (XX L xs) 96 [vR (some 131), vI (2 : Nat), vI l] σ P := by
  obtain ⟨⟨g1, g2⟩, -⟩ := h
  unfold fullQ at q
  simp only [decide_eq_true_eq] at q
  refine v_96 ⟨by omega, fun _ => ⟨fun e => absurd (by omega) e, fun _ => ⟨by omega, fun e => ⟨_, rfl, ?_⟩, fun e => ⟨_, rfl, ?_⟩⟩⟩, fun e => absurd (by omega) e⟩
  · rw [if_neg (by omega)] at q; exact q
  · rw [if_pos (by omega)] at q; exact q
theorem c_keepY {L : Nat} {xs : Nat → Int32} {B : Nat → Int} {n i : Nat} {fp : Int × Int} {σ : Sg} {c : QCt} {l j : Nat} {f1 : Int × Int} {vs : List Int} {P : Sg → Prop} (hl : l < (lmT 1).length) (h : CCY σ c) (nv : NV σ vs) (vl : vs.length = (lms 1 l).length) (en : nms B n (ruL 1 l) (lms 1 l) [] (nxt B n i) (if fullQ 40 c l = true then note 3 i fp else fp) = (true, j, f1, vs)) (z : f1.1 = 0) (k : ∀ τ : Sg, Out σ τ 131 145 → (∀ j : Nat, j ≠ 11 → τ.1 131 j = σ.1 131 j) → CCY τ (keepY c l vs) → P τ) : CV (XX L xs) 94 [vR (some 131), vI (1 : Nat), vI l] σ P := by
  obtain ⟨z1, -, lim⟩ := nms_lim _ _ _ _ _ _ _ en z
  obtain ⟨z0, fl⟩ := full_0 z1
  have fl := of_decide_eq_false fl
  simp only [List.length_nil, Nat.zero_add] at lim
  have hl : l < 6 := hl
  have ly := lms_y l hl
  have k2 : ∀ w : Int, (if l = 0 then -1 else vs.getD 0 0) = w → ∀ τ : Sg, Out σ τ 131 145 → τ.1 131 = σ.1 131 → CCY τ (kq c l w) → P τ := fun w ew τ o e cc => k τ o (fun j _ => by rw [e]) (by unfold keepY; rw [ew]; exact cc)
  refine v_94 ⟨by omega, fun e => absurd (by omega) e, fun _ => ⟨by omega, fun l0 => ?_, fun l0 => c_addQ (by decide) (by omega) (by omega) h (by omega) (by omega) ?_ (fun τ o e cc => ⟨rfl, k2 (-1) (if_pos (by omega)) τ o e cc⟩)⟩⟩
  · have l1 : l ≠ 0 := by omega
    have vlen : 0 < (lms 1 l).length := by
      rw [ly, if_neg l1]
      split
      · decide
      · split <;> decide
    have v0 := lim 0 vlen
    have n0 := (nv 0 (by rw [vl]; exact vlen)).1
    rw [ly, if_neg l1] at v0
    rw [n0]
    refine c_addQ (by decide) (by omega) (by omega) h (by omega) (by omega) ?_ (fun τ o e cc => ⟨rfl, k2 _ (if_neg l1) τ o e cc⟩)
    generalize vs.getD 0 0 = v at v0
    unfold okD
    by_cases a : l < 3
    · rw [if_pos a] at v0
      have v0 : 0 ≤ v ∧ v ≤ 6 := v0
      omega
    · rw [if_neg a] at v0
      by_cases b : l < 5
      · rw [if_pos b] at v0
        have v0 : 0 ≤ v ∧ v ≤ 99 := v0
        omega
      · rw [if_neg b] at v0
        have v0 : 0 ≤ v ∧ v ≤ 9 := v0
        omega
  · unfold okD; omega
theorem c_keepL {L : Nat} {xs : Nat → Int32} {B : Nat → Int} {n i : Nat} {fp : Int × Int} {σ : Sg} {c : QCt} {l j : Nat} {f1 : Int × Int} {vs : List Int} {P : Sg → Prop} (hl : l < (lmT 2).length) (h : CCL σ c) (nv : NV σ vs) (vl : vs.length = (lms 2 l).length) (en : nms B n (ruL 2 l) (lms 2 l) [] (nxt B n i) (if fullQ 8 c l = true then note 3 i fp else fp) = (true, j, f1, vs)) (z : f1.1 = 0) (k : ∀ τ : Sg, Out σ τ 131 145 → (∀ j : Nat, j ≠ 11 → τ.1 131 j = σ.1 131 j) → CCL τ (keepL c l vs) → P τ) : CV (XX L xs) 94 [vR (some 131), vI (2 : Nat), vI l] σ P := by
  obtain ⟨z1, -, lim⟩ := nms_lim _ _ _ _ _ _ _ en z
  obtain ⟨z0, fl⟩ := full_0 z1
  have fl := of_decide_eq_false fl
  simp only [List.length_nil, Nat.zero_add] at lim
  have hl : l < 1 := hl
  have e : l = 0 := by omega
  subst e
  have v0 : 0 ≤ vs.getD 0 0 ∧ vs.getD 0 0 ≤ 6 := lim 0 (by decide)
  have v1 : 0 ≤ vs.getD 1 0 ∧ vs.getD 1 0 ≤ 99 := lim 1 (by decide)
  refine v_94 ⟨by omega, fun _ => ⟨fun e => absurd (by omega) e, fun _ => ?_⟩, fun e => absurd (by omega) e⟩
  rw [(nv 0 (by rw [vl]; decide)).1, (nv 1 (by rw [vl]; decide)).1]
  exact c_addQ (by decide) (by omega) (by omega) h (by omega) (by omega) ⟨v0.1, v0.2, v1.1, v1.2⟩ (fun τ o e cc => ⟨rfl, k τ o (fun j _ => by rw [e]) cc⟩)
