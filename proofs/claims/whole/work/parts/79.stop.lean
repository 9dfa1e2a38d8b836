/-! what stands then -/
def dtF (K : Kz) (s : Cs) (w : Int) : Int := if w = 0 then cY s else if w = 1 then cD s else if w = 2 then cS s else if w = 3 then cO s else if w = 4 then zE K s else if w = 5 then cQ s else if w = 6 then cP s else if w = 7 then cC s else if 10 ≤ w ∧ w < 20 ∧ w - 10 < kN K then cG s (w - 10).toNat else if 20 ≤ w ∧ w - 20 < kN K then cT K s (w - 20).toNat else -2
theorem dtF_rng {K : Kz} {s : Cs} (ok : sOk K s) (w : Int) : InR (dtF K s w) := by
  obtain ⟨e1, e2, n7, e4⟩ := ok.e7
  obtain ⟨h1, ⟨g1, g2, g3, g4⟩, h3, h4, h5, h6, h7, h8, h9⟩ := id ok
  unfold dtF
  repeat' split
  all_goals try omega
  · rename_i c; have := g4 (w - 10).toNat (by omega); omega
  · have := ok.t.1 (w - 20).toNat; omega
theorem c_detail {X : PX} {σ : Sg} {K : Kz} {s : Cs} {w : Int} {P : Int → Sg → Prop} (ok : sOk K s) (S : SC σ K s) (hw : InR w) (q : P (dtF K s w) σ) : CI X 40 [vR (some 146), vI w] σ P := by
  obtain ⟨e1, e2, n7, e4⟩ := ok.e7
  obtain ⟨⟨hr, y1, y2, y3, y4⟩, s1, s2, s3⟩ := id S
  obtain ⟨r0, r1, r2, r3, r4, r5, r6⟩ := id hr
  unfold dtF at q
  refine v_40 ?_
  rw [y1, y2, y3, r3, s1, r0, r1, y4]
  refine ⟨hw, fun e => ⟨_, rfl, ?_⟩, fun e => ⟨_, rfl, ?_⟩, fun e => ⟨_, rfl, ?_⟩, fun e => ⟨_, rfl, ?_⟩, fun e => ⟨_, rfl, ?_⟩, fun e => ⟨_, rfl, ?_⟩, fun e => ⟨_, rfl, ?_⟩, fun e => ⟨_, rfl, ?_⟩, fun e => ⟨fun c => ⟨fun d => ⟨_, rfl, ?_⟩, fun d => c_hH (n := kN K) (by decide) r2 n7 (by omega) ?_⟩, fun c => c_hH (n := kN K) (by decide) r2 n7 (by omega) ?_⟩⟩
  · rw [e] at q; exact q
  · rw [e] at q; exact q
  · rw [e] at q; exact q
  · rw [e] at q; exact q
  · rw [e] at q; exact q
  · rw [e] at q; exact q
  · rw [e] at q; exact q
  · rw [e] at q; exact q
  all_goals rw [if_neg (by omega), if_neg (by omega), if_neg (by omega), if_neg (by omega), if_neg (by omega), if_neg (by omega), if_neg (by omega), if_neg (by omega)] at q
  · rw [if_neg (by omega), if_neg (by omega)] at q; exact q
  · by_cases x : 0 ≤ w - 10 ∧ w - 10 < kN K
    · rw [if_pos x]
      rw [if_pos (by omega)] at q
      refine ⟨by omega, fun e => absurd e (by omega), fun _ => ⟨by omega, _, rfl, ?_⟩⟩
      rw [(r6 (w - 10).toNat (by omega)).1]; exact q
    · rw [if_neg x]
      rw [if_neg (by omega), if_neg (by omega)] at q
      exact ⟨by omega, fun _ => ⟨_, rfl, q⟩, fun e => absurd rfl e⟩
  · rw [if_neg (by omega)] at q
    by_cases x : 0 ≤ w - 20 ∧ w - 20 < kN K
    · rw [if_pos x]
      rw [if_pos (by omega)] at q
      refine ⟨by omega, fun e => absurd e (by omega), fun _ => ?_⟩
      rw [show (w - 20 : Int) = ((w - 20).toNat : Int) by omega]
      refine c_taxOf (v := 154) (by decide) (by omega) ⟨_, rfl, ?_⟩
      rw [show σ.2 (154 + 1) (w - 20).toNat = cT K s (w - 20).toNat from s3 _ (by omega)]; exact q
    · rw [if_neg x]
      rw [if_neg (by omega)] at q
      exact ⟨by omega, fun _ => ⟨_, rfl, q⟩, fun e => absurd rfl e⟩
theorem m_nowOf {X : PX} {σ : Sg} {o : Nat} {K : Kz} {s : Cs} {w : Int} {P : Int → Sg → Prop} (ok : sOk K s) (S : SM σ o K s) (hw : InR w) (q : P (dtF K s w) σ) : CI X 261 [vR (some 170), vI w] σ P := by
  obtain ⟨e1, e2, n7, e4⟩ := ok.e7
  obtain ⟨⟨hx, a14, a15, a16, a17, a19, a20, a21, ag⟩, a18, at'⟩ := id S
  unfold dtF at q
  refine v_261 ?_
  rw [a19, a20, a21, a16, a18, a14, a15, a17]
  refine ⟨hw, fun e => ⟨_, rfl, ?_⟩, fun e => ⟨_, rfl, ?_⟩, fun e => ⟨_, rfl, ?_⟩, fun e => ⟨_, rfl, ?_⟩, fun e => ⟨_, rfl, ?_⟩, fun e => ⟨_, rfl, ?_⟩, fun e => ⟨_, rfl, ?_⟩, fun e => ⟨_, rfl, ?_⟩, fun e => c_isIn hw (by omega) (by omega) ?_⟩
  · rw [e] at q; exact q
  · rw [e] at q; exact q
  · rw [e] at q; exact q
  · rw [e] at q; exact q
  · rw [e] at q; exact q
  · rw [e] at q; exact q
  · rw [e] at q; exact q
  · rw [e] at q; exact q
  rw [if_neg (by omega), if_neg (by omega), if_neg (by omega), if_neg (by omega), if_neg (by omega), if_neg (by omega), if_neg (by omega), if_neg (by omega)] at q
  by_cases c : 10 ≤ w ∧ w ≤ 29
  · rw [if_pos c, (divrem (w := w) (by omega) (by omega)).2]
    refine ⟨by omega, fun e => absurd e (by omega), fun _ => m_isH hx.2.1 n7 (by omega) ?_⟩
    by_cases x : 0 ≤ w % 10 ∧ w % 10 < kN K
    · rw [if_pos x]
      refine ⟨by omega, fun _ => ⟨fun d => ⟨by omega, _, rfl, ?_⟩, fun d => ⟨by omega, _, rfl, ?_⟩⟩, fun e => absurd (by omega) e⟩
      · rw [if_neg (by omega), if_pos (by omega), show (w - 20).toNat = (w % 10).toNat by omega] at q
        rw [at' _ (by omega)]; exact q
      · rw [if_pos (by omega), show (w - 10).toNat = (w % 10).toNat by omega] at q
        rw [ag _ (by omega)]; exact q
    · rw [if_neg x]
      rw [if_neg (by omega), if_neg (by omega)] at q
      exact ⟨by omega, fun e => absurd rfl e, fun _ => ⟨_, rfl, q⟩⟩
  · rw [if_neg c]
    rw [if_neg (by omega), if_neg (by omega)] at q
    exact ⟨by omega, fun _ => ⟨_, rfl, q⟩, fun e => absurd rfl e⟩
/-! stop, state, after -/
def Yz (σ : Sg) (q od sz : Nat) (fk fn : Nat → Int) : Prop := (q ∈ paiL ∧ q + 2 < 131) ∧ od + 81 ≤ 904 ∧ sz ≤ 40 ∧ σ.1 q 0 = sz ∧ σ.2 171 od = sz ∧ (∀ i : Nat, i < sz → dV (fk i) (fn i)) ∧ (∀ i : Nat, i < sz → σ.2 (q + 1) i = fk i ∧ σ.2 (q + 2) i = fn i) ∧ (∀ i : Nat, i < sz → σ.2 171 (od + 1 + 2 * i) = fk i ∧ σ.2 171 (od + 2 + 2 * i) = fn i)
theorem Rel.yrs {σ : Sg} (hR : Rel σ) {b : Int} (hb : 0 ≤ b ∧ b < σ.2 6 1) : b.toNat < 2 ∧ ∃ (sz : Nat) (fk fn : Nat → Int), Yz σ (14 + 13 * b.toNat) (708 + 81 * b.toNat) sz fk fn := by
  have c := hR.cnt (s := 1) (by omega)
  have h := hR.1.2.2.2.2.2.2.1 b.toNat (by show (b.toNat : Int) < σ.2 6 1; omega)
  rw [Nat.zero_add] at h
  have h : QR σ (14 + 13 * b.toNat) (708 + 81 * b.toNat) 40 true := h
  obtain ⟨⟨z1, z2, z3⟩, el⟩ := h
  refine ⟨by omega, (σ.1 (14 + 13 * b.toNat) 0).toNat, σ.2 (14 + 13 * b.toNat + 1), σ.2 (14 + 13 * b.toNat + 2), ⟨?_, by omega⟩, by omega, by omega, by omega, by omega, fun i hi => ?_, fun i hi => ⟨rfl, rfl⟩, fun i hi => ?_⟩
  · rcases (show b = 0 ∨ b = 1 by omega) with rfl | rfl <;> decide
  · obtain ⟨-, -, e⟩ := el i (by omega)
    rw [if_pos rfl] at e
    obtain ⟨d1, d2, d3, d4, d5, d6⟩ := e
    refine ⟨d1, d2, ?_, ?_, fun w => (d4 w).1, d5, d6⟩
    · rcases Decidable.em (σ.2 (14 + 13 * b.toNat + 1) i = 0) with w | w
      · have := d3 w; omega
      · have := d4 w; omega
    · rcases Decidable.em (σ.2 (14 + 13 * b.toNat + 1) i = 0) with w | w
      · have := d3 w; omega
      · have := d4 w; omega
  · obtain ⟨d1, d2, -⟩ := el i (by omega)
    exact ⟨d1, d2⟩
theorem Yz.fr {σ τ : Sg} {q od sz : Nat} {fk fn : Nat → Int} (h : Yz σ q od sz fk fn) (f : Fr σ τ) : Yz τ q od sz fk fn := by
  obtain ⟨h1, h2, h3, h4, h5, h6, h7, h8⟩ := h
  unfold Yz
  rw [f.1 q (by omega), f.2.1 (q + 1) (by omega), f.2.1 (q + 2) (by omega), f.2.2.1]
  exact ⟨h1, h2, h3, h4, h5, h6, h7, h8⟩
theorem m_isYY {X : PX} {σ : Sg} {P : Int → Sg → Prop} {b : Int} (hR : Rel σ) (hb : InR b) (h : 0 ≤ b ∧ b < σ.2 6 1) (q : P 1 (up2 σ.1 170 34 (708 + 81 * b), σ.2)) : CI X 249 [vR (some 170), vI b] σ P := by
  have c := hR.cnt (s := 1) (by omega)
  exact m_isYears hb (by omega) (fun _ => q) (fun n => absurd (by omega) n)
theorem m_isYN {X : PX} {σ : Sg} {P : Int → Sg → Prop} {b : Int} (hR : Rel σ) (hb : InR b) (h : ¬ (0 ≤ b ∧ b < σ.2 6 1)) (q : P 0 σ) : CI X 249 [vR (some 170), vI b] σ P := by
  have c := hR.cnt (s := 1) (by omega)
  exact m_isYears hb (by omega) (fun n => absurd (by omega) h) (fun _ => q)
theorem SM.yy {σ : Sg} {o : Nat} {K : Kz} {s : Cs} (S : SM σ o K s) (x : Int) : SM (up2 σ.1 170 34 x, σ.2) o K s := S.mv (fun j h1 h2 => by dsimp only; rw [up2_if, if_neg (by omega)]) rfl rfl rfl
/-- the run of the reference, from isYears on -/
theorem m_runY {X : PX} {σ τ : Sg} {q sz N : Nat} {b x : Int} {o : Nat} {K : Kz} {s : Cs} {fk fn : Nat → Int} {P : Sg → Prop} (ok : sOk K s) (nw : sNew s) (f : FA σ τ) (S : SM τ o K s) (h22 : τ.1 170 22 = 0) (hb : b.toNat < 2) (hb0 : 0 ≤ b) (Y : Yz σ q (708 + 81 * b.toNat) sz fk fn) (hx : InR x) (hN : (N : Int) = min x sz) (k : ∀ υ : Sg, FA σ υ → υ.1 170 22 = (rnG K fk fn N 0 s (A0 K s)).1 → SM υ o K (rnG K fk fn N 0 s (A0 K s)).2.1 → AM υ (rnG K fk fn N 0 s (A0 K s)).2.2 → P υ) : CV X 259 [vR (some 170), vI x] (up2 τ.1 170 34 (708 + 81 * b), τ.2) P := by
  obtain ⟨y1, y2, y3, y4, y5, y6, y7, y8⟩ := Y
  have e171 : τ.2 171 = σ.2 171 := f.2 171 (by omega)
  refine m_runs (od := 708 + 81 * b.toNat) (sz := sz) (N := N) (fk := fk) (fn := fn) ok nw (S.yy _) ?_ ?_ y2 y3 ?_ hx hN (fun i hi => y6 i (by omega)) (fun i hi => ?_) (fun υ u1 u2 u3 u4 => k υ (f.trans ((fa_170 _ _).trans u1)) u2 u3 u4)
  · dsimp only; rw [up2_if, if_neg (by omega)]; exact h22
  · dsimp only; rw [up2_get]; omega
  · dsimp only; rw [e171]; exact y5
  · dsimp only; rw [e171]; exact y8 i (by omega)
theorem s_stop {X : PX} : Sm_6 X Rel := by
  intro a b ha hb σ hR
  refine same_P (a := a) hR (-1) (by omega) (fun hc => ?_) (fun τ hR2 hc => ?_) (fun K s a2 hc T => ?_)
  · exact v_132 (c_hasN (s := 0) hR (by omega) ha hc ⟨by omega, fun _ => ⟨_, rfl, Out.rfl, rfl⟩, fun e => absurd rfl e⟩)
  · exact v_260 (m_isPN hR2 ha hc ⟨by omega, fun _ => ⟨_, rfl, FA.rfl, rfl⟩, fun e => absurd rfl e⟩)
  · obtain ⟨⟨tp, tp2⟩, ok, nw, tr, tm⟩ := id T
    by_cases g : 0 ≤ b ∧ b < σ.2 6 1
    · obtain ⟨b2, sz, fk, fn, Y⟩ := hR.yrs g
      obtain ⟨⟨y1, y1'⟩, y2, y3, y4, y5, y6, y7, y8⟩ := id Y
      have inv := rnG_inv (K := K) (fk := fk) (fn := fn) sz 0 s (A0 K s) (by omega) (fun i hi => y6 i (by omega)) ok (by have := nw.2.1; omega) (A0_ok K s _)
      refine ⟨((rnG K fk fn sz 0 s (A0 K s)).1 : Int), by omega, v_132 (c_hasY (s := 0) hR (by omega) ha hc ⟨by omega, fun e => absurd e (by omega), fun _ => c_hasY (s := 1) hR (by omega) hb g ⟨by omega, fun _ => ⟨by omega, by omega, ?_⟩, fun e => absurd (by omega) e⟩⟩), fun τ hR2 hc2 T2 fr => v_260 (m_isPY hR2 ha hc2 T2 (fun υ g' S h22 => ⟨by omega, fun e => absurd e (by omega), fun _ => ?_⟩))⟩
      · rw [y4]
        exact c_run tp (by omega) y1 y1' ok nw tr y3 y4 (Nat.le_refl _) y6 y7 (fun υ f _ _ => ⟨_, rfl, f, rfl⟩)
      · have hR3 := hR2.fr g'.1.fr
        have g3 : 0 ≤ b ∧ b < υ.2 6 1 := by rw [g'.1.2 6 (by omega), fr.2.1 6 (by omega)]; exact g
        refine m_isYY hR3 hb g3 ⟨by omega, fun _ => m_runY (N := sz) ok nw g'.1 S h22 b2 g.1 (Y.fr fr) (by omega) (by omega) (fun ω f h _ _ => ⟨_, rfl, f, ?_⟩), fun e => absurd (by omega) e⟩
        exact h
    · refine ⟨-1, by omega, v_132 (c_hasY (s := 0) hR (by omega) ha hc ⟨by omega, fun e => absurd e (by omega), fun _ => c_hasN (s := 1) hR (by omega) hb g ⟨by omega, fun e => absurd rfl e, fun _ => ⟨_, rfl, Out.rfl, rfl⟩⟩⟩), fun τ hR2 hc2 T2 fr => v_260 (m_isPY hR2 ha hc2 T2 (fun υ g' S h22 => ⟨by omega, fun e => absurd e (by omega), fun _ => ?_⟩))⟩
      have hR3 := hR2.fr g'.1.fr
      have g3 : ¬ (0 ≤ b ∧ b < υ.2 6 1) := by rw [g'.1.2 6 (by omega), fr.2.1 6 (by omega)]; exact g
      exact m_isYN hR3 hb g3 ⟨by omega, fun e => absurd rfl e, fun _ => ⟨_, rfl, g'.1, rfl⟩⟩
theorem s_state {X : PX} : Sm_7 X Rel := by
  intro a b n w ha hb hn hw σ hR
  refine same_P (a := a) hR (-2) (by omega) (fun hc => ?_) (fun τ hR2 hc => ?_) (fun K s a2 hc T => ?_)
  · exact v_133 (c_hasN (s := 0) hR (by omega) ha hc ⟨by omega, fun _ => ⟨_, rfl, Out.rfl, rfl⟩, fun e => absurd rfl e⟩)
  · exact v_262 (m_isPN hR2 ha hc ⟨by omega, fun _ => ⟨_, rfl, FA.rfl, rfl⟩, fun e => absurd rfl e⟩)
  · obtain ⟨⟨tp, tp2⟩, ok, nw, tr, tm⟩ := id T
    by_cases g : 0 ≤ b ∧ b < σ.2 6 1
    · obtain ⟨b2, sz, fk, fn, Y⟩ := hR.yrs g
      obtain ⟨⟨y1, y1'⟩, y2, y3, y4, y5, y6, y7, y8⟩ := id Y
      have pre : ∀ (τ : Sg) (r : Int), Rel τ → isP τ a → Tz τ (7 + 13 * a.toNat) (610 + 49 * a.toNat) K s → Fr σ τ → (∀ υ : Sg, FA τ υ → SM υ (610 + 49 * a.toNat) K s → υ.1 170 22 = 0 → InR n ∧ (0 ≤ n → CV X 259 [vR (some 170), vI n] (up2 υ.1 170 34 (708 + 81 * b), υ.2) (fun τ3 => InR (τ3.1 170 22) ∧ (τ3.1 170 22 ≠ n → FA τ τ3 ∧ -2 = r) ∧ (¬ τ3.1 170 22 ≠ n → CI X 261 [vR (some 170), vI w] τ3 (fun r7 τ4 => FA τ τ4 ∧ r7 = r)))) ∧ (¬ 0 ≤ n → FA τ (up2 υ.1 170 34 (708 + 81 * b), υ.2) ∧ -2 = r)) → CI X 262 [vR (some 170), vI a, vI b, vI n, vI w] τ (fun x υ => FA τ υ ∧ x = r) := fun τ r hR2 hc2 T2 fr kk => by
        refine v_262 (m_isPY hR2 ha hc2 T2 (fun υ g' S h22 => ⟨by omega, fun e => absurd e (by omega), fun _ => ?_⟩))
        have hR3 := hR2.fr g'.1.fr
        have g3 : 0 ≤ b ∧ b < υ.2 6 1 := by rw [g'.1.2 6 (by omega), fr.2.1 6 (by omega)]; exact g
        obtain ⟨k1, k2, k3⟩ := kk υ g'.1 S h22
        refine m_isYY hR3 hb g3 ⟨by omega, fun e => absurd e (by omega), fun _ => ⟨k1, fun n0 => Cl.mono (k2 n0) (fun v τ3 hv => ⟨hv.1, hv.2.1, fun e => ⟨_, rfl, hv.2.2.1 e⟩, fun e => Cl.mono (hv.2.2.2 e) (fun v2 τ4 hv2 => ?_)⟩), fun n0 => ⟨_, rfl, k3 n0⟩⟩⟩
        obtain ⟨x, rfl, h⟩ := hv2
        exact ⟨x, rfl, _, rfl, h⟩
      by_cases gn : 0 ≤ n ∧ n ≤ sz
      · obtain ⟨N, rfl⟩ := Int.eq_ofNat_of_zero_le gn.1
        have inv := rnG_inv (K := K) (fk := fk) (fn := fn) N 0 s (A0 K s) (by omega) (fun i hi => y6 i (by omega)) ok (by have := nw.2.1; omega) (A0_ok K s _)
        have dr := dtF_rng inv.2.2.1 w
        refine ⟨if (rnG K fk fn N 0 s (A0 K s)).1 = N then dtF K (rnG K fk fn N 0 s (A0 K s)).2.1 w else -2, by split <;> omega, v_133 (c_hasY (s := 0) hR (by omega) ha hc ⟨by omega, fun e => absurd e (by omega), fun _ => c_hasY (s := 1) hR (by omega) hb g ⟨by omega, fun _ => ⟨by omega, hn, fun e => absurd e (by omega), fun _ => ?_⟩, fun e => absurd (by omega) e⟩⟩), fun τ hR2 hc2 T2 fr => pre τ _ hR2 hc2 T2 fr (fun υ f S h22 => ⟨hn, fun _ => m_runY (N := N) ok nw f S h22 b2 g.1 (Y.fr fr) hn (by omega) (fun ω f2 h S2 _ => ?_), fun e => absurd (by omega) e⟩)⟩
        · rw [y4]
          refine ⟨by omega, fun e => absurd e (by omega), fun _ => ⟨by omega, c_run tp (by omega) y1 y1' ok nw tr y3 y4 (by omega) (fun i hi => y6 i (by omega)) (fun i hi => y7 i (by omega)) (fun υ f S _ => ⟨by omega, fun c => ?_, fun c => ⟨_, rfl, f, ?_⟩⟩)⟩⟩
          · rw [if_pos (by omega)]
            exact c_detail inv.2.2.1 S hw ⟨_, rfl, f, rfl⟩
          · rw [if_neg (by omega)]
        · rw [h]
          refine ⟨by omega, fun c => ⟨f2, ?_⟩, fun c => ?_⟩
          · rw [if_neg (by omega)]
          · rw [if_pos (by omega)]
            exact m_nowOf inv.2.2.1 S2 hw ⟨f2, rfl⟩
      · refine ⟨-2, by omega, v_133 (c_hasY (s := 0) hR (by omega) ha hc ⟨by omega, fun e => absurd e (by omega), fun _ => c_hasY (s := 1) hR (by omega) hb g ⟨by omega, fun _ => ⟨by omega, hn, fun _ => ⟨_, rfl, Out.rfl, rfl⟩, fun c => ?_⟩, fun e => absurd (by omega) e⟩⟩), fun τ hR2 hc2 T2 fr => pre τ _ hR2 hc2 T2 fr (fun υ f S h22 => ⟨hn, fun n0 => m_runY (N := sz) ok nw f S h22 b2 g.1 (Y.fr fr) hn (by omega) (fun ω f2 h S2 _ => ?_), fun _ => ⟨f.trans (fa_170 _ _), rfl⟩⟩)⟩
        · rw [y4]
          exact ⟨by omega, fun _ => ⟨_, rfl, Out.rfl, rfl⟩, fun e => absurd ⟨by omega, by omega⟩ gn⟩
        · have inv := rnG_inv (K := K) (fk := fk) (fn := fn) sz 0 s (A0 K s) (by omega) (fun i hi => y6 i (by omega)) ok (by have := nw.2.1; omega) (A0_ok K s _)
          rw [h]
          exact ⟨by omega, fun _ => ⟨f2, rfl⟩, fun e => absurd (by omega) e⟩
    · refine ⟨-2, by omega, v_133 (c_hasY (s := 0) hR (by omega) ha hc ⟨by omega, fun e => absurd e (by omega), fun _ => c_hasN (s := 1) hR (by omega) hb g ⟨by omega, fun e => absurd rfl e, fun _ => ⟨_, rfl, Out.rfl, rfl⟩⟩⟩), fun τ hR2 hc2 T2 fr => v_262 (m_isPY hR2 ha hc2 T2 (fun υ g' S h22 => ⟨by omega, fun e => absurd e (by omega), fun _ => ?_⟩))⟩
      have hR3 := hR2.fr g'.1.fr
      have g3 : ¬ (0 ≤ b ∧ b < υ.2 6 1) := by rw [g'.1.2 6 (by omega), fr.2.1 6 (by omega)]; exact g
      exact m_isYN hR3 hb g3 ⟨by omega, fun _ => ⟨_, rfl, g'.1, rfl⟩, fun e => absurd rfl e⟩
def byB (b : Nat → Int) : Nat → Int
  | 0 => -1
  | h + 1 => if (if byB b h = -1 then 0 else b (byB b h).toNat) < b h then (h : Int) else byB b h
theorem byB_rng (b : Nat → Int) : ∀ k : Nat, -1 ≤ byB b k ∧ byB b k < k
  | 0 => by unfold byB; omega
  | k + 1 => by
    have := byB_rng b k
    unfold byB
    split <;> omega
theorem byB_tail {b : Nat → Int} {m : Nat} (nn : ∀ h : Nat, 0 ≤ b h) (hz : ∀ h : Nat, m ≤ h → b h = 0) : ∀ d : Nat, byB b (m + d) = byB b m
  | 0 => rfl
  | d + 1 => by
    have ih := byB_tail nn hz d
    rw [show byB b (m + (d + 1)) = if (if byB b (m + d) = -1 then 0 else b (byB b (m + d)).toNat) < b (m + d) then ((m + d : Nat) : Int) else byB b (m + d) from rfl, hz (m + d) (by omega), ih, if_neg]
    have := nn (byB b m).toNat
    split <;> omega
theorem c_buyer {X : PX} {σ : Sg} {A : An} {m j : Nat} {P : Int → Sg → Prop} (hA : AC σ A) (a : aOk m j A) (hj : j ≤ 40) (q : P (byB (nB A) 7) σ) : CI X 3 [vR (some 161)] σ P := by
  have mB := hA.2.2.2.2.2
  have nb := a.2.2.2.2.2.1
  have lp : ∀ (d h : Nat), h + d = 7 → Ev X 3 4 [some (vR (some 161)), some (vI (byB (nB A) h)), some (vI h)] [] σ (fun v τ => ∃ x, v = some (vI x) ∧ P x τ) := by
    intro d
    induction d with
    | zero =>
      intro h hh
      refine v_3_4 ⟨by omega, fun _ => ⟨_, rfl, ?_⟩, fun e => absurd (by omega) e⟩
      rw [show h = 7 by omega]; exact q
    | succ d ih =>
      intro h hh
      have nx := ih (h + 1) (by omega)
      rw [show byB (nB A) (h + 1) = if (if byB (nB A) h = -1 then 0 else nB A (byB (nB A) h).toNat) < nB A h then (h : Int) else byB (nB A) h from rfl] at nx
      have br := byB_rng (nB A) h
      have n1 := nb h
      have n2 := nb (byB (nB A) h).toNat
      refine v_3_4 ?_
      rw [Int.toNat_natCast, mB h (by omega)]
      refine ⟨by omega, fun e => absurd e (by omega), fun _ => ⟨by omega, by omega, fun c => ?_, fun c => ?_⟩⟩
      · rw [mB (byB (nB A) h).toNat (by omega)]
        rw [if_neg c] at nx
        refine ⟨by omega, by omega, by omega, fun e => ?_, fun e => ?_⟩
        · rw [if_neg (by omega)] at nx; exact nx
        · rw [if_pos (by omega)] at nx; exact nx
      · rw [if_pos (show byB (nB A) h = -1 by omega)] at nx
        refine ⟨by omega, fun e => ?_, fun e => ?_⟩
        · rw [if_neg (by omega)] at nx; exact nx
        · rw [if_pos (by omega)] at nx; exact nx
  exact v_3 (lp 7 0 (by omega))
theorem m_buyer {X : PX} {σ : Sg} {A : An} {m j : Nat} {P : Int → Sg → Prop} (m7 : m ≤ 7) (h12 : σ.1 170 12 = m) (hA : AM σ A) (a : aOk m j A) (hj : j ≤ 40) (q : P (byB (nB A) m) σ) : CI X 263 [vR (some 170)] σ P := by
  have mB := hA.2.2.2.2.2
  have nb := a.2.2.2.2.2.1
  have lp : ∀ (d h : Nat), h + d = m → Ev X 263 4 [some (vR (some 170)), some (vI (byB (nB A) h)), some (vI h)] [] σ (fun v τ => ∃ x, v = some (vI x) ∧ P x τ) := by
    intro d
    induction d with
    | zero =>
      intro h hh
      refine v_263_4 ⟨by omega, by omega, fun _ => ⟨_, rfl, ?_⟩, fun e => absurd (by omega) e⟩
      rw [show h = m by omega]; exact q
    | succ d ih =>
      intro h hh
      have nx := ih (h + 1) (by omega)
      rw [show byB (nB A) (h + 1) = if (if byB (nB A) h = -1 then 0 else nB A (byB (nB A) h).toNat) < nB A h then (h : Int) else byB (nB A) h from rfl] at nx
      have br := byB_rng (nB A) h
      have n1 := nb h
      have n2 := nb (byB (nB A) h).toNat
      refine v_263_4 ?_
      rw [Int.toNat_natCast, mB h (by omega)]
      refine ⟨by omega, by omega, fun e => absurd e (by omega), fun _ => ⟨by omega, by omega, fun c => ?_, fun c => ?_⟩⟩
      · rw [mB (byB (nB A) h).toNat (by omega)]
        rw [if_neg c] at nx
        refine ⟨by omega, by omega, by omega, fun e => ?_, fun e => ?_⟩
        · rw [if_neg (by omega)] at nx; exact nx
        · rw [if_pos (by omega)] at nx; exact nx
      · rw [if_pos (show byB (nB A) h = -1 by omega)] at nx
        refine ⟨by omega, fun e => ?_, fun e => ?_⟩
        · rw [if_neg (by omega)] at nx; exact nx
        · rw [if_pos (by omega)] at nx; exact nx
  exact v_263 (lp m 0 (by omega))
def afF (A : An) (m : Nat) (w : Int) : Int := if w = 0 then nS A else if w = 1 then nH A else if w = 2 then nP A else if w = 3 then nY A else if w = 4 then byB (nB A) m else -2
theorem s_after {X : PX} : Sm_30 X Rel := by
  intro a b w ha hb hw σ hR
  refine same_P (a := a) hR (-2) (by omega) (fun hc => ?_) (fun τ hR2 hc => ?_) (fun K s a2 hc T => ?_)
  · exact v_134 (c_hasN (s := 0) hR (by omega) ha hc ⟨by omega, fun _ => ⟨_, rfl, Out.rfl, rfl⟩, fun e => absurd rfl e⟩)
  · exact v_264 (m_isPN hR2 ha hc ⟨by omega, fun _ => ⟨_, rfl, FA.rfl, rfl⟩, fun e => absurd rfl e⟩)
  · obtain ⟨⟨tp, tp2⟩, ok, nw, tr, tm⟩ := id T
    have n7 := ok.e7.2.2.1
    by_cases g : 0 ≤ b ∧ b < σ.2 6 1
    · obtain ⟨b2, sz, fk, fn, Y⟩ := hR.yrs g
      obtain ⟨⟨y1, y1'⟩, y2, y3, y4, y5, y6, y7, y8⟩ := id Y
      have inv := rnG_inv (K := K) (fk := fk) (fn := fn) sz 0 s (A0 K s) (by omega) (fun i hi => y6 i (by omega)) ok (by have := nw.2.1; omega) (A0_ok K s _)
      obtain ⟨i1, i2, i3, i4, i5⟩ := inv
      generalize hr : rnG K fk fn sz 0 s (A0 K s) = r at i1 i2 i3 i4 i5
      obtain ⟨c1, c2, c3, c4, c5, c6, c7⟩ := id i5
      have bt := byB_tail (b := nB r.2.2) (m := kN K) (fun h => (c6 h).1) c7 (7 - kN K)
      rw [show kN K + (7 - kN K) = 7 by omega] at bt
      have br := byB_rng (nB r.2.2) (kN K)
      refine ⟨afF r.2.2 (kN K) w, ?_, v_134 (c_hasY (s := 0) hR (by omega) ha hc ⟨by omega, fun e => absurd e (by omega), fun _ => c_hasY (s := 1) hR (by omega) hb g ⟨by omega, fun _ => ⟨by omega, by omega, ?_⟩, fun e => absurd (by omega) e⟩⟩), fun τ hR2 hc2 T2 fr => v_264 (m_isPY hR2 ha hc2 T2 (fun υ g' S h22 => ⟨by omega, fun e => absurd e (by omega), fun _ => ?_⟩))⟩
      · unfold afF
        repeat' split
        all_goals omega
      · rw [y4]
        refine c_run tp (by omega) y1 y1' ok nw tr y3 y4 (Nat.le_refl _) y6 y7 (fun υ f S hA => ?_)
        rw [hr] at hA
        obtain ⟨m2, m3, m4, m5, m6, mB⟩ := id hA
        refine ⟨hw, fun e => ⟨_, rfl, f, ?_⟩, fun e => ⟨_, rfl, f, ?_⟩, fun e => ⟨_, rfl, f, ?_⟩, fun e => ⟨_, rfl, f, ?_⟩, fun e => c_buyer hA i5 (by omega) ⟨_, rfl, f, ?_⟩, fun e => ⟨_, rfl, f, ?_⟩⟩
        · rw [m2, e]; rfl
        · rw [m3, e]; rfl
        · rw [m4, e]; rfl
        · rw [m5, e]; rfl
        · rw [bt, e]; rfl
        · unfold afF; rw [if_neg (by omega), if_neg (by omega), if_neg (by omega), if_neg (by omega), if_neg (by omega)]
      · have hR3 := hR2.fr g'.1.fr
        have g3 : 0 ≤ b ∧ b < υ.2 6 1 := by rw [g'.1.2 6 (by omega), fr.2.1 6 (by omega)]; exact g
        refine m_isYY hR3 hb g3 ⟨by omega, fun _ => m_runY (N := sz) ok nw g'.1 S h22 b2 g.1 (Y.fr fr) (by omega) (by omega) (fun ω f h S2 hA => ?_), fun e => absurd (by omega) e⟩
        rw [hr] at hA S2
        obtain ⟨m2, m3, m4, m5, m6, mB⟩ := id hA
        refine ⟨hw, fun e => ⟨_, rfl, f, ?_⟩, fun e => ⟨_, rfl, f, ?_⟩, fun e => ⟨_, rfl, f, ?_⟩, fun e => ⟨_, rfl, f, ?_⟩, fun e => m_buyer n7 S2.mx.2.1 hA i5 (by omega) ⟨_, rfl, f, ?_⟩, fun e => ⟨_, rfl, f, ?_⟩⟩
        · rw [m2, e]; rfl
        · rw [m3, e]; rfl
        · rw [m4, e]; rfl
        · rw [m5, e]; rfl
        · rw [e]; rfl
        · unfold afF; rw [if_neg (by omega), if_neg (by omega), if_neg (by omega), if_neg (by omega), if_neg (by omega)]
    · refine ⟨-2, by omega, v_134 (c_hasY (s := 0) hR (by omega) ha hc ⟨by omega, fun e => absurd e (by omega), fun _ => c_hasN (s := 1) hR (by omega) hb g ⟨by omega, fun e => absurd rfl e, fun _ => ⟨_, rfl, Out.rfl, rfl⟩⟩⟩), fun τ hR2 hc2 T2 fr => v_264 (m_isPY hR2 ha hc2 T2 (fun υ g' S h22 => ⟨by omega, fun e => absurd e (by omega), fun _ => ?_⟩))⟩
      have hR3 := hR2.fr g'.1.fr
      have g3 : ¬ (0 ≤ b ∧ b < υ.2 6 1) := by rw [g'.1.2 6 (by omega), fr.2.1 6 (by omega)]; exact g
      exact m_isYN hR3 hb g3 ⟨by omega, fun e => absurd rfl e, fun _ => ⟨_, rfl, g'.1, rfl⟩⟩
