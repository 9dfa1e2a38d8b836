theorem same_P {X : PX} {kc km : Nat} {as : List PV} {σ : Sg} {a : Int} (hR : Rel σ) (d : Int) (hd : InR d)
    (cN : ¬ isP σ a → CI X kc (vR (some 0) :: as) σ (fun x τ => Out σ τ 131 169 ∧ x = d)) (mN : ∀ τ : Sg, Rel τ → ¬ isP τ a → CI X km (vR (some 170) :: as) τ (fun x υ => FA τ υ ∧ x = d))
    (Y : ∀ (K : Kz) (s : Cs), a.toNat < 2 → isP σ a → Tz σ (7 + 13 * a.toNat) (610 + 49 * a.toNat) K s → ∃ r : Int, InR r ∧ CI X kc (vR (some 0) :: as) σ (fun x τ => Out σ τ 131 169 ∧ x = r) ∧ ∀ τ : Sg, Rel τ → isP τ a → Tz τ (7 + 13 * a.toNat) (610 + 49 * a.toNat) K s → Fr σ τ → CI X km (vR (some 170) :: as) τ (fun x υ => FA τ υ ∧ x = r)) :
    CI X kc (vR (some 0) :: as) σ (fun r τ => CI X km (vR (some 170) :: as) τ (fun r2 υ => r2 = r ∧ InR r ∧ Rel υ)) := by
  have ep : ∀ τ : Sg, Fr σ τ → (isP τ a ↔ isP σ a) := fun τ f => by unfold isP; rw [f.2.1 6 (by omega)]
  by_cases hc : isP σ a
  · obtain ⟨a2, T⟩ := hR.par hc
    obtain ⟨r, r1, r2, r3⟩ := Y _ _ a2 hc T
    exact same_mk hR r r1 r2 (fun τ f hR2 => r3 τ hR2 ((ep τ f).mpr hc) (T.fr f) f)
  · exact same_mk hR d hd (cN hc) (fun τ f hR2 => mN τ hR2 (fun h => hc ((ep τ f).mp h)))
theorem Out.c {σ τ : Sg} (f : Out σ τ 146 156) : Out σ τ 131 169 := f.wide (by omega) (by omega)
theorem Tz.out {σ τ : Sg} {p o : Nat} {K : Kz} {s : Cs} (h : Tz σ p o K s) (f : Out σ τ 131 169) : Tz τ p o K s := h.fr f.fr
/-! parish -/
def parH (K : Kz) (s : Cs) (d : Int) (k : Nat) : Int := if k < kN K then (if d = 1 then cG s k else if d = 2 then kY K k else cT K s k) else -1
def parR (K : Kz) (d : Int) (k : Nat) : Int := if k < (kR K).1 then (if d = 4 then ((kR K).2.1 k : Int) else if d = 5 then ((kR K).2.2.1 k : Int) else (kR K).2.2.2 k) else -1
def parF (K : Kz) (s : Cs) (w : Int) : Int := if w < 0 then -1 else if w = 0 then cQ s else if w = 1 then cP s else if w = 2 then kN K else if w = 3 then (kR K).1 else if w = 4 then cO s else if w = 5 then zE K s else if w = 6 then cL K s else if w < 10 then -1 else if w < 40 then parH K s (w / 10) (w % 10).toNat else if w < 70 then parR K (w / 10) (w % 10).toNat else -1
theorem parF_rng {K : Kz} {s : Cs} (ok : sOk K s) (w : Int) : InR (parF K s w) := by
  obtain ⟨e1, e2, e3, e4⟩ := ok.e7
  have l := ok.l
  obtain ⟨⟨g10, g7, gr⟩, ⟨d1, d2, d3, d4⟩, h3, h4, h5, h6, -⟩ := id ok
  unfold parF
  repeat' split
  all_goals try omega
  · unfold parH
    split
    · rename_i hk
      have := d4 _ hk
      have := h6 _ hk
      have := ok.t.1 (w % 10).toNat
      split
      · omega
      · split <;> omega
    · omega
  · unfold parR
    split
    · rename_i hk
      have := gr _ hk
      split
      · omega
      · split <;> omega
    · omega
theorem c_hRl {X : PX} {σ : Sg} {P : Int → Sg → Prop} {p m : Nat} {b : Int} (hp : p ∈ parL) (h2 : σ.1 p 4 = m) (m10 : m ≤ 10) (hb : InR b) (q : P (if 0 ≤ b ∧ b < m then 1 else 0) σ) : CI X 83 [vR (some p), vI b] σ P := by
  refine v_83 hp ⟨hb, fun c => ⟨_, rfl, ?_⟩, fun c => ⟨by omega, fun d => ⟨_, rfl, ?_⟩, fun d => ⟨fun e => absurd e (by omega), fun e => ⟨_, rfl, ?_⟩⟩⟩⟩
  · rwa [if_neg (by omega)] at q
  · rwa [if_neg (by omega)] at q
  · rwa [if_pos (by omega)] at q
theorem divrem {w : Int} (h0 : 0 ≤ w) (h1 : w < 2147483648) : iDiv w 10 = w / 10 ∧ iRem w 10 = w % 10 := ⟨b_div h0 h1 (by omega) (by omega), b_rem h0 h1 (by omega) (by omega)⟩
theorem s_parish {X : PX} : Sm_4 X Rel := by
  intro a w ha hw σ hR
  refine same_P (a := a) hR (-1) (by omega) (fun hc => ?_) (fun τ hR2 hc => ?_) (fun K s a2 hc T => ⟨parF K s w, parF_rng T.2.1 w, ?_, fun τ hR2 hc2 T2 _ => ?_⟩)
  · exact v_128 (c_hasN (s := 0) hR (by omega) ha hc ⟨by omega, fun e => absurd rfl e, fun _ => ⟨_, rfl, Out.rfl, rfl⟩⟩)
  · exact v_205 (m_isPN hR2 ha hc ⟨by omega, fun _ => ⟨_, rfl, FA.rfl, rfl⟩, fun e => absurd rfl e⟩)
  · obtain ⟨⟨tp, tp2⟩, ok, nw, tr, tm⟩ := id T
    obtain ⟨e1, e2, e3, e4⟩ := ok.e7
    have g10 := ok.1.1
    refine v_128 (c_hasY (s := 0) hR (by omega) ha hc ⟨by omega, fun _ => ⟨by omega, hw, fun h40 => c_begin tp (by omega) ok nw tr (fun τ f S => ?_), fun h40 => ?_⟩, fun e => absurd (by omega) e⟩)
    · have T2 := T.out f.c
      obtain ⟨r0, r1, r2, r3, r4, r5, r6⟩ := T2.2.2.2.1
      have f2 := f.c
      refine ⟨fun h10 => ⟨fun e => ⟨_, rfl, f2, ?_⟩, fun e => ⟨_, rfl, f2, ?_⟩, fun e => ⟨_, rfl, f2, ?_⟩, fun e => ⟨_, rfl, f2, ?_⟩, fun e => ⟨_, rfl, f2, ?_⟩, fun e => ⟨_, rfl, f2, ?_⟩, fun e => ⟨_, rfl, f2, ?_⟩, fun e => ⟨_, rfl, f2, ?_⟩⟩, fun h10 => v_129 tp (c_hH tp r2 e3 ?_ ?_)⟩
      · rw [r0, e]; rfl
      · rw [r1, e]; rfl
      · rw [r2, e]; rfl
      · rw [r4.1, e]; rfl
      · rw [r3, e]; rfl
      · rw [S.2.1, e]; rfl
      · rw [S.2.2.1, e]; rfl
      · unfold parF
        by_cases hn : w < 0
        · rw [if_pos hn]
        · rw [if_neg hn, if_neg (by omega), if_neg (by omega), if_neg (by omega), if_neg (by omega), if_neg (by omega), if_neg (by omega), if_neg (by omega), if_pos h10]
      all_goals rw [(divrem (w := w) (by omega) (by omega)).2]
      · omega
      · have ep : parF K s w = parH K s (w / 10) (w % 10).toNat := by
          unfold parF
          rw [if_neg (by omega), if_neg (by omega), if_neg (by omega), if_neg (by omega), if_neg (by omega), if_neg (by omega), if_neg (by omega), if_neg (by omega), if_neg (by omega), if_pos h40]
        rw [ep, (divrem (w := w) (by omega) (by omega)).1]
        unfold parH
        by_cases hk : 0 ≤ w % 10 ∧ w % 10 < kN K
        · have hk2 : (w % 10).toNat < kN K := by omega
          rw [if_pos hk, if_pos hk2]
          refine ⟨by omega, fun _ => ⟨by omega, fun d => ⟨by omega, _, rfl, _, rfl, f2, ?_⟩, fun d => ⟨by omega, _, rfl, _, rfl, f2, ?_⟩, fun d => ?_, fun d => absurd d (by omega)⟩, fun e => absurd (by omega) e⟩
          · rw [if_pos d]; exact (r6 _ hk2).1
          · rw [if_neg (by omega), if_pos d]; exact (r6 _ hk2).2
          · rw [show (w % 10 : Int) = ((w % 10).toNat : Int) by omega]
            refine c_taxOf (v := 154) (by decide) (by omega) ⟨_, rfl, _, rfl, f2, ?_⟩
            rw [if_neg (by omega), if_neg (by omega)]
            exact S.2.2.2 _ (by omega)
        · rw [if_neg hk, if_neg (by omega)]
          exact ⟨by omega, fun e => absurd rfl e, fun _ => ⟨_, rfl, _, rfl, f2, rfl⟩⟩
    · obtain ⟨r0, r1, r2, r3, r4, r5, r6⟩ := tr
      have ep : parF K s w = if w < 70 then parR K (w / 10) (w % 10).toNat else -1 := by
        unfold parF
        rw [if_neg (by omega), if_neg (by omega), if_neg (by omega), if_neg (by omega), if_neg (by omega), if_neg (by omega), if_neg (by omega), if_neg (by omega), if_neg (by omega), if_neg (by omega)]
      rw [ep]
      obtain ⟨dv1, dv2⟩ := divrem (w := w) (by omega) (by omega)
      refine v_85 tp ?_
      rw [dv1, dv2]
      refine c_hRl tp r4.1 g10 (by omega) ?_
      unfold parR
      by_cases hk : 0 ≤ w % 10 ∧ w % 10 < (kR K).1
      · have hk2 : (w % 10).toNat < (kR K).1 := by omega
        rw [if_pos hk, if_pos hk2]
        refine ⟨by omega, fun _ => ⟨by omega, fun d => ⟨by omega, _, rfl, _, rfl, Out.rfl, ?_⟩, fun d => ⟨by omega, _, rfl, _, rfl, Out.rfl, ?_⟩, fun d => ⟨by omega, _, rfl, _, rfl, Out.rfl, ?_⟩, fun d => ⟨_, rfl, _, rfl, Out.rfl, ?_⟩⟩, fun e => absurd (by omega) e⟩
        · rw [if_pos (by omega), if_pos d]; exact (r4.2 _ hk2).1
        · rw [if_pos (by omega), if_neg (by omega), if_pos d]; exact (r5 _ hk2).1
        · rw [if_pos (by omega), if_neg (by omega), if_neg (by omega)]; exact (r5 _ hk2).2
        · rw [if_neg (by omega)]
      · rw [if_neg hk, if_neg (show ¬ (w % 10).toNat < (kR K).1 by omega)]
        refine ⟨by omega, fun e => absurd rfl e, fun _ => ⟨_, rfl, _, rfl, Out.rfl, ?_⟩⟩
        split <;> rfl
  · obtain ⟨⟨tp, tp2⟩, ok, nw, tr, tm⟩ := id T2
    obtain ⟨e1, e2, e3, e4⟩ := ok.e7
    have g10 := ok.1.1
    refine v_205 (m_isPY hR2 ha hc2 T2 (fun υ g S _ => ⟨by omega, fun e => absurd e (by omega), fun _ => ⟨hw, fun h0 => c_isIn hw (by omega) (by omega) ?_, fun h0 => ⟨_, rfl, g.1, ?_⟩⟩⟩))
    · obtain ⟨⟨hx, a14, a15, a16, a17, a19, a20, a21, ag⟩, a18, at'⟩ := id S
      obtain ⟨m1, m2, m3, m4, m5, m6, m7⟩ := (tm.mv (g.2.2 171 (by omega) (by omega) (by omega)) : MP υ _ K s)
      by_cases h4 : 0 ≤ w ∧ w ≤ 4
      · rw [if_pos h4]
        have o9 := m1.1
        refine ⟨by omega, fun e => absurd e (by omega), fun _ => ⟨by rw [hx.1]; omega, _, rfl, g.1, ?_⟩⟩
        rw [hx.1]
        rcases (show w = 0 ∨ w = 1 ∨ w = 2 ∨ w = 3 ∨ w = 4 by omega) with rfl | rfl | rfl | rfl | rfl
        · exact m2
        · exact m3
        · exact m4
        · exact m5
        · exact m6
      · rw [if_neg h4]
        obtain ⟨dv1, dv2⟩ := divrem (w := w) (by omega) (by omega)
        refine ⟨by omega, fun _ => ⟨fun h5 => ⟨fun h6 => ?_, fun h6 => ?_⟩, fun h5 => ⟨_, rfl, g.1, ?_⟩⟩, fun e => absurd rfl e⟩
        · rw [dv1, dv2]
          have ep1 : w < 10 → parF K s w = -1 := fun h => by
            unfold parF
            rw [if_neg (by omega), if_neg (by omega), if_neg (by omega), if_neg (by omega), if_neg (by omega), if_neg (by omega), if_neg (by omega), if_neg (by omega), if_pos h]
          have ep2 : 10 ≤ w → w < 40 → parF K s w = parH K s (w / 10) (w % 10).toNat := fun h h' => by
            unfold parF
            rw [if_neg (by omega), if_neg (by omega), if_neg (by omega), if_neg (by omega), if_neg (by omega), if_neg (by omega), if_neg (by omega), if_neg (by omega), if_neg (by omega), if_pos h']
          have ep3 : 40 ≤ w → parF K s w = if w < 70 then parR K (w / 10) (w % 10).toNat else -1 := fun h => by
            unfold parF
            rw [if_neg (by omega), if_neg (by omega), if_neg (by omega), if_neg (by omega), if_neg (by omega), if_neg (by omega), if_neg (by omega), if_neg (by omega), if_neg (by omega), if_neg (by omega)]
          have hkk : (w % 10 : Int) = ((w % 10).toNat : Int) := by omega
          refine ⟨by omega, fun d => ?_, fun d => ?_, fun d => ?_, fun d => ?_, fun d => ?_, fun d => ?_, fun d => ?_⟩
          · rw [ep2 (by omega) (by omega)]
            unfold parH
            refine m_isH hx.2.1 e3 (by omega) ⟨by split <;> omega, fun e => ⟨_, rfl, g.1, ?_⟩, fun e => ⟨?_, _, rfl, g.1, ?_⟩⟩
            · rw [if_neg]; intro hk; rw [if_pos (by omega)] at e; omega
            · rcases Decidable.em (0 ≤ w % 10 ∧ w % 10 < kN K) with h | h
              · omega
              · rw [if_neg h] at e; exact absurd rfl e
            · rcases Decidable.em (0 ≤ w % 10 ∧ w % 10 < kN K) with h | h
              · rw [if_pos (by omega), if_pos d]; exact ag _ (by omega)
              · rw [if_neg h] at e; exact absurd rfl e
          · rw [ep2 (by omega) (by omega)]
            unfold parH
            refine m_isH hx.2.1 e3 (by omega) ⟨by split <;> omega, fun e => ⟨_, rfl, g.1, ?_⟩, fun e => ?_⟩
            · rw [if_neg]; intro hk; rw [if_pos (by omega)] at e; omega
            · rcases Decidable.em (0 ≤ w % 10 ∧ w % 10 < kN K) with h | h
              · rw [if_pos (by omega), if_neg (by omega), if_pos d, hkk]
                exact m_yield hx (by omega) e3 ⟨_, rfl, g.1, by rw [Int.toNat_natCast]⟩
              · rw [if_neg h] at e; exact absurd rfl e
          · rw [ep2 (by omega) (by omega)]
            unfold parH
            refine m_isH hx.2.1 e3 (by omega) ⟨by split <;> omega, fun e => ⟨_, rfl, g.1, ?_⟩, fun e => ⟨?_, _, rfl, g.1, ?_⟩⟩
            · rw [if_neg]; intro hk; rw [if_pos (by omega)] at e; omega
            · rcases Decidable.em (0 ≤ w % 10 ∧ w % 10 < kN K) with h | h
              · omega
              · rw [if_neg h] at e; exact absurd rfl e
            · rcases Decidable.em (0 ≤ w % 10 ∧ w % 10 < kN K) with h | h
              · rw [if_pos (by omega), if_neg (by omega), if_neg (by omega)]; exact at' _ (by omega)
              · rw [if_neg h] at e; exact absurd rfl e
          all_goals try (rw [ep3 (by omega), if_pos (by omega)])
          · unfold parR
            refine ⟨by omega, by rw [hx.2.2.1]; omega, fun e => ⟨_, rfl, g.1, ?_⟩, fun e => ?_⟩
            · rw [hx.2.2.1] at e; rw [if_neg (by omega)]
            · rw [hx.2.2.1] at e
              rw [if_pos (by omega), if_pos d, hkk, d]
              exact m_rule ok.1 hx.rm (by omega) (by omega) ⟨_, rfl, g.1, by rw [if_pos (by omega), Int.toNat_natCast]⟩
          · unfold parR
            refine ⟨by omega, by rw [hx.2.2.1]; omega, fun e => ⟨_, rfl, g.1, ?_⟩, fun e => ?_⟩
            · rw [hx.2.2.1] at e; rw [if_neg (by omega)]
            · rw [hx.2.2.1] at e
              rw [if_pos (by omega), if_neg (by omega), if_pos d, hkk, d]
              exact m_rule ok.1 hx.rm (by omega) (by omega) ⟨_, rfl, g.1, by rw [if_neg (by omega), if_pos (by omega), Int.toNat_natCast]⟩
          · unfold parR
            refine ⟨by omega, by rw [hx.2.2.1]; omega, fun e => ⟨_, rfl, g.1, ?_⟩, fun e => ?_⟩
            · rw [hx.2.2.1] at e; rw [if_neg (by omega)]
            · rw [hx.2.2.1] at e
              rw [if_pos (by omega), if_neg (by omega), if_neg (by omega), hkk, d]
              exact m_rule ok.1 hx.rm (by omega) (by omega) ⟨_, rfl, g.1, by rw [if_neg (by omega), if_neg (by omega), Int.toNat_natCast]⟩
          · refine ⟨_, rfl, g.1, ?_⟩
            by_cases h10 : w < 10
            · rw [ep1 h10]
            · rw [ep3 (by omega), if_neg (by omega)]
        · have h6 : w = 6 := by omega
          refine m_tt (t := cT K s) e3 hx.2.1 at' ⟨_, rfl, g.1, ?_⟩
          rw [ok.t.2.2.1, a14, h6]
          show cQ s - (cQ s - cL K s) = cL K s
          omega
        · have h5 : w = 5 := by omega
          rw [a18, h5]; rfl
    · unfold parF
      rw [if_pos (by omega)]
