/-! the reference's course -/
def MK (σ : Sg) (o : Nat) (K : Kz) : Prop := o + 49 ≤ 904 ∧ (∀ h : Nat, h < kN K → σ.2 171 (o + 6 + 2 * h) = kY K h) ∧ (∀ r : Nat, r < (kR K).1 → σ.2 171 (o + 19 + 3 * r) = (kR K).2.1 r ∧ σ.2 171 (o + 20 + 3 * r) = (kR K).2.2.1 r ∧ σ.2 171 (o + 21 + 3 * r) = (kR K).2.2.2 r)
/-- the reference's row at o tells that -/
def MP (σ : Sg) (o : Nat) (K : Kz) (s : Cs) : Prop := MK σ o K ∧ σ.2 171 o = cQ s ∧ σ.2 171 (o + 1) = cP s ∧ σ.2 171 (o + 2) = kN K ∧ σ.2 171 (o + 3) = (kR K).1 ∧ σ.2 171 (o + 4) = cO s ∧ (∀ h : Nat, h < kN K → σ.2 171 (o + 5 + 2 * h) = cG s h)
def MX (σ : Sg) (o : Nat) (K : Kz) : Prop := σ.1 170 11 = o ∧ σ.1 170 12 = kN K ∧ σ.1 170 13 = (kR K).1 ∧ MK σ o K
def SMp (σ : Sg) (o : Nat) (K : Kz) (s : Cs) : Prop := MX σ o K ∧ σ.1 170 14 = cQ s ∧ σ.1 170 15 = cP s ∧ σ.1 170 16 = cO s ∧ σ.1 170 17 = cC s ∧ σ.1 170 19 = cY s ∧ σ.1 170 20 = cD s ∧ σ.1 170 21 = cS s ∧ (∀ h : Nat, h < kN K → σ.2 174 h = cG s h)
def SM (σ : Sg) (o : Nat) (K : Kz) (s : Cs) : Prop := SMp σ o K s ∧ σ.1 170 18 = zE K s ∧ (∀ h : Nat, h < kN K → σ.2 175 h = cT K s h)
def FB (σ τ : Sg) : Prop := (∀ c : Nat, c ≠ 170 → τ.1 c = σ.1 c) ∧ (∀ j : Nat, j < 14 ∨ 24 < j → τ.1 170 j = σ.1 170 j) ∧ (∀ c : Nat, c ≠ 174 → c ≠ 175 → c ≠ 176 → τ.2 c = σ.2 c)
def FM (σ τ : Sg) : Prop := FB σ τ ∧ τ.1 170 22 = σ.1 170 22
theorem FB.rfl {σ : Sg} : FB σ σ := ⟨fun _ _ => Eq.refl _, fun _ _ => Eq.refl _, fun _ _ _ _ => Eq.refl _⟩
theorem FB.trans {σ τ υ : Sg} (h : FB σ τ) (g : FB τ υ) : FB σ υ := ⟨fun c hc => (g.1 c hc).trans (h.1 c hc), fun c hc => (g.2.1 c hc).trans (h.2.1 c hc), fun c h1 h2 h3 => (g.2.2 c h1 h2 h3).trans (h.2.2 c h1 h2 h3)⟩
theorem FM.rfl {σ : Sg} : FM σ σ := ⟨FB.rfl, Eq.refl _⟩
theorem FM.trans {σ τ υ : Sg} (h : FM σ τ) (g : FM τ υ) : FM σ υ := ⟨h.1.trans g.1, g.2.trans h.2⟩
theorem FB.fr {σ τ : Sg} (h : FB σ τ) : Fr σ τ := ⟨fun c hc => h.1 c (by omega), fun c hc => h.2.2 c (by omega) (by omega) (by omega), h.2.2 171 (by omega) (by omega) (by omega), h.2.2 172 (by omega) (by omega) (by omega)⟩
theorem MK.mv {σ τ : Sg} {o : Nat} {K : Kz} (h : MK σ o K) (e : τ.2 171 = σ.2 171) : MK τ o K := by
  unfold MK; rw [e]; exact h
theorem MP.mv {σ τ : Sg} {o : Nat} {K : Kz} {s : Cs} (h : MP σ o K s) (e : τ.2 171 = σ.2 171) : MP τ o K s := by
  unfold MP MK; rw [e]; exact h
theorem FB.a171 {σ τ : Sg} (f : FB σ τ) : τ.2 171 = σ.2 171 := f.2.2 171 (by omega) (by omega) (by omega)
theorem MX.mv {σ τ : Sg} {o : Nat} {K : Kz} (h : MX σ o K) (f : ∀ j : Nat, j = 11 ∨ j = 12 ∨ j = 13 → τ.1 170 j = σ.1 170 j) (e : τ.2 171 = σ.2 171) : MX τ o K := by
  unfold MX; rw [f 11 (by omega), f 12 (by omega), f 13 (by omega)]; exact ⟨h.1, h.2.1, h.2.2.1, h.2.2.2.mv e⟩
theorem MX.fb {σ τ : Sg} {o : Nat} {K : Kz} (h : MX σ o K) (f : FB σ τ) : MX τ o K := h.mv (fun j hj => f.2.1 j (by omega)) f.a171
theorem MX.rm {σ : Sg} {o : Nat} {K : Kz} (h : MX σ o K) : RM σ (kR K) := by
  obtain ⟨h1, h2, h3, h4, h5, h6⟩ := h
  refine ⟨by omega, h3, fun r hr => ?_⟩
  rw [h1, Int.toNat_natCast]
  exact h6 r hr
theorem SM.mx {σ : Sg} {o : Nat} {K : Kz} {s : Cs} (h : SM σ o K s) : MX σ o K := h.1.1
theorem m_sh {X : PX} {σ : Sg} {o : Nat} {K : Kz} {s : Cs} {P : Sg → Prop} (ok : sOk K s) (h : SMp σ o K s) (k : ∀ τ : Sg, FM σ τ → (∀ j : Nat, j ≠ 18 → τ.1 170 j = σ.1 170 j) → τ.2 174 = σ.2 174 → SM τ o K s → P τ) : CV X 199 [vR (some 170)] σ P := by
  have c10 := ok.2.2.2.2.1
  obtain ⟨hx, a14, a15, a16, a17, a19, a20, a21, ag⟩ := id h
  refine m_shares (cut := cC s) (off := cO s) ok.1 ok.2.1 hx.rm hx.2.1 a14 a16 a17 ok.2.2.2.1 (by omega) ag (fun τ t1 t2 t3 => ?_)
  have b1 : ∀ c : Nat, c ≠ 170 → τ.1 c = σ.1 c := fun c hc => by rw [t1, up2_ne _ _ _ hc]
  have b2 : ∀ j : Nat, j ≠ 18 → τ.1 170 j = σ.1 170 j := fun j hj => by rw [t1, up2_if, if_neg hj]
  have b3 : τ.1 170 18 = zE K s := by rw [t1, up2_get]; rfl
  have e174 := t2 174 (by omega) (by omega)
  have e171 := t2 171 (by omega) (by omega)
  refine k τ ⟨⟨b1, fun j hj => b2 j (by omega), fun c _ h2 h3 => t2 c h2 h3⟩, b2 22 (by omega)⟩ b2 e174 ⟨⟨hx.mv (fun j hj => b2 j (by omega)) e171, ?_⟩, b3, t3⟩
  rw [b2 14 (by omega), b2 15 (by omega), b2 16 (by omega), b2 17 (by omega), b2 19 (by omega), b2 20 (by omega), b2 21 (by omega), e174]
  exact ⟨a14, a15, a16, a17, a19, a20, a21, ag⟩
theorem m_bl {X : PX} {σ : Sg} {o : Nat} {K : Kz} {s : Cs} {Q : Option PV → Sg → Prop} (hx : MX σ o K) (hp : MP σ o K s) (n7 : kN K ≤ 7)
    (k : ∀ τ : Sg, τ.1 = σ.1 → (∀ c : Nat, c ≠ 174 → τ.2 c = σ.2 c) → (∀ h : Nat, h < kN K → τ.2 174 h = cG s h) → CV X 199 [vR (some 170)] τ (fun υ => Q none υ)) : ∀ (d h : Nat) (τ : Sg), h + d = 7 → τ.1 = σ.1 → (∀ c : Nat, c ≠ 174 → τ.2 c = σ.2 c) → (∀ i : Nat, i < h → i < kN K → τ.2 174 i = cG s i) → Ev X 201 42 [some (vR (some 170)), some (vI h)] [] τ Q := by
  obtain ⟨x11, x12, x13, ⟨x9, -⟩⟩ := hx
  obtain ⟨-, -, -, -, -, -, pg⟩ := hp
  intro d
  induction d with
  | zero =>
    intro h τ hh t1 t2 t3
    exact v_201_42 ⟨by omega, fun _ => k τ t1 t2 (fun i hi => t3 i (by omega) hi), fun q => absurd (by omega) q⟩
  | succ d ih =>
    intro h τ hh t1 t2 t3
    refine v_201_42 ⟨by omega, fun q => absurd q (by omega), fun _ => v_192 ?_⟩
    rw [t1, x11]
    refine ⟨by omega, _, rfl, by omega, ?_⟩
    rw [Int.toNat_natCast]
    refine ih (h + 1) _ (by omega) t1 (fun c hc => by dsimp only; rw [up2_ne _ _ _ hc]; exact t2 c hc) (fun i hi hn => ?_)
    dsimp only
    rw [up2_if]
    by_cases c : i = h
    · rw [if_pos c, c, t2 171 (by omega), show ((o : Int) + 5 + 2 * (h : Int)).toNat = o + 5 + 2 * h by omega]
      exact pg h (by omega)
    · rw [if_neg c]; exact t3 i (by omega) hn
theorem m_begins {X : PX} {σ : Sg} {o : Nat} {K : Kz} {s : Cs} {P : Sg → Prop} (ok : sOk K s) (nw : sNew s) (hx : MX σ o K) (hp : MP σ o K s) (k : ∀ τ : Sg, FB σ τ → SM τ o K s → τ.1 170 22 = 0 → P τ) : CV X 201 [vR (some 170)] σ P := by
  obtain ⟨x11, x12, x13, x9, -⟩ := id hx
  obtain ⟨-, p0, p1, p2, p3, p4, pg⟩ := id hp
  obtain ⟨n1, n2, n3, n4⟩ := nw
  refine v_201 ?_
  rw [x11]
  refine ⟨by omega, by omega, by omega, ?_⟩
  rw [show (((o : Nat) : Int)).toNat = o by omega, show ((o : Int) + 1).toNat = o + 1 by omega, show ((o : Int) + 4).toNat = o + 4 by omega, p0, p1, p4]
  have f1 : ∀ c : Nat, c ≠ 170 → (up2 (up2 (up2 (up2 (up2 (up2 (up2 (up2 σ.1 170 14 (cQ s)) 170 15 (cP s)) 170 16 (cO s)) 170 17 0) 170 19 0) 170 20 0) 170 21 0) 170 22 0) c = σ.1 c := fun c hc => by simp only [up2_ne _ _ _ hc]
  have f2 : ∀ j : Nat, (up2 (up2 (up2 (up2 (up2 (up2 (up2 (up2 σ.1 170 14 (cQ s)) 170 15 (cP s)) 170 16 (cO s)) 170 17 0) 170 19 0) 170 20 0) 170 21 0) 170 22 0) 170 j = if j = 22 then 0 else if j = 21 then 0 else if j = 20 then 0 else if j = 19 then 0 else if j = 17 then 0 else if j = 16 then (cO s : Int) else if j = 15 then cP s else if j = 14 then cQ s else σ.1 170 j := fun j => by simp only [up2_if]
  generalize up2 (up2 (up2 (up2 (up2 (up2 (up2 (up2 σ.1 170 14 (cQ s)) 170 15 (cP s)) 170 16 (cO s)) 170 17 0) 170 19 0) 170 20 0) 170 21 0) 170 22 0 = f at f1 f2
  have f3 : ∀ j : Nat, j < 14 ∨ 24 < j → f 170 j = σ.1 170 j := fun j hj => by
    rw [f2, if_neg (by omega), if_neg (by omega), if_neg (by omega), if_neg (by omega), if_neg (by omega), if_neg (by omega), if_neg (by omega), if_neg (by omega)]
  refine m_bl (σ := (f, σ.2)) (o := o) (K := K) (s := s) ⟨?_, ?_, ?_, hx.2.2.2⟩ hp ok.e7.2.2.1 (fun τ t1 t2 t3 => ?_) 7 0 _ (by omega) rfl (fun _ _ => rfl) (fun i hi => absurd hi (by omega))
  · dsimp only; rw [f3 _ (by omega)]; exact x11
  · dsimp only; rw [f3 _ (by omega)]; exact x12
  · dsimp only; rw [f3 _ (by omega)]; exact x13
  · dsimp only at t1 t2
    refine m_sh ok (o := o) ⟨hx.mv (fun j hj => by rw [t1]; exact f3 j (by omega)) (t2 171 (by omega)), ?_, ?_, ?_, ?_, ?_, ?_, ?_, t3⟩ (fun υ u1 u2 u3 u4 => ⟨rfl, k υ ?_ u4 ?_⟩)
    · rw [t1, f2]; rfl
    · rw [t1, f2]; rfl
    · rw [t1, f2]; rfl
    · rw [t1, f2, n1]; rfl
    · rw [t1, f2, n2]; rfl
    · rw [t1, f2, n3]; rfl
    · rw [t1, f2, n4]; rfl
    · refine FB.trans ⟨fun c hc => by rw [t1]; exact f1 c hc, fun j hj => by rw [t1]; exact f3 j hj, fun c h1 _ _ => t2 c h1⟩ u1.1
    · rw [u2 22 (by omega), t1, f2]; rfl
/-! one year -/
theorem m_tt {X : PX} {σ : Sg} {n : Nat} {t : Nat → Int} {P : Int → Sg → Prop} (n7 : n ≤ 7) (h12 : σ.1 170 12 = n) (ht : ∀ h : Nat, h < n → σ.2 175 h = t h) (q : P (sm t n) σ) : CI X 200 [vR (some 170)] σ P := by
  have : ∀ (d h : Nat), h + d = n → Ev X 200 4 [some (vR (some 170)), some (vI (sm t h)), some (vI h)] [] σ (fun v τ => ∃ x, v = some (vI x) ∧ P x τ) := by
    intro d
    induction d with
    | zero =>
      intro h hh
      refine v_200_4 ⟨by omega, by omega, fun _ => ⟨_, rfl, ?_⟩, fun q => absurd (by omega) q⟩
      rw [show h = n by omega]; exact q
    | succ d ih =>
      intro h hh
      refine v_200_4 ⟨by omega, by omega, fun q => absurd q (by omega), fun _ => ⟨by omega, ?_⟩⟩
      rw [Int.toNat_natCast, ht h (by omega)]
      exact ih (h + 1) (by omega)
  exact v_200 (this n 0 (by omega))
theorem m_yield {X : PX} {σ : Sg} {o h : Nat} {K : Kz} {P : Int → Sg → Prop} (hx : MX σ o K) (hh : h < kN K) (n7 : kN K ≤ 7) (q : P (kY K h) σ) : CI X 193 [vR (some 170), vI h] σ P := by
  obtain ⟨x11, x12, x13, x9, xy, -⟩ := hx
  refine v_193 ?_
  rw [x11, show ((o : Int) + 5 + 1 + 2 * (h : Int)).toNat = o + 6 + 2 * h by omega, xy h hh]
  exact ⟨by omega, _, rfl, q⟩
def MoI (σ τ : Sg) (K : Kz) (s : Cs) (h : Nat) : Prop := τ.1 170 23 = yPd K s h ∧ τ.1 170 21 = cS s + cL K s + yLs K s h ∧ τ.1 170 24 = yRu K s h ∧ (∀ c : Nat, c ≠ 170 → τ.1 c = σ.1 c) ∧ (∀ j : Nat, j ≠ 21 → j ≠ 23 → j ≠ 24 → τ.1 170 j = σ.1 170 j) ∧ (∀ c : Nat, c ≠ 174 → τ.2 c = σ.2 c) ∧ (∀ i : Nat, i < kN K → τ.2 174 i = if i < h then yG K s i else cG s i)
theorem mo_y {X : PX} {σ : Sg} {o : Nat} {K : Kz} {s : Cs} {Q : Option PV → Sg → Prop} (ok : sOk K s) (hS : SM σ o K s)
    (k : ∀ τ : Sg, MoI σ τ K s (kN K) → CV X 199 [vR (some 170)] (up2 (up2 τ.1 170 20 ((τ.1 170 20) + (τ.1 170 23))) 170 19 ((τ.1 170 19) + 1), τ.2) (fun υ => Q none υ)) :
    ∀ (d h : Nat) (τ : Sg), h + d = kN K → MoI σ τ K s h → Ev X 202 18 [some (vR (some 170)), some (vI h), none] [] τ Q := by
  have n7 := ok.e7.2.2.1
  obtain ⟨⟨hx, -⟩, -, htx⟩ := hS
  intro d
  induction d with
  | zero =>
    intro h τ hh hI
    obtain ⟨i7, i4, i8, i1, i2, i3, ig⟩ := id hI
    have e2 : τ.1 170 12 = kN K := by rw [i2 _ (by omega) (by omega) (by omega)]; exact hx.2.1
    rw [show h = kN K by omega] at hI ⊢
    exact v_202_18 ⟨by omega, by omega, fun _ => k τ hI, fun q => absurd (by omega) q⟩
  | succ d ih =>
    intro h τ hh hI
    have hn : h < kN K := by omega
    obtain ⟨i7, i4, i8, i1, i2, i3, ig⟩ := id hI
    have e2 : τ.1 170 12 = kN K := by rw [i2 _ (by omega) (by omega) (by omega)]; exact hx.2.1
    have et : τ.2 175 h = cT K s h := by rw [i3 _ (by omega)]; exact htx h hn
    have eg : τ.2 174 h = cG s h := by rw [ig h hn, if_neg (by omega)]
    have rg := yPay_rng ok hn
    have ru := frs_rng (fun h => decide (yPay K s h < cT K s h)) h
    have i8' : τ.1 170 24 = frs (fun h => decide (yPay K s h < cT K s h)) h := i8
    have nx : ∀ (f : Nat → Nat → Int) (x : Int), f 170 23 = yPd K s h + yPay K s h → f 170 21 = cS s + cL K s + yLs K s h + (cT K s h - yPay K s h) → f 170 24 = yRu K s (h + 1) → (∀ c : Nat, c ≠ 170 → f c = τ.1 c) → (∀ j : Nat, j ≠ 21 → j ≠ 23 → j ≠ 24 → f 170 j = τ.1 170 j) → x = yG K s h → Ev X 202 18 [some (vR (some 170)), some (vI ((h : Int) + 1)), none] [] (f, up2 τ.2 174 h x) Q := by
      intro f x f7 f4 f8 f1 f2 hxx
      refine ih (h + 1) _ (by omega) ⟨?_, ?_, ?_, fun c hc => ?_, fun j j1 j2 j3 => ?_, fun c hc => ?_, fun i hi => ?_⟩
      · dsimp only; rw [f7]; rfl
      · dsimp only; rw [f4]
        show _ = cS s + cL K s + (yLs K s h + (cT K s h - yPay K s h)); omega
      · dsimp only; rw [f8]
      · dsimp only; rw [f1 c hc]; exact i1 c hc
      · dsimp only; rw [f2 j j1 j2 j3]; exact i2 j j1 j2 j3
      · dsimp only; rw [up2_ne _ _ _ hc]; exact i3 c hc
      · dsimp only; rw [up2_if]
        by_cases c : i = h
        · rw [if_pos c, if_pos (by omega), c, hxx]
        · rw [if_neg c, ig i hi]
          by_cases c2 : i < h
          · rw [if_pos c2, if_pos (by omega)]
          · rw [if_neg c2, if_neg (by omega)]
    have mxf : ∀ f : Nat → Nat → Int, (∀ j : Nat, j ≠ 21 → j ≠ 23 → j ≠ 24 → f 170 j = τ.1 170 j) → MX (f, τ.2) o K := fun f hf => hx.mv (fun j hj => by dsimp only; rw [hf j (by omega) (by omega) (by omega)]; exact i2 j (by omega) (by omega) (by omega)) (i3 171 (by omega))
    have step : ∀ (f : Nat → Nat → Int) (pays : Int), pays = yPay K s h → f 170 23 = yPd K s h + yPay K s h → f 170 21 = cS s + cL K s + yLs K s h + (cT K s h - yPay K s h) → f 170 24 = yRu K s (h + 1) → (∀ c : Nat, c ≠ 170 → f c = τ.1 c) → (∀ j : Nat, j ≠ 21 → j ≠ 23 → j ≠ 24 → f 170 j = τ.1 170 j) →
        CI X 193 [vR (some 170), vI h] (f, τ.2) (fun r6 τ2 => InR ((cG s h - pays) + r6) ∧ ((cG s h - pays) + r6 ≤ 99 → CI X 193 [vR (some 170), vI h] τ2 (fun r8 τ3 => Ev X 202 18 [some (vR (some 170)), some (vI ((h : Int) + 1)), none] [] (τ3.1, up2 τ3.2 174 h (((τ2.2 174 h) - pays) + r8)) Q)) ∧ (¬ (cG s h - pays) + r6 ≤ 99 → Ev X 202 18 [some (vR (some 170)), some (vI ((h : Int) + 1)), none] [] (τ2.1, up2 τ2.2 174 h 99) Q)) := by
      intro f pays hpp f7 f4 f8 f1 f2
      have eG : yG K s h = min 99 (cG s h - yPay K s h + kY K h) := rfl
      have hm := mxf f f2
      refine m_yield hm hn n7 ⟨by omega, fun a => m_yield hm hn n7 (nx f _ f7 f4 f8 f1 f2 ?_), fun a => nx f _ f7 f4 f8 f1 f2 ?_⟩
      · dsimp only; rw [eg]; omega
      · omega
    have u1 : ¬ (frs (fun h => decide (yPay K s h < cT K s h)) h = -1 ∧ yPay K s h < cT K s h) → yRu K s h = yRu K s (h + 1) := fun c => by
      show _ = (if frs (fun h => decide (yPay K s h < cT K s h)) h = -1 ∧ decide (yPay K s h < cT K s h) = true then (h : Int) else frs (fun h => decide (yPay K s h < cT K s h)) h)
      rw [if_neg (by simpa using c)]; rfl
    have u2 : (frs (fun h => decide (yPay K s h < cT K s h)) h = -1 ∧ yPay K s h < cT K s h) → (h : Int) = yRu K s (h + 1) := fun c => by
      show _ = (if frs (fun h => decide (yPay K s h < cT K s h)) h = -1 ∧ decide (yPay K s h < cT K s h) = true then (h : Int) else frs (fun h => decide (yPay K s h < cT K s h)) h)
      rw [if_pos (by simpa using c)]
    have ep : yPay K s h = min (cT K s h) (cG s h) := rfl
    refine v_202_18 ?_
    rw [Int.toNat_natCast, et, eg, i4, i7]
    refine ⟨by omega, by omega, fun q => absurd q (by omega), fun _ => ⟨by omega, by omega, by omega, fun a => ⟨fun b => step _ _ (by omega) ?_ ?_ ?_ ?_ ?_, fun b => absurd (Int.le_refl _) b⟩, fun a => ⟨fun b => absurd b a, fun b => ⟨by omega, fun c => step _ _ (by omega) ?_ ?_ ?_ ?_ ?_, fun c => step _ _ (by omega) ?_ ?_ ?_ ?_ ?_⟩⟩⟩⟩
    all_goals first
      | (simp only [up2_if, Nat.reduceEqDiff, reduceIte]; omega)
      | (simp only [up2_if, Nat.reduceEqDiff, reduceIte, i8]; first | exact u1 (by omega) | exact u2 (by omega))
      | (intro c hc; simp only [up2_ne _ _ _ hc]; done)
      | (intro j j1 j2 j3; simp only [up2_if, if_neg j1, if_neg j2, if_neg j3]; done)
theorem m_year {X : PX} {σ : Sg} {o : Nat} {K : Kz} {s : Cs} {P : Sg → Prop} (ok : sOk K s) (hS : SM σ o K s) (hy : cY s < 60) (k : ∀ τ : Sg, FM σ τ → SM τ o K (sYear K s) → τ.1 170 23 = yPd K s (kN K) → τ.1 170 24 = yRu K s (kN K) → P τ) : CV X 202 [vR (some 170)] σ P := by
  obtain ⟨⟨hx, a14, a15, a16, a17, a19, a20, a21, ag⟩, a18, at'⟩ := id hS
  have ok2 := sYear_ok ok hy
  have n7 := ok.e7.2.2.1
  refine v_202 (m_tt (t := cT K s) n7 (by dsimp only; rw [up2_if, if_neg (by omega), up2_if, if_neg (by omega)]; exact hx.2.1) at' ?_)
  have st := ok.t.2.2.1
  rw [st, a14, a21]
  refine mo_y ok hS (fun τ hI => ?_) (kN K) 0 _ (by omega) ⟨?_, ?_, ?_, fun c hc => ?_, fun j j1 j2 j3 => ?_, fun c hc => rfl, fun i hi => ?_⟩
  · obtain ⟨i7, i4, i8, i1, i2, i3, ig⟩ := id hI
    have f2 : ∀ j : Nat, (up2 (up2 τ.1 170 20 ((τ.1 170 20) + (τ.1 170 23))) 170 19 ((τ.1 170 19) + 1)) 170 j = if j = 19 then τ.1 170 19 + 1 else if j = 20 then τ.1 170 20 + τ.1 170 23 else τ.1 170 j := fun j => by simp only [up2_if]
    have f1 : ∀ c : Nat, c ≠ 170 → (up2 (up2 τ.1 170 20 ((τ.1 170 20) + (τ.1 170 23))) 170 19 ((τ.1 170 19) + 1)) c = τ.1 c := fun c hc => by simp only [up2_ne _ _ _ hc]
    generalize up2 (up2 τ.1 170 20 ((τ.1 170 20) + (τ.1 170 23))) 170 19 ((τ.1 170 19) + 1) = f at f1 f2
    have f3 : ∀ j : Nat, j ≠ 19 → j ≠ 20 → j ≠ 21 → j ≠ 23 → j ≠ 24 → f 170 j = σ.1 170 j := fun j j1 j2 j3 j4 j5 => by rw [f2, if_neg j1, if_neg j2]; exact i2 j j3 j4 j5
    refine m_sh ok2 (o := o) ⟨hx.mv (fun j hj => f3 j (by omega) (by omega) (by omega) (by omega) (by omega)) (i3 171 (by omega)), ?_, ?_, ?_, ?_, ?_, ?_, ?_, ?_⟩ (fun υ u1 u2 u3 u4 => ⟨rfl, k υ (FM.trans (τ := (f, τ.2)) ⟨⟨fun c hc => ?_, fun j hj => ?_, fun c h1 _ _ => ?_⟩, ?_⟩ u1) u4 ?_ ?_⟩)
    · dsimp only; rw [f3 14 (by omega) (by omega) (by omega) (by omega) (by omega)]; exact a14
    · dsimp only; rw [f3 15 (by omega) (by omega) (by omega) (by omega) (by omega)]; exact a15
    · dsimp only; rw [f3 16 (by omega) (by omega) (by omega) (by omega) (by omega)]; exact a16
    · dsimp only; rw [f3 17 (by omega) (by omega) (by omega) (by omega) (by omega)]; exact a17
    · dsimp only; rw [f2, if_pos rfl, i2 19 (by omega) (by omega) (by omega), a19]; rfl
    · dsimp only; rw [f2, if_neg (by omega), if_pos rfl, i2 20 (by omega) (by omega) (by omega), a20, i7]; rfl
    · dsimp only; rw [f2, if_neg (by omega), if_neg (by omega), i4]; rfl
    · intro i hi; dsimp only; rw [ig i hi, if_pos hi]; rfl
    · dsimp only; rw [f1 c hc]; exact i1 c hc
    · dsimp only; exact f3 j (by omega) (by omega) (by omega) (by omega) (by omega)
    · dsimp only; exact i3 c h1
    · dsimp only; exact f3 22 (by omega) (by omega) (by omega) (by omega) (by omega)
    · rw [u2 23 (by omega)]; dsimp only; rw [f2, if_neg (by omega), if_neg (by omega)]; exact i7
    · rw [u2 24 (by omega)]; dsimp only; rw [f2, if_neg (by omega), if_neg (by omega)]; exact i8
  · dsimp only; simp only [up2_if, Nat.reduceEqDiff, reduceIte]; rfl
  · dsimp only; simp only [up2_if, Nat.reduceEqDiff, reduceIte]; show _ = cS s + cL K s + 0; omega
  · dsimp only; simp only [up2_if, Nat.reduceEqDiff, reduceIte]; rfl
  · dsimp only; simp only [up2_ne _ _ _ hc]
  · dsimp only; simp only [up2_if, if_neg j1, if_neg j2, if_neg j3]
  · dsimp only; rw [ag i hi, if_neg (by omega)]
