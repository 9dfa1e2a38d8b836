/-! drawn -/
def dr (y a : Int) : Int := iRem (iUshr y 16) a
def drX (x : Int) : Int := x * 1103515245 + 12345
theorem ush_rng (y : Int) : 0 ≤ iUshr y 16 ∧ iUshr y 16 < 65536 := by
  have h := pk_ushr (Int32.ofInt y) (Int32.ofInt 16) 16 (by decide)
  have l := (Int32.ofInt y).toBitVec.isLt
  have l2 : (Int32.ofInt y).toBitVec.toNat / 2 ^ 16 < 65536 := by omega
  unfold iUshr
  rw [toI_of (n := (Int32.ofInt y).toBitVec.toNat / 2 ^ 16) (by omega) h]
  omega
theorem dr_rng (y : Int) {a : Int} (h0 : 0 < a) (h1 : a < 2147483648) : 0 ≤ dr y a ∧ dr y a < a := by
  have u := ush_rng y
  unfold dr
  rw [b_rem u.1 (by omega) h0 h1]
  exact ⟨Int.emod_nonneg _ (by omega), Int.emod_lt_of_pos _ h0⟩
def ap (K : Kz) (s : Cs) (w n : Int) : Cs := (dO K s w n).getD s
theorem ap_ok {K : Kz} {s : Cs} {w n : Int} (ok : sOk K s) (hy : cY s ≤ 50) (v : dV w n) : sOk K (ap K s w n) ∧ cY (ap K s w n) ≤ 50 := by
  unfold ap
  rcases hd : dO K s w n with _ | s'
  · exact ⟨ok, hy⟩
  · exact dO_ok ok hy v hd
def drS (K : Kz) (x : Int) (s : Cs) : Int × Cs := if dr (drX x) 10 < 4 then (drX x, ap K s 0 (-1)) else if dr (drX x) 10 < 7 then (if kN K = 0 then (drX x, s) else (drX (drX x), ap K s (if dr (drX x) 10 = 6 then 2 else 1) (dr (drX (drX x)) (kN K)))) else (drX (drX x), ap K s (dr (drX x) 10 - 4) (dr (drX (drX x)) (if dr (drX x) 10 = 9 then 10 else 100)))
def drI (K : Kz) (x : Int) (s : Cs) : Nat → Int × Cs
  | 0 => (x, s)
  | j + 1 => drS K (drI K x s j).1 (drI K x s j).2
theorem drS_ok {K : Kz} {s : Cs} (x : Int) (ok : sOk K s) (hy : cY s ≤ 50) : sOk K (drS K x s).2 ∧ cY (drS K x s).2 ≤ 50 := by
  have n7 := ok.e7.2.2.1
  have d0 := dr_rng (drX x) (a := 10) (by omega) (by omega)
  unfold drS
  by_cases c : dr (drX x) 10 < 4
  · rw [if_pos c]; exact ap_ok ok hy ⟨by omega, by omega, by omega, by omega, fun e => absurd rfl e, by omega, by omega⟩
  · rw [if_neg c]
    by_cases d : dr (drX x) 10 < 7
    · rw [if_pos d]
      by_cases n0 : kN K = 0
      · rw [if_pos n0]; exact ⟨ok, hy⟩
      · rw [if_neg n0]
        have d1 := dr_rng (drX (drX x)) (a := (kN K : Int)) (by omega) (by omega)
        refine ap_ok ok hy ?_
        by_cases e : dr (drX x) 10 = 6
        · rw [if_pos e]; exact ⟨by omega, by omega, by omega, by omega, by omega, by omega, by omega⟩
        · rw [if_neg e]; exact ⟨by omega, by omega, by omega, by omega, by omega, by omega, by omega⟩
    · rw [if_neg d]
      refine ap_ok ok hy ?_
      by_cases e : dr (drX x) 10 = 9
      · rw [if_pos e]
        have d1 := dr_rng (drX (drX x)) (a := 10) (by omega) (by omega)
        exact ⟨by omega, by omega, by omega, by omega, by omega, by omega, by omega⟩
      · rw [if_neg e]
        have d1 := dr_rng (drX (drX x)) (a := 100) (by omega) (by omega)
        exact ⟨by omega, by omega, by omega, by omega, by omega, by omega, by omega⟩
theorem drI_ok {K : Kz} {s : Cs} (x : Int) (ok : sOk K s) (hy : cY s ≤ 50) : ∀ j : Nat, sOk K (drI K x s j).2 ∧ cY (drI K x s j).2 ≤ 50
  | 0 => ⟨ok, hy⟩
  | j + 1 => drS_ok _ (drI_ok x ok hy j).1 (drI_ok x ok hy j).2
theorem c_drw {X : PX} {σ : Sg} {a x : Int} {P : Int → Sg → Prop} (h0 : 0 < a) (h1 : a < 2147483648) (hx : σ.1 160 1 = x) (q : P (dr (drX x) a) (up2 σ.1 160 1 (drX x), σ.2)) : CI X 71 [vR (some 160), vI a] σ P := by
  refine v_71 ?_
  rw [hx]
  exact ⟨by omega, fun e => absurd e (by omega), fun _ => ⟨by omega, _, rfl, q⟩⟩
theorem c_actA {X : PX} {σ : Sg} {K : Kz} {s : Cs} {w n : Int} {P : Sg → Prop} (ok : sOk K s) (hy : cY s ≤ 50) (S : SC σ K s) (v : dV w n) (q : ∀ τ : Sg, Out σ τ 146 156 → SC τ K (ap K s w n) → P τ) : CI X 32 [vR (some 146), vI w, vI n] σ (fun _ τ => P τ) := by
  unfold ap at q
  exact c_act ok hy S v (fun s' hd τ f S2 _ => q τ f (by rw [hd]; exact S2)) (fun hd => q σ Out.rfl (by rw [hd]; exact S))
theorem c_draw {X : PX} {σ : Sg} {K : Kz} {s : Cs} {x : Int} {P : Sg → Prop} (ok : sOk K s) (hy : cY s ≤ 50) (S : SC σ K s) (hx : σ.1 160 1 = x) (q : ∀ τ : Sg, Out σ τ 146 160 → SC τ K (drS K x s).2 → τ.1 160 1 = (drS K x s).1 → P τ) : CV X 70 [vR (some 160)] σ P := by
  have n7 := ok.e7.2.2.1
  have d0 := dr_rng (drX x) (a := 10) (by omega) (by omega)
  unfold drS at q
  have fo : ∀ (τ : Sg) (y : Int), Out τ (up2 τ.1 160 1 y, τ.2) 160 160 := fun τ y c hc => ⟨by dsimp only; rw [up2_ne _ _ _ (by omega)], rfl⟩
  have f1 := fo σ (drX x)
  have S1 : SC (up2 σ.1 160 1 (drX x), σ.2) K s := S.out f1 (by omega)
  have x1 : (up2 σ.1 160 1 (drX x), σ.2).1 160 1 = drX x := by dsimp only; rw [up2_get]
  have f2 := fo (up2 σ.1 160 1 (drX x), σ.2) (drX (drX x))
  have S2 : SC (up2 (up2 σ.1 160 1 (drX x)) 160 1 (drX (drX x)), σ.2) K s := S1.out f2 (by omega)
  have x2 : (up2 (up2 σ.1 160 1 (drX x)) 160 1 (drX (drX x)), σ.2).1 160 1 = drX (drX x) := by dsimp only; rw [up2_get]
  have f12 : Out σ (up2 (up2 σ.1 160 1 (drX x)) 160 1 (drX (drX x)), σ.2) 146 160 := (f1.wide (by omega) (by omega)).trans (f2.wide (by omega) (by omega))
  have two : ∀ (w a : Int), 0 < a → a < 2147483648 → dV w (dr (drX (drX x)) a) → (∀ τ : Sg, Out σ τ 146 160 → SC τ K (ap K s w (dr (drX (drX x)) a)) → τ.1 160 1 = drX (drX x) → P τ) → CI X 71 [vR (some 160), vI a] (up2 σ.1 160 1 (drX x), σ.2) (fun r3 τ2 => CI X 32 [vR (some 146), vI w, vI r3] τ2 (fun _ τ3 => (none : Option PV) = none ∧ P τ3)) := fun w a a0 a1 v k => by
    refine c_drw a0 a1 x1 (c_actA ok hy S2 v (fun τ f S3 => ⟨rfl, k τ (f12.trans (f.wide (by omega) (by omega))) S3 ?_⟩))
    rw [(f 160 (by omega)).1]; exact x2
  refine v_70 (c_drw (by omega) (by omega) hx ⟨by omega, fun c => ⟨fun d => ⟨fun e => ⟨fun g => ?_, fun g => ?_⟩, fun e => ?_⟩, fun d => ?_⟩, fun c => ?_⟩)
  · have dd := dr_rng (drX (drX x)) (a := 100) (by omega) (by omega)
    refine two 4 100 (by omega) (by omega) ⟨by omega, by omega, by omega, by omega, by omega, by omega, by omega⟩ (fun τ f S3 x3 => ?_)
    rw [if_neg (by omega), if_neg (by omega), if_neg e, show dr (drX x) 10 - 4 = 4 by omega] at q
    exact q τ f S3 x3
  · have dd := dr_rng (drX (drX x)) (a := 100) (by omega) (by omega)
    refine two 3 100 (by omega) (by omega) ⟨by omega, by omega, by omega, by omega, by omega, by omega, by omega⟩ (fun τ f S3 x3 => ?_)
    rw [if_neg (by omega), if_neg (by omega), if_neg e, show dr (drX x) 10 - 4 = 3 by omega] at q
    exact q τ f S3 x3
  · have dd := dr_rng (drX (drX x)) (a := 10) (by omega) (by omega)
    refine two 5 10 (by omega) (by omega) ⟨by omega, by omega, by omega, by omega, by omega, by omega, by omega⟩ (fun τ f S3 x3 => ?_)
    rw [if_neg (by omega), if_neg (by omega), if_pos (by omega), show dr (drX x) 10 - 4 = 5 by omega] at q
    exact q τ f S3 x3
  · have r2 : (up2 σ.1 160 1 (drX x), σ.2).1 147 2 = kN K := S1.1.1.2.2.1
    rw [r2]
    rw [if_neg (by omega), if_pos (by omega)] at q
    refine ⟨by omega, fun e => ⟨rfl, ?_⟩, fun e => ?_⟩
    · rw [if_pos (by omega)] at q
      exact q _ (f1.wide (by omega) (by omega)) S1 x1
    · rw [if_neg (by omega)] at q
      have dd := dr_rng (drX (drX x)) (a := (kN K : Int)) (by omega) (by omega)
      refine ⟨fun g => two 1 (kN K) (by omega) (by omega) ⟨by omega, by omega, by omega, by omega, by omega, by omega, by omega⟩ (fun τ f S3 x3 => ?_), fun g => two 2 (kN K) (by omega) (by omega) ⟨by omega, by omega, by omega, by omega, by omega, by omega, by omega⟩ (fun τ f S3 x3 => ?_)⟩
      · rw [if_neg g] at q; exact q τ f S3 x3
      · rw [if_pos (by omega)] at q; exact q τ f S3 x3
  · refine c_actA ok hy S1 ⟨by omega, by omega, by omega, by omega, fun e => absurd rfl e, by omega, by omega⟩ (fun τ f S3 => ⟨rfl, ?_⟩)
    rw [if_pos (by omega)] at q
    refine q τ ((f1.wide (by omega) (by omega)).trans (f.wide (by omega) (by omega))) S3 ?_
    rw [(f 160 (by omega)).1]; exact x1
/-! the reference -/
theorem m_drw {X : PX} {σ : Sg} {a x : Int} {P : Int → Sg → Prop} (h0 : 0 < a) (h1 : a < 2147483648) (hx : σ.1 170 46 = x) (q : P (dr (drX x) a) (up2 σ.1 170 46 (drX x), σ.2)) : CI X 277 [vR (some 170), vI a] σ P := by
  refine v_277 ?_
  rw [hx]
  exact ⟨by omega, by omega, _, rfl, q⟩
def anX (τ : Sg) (m : Nat) : Prop := ∃ (A : An) (j : Nat), AM τ A ∧ aOk m j A
def FE (σ τ : Sg) : Prop := FA σ τ ∧ τ.1 170 22 = σ.1 170 22
theorem FE.trans {σ τ υ : Sg} (h : FE σ τ) (g : FE τ υ) : FE σ υ := ⟨h.1.trans g.1, g.2.trans h.2⟩
theorem m_actA {X : PX} {σ : Sg} {o : Nat} {K : Kz} {s : Cs} {w n : Int} {P : Sg → Prop} (ok : sOk K s) (hy : cY s ≤ 50) (S : SM σ o K s) (hA : anX σ (kN K)) (h22 : σ.1 170 22 = 0) (v : dV w n) (q : ∀ τ : Sg, FE σ τ → τ.1 170 46 = σ.1 170 46 → SM τ o K (ap K s w n) → anX τ (kN K) → P τ) : CI X 258 [vR (some 170), vI w, vI n] σ (fun _ τ => P τ) := by
  unfold ap at q
  obtain ⟨A, j, hA1, a⟩ := hA
  refine m_does1 ok hy S hA1 a v (fun s' hd τ f S2 hA2 => q τ ⟨f.1, f.2 22 (by omega)⟩ (f.2 46 (by omega)) (by rw [hd]; exact S2) ⟨_, j + 1, hA2, aUp_ok ok hy hd a (by omega) (by omega)⟩) (fun hd => q σ ⟨FA.rfl, rfl⟩ rfl (by rw [hd]; exact S) ⟨A, j, hA1, a⟩)
theorem m_draws {X : PX} {σ : Sg} {o : Nat} {K : Kz} {s : Cs} {x : Int} {P : Sg → Prop} (ok : sOk K s) (hy : cY s ≤ 50) (S : SM σ o K s) (hA : anX σ (kN K)) (h22 : σ.1 170 22 = 0) (hx : σ.1 170 46 = x) (q : ∀ τ : Sg, FE σ τ → SM τ o K (drS K x s).2 → anX τ (kN K) → τ.1 170 46 = (drS K x s).1 → P τ) : CV X 278 [vR (some 170)] σ P := by
  have n7 := ok.e7.2.2.1
  have d0 := dr_rng (drX x) (a := 10) (by omega) (by omega)
  unfold drS at q
  have fo : ∀ (τ : Sg) (y : Int), FE τ (up2 τ.1 170 46 y, τ.2) := fun τ y => ⟨fa_170 _ _, by dsimp only; rw [up2_if, if_neg (by omega)]⟩
  have So : ∀ (τ : Sg) (y : Int), SM τ o K s → SM (up2 τ.1 170 46 y, τ.2) o K s := fun τ y S => S.mv (fun i h1 h2 => by dsimp only; rw [up2_if, if_neg (by omega)]) rfl rfl rfl
  have Ao : ∀ (τ : Sg) (y : Int), anX τ (kN K) → anX (up2 τ.1 170 46 y, τ.2) (kN K) := fun τ y ⟨A, j, h1, h2⟩ => ⟨A, j, h1.mv (fun i h1 h2 => by dsimp only; rw [up2_if, if_neg (by omega)]) rfl, h2⟩
  have f1 := fo σ (drX x)
  have S1 := So σ (drX x) S
  have A1 := Ao σ (drX x) hA
  have x1 : (up2 σ.1 170 46 (drX x), σ.2).1 170 46 = drX x := by dsimp only; rw [up2_get]
  have f2 := fo (up2 σ.1 170 46 (drX x), σ.2) (drX (drX x))
  have S2 := So (up2 σ.1 170 46 (drX x), σ.2) (drX (drX x)) S1
  have A2 := Ao (up2 σ.1 170 46 (drX x), σ.2) (drX (drX x)) A1
  have x2 : (up2 (up2 σ.1 170 46 (drX x)) 170 46 (drX (drX x)), σ.2).1 170 46 = drX (drX x) := by dsimp only; rw [up2_get]
  have f12 := f1.trans f2
  have two : ∀ (w a : Int), 0 < a → a < 2147483648 → dV w (dr (drX (drX x)) a) → (∀ τ : Sg, FE σ τ → SM τ o K (ap K s w (dr (drX (drX x)) a)) → anX τ (kN K) → τ.1 170 46 = drX (drX x) → P τ) → CI X 277 [vR (some 170), vI a] (up2 σ.1 170 46 (drX x), σ.2) (fun r3 τ2 => CI X 258 [vR (some 170), vI w, vI r3] τ2 (fun _ τ3 => (none : Option PV) = none ∧ P τ3)) := fun w a a0 a1 v k => by
    refine m_drw a0 a1 x1 (m_actA ok hy S2 A2 (f12.2.trans h22) v (fun τ f e S3 A3 => ⟨rfl, k τ (f12.trans f) S3 A3 ?_⟩))
    rw [e]; exact x2
  have h12 : (up2 σ.1 170 46 (drX x), σ.2).1 170 12 = kN K := S1.mx.2.1
  have lowN : dr (drX x) 10 < 7 → ¬ dr (drX x) 10 < 4 → kN K = 0 → (none : Option PV) = none ∧ P (up2 σ.1 170 46 (drX x), σ.2) := fun a b c => by
    rw [if_neg b, if_pos a, if_pos c] at q
    exact ⟨rfl, q _ f1 S1 A1 x1⟩
  have lowY : ∀ w : Int, dr (drX x) 10 < 7 → ¬ dr (drX x) 10 < 4 → kN K ≠ 0 → w = (if dr (drX x) 10 = 6 then 2 else 1) → CI X 277 [vR (some 170), vI (kN K : Int)] (up2 σ.1 170 46 (drX x), σ.2) (fun r3 τ2 => CI X 258 [vR (some 170), vI w, vI r3] τ2 (fun _ τ3 => (none : Option PV) = none ∧ P τ3)) := fun w a b c hw => by
    have dd := dr_rng (drX (drX x)) (a := (kN K : Int)) (by omega) (by omega)
    rw [if_neg b, if_pos a, if_neg c, ← hw] at q
    have wv : w = 1 ∨ w = 2 := by rw [hw]; split <;> omega
    exact two w (kN K) (by omega) (by omega) ⟨by omega, by omega, by omega, by omega, by omega, by omega, by omega⟩ q
  refine v_278 (m_drw (by omega) (by omega) hx ⟨by omega, fun c => ⟨fun d => ⟨by omega, fun e => absurd e (by omega), fun e => ⟨fun g => ⟨fun _ => ⟨fun _ => ⟨fun t => ?_, fun t => ?_⟩, fun t => absurd (by omega) t⟩, fun t => absurd (by omega) t⟩, fun g => ?_⟩⟩, fun d => ?_⟩, fun c => ?_⟩)
  · have dd := dr_rng (drX (drX x)) (a := 10) (by omega) (by omega)
    rw [if_neg (by omega), if_neg (by omega), if_pos (by omega)] at q
    exact two _ 10 (by omega) (by omega) ⟨by omega, by omega, by omega, by omega, by omega, by omega, by omega⟩ q
  · have dd := dr_rng (drX (drX x)) (a := 100) (by omega) (by omega)
    rw [if_neg (by omega), if_neg (by omega), if_neg (by omega)] at q
    exact two _ 100 (by omega) (by omega) ⟨by omega, by omega, by omega, by omega, by omega, by omega, by omega⟩ q
  · rw [h12]
    refine ⟨by omega, fun n0 => ⟨fun _ => ⟨fun t => absurd t (by omega), fun _ => lowY _ (by omega) (by omega) (by omega) (by rw [if_pos (by omega)]; omega)⟩, fun t => absurd (by omega) t⟩, fun n0 => lowN (by omega) (by omega) (by omega)⟩
  · rw [h12]
    exact ⟨by omega, fun n0 => lowY 1 (by omega) (by omega) (by omega) (by rw [if_neg (by omega)]), fun n0 => lowN (by omega) (by omega) (by omega)⟩
  · rw [if_pos (by omega)] at q
    refine m_actA ok hy S1 A1 (f1.2.trans h22) ⟨by omega, by omega, by omega, by omega, fun e => absurd rfl e, by omega, by omega⟩ (fun τ f e S3 A3 => ⟨rfl, q τ (f1.trans f) S3 A3 ?_⟩)
    rw [e]; exact x1
theorem s_drawn {X : PX} : Sm_20 X Rel := by
  intro a x n w ha hx hn hw σ hR
  refine same_P (a := a) hR (-2) (by omega) (fun hc => ?_) (fun τ hR2 hc => ?_) (fun K s a2 hc T => ?_)
  · exact v_135 (c_hasN (s := 0) hR (by omega) ha hc ⟨by omega, fun _ => ⟨_, rfl, Out.rfl, rfl⟩, fun e => absurd rfl e⟩)
  · exact v_279 (m_isPN hR2 ha hc ⟨by omega, fun _ => ⟨_, rfl, FA.rfl, rfl⟩, fun e => absurd rfl e⟩)
  · obtain ⟨⟨tp, tp2⟩, ok, nw, tr, tm⟩ := id T
    have y0 : cY s ≤ 50 := by have := nw.2.1; omega
    by_cases g : 0 ≤ n ∧ n ≤ 60
    · obtain ⟨N, rfl⟩ := Int.eq_ofNat_of_zero_le g.1
      have okN := drI_ok x ok y0 N
      refine ⟨dtF K (drI K x s N).2 w, dtF_rng okN.1 w, v_135 (c_hasY (s := 0) hR (by omega) ha hc ⟨by omega, fun e => absurd e (by omega), fun _ => ⟨hn, fun e => absurd e (by omega), fun _ => ⟨fun _ => ⟨by omega, v_69 tp (c_begin tp (by omega) ok nw tr (fun τ f S => ⟨rfl, ?_⟩))⟩, fun e => absurd (by omega) e⟩⟩⟩), fun τ hR2 hc2 T2 fr => v_279 (m_isPY hR2 ha hc2 T2 (fun υ g' S h22 => ⟨by omega, fun e => absurd e (by omega), fun _ => c_isIn hn (by omega) (by omega) ?_⟩))⟩
      · have lp : ∀ (d j : Nat) (τ : Sg), j + d = N → Out σ τ 131 169 → SC τ K (drI K x s j).2 → τ.1 160 1 = (drI K x s j).1 → Ev X 135 24 [some (vR (some 0)), none, none, some (vI N), some (vI w), some (vI j)] [] τ (fun v τ' => ∃ y, v = some (vI y) ∧ Out σ τ' 131 169 ∧ y = dtF K (drI K x s N).2 w) := by
          intro d
          induction d with
          | zero =>
            intro j τ hj f S hx2
            refine v_135_24 ⟨by omega, by omega, fun _ => ?_, fun e => absurd (by omega) e⟩
            rw [show j = N by omega] at S
            exact c_detail okN.1 S hw ⟨_, rfl, f, rfl⟩
          | succ d ih =>
            intro j τ hj f S hx2
            have okj := drI_ok x ok y0 j
            exact v_135_24 ⟨by omega, by omega, fun e => absurd e (by omega), fun _ => c_draw okj.1 okj.2 S hx2 (fun υ f2 S2 x2 => ih (j + 1) υ (by omega) (f.trans (f2.wide (by omega) (by omega))) S2 x2)⟩
        have fo : Out τ (up2 τ.1 160 1 x, τ.2) 160 160 := fun c hc => ⟨by dsimp only; rw [up2_ne _ _ _ (by omega)], rfl⟩
        exact lp N 0 _ (by omega) (f.c.trans (fo.wide (by omega) (by omega))) (S.out fo (by omega)) (by dsimp only; rw [up2_get]; rfl)
      · rw [if_pos g]
        have lp : ∀ (d j : Nat) (ω : Sg), j + d = N → FA τ ω → SM ω (610 + 49 * a.toNat) K (drI K x s j).2 → anX ω (kN K) → ω.1 170 22 = 0 → ω.1 170 46 = (drI K x s j).1 → Ev X 279 18 [some (vR (some 170)), none, none, some (vI N), some (vI w), some (vI j)] [] ω (fun v τ' => ∃ y, v = some (vI y) ∧ FA τ τ' ∧ y = dtF K (drI K x s N).2 w) := by
          intro d
          induction d with
          | zero =>
            intro j ω hj f S hA h22 hx2
            refine v_279_18 ⟨by omega, by omega, fun _ => ?_, fun e => absurd (by omega) e⟩
            rw [show j = N by omega] at S
            exact m_nowOf okN.1 S hw ⟨_, rfl, f, rfl⟩
          | succ d ih =>
            intro j ω hj f S hA h22 hx2
            have okj := drI_ok x ok y0 j
            exact v_279_18 ⟨by omega, by omega, fun e => absurd e (by omega), fun _ => m_draws okj.1 okj.2 S hA h22 hx2 (fun ω2 f2 S2 A2 x2 => ih (j + 1) ω2 (by omega) (f.trans f2.1) S2 A2 (f2.2.trans h22) x2)⟩
        refine ⟨by omega, fun _ => m_begY (o := 610 + 49 * a.toNat) (K := K) (s := s) ok (S.mv (fun i h1 h2 => by dsimp only; rw [up2_if, if_neg (by omega)]) rfl rfl rfl) (fun ω f S2 hA => lp N 0 ω (by omega) (g'.1.trans ((fa_170 _ _).trans f.1)) S2 ⟨_, 0, hA, A0_ok K s _⟩ ?_ ?_), fun e => absurd (by omega) e⟩
        · rw [f.2 22 (by omega)]; dsimp only; rw [up2_if, if_neg (by omega)]; exact h22
        · rw [f.2 46 (by omega)]; dsimp only; rw [up2_get]; rfl
    · refine ⟨-2, by omega, v_135 (c_hasY (s := 0) hR (by omega) ha hc ⟨by omega, fun e => absurd e (by omega), fun _ => ⟨hn, fun _ => ⟨_, rfl, Out.rfl, rfl⟩, fun c => ⟨fun c2 => absurd ⟨by omega, c2⟩ g, fun _ => ⟨_, rfl, Out.rfl, rfl⟩⟩⟩⟩), fun τ hR2 hc2 T2 fr => v_279 (m_isPY hR2 ha hc2 T2 (fun υ g' S h22 => ⟨by omega, fun e => absurd e (by omega), fun _ => c_isIn hn (by omega) (by omega) ?_⟩))⟩
      rw [if_neg g]
      exact ⟨by omega, fun e => absurd rfl e, fun _ => ⟨_, rfl, g'.1, rfl⟩⟩
