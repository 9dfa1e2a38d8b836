/-! feed -/
def byt (w s : Int) : Int := iAnd (iUshr w s) 255
theorem byt_rng (w s : Int) : 0 ≤ byt w s ∧ byt w s ≤ 255 := by
  unfold byt iAnd
  have h : (Int32.ofInt (iUshr w s) &&& Int32.ofInt 255).toBitVec.toNat ≤ 255 := by
    rw [Int32.toBitVec_and, BitVec.toNat_and]
    exact Nat.and_le_right
  rw [toI_of (n := (Int32.ofInt (iUshr w s) &&& Int32.ofInt 255).toBitVec.toNat) (by omega) rfl]
  omega
theorem app_loop {X : PX} {t : Nat} {w : Int} {Q : Option PV → Sg → Prop} (ht : t ∈ tolL) : ∀ (n : Nat) (x : Int) (σ : Sg), x = 8 * (n : Int) - 8 → n ≤ 4 → 0 ≤ σ.1 t 1 → σ.1 t 1 + n ≤ 600 → (∀ τ : Sg, τ.1 = up2 σ.1 t 1 (σ.1 t 1 + n) → (∀ c : Nat, c ≠ t + 1 → τ.2 c = σ.2 c) → (∀ i : Nat, (i : Int) < σ.1 t 1 → τ.2 (t + 1) i = σ.2 (t + 1) i) → (∀ j : Nat, j < n → τ.2 (t + 1) ((σ.1 t 1).toNat + j) = byt w (8 * ((n - 1 - j : Nat) : Int))) → Q none τ) → Ev X 112 2 [some (vR (some t)), some (vI w), some (vI x)] [] σ Q := by
  intro n
  induction n with
  | zero =>
    intro x σ hx hn h0 h6 k
    refine v_112_2 ht ⟨by omega, fun _ => k σ ?_ (fun _ _ => rfl) (fun _ _ => rfl) (fun j hj => absurd hj (by omega)), fun q => absurd (by omega) q⟩
    rw [up2_eq, show σ.1 t 1 + ((0 : Nat) : Int) = σ.1 t 1 by omega, up_eta, up_eta]
  | succ n ih =>
    intro x σ hx hn h0 h6 k
    refine v_112_2 ht ⟨by omega, fun q => by omega, fun _ => ⟨by omega, fun q => by omega, fun _ => ⟨fun q => by omega, fun _ => ⟨by omega, ?_⟩⟩⟩⟩
    have e0 : up2 σ.1 t 1 (σ.1 t 1 + 1) t 1 = σ.1 t 1 + 1 := up2_get _ _ _ _
    refine ih (x + (-8)) _ (by omega) (by omega) (by dsimp only; rw [e0]; omega) (by dsimp only; rw [e0]; omega) ?_
    dsimp only
    intro τ t1 t2 t3 t4
    rw [e0] at t1 t3 t4
    have b : ∀ i : Nat, up2 σ.2 (t + 1) (σ.1 t 1).toNat (iAnd (iUshr w x) 255) (t + 1) i = if i = (σ.1 t 1).toNat then iAnd (iUshr w x) 255 else σ.2 (t + 1) i := fun i => by rw [up2_at]; rfl
    refine k τ ?_ (fun c hc => ?_) (fun i hi => ?_) (fun j hj => ?_)
    · rw [t1, up2_eq, up2_eq, up2_eq, up_up, up_same, up_up, show σ.1 t 1 + 1 + (n : Int) = σ.1 t 1 + ((n + 1 : Nat) : Int) by omega]
    · rw [t2 c hc, up2_ne _ _ _ hc]
    · rw [t3 i (by omega), b, if_neg (by omega)]
    · cases j with
      | zero =>
        rw [t3 _ (by omega), b, if_pos (by omega), hx]
        show iAnd (iUshr w _) 255 = iAnd (iUshr w _) 255
        rw [show 8 * ((n + 1 : Nat) : Int) - 8 = 8 * ((n + 1 - 1 - 0 : Nat) : Int) by omega]
      | succ j =>
        have := t4 j (by omega)
        rw [show (σ.1 t 1 + 1).toNat + j = (σ.1 t 1).toNat + (j + 1) by omega] at this
        rw [this, show n - 1 - j = n + 1 - 1 - (j + 1) by omega]
theorem c_app {X : PX} {t : Nat} {w : Int} {σ : Sg} {P : Sg → Prop} (ht : t ∈ tolL) (h0 : 0 ≤ σ.1 t 1) (h6 : σ.1 t 1 + 4 ≤ 600) (k : ∀ τ : Sg, τ.1 = up2 σ.1 t 1 (σ.1 t 1 + 4) → (∀ c : Nat, c ≠ t + 1 → τ.2 c = σ.2 c) → (∀ i : Nat, (i : Int) < σ.1 t 1 → τ.2 (t + 1) i = σ.2 (t + 1) i) → (∀ j : Nat, j < 4 → τ.2 (t + 1) ((σ.1 t 1).toNat + j) = byt w (8 * ((3 - j : Nat) : Int))) → P τ) : CV X 112 [vR (some t), vI w] σ P := by
  refine v_112 ht (app_loop ht 4 24 σ (by omega) (by omega) h0 (by omega) (fun τ a b c d => ⟨rfl, k τ a b c (fun j hj => ?_)⟩))
  rw [d j hj]
theorem byt_aux (x : Int32) (s : Int32) (k : Nat) (hk : k = 0 ∨ k = 8 ∨ k = 16 ∨ k = 24) (h1 : ((s &&& 31).toBitVec.smod 32).toNat = k) (h2 : ((s.toUInt32 &&& Int32.toUInt32 31).toBitVec % 32).toNat = k) : (x >>> (s &&& 31)) &&& Int32.ofInt 255 = (x.toUInt32 >>> (s.toUInt32 &&& Int32.toUInt32 31)).toInt32 &&& Int32.ofInt 255 := by
  rw [pk_and (x >>> (s &&& 31)) (m := Int32.ofInt 255) 8 (by decide), pk_and (x.toUInt32 >>> (s.toUInt32 &&& Int32.toUInt32 31)).toInt32 (m := Int32.ofInt 255) 8 (by decide), pk_ushr x s k h2]
  have g := pk_shr x (s &&& 31) k h1
  rw [Int.shiftRight_eq_div_pow] at g
  congr 1
  generalize (x >>> (s &&& 31)) = y at g
  have e1 : x.toInt = if 2 * x.toBitVec.toNat < 2 ^ 32 then (x.toBitVec.toNat : Int) else (x.toBitVec.toNat : Int) - ((2 ^ 32 : Nat) : Int) := BitVec.toInt_eq_toNat_cond x.toBitVec
  have e2 : y.toInt = if 2 * y.toBitVec.toNat < 2 ^ 32 then (y.toBitVec.toNat : Int) else (y.toBitVec.toNat : Int) - ((2 ^ 32 : Nat) : Int) := BitVec.toInt_eq_toNat_cond y.toBitVec
  have b1 := x.toBitVec.isLt
  have b2 := y.toBitVec.isLt
  generalize x.toBitVec.toNat = N at *
  generalize y.toBitVec.toNat = K at *
  rw [e1, e2] at g
  rcases hk with rfl | rfl | rfl | rfl <;> (split at g <;> split at g <;> omega)
/-- the reference's byte is the same -/
theorem byt_shr (w : Int) : ∀ m : Nat, m < 4 → iAnd (iShr w (8 * (m : Int))) 255 = byt w (8 * (m : Int)) := by
  intro m hm
  unfold byt iAnd iShr iUshr
  rw [o_t, o_t]
  congr 1
  rcases (show m = 0 ∨ m = 1 ∨ m = 2 ∨ m = 3 by omega) with rfl | rfl | rfl | rfl
  · exact byt_aux _ _ 0 (by omega) (by decide) (by decide)
  · exact byt_aux _ _ 8 (by omega) (by decide) (by decide)
  · exact byt_aux _ _ 16 (by omega) (by decide) (by decide)
  · exact byt_aux _ _ 24 (by omega) (by decide) (by decide)
def wd (a b c d e : Int) (j : Nat) : Int := if j < 4 then a else if j < 8 then b else if j < 12 then c else if j < 16 then d else e
def fby (a b c d e : Int) (j : Nat) : Int := byt (wd a b c d e j) (8 * ((3 - j % 4 : Nat) : Int))
theorem fby_eq {w : Int} {x : Int} {j : Nat} (hx : x = j) (hj : j < 20) : iAnd (iShr w (24 - 8 * iRem x 4)) 255 = byt w (8 * ((3 - j % 4 : Nat) : Int)) := by
  rw [b_rem (by omega) (by omega) (by omega) (by omega), show 24 - 8 * (x % 4) = 8 * ((3 - j % 4 : Nat) : Int) by omega]
  exact byt_shr w (3 - j % 4) (by omega)
theorem m_floop {X : PX} {a b c d e : Int} {Q : Option PV → Sg → Prop} : ∀ (n : Nat) (x : Int) (σ : Sg), n ≤ 20 → x = 20 - (n : Int) → 0 ≤ σ.2 171 4 → σ.2 171 4 + n ≤ 600 → (∀ τ : Sg, τ.1 = σ.1 → (∀ c : Nat, c ≠ 171 → τ.2 c = σ.2 c) → τ.2 171 4 = σ.2 171 4 + n → (∀ i : Nat, i ≠ 4 → ¬ (10 + σ.2 171 4 ≤ i ∧ (i : Int) < 10 + σ.2 171 4 + n) → τ.2 171 i = σ.2 171 i) → (∀ j : Nat, j < n → τ.2 171 (10 + (σ.2 171 4).toNat + j) = fby a b c d e (20 - n + j)) → Q (some (vI (σ.2 171 4 + n))) τ) → Ev X 162 12 [some (vR (some 170)), some (vI a), some (vI b), some (vI c), some (vI d), some (vI e), some (vI x), none] [] σ Q := by
  intro n
  induction n with
  | zero =>
    intro x σ hn hx h0 h6 k
    refine v_162_12 ⟨by omega, fun _ => ?_, fun q => absurd (by omega) q⟩
    have := k σ rfl (fun _ _ => rfl) (by omega) (fun _ _ _ => rfl) (fun j hj => absurd hj (by omega))
    rw [show σ.2 171 4 + ((0 : Nat) : Int) = σ.2 171 4 by omega] at this
    exact this
  | succ n ih =>
    intro x σ hn hx h0 h6 k
    have hj : (20 - (n + 1) : Nat) < 20 := by omega
    have hxj : x = ((20 - (n + 1) : Nat) : Int) := by omega
    have go : ∀ w : Int, w = wd a b c d e (20 - (n + 1)) → Ev X 162 12 [some (vR (some 170)), some (vI a), some (vI b), some (vI c), some (vI d), some (vI e), some (vI (x + 1)), none] [] (σ.1, up2 (up2 σ.2 171 (10 + σ.2 171 4).toNat (iAnd (iShr w (24 - 8 * iRem x 4)) 255)) 171 4 ((up2 σ.2 171 (10 + σ.2 171 4).toNat (iAnd (iShr w (24 - 8 * iRem x 4)) 255)) 171 4 + 1)) Q := by
      intro w hw
      rw [fby_eq hxj hj, hw]
      have e1 : up2 σ.2 171 (10 + σ.2 171 4).toNat (byt (wd a b c d e (20 - (n + 1))) (8 * ((3 - (20 - (n + 1)) % 4 : Nat) : Int))) 171 4 = σ.2 171 4 := by rw [up2_at, up_ne _ _ (by omega)]
      rw [e1]
      generalize hy : byt (wd a b c d e (20 - (n + 1))) (8 * ((3 - (20 - (n + 1)) % 4 : Nat) : Int)) = y
      have b1 : ∀ i : Nat, up2 (up2 σ.2 171 (10 + σ.2 171 4).toNat y) 171 4 (σ.2 171 4 + 1) 171 i = if i = 4 then σ.2 171 4 + 1 else if i = (10 + σ.2 171 4).toNat then y else σ.2 171 i := fun i => by rw [up2_at, up2_at]; rfl
      have b2 : ∀ q : Nat, q ≠ 171 → up2 (up2 σ.2 171 (10 + σ.2 171 4).toNat y) 171 4 (σ.2 171 4 + 1) q = σ.2 q := fun q hq => by rw [up2_ne _ _ _ hq, up2_ne _ _ _ hq]
      have e4 : up2 (up2 σ.2 171 (10 + σ.2 171 4).toNat y) 171 4 (σ.2 171 4 + 1) 171 4 = σ.2 171 4 + 1 := by rw [b1, if_pos rfl]
      refine ih (x + 1) _ (by omega) (by omega) (by dsimp only; rw [e4]; omega) (by dsimp only; rw [e4]; omega) ?_
      dsimp only
      rw [e4]
      intro τ t1 t2 t3 t4 t5
      rw [show σ.2 171 4 + 1 + (n : Int) = σ.2 171 4 + ((n + 1 : Nat) : Int) by omega]
      refine k τ t1 (fun q hq => (t2 q hq).trans (b2 q hq)) (by omega) (fun i h1 h2 => ?_) (fun j hj2 => ?_)
      · rw [t4 i h1 (by omega), b1, if_neg h1, if_neg (by omega)]
      · cases j with
        | zero =>
          rw [t4 _ (by omega) (by omega), b1, if_neg (by omega), if_pos (by omega), ← hy]
          rfl
        | succ j =>
          have := t5 j (by omega)
          rw [show 10 + (σ.2 171 4 + 1).toNat + j = 10 + (σ.2 171 4).toNat + (j + 1) by omega] at this
          rw [this, show 20 - n + j = 20 - (n + 1) + (j + 1) by omega]
    refine v_162_12 ⟨by omega, fun q => by omega, fun _ => ⟨fun g4 => ⟨fun g8 => ⟨fun g12 => ⟨fun g16 => ⟨by omega, go e ?_⟩, fun g16 => ⟨by omega, go d ?_⟩⟩, fun g12 => ⟨by omega, go c ?_⟩⟩, fun g8 => ⟨by omega, go b ?_⟩⟩, fun g4 => ⟨by omega, go a ?_⟩⟩⟩
    · unfold wd; rw [if_neg (by omega), if_neg (by omega), if_neg (by omega), if_neg (by omega)]
    · unfold wd; rw [if_neg (by omega), if_neg (by omega), if_neg (by omega), if_pos (by omega)]
    · unfold wd; rw [if_neg (by omega), if_neg (by omega), if_pos (by omega)]
    · unfold wd; rw [if_neg (by omega), if_pos (by omega)]
    · unfold wd; rw [if_pos (by omega)]
def Ap (a b c d e : Int) (n : Nat) (σ τ : Sg) : Prop := τ.1 = up2 σ.1 1 1 (σ.1 1 1 + n) ∧ (∀ c : Nat, c ≠ 2 → τ.2 c = σ.2 c) ∧ (∀ i : Nat, (i : Int) < σ.1 1 1 → τ.2 2 i = σ.2 2 i) ∧ (∀ j : Nat, j < n → τ.2 2 ((σ.1 1 1).toNat + j) = fby a b c d e j)
theorem ap_step {X : PX} {a b c d e w : Int} {k : Nat} {σ τ : Sg} {P : Sg → Prop} (hk : k < 5) (hw : w = wd a b c d e (4 * k)) (h0 : 0 ≤ σ.1 1 1) (h6 : σ.1 1 1 + 20 ≤ 600) (h : Ap a b c d e (4 * k) σ τ) (q : ∀ υ, Ap a b c d e (4 * k + 4) σ υ → P υ) : CV X 112 [vR (some 1), vI w] τ P := by
  obtain ⟨h1, h2, h3, h4⟩ := h
  have e1 : τ.1 1 1 = σ.1 1 1 + ((4 * k : Nat) : Int) := by rw [h1, up2_get]
  refine c_app (t := 1) (by decide) (by omega) (by omega) (fun υ u1 u2 u3 u4 => q υ ⟨?_, fun c hc => (u2 c hc).trans (h2 c hc), fun i hi => ?_, fun j hj => ?_⟩)
  · rw [u1, e1, h1, up2_eq, up2_eq, up2_eq, up_up, up_same, up_up, show σ.1 1 1 + ((4 * k : Nat) : Int) + 4 = σ.1 1 1 + ((4 * k + 4 : Nat) : Int) by omega]
  · exact (u3 i (by omega)).trans (h3 i hi)
  · rcases Nat.lt_or_ge j (4 * k) with g | g
    · exact (u3 _ (by omega)).trans (h4 j g)
    · have := u4 (j - 4 * k) (by omega)
      rw [e1, show (σ.1 1 1 + ((4 * k : Nat) : Int)).toNat + (j - 4 * k) = (σ.1 1 1).toNat + j by omega] at this
      refine this.trans ?_
      unfold fby
      rw [hw, show 3 - (j - 4 * k) = 3 - j % 4 by omega]
      congr 1
      unfold wd
      rcases (show k = 0 ∨ k = 1 ∨ k = 2 ∨ k = 3 ∨ k = 4 by omega) with rfl | rfl | rfl | rfl | rfl
      · rw [if_pos (by omega), if_pos (by omega)]
      · rw [if_neg (by omega), if_pos (by omega), if_neg (by omega), if_pos (by omega)]
      · rw [if_neg (by omega), if_neg (by omega), if_pos (by omega), if_neg (by omega), if_neg (by omega), if_pos (by omega)]
      · rw [if_neg (by omega), if_neg (by omega), if_neg (by omega), if_pos (by omega), if_neg (by omega), if_neg (by omega), if_neg (by omega), if_pos (by omega)]
      · rw [if_neg (by omega), if_neg (by omega), if_neg (by omega), if_neg (by omega), if_neg (by omega), if_neg (by omega), if_neg (by omega), if_neg (by omega)]
theorem s_feed {X : PX} : Sm_0 X Rel := by
  intro a b c d e ha hb hc hd he σ hR
  obtain ⟨h1, h2, h3, h4, h5, -⟩ := id hR.1
  have z1 : σ.2 171 4 = σ.1 1 1 := h1.1
  have hA0 : Ap a b c d e (4 * 0) σ σ := ⟨by rw [up2_eq, show σ.1 1 1 + ((4 * 0 : Nat) : Int) = σ.1 1 1 by omega, up_eta, up_eta], fun _ _ => rfl, fun _ _ => rfl, fun j hj => absurd hj (by omega)⟩
  refine v_120 ⟨by omega, fun h => ?_, fun h => ⟨_, rfl, v_162 ⟨by omega, fun g => absurd (by omega) h, fun _ => ⟨_, rfl, rfl, by omega, hR⟩⟩⟩⟩
  refine ap_step (k := 0) (by omega) rfl (by omega) h hA0 (fun τ1 A1 => ?_)
  refine ap_step (k := 1) (by omega) rfl (by omega) h A1 (fun τ2 A2 => ?_)
  refine ap_step (k := 2) (by omega) rfl (by omega) h A2 (fun τ3 A3 => ?_)
  refine ap_step (k := 3) (by omega) rfl (by omega) h A3 (fun τ4 A4 => ?_)
  refine ap_step (k := 4) (by omega) rfl (by omega) h A4 (fun τ A => ?_)
  obtain ⟨u1, u2, u3, u4⟩ := A
  have l1 : τ.1 1 1 = σ.1 1 1 + 20 := by rw [u1, up2_get]; omega
  have l2 : τ.2 171 = σ.2 171 := u2 171 (by omega)
  have l4 : τ.2 171 4 = σ.1 1 1 := by rw [l2]; exact z1
  refine ⟨_, rfl, v_162 ⟨by omega, fun _ => m_floop 20 0 τ (by omega) (by omega) (by omega) (by omega) (fun υ t1 t2 t3 t4 t5 => ⟨_, rfl, by omega, by omega, ?_⟩), fun g => absurd (by omega) g⟩⟩
  have f1 : ∀ c : Nat, c ≠ 1 → υ.1 c = σ.1 c := fun c hc => by rw [t1, u1, up2_ne _ _ _ hc]
  have f2 : ∀ c : Nat, c ≠ 2 → c ≠ 171 → υ.2 c = σ.2 c := fun c hc hd => (t2 c hd).trans (u2 c hc)
  have f3 : ∀ i : Nat, i ≠ 4 → ¬ (10 + σ.1 1 1 ≤ i ∧ (i : Int) < 10 + σ.1 1 1 + 20) → υ.2 171 i = σ.2 171 i := fun i h1 h2 => by rw [t4 i h1 (by omega), l2]
  have f4 : ∀ j : Nat, j ≠ 1 → υ.1 1 j = σ.1 1 j := fun j hj => by rw [t1, u1, up2_at, up_ne _ _ hj]
  have f5 : υ.1 1 1 = σ.1 1 1 + 20 := by rw [t1]; exact l1
  refine hR.now (hR.1.head (fun c q1 q2 => ⟨f1 c (by omega), f2 c (by omega) (by omega)⟩) (f2 (1 + 5) (by omega) (by omega)) (fun i q1 q2 => f3 i (by omega) (by omega)) (fun s hs => f3 _ (by omega) (by omega)) ?_ ?_ ?_ ?_) (fun c q1 q2 => ⟨f1 c (by omega), f2 c (by omega) (by omega)⟩) (fun i q => f3 i (by omega) (by omega)) (f2 130 (by omega) (by omega)) (f2 172 (by omega) (by omega)) (hR.2.2.mv (fun c q1 q2 => f1 c (by omega)))
  · refine ⟨?_, by omega, by omega⟩
    rw [f5]
    show υ.2 171 4 = _
    rw [t3]; omega
  · intro i hi
    rw [f5] at hi
    show υ.2 171 (0 + 10 + i) = υ.2 2 i ∧ 0 ≤ υ.2 2 i ∧ υ.2 2 i ≤ 255
    rw [t2 2 (by omega)]
    rcases Decidable.em ((i : Int) < σ.1 1 1) with g | g
    · rw [f3 _ (by omega) (by omega), u3 i g]
      exact h2 i g
    · have v1 := u4 (i - (σ.1 1 1).toNat) (by omega)
      have v2 := t5 (i - (σ.1 1 1).toNat) (by omega)
      rw [l4, show 10 + (σ.1 1 1).toNat + (i - (σ.1 1 1).toNat) = 0 + 10 + i by omega, show 20 - 20 + (i - (σ.1 1 1).toNat) = i - (σ.1 1 1).toNat by omega] at v2
      rw [show (σ.1 1 1).toNat + (i - (σ.1 1 1).toNat) = i by omega] at v1
      rw [v1, v2]
      exact ⟨rfl, byt_rng _ _⟩
  · rw [f4 6 (by omega), f3 _ (by omega) (by omega)]; exact h3
  · rw [f4 7 (by omega), f3 _ (by omega) (by omega)]; exact h4
