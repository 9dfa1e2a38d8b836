/-! feed -/
def byt (w s : Int) : Int := iAnd (iUshr w s) 255
theorem byt_rng (w s : Int) : 0 ≤ byt w s ∧ byt w s ≤ 255 := by
  unfold byt iAnd
  have h : (Int32.ofInt (iUshr w s) &&& Int32.ofInt 255).toBitVec.toNat ≤ 255 := by
    rw [Int32.toBitVec_and, BitVec.toNat_and]
    exact Nat.and_le_right
  rw [toI_of (n := (Int32.ofInt (iUshr w s) &&& Int32.ofInt 255).toBitVec.toNat) (by omega) rfl]
  omega
theorem app_loop {X : PX} {t : Nat} {w : Int} {Q : Option PV → Sg → Prop} (ht : t ∈ tolL) : ∀ (n : Nat) (x : Int) (σ : Sg), x = 8 * (n : Int) - 8 → n ≤ 4 → 0 ≤ σ.1 t 1 → σ.1 t 1 + n ≤ 600 → (∀ τ : Sg, τ.1 = up2 σ.1 t 1 (σ.1 t 1 + n) → (∀ c : Nat, c ≠ t + 1 → τ.2 c = σ.2 c) → (∀ i : Nat, (i : Int) < σ.1 t 1 → τ.2 (t + 1) i = σ.2 (t + 1) i) → (∀ j : Nat, j < n → τ.2 (t + 1) ((σ.1 t 1).toNat + j) = byt w (8 * ((n - 1 - j : Nat) : Int))) → Q none τ) → Ev X 112 2 [some (vR (some t)), some (vI w), some (vI x)] [] σ Q := by
  intro n
  induction n with
  | zero =>
    intro x σ hx hn h0 h6 k
    refine v_112_2 ht ⟨by omega, fun _ => k σ ?_ (fun _ _ => rfl) (fun _ _ => rfl) (fun j hj => absurd hj (by omega)), fun q => absurd (by omega) q⟩
    rw [up2_eq, show σ.1 t 1 + ((0 : Nat) : Int) = σ.1 t 1 by omega, up_eta, up_eta]
  | succ n ih =>
    intro x σ hx hn h0 h6 k
    refine v_112_2 ht ⟨by omega, fun q => by omega, fun _ => ⟨by omega, fun q => by omega, fun _ => ⟨fun q => by omega, fun _ => ⟨by omega, ?_⟩⟩⟩⟩
    have e0 : up2 σ.1 t 1 (σ.1 t 1 + 1) t 1 = σ.1 t 1 + 1 := up2_get _ _ _ _
    refine ih (x + (-8)) _ (by omega) (by omega) (by dsimp only; rw [e0]; omega) (by dsimp only; rw [e0]; omega) ?_
    dsimp only
    intro τ t1 t2 t3 t4
    rw [e0] at t1 t3 t4
    have b : ∀ i : Nat, up2 σ.2 (t + 1) (σ.1 t 1).toNat (iAnd (iUshr w x) 255) (t + 1) i = if i = (σ.1 t 1).toNat then iAnd (iUshr w x) 255 else σ.2 (t + 1) i := fun i => by rw [up2_at]; rfl
    refine k τ ?_ (fun c hc => ?_) (fun i hi => ?_) (fun j hj => ?_)
    · rw [t1, up2_eq, up2_eq, up2_eq, up_up, up_same, up_up, show σ.1 t 1 + 1 + (n : Int) = σ.1 t 1 + ((n + 1 : Nat) : Int) by omega]
    · rw [t2 c hc, up2_ne _ _ _ hc]
    · rw [t3 i (by omega), b, if_neg (by omega)]
    · cases j with
      | zero =>
        rw [t3 _ (by omega), b, if_pos (by omega), hx]
        show iAnd (iUshr w _) 255 = iAnd (iUshr w _) 255
        rw [show 8 * ((n + 1 : Nat) : Int) - 8 = 8 * ((n + 1 - 1 - 0 : Nat) : Int) by omega]
      | succ j =>
        have := t4 j (by omega)
        rw [show (σ.1 t 1 + 1).toNat + j = (σ.1 t 1).toNat + (j + 1) by omega] at this
        rw [this, show n - 1 - j = n + 1 - 1 - (j + 1) by omega]
theorem c_app {X : PX} {t : Nat} {w : Int} {σ : Sg} {P : Sg → Prop} (ht : t ∈ tolL) (h0 : 0 ≤ σ.1 t 1) (h6 : σ.1 t 1 + 4 ≤ 600) (k : ∀ τ : Sg, τ.1 = up2 σ.1 t 1 (σ.1 t 1 + 4) → (∀ c : Nat, c ≠ t + 1 → τ.2 c = σ.2 c) → (∀ i : Nat, (i : Int) < σ.1 t 1 → τ.2 (t + 1) i = σ.2 (t + 1) i) → (∀ j : Nat, j < 4 → τ.2 (t + 1) ((σ.1 t 1).toNat + j) = byt w (8 * ((3 - j : Nat) : Int))) → P τ) : CV X 112 [vR (some t), vI w] σ P := by
  refine v_112 ht (app_loop ht 4 24 σ (by omega) (by omega) h0 (by omega) (fun τ a b c d => ⟨rfl, k τ a b c (fun j hj => ?_)⟩))
  rw [d j hj]
theorem byt_aux (x : Int32) (s : Int32) (k : Nat) (hk : k = 0 ∨ k = 8 ∨ k = 16 ∨ k = 24) (h1 : ((s &&& 31).toBitVec.smod 32).toNat = k) (h2 : ((s.toUInt32 &&& Int32.toUInt32 31).toBitVec % 32).toNat = k) : (x >>> (s &&& 31)) &&& Int32.ofInt 255 = (x.toUInt32 >>> (s.toUInt32 &&& Int32.toUInt32 31)).toInt32 &&& Int32.ofInt 255 := by
  rw [pk_and (x >>> (s &&& 31)) (m := Int32.ofInt 255) 8 (by decide), pk_and (x.toUInt32 >>> (s.toUInt32 &&& Int32.toUInt32 31)).toInt32 (m := Int32.ofInt 255) 8 (by decide), pk_ushr x s k h2]
  have g := pk_shr x (s &&& 31) k h1
  rw [Int.shiftRight_eq_div_pow] at g
  congr 1
  generalize (x >>> (s &&& 31)) = y at g
  have e1 : x.toInt = if 2 * x.toBitVec.toNat < 2 ^ 32 then (x.toBitVec.toNat : Int) else (x.toBitVec.toNat : Int) - ((2 ^ 32 : Nat) : Int) := BitVec.toInt_eq_toNat_cond x.toBitVec
  have e2 : y.toInt = if 2 * y.toBitVec.toNat < 2 ^ 32 then (y.toBitVec.toNat : Int) else (y.toBitVec.toNat : Int) - ((2 ^ 32 : Nat) : Int) := BitVec.toInt_eq_toNat_cond y.toBitVec
  have b1 := x.toBitVec.isLt
  have b2 := y.toBitVec.isLt
  generalize x.toBitVec.toNat = N at *
  generalize y.toBitVec.toNat = K at *
  rw [e1, e2] at g
  rcases hk with rfl | rfl | rfl | rfl <;> (split at g <;> split at g <;> omega)
/-- the reference's byte is the same -/
theorem byt_shr (w : Int) : ∀ m : Nat, m < 4 → iAnd (iShr w (8 * (m : Int))) 255 = byt w (8 * (m : Int)) := by
  intro m hm
  unfold byt iAnd iShr iUshr
  rw [o_t, o_t]
  congr 1
  rcases (show m = 0 ∨ m = 1 ∨ m = 2 ∨ m = 3 by omega) with rfl | rfl | rfl | rfl
  · exact byt_aux _ _ 0 (by omega) (by decide) (by decide)
  · exact byt_aux _ _ 8 (by omega) (by decide) (by decide)
  · exact byt_aux _ _ 16 (by omega) (by decide) (by decide)
  · exact byt_aux _ _ 24 (by omega) (by decide) (by decide)
def wd (a b c d e : Int) (j : Nat) : Int := if j < 4 then a else if j < 8 then b else if j < 12 then c else if j < 16 then d else e
def fby (a b c d e : Int) (j : Nat) : Int := byt (wd a b c d e j) (8 * ((3 - j % 4 : Nat) : Int))
theorem fby_eq {w : Int} {x : Int} {j : Nat} (hx : x = j) (hj : j < 20) : iAnd (iShr w (24 - 8 * iRem x 4)) 255 = byt w (8 * ((3 - j % 4 : Nat) : Int)) := by
  rw [b_rem (by omega) (by omega) (by omega) (by omega), show 24 - 8 * (x % 4) = 8 * ((3 - j % 4 : Nat) : Int) by omega]
  exact byt_shr w (3 - j % 4) (by omega)
theorem m_floop {X : PX} {a b c d e : Int} {Q : Option PV → Sg → Prop} : ∀ (n : Nat) (x : Int) (σ : Sg), n ≤ 20 → x = 20 - (n : Int) → 0 ≤ σ.2 171 4 → σ.2 171 4 + n ≤ 600 → (∀ τ : Sg, τ.1 = σ.1 → (∀ c : Nat, c ≠ 171 → τ.2 c = σ.2 c) → τ.2 171 4 = σ.2 171 4 + n → (∀ i : Nat, i ≠ 4 → ¬ (10 + σ.2 171 4 ≤ i ∧ (i : Int) < 10 + σ.2 171 4 + n) → τ.2 171 i = σ.2 171 i) → (∀ j : Nat, j < n → τ.2 171 (10 + (σ.2 171 4).toNat + j) = fby a b c d e (20 - n + j)) → Q (some (vI (σ.2 171 4 + n))) τ) → Ev X 162 12 [some (vR (some 170)), some (vI a), some (vI b), some (vI c), some (vI d), some (vI e), some (vI x), none] [] σ Q := by
  intro n
  induction n with
  | zero =>
    intro x σ hn hx h0 h6 k
    refine v_162_12 ⟨by omega, fun _ => ?_, fun q => absurd (by omega) q⟩
    have := k σ rfl (fun _ _ => rfl) (by omega) (fun _ _ _ => rfl) (fun j hj => absurd hj (by omega))
    rw [show σ.2 171 4 + ((0 : Nat) : Int) = σ.2 171 4 by omega] at this
    exact this
  | succ n ih =>
    intro x σ hn hx h0 h6 k
    have hj : (20 - (n + 1) : Nat) < 20 := by omega
    have hxj : x = ((20 - (n + 1) : Nat) : Int) := by omega
    have go : ∀ w : Int, w = wd a b c d e (20 - (n + 1)) → Ev X 162 12 [some (vR (some 170)), some (vI a), some (vI b), some (vI c), some (vI d), some (vI e), some (vI (x + 1)), none] [] (σ.1, up2 (up2 σ.2 171 (10 + σ.2 171 4).toNat (iAnd (iShr w (24 - 8 * iRem x 4)) 255)) 171 4 ((up2 σ.2 171 (10 + σ.2 171 4).toNat (iAnd (iShr w (24 - 8 * iRem x 4)) 255)) 171 4 + 1)) Q := by
      intro w hw
      rw [fby_eq hxj hj, hw]
      have e1 : up2 σ.2 171 (10 + σ.2 171 4).toNat (byt (wd a b c d e (20 - (n + 1))) (8 * ((3 - (20 - (n + 1)) % 4 : Nat) : Int))) 171 4 = σ.2 171 4 := by rw [up2_at, up_ne _ _ (by omega)]
      rw [e1]
      generalize hy : byt (wd a b c d e (20 - (n + 1))) (8 * ((3 - (20 - (n + 1)) % 4 : Nat) : Int)) = y
      have b1 : ∀ i : Nat, up2 (up2 σ.2 171 (10 + σ.2 171 4).toNat y) 171 4 (σ.2 171 4 + 1) 171 i = if i = 4 then σ.2 171 4 + 1 else if i = (10 + σ.2 171 4).toNat then y else σ.2 171 i := fun i => by rw [up2_at, up2_at]; rfl
      have b2 : ∀ q : Nat, q ≠ 171 → up2 (up2 σ.2 171 (10 + σ.2 171 4).toNat y) 171 4 (σ.2 171 4 + 1) q = σ.2 q := fun q hq => by rw [up2_ne _ _ _ hq, up2_ne _ _ _ hq]
      have e4 : up2 (up2 σ.2 171 (10 + σ.2 171 4).toNat y) 171 4 (σ.2 171 4 + 1) 171 4 = σ.2 171 4 + 1 := by rw [b1, if_pos rfl]
      refine ih (x + 1) _ (by omega) (by omega) (by dsimp only; rw [e4]; omega) (by dsimp only; rw [e4]; omega) ?_
      dsimp only
      rw [e4]
      intro τ t1 t2 t3 t4 t5
      rw [show σ.2 171 4 + 1 + (n : Int) = σ.2 171 4 + ((n + 1 : Nat) : Int) by omega]
      refine k τ t1 (fun q hq => (t2 q hq).trans (b2 q hq)) (by omega) (fun i h1 h2 => ?_) (fun j hj2 => ?_)
      · rw [t4 i h1 (by omega), b1, if_neg h1, if_neg (by omega)]
      · cases j with
        | zero =>
          rw [t4 _ (by omega) (by omega), b1, if_neg (by omega), if_pos (by omega), ← hy]
          rfl
        | succ j =>
          have := t5 j (by omega)
          rw [show 10 + (σ.2 171 4 + 1).toNat + j = 10 + (σ.2 171 4).toNat + (j + 1) by omega] at this
          rw [this, show 20 - n + j = 20 - (n + 1) + (j + 1) by omega]
    refine v_162_12 ⟨by omega, fun q => by omega, fun _ => ⟨fun g4 => ⟨fun g8 => ⟨fun g12 => ⟨fun g16 => ⟨by omega, go e ?_⟩, fun g16 => ⟨by omega, go d ?_⟩⟩, fun g12 => ⟨by omega, go c ?_⟩⟩, fun g8 => ⟨by omega, go b ?_⟩⟩, fun g4 => ⟨by omega, go a ?_⟩⟩⟩
    · unfold wd; rw [if_neg (by omega), if_neg (by omega), if_neg (by omega), if_neg (by omega)]
    · unfold wd; rw [if_neg (by omega), if_neg (by omega), if_neg (by omega), if_pos (by omega)]
    · unfold wd; rw [if_neg (by omega), if_neg (by omega), if_pos (by omega)]
    · unfold wd; rw [if_neg (by omega), if_pos (by omega)]
    · unfold wd; rw [if_pos (by omega)]
