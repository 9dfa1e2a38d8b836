/-! TAX, as pure numbers -/
def sm (f : Nat → Int) : Nat → Int
  | 0 => 0
  | k + 1 => sm f k + f k
theorem sm_congr {f g : Nat → Int} : ∀ k : Nat, (∀ h : Nat, h < k → f h = g h) → sm f k = sm g k
  | 0 => fun _ => rfl
  | k + 1 => fun e => by
    unfold sm
    rw [sm_congr k (fun h hh => e h (by omega)), e k (by omega)]
theorem sm_up {f : Nat → Int} {b : Nat} {x : Int} : ∀ k : Nat, sm (up f b x) k = sm f k + (if b < k then x - f b else 0)
  | 0 => by rw [if_neg (by omega)]; rfl
  | k + 1 => by
    unfold sm
    rw [sm_up k]
    by_cases h : b = k
    · rw [h, up_same, if_neg (by omega), if_pos (by omega)]; omega
    · rw [up_ne _ _ (Ne.symm h)]
      by_cases g : b < k
      · rw [if_pos g, if_pos (by omega)]; omega
      · rw [if_neg g, if_neg (by omega)]; omega
theorem sm_nn {f : Nat → Int} : ∀ k : Nat, (∀ h : Nat, h < k → 0 ≤ f h) → 0 ≤ sm f k
  | 0 => fun _ => Int.le_refl 0
  | k + 1 => fun e => by
    have := sm_nn k (fun h hh => e h (by omega))
    have := e k (by omega)
    unfold sm; omega
theorem sm_le {f : Nat → Int} {m : Int} : ∀ k : Nat, (∀ h : Nat, h < k → f h ≤ m) → sm f k ≤ k * m
  | 0 => fun _ => by unfold sm; omega
  | k + 1 => fun e => by
    have := sm_le k (fun h hh => e h (by omega))
    have := e k (by omega)
    unfold sm
    rw [show ((k + 1 : Nat) : Int) * m = k * m + m by rw [Int.natCast_succ, Int.add_mul]; omega]
    omega
theorem sm_one {f : Nat → Int} {b : Nat} : ∀ k : Nat, (∀ h : Nat, h < k → 0 ≤ f h) → b < k → f b ≤ sm f k
  | 0 => fun _ h => absurd h (by omega)
  | k + 1 => fun e h => by
    have a := sm_nn k (fun h hh => e h (by omega))
    have c := e k (by omega)
    unfold sm
    rcases Nat.lt_or_ge b k with g | g
    · have := sm_one k (fun h hh => e h (by omega)) g
      omega
    · rw [show b = k by omega]; omega
theorem sm_pos {f : Nat → Int} : ∀ k : Nat, 0 < sm f k → ∃ b : Nat, b < k ∧ 0 < f b
  | 0 => fun h => absurd h (by unfold sm; omega)
  | k + 1 => fun h => by
    unfold sm at h
    by_cases g : 0 < f k
    · exact ⟨k, by omega, g⟩
    · obtain ⟨b, b1, b2⟩ := sm_pos (f := f) k (by omega)
      exact ⟨b, by omega, b2⟩
theorem sm_tail {f : Nat → Int} {n : Nat} : ∀ k : Nat, n ≤ k → (∀ h : Nat, n ≤ h → h < k → f h = 0) → sm f k = sm f n
  | 0 => fun h _ => by rw [show n = 0 by omega]
  | k + 1 => fun h e => by
    rcases Nat.lt_or_ge k n with g | g
    · rw [show n = k + 1 by omega]
    · have := sm_tail k g (fun h h1 h2 => e h h1 (by omega))
      show sm f k + f k = sm f n
      rw [this, e k g (by omega)]; omega
theorem sm_div {W q : Int} {f : Nat → Int} : ∀ k : Nat, q * sm f k = W * sm (fun h => q * f h / W) k + sm (fun h => q * f h % W) k
  | 0 => by unfold sm; simp
  | k + 1 => by
    have := sm_div (W := W) (q := q) (f := f) k
    unfold sm
    rw [Int.mul_add, Int.mul_add, this]
    have e := Int.mul_ediv_add_emod (q * f k) W
    omega
/-- the first of the greatest -/
def bst (c : Nat → Int) : Nat → Nat
  | 0 => 0
  | k + 1 => if c (bst c k) < c (k + 1) then k + 1 else bst c k
theorem bst_spec (c : Nat → Int) : ∀ k : Nat, bst c k ≤ k ∧ (∀ h : Nat, h ≤ k → c h ≤ c (bst c k)) ∧ (∀ h : Nat, h < bst c k → c h < c (bst c k))
  | 0 => ⟨Nat.le_refl _, fun h hh => by rw [show h = 0 by omega]; exact Int.le_refl _, fun h hh => absurd hh (by unfold bst; omega)⟩
  | k + 1 => by
    obtain ⟨h1, h2, h3⟩ := bst_spec c k
    unfold bst
    by_cases g : c (bst c k) < c (k + 1)
    · rw [if_pos g]
      refine ⟨Nat.le_refl _, fun h hh => ?_, fun h hh => ?_⟩
      · rcases Nat.lt_or_ge h (k + 1) with e | e
        · have := h2 h (by omega); omega
        · rw [show h = k + 1 by omega]; exact Int.le_refl _
      · have := h2 h (by omega); omega
    · rw [if_neg g]
      refine ⟨by omega, fun h hh => ?_, h3⟩
      rcases Nat.lt_or_ge h (k + 1) with e | e
      · exact h2 h (by omega)
      · rw [show h = k + 1 by omega]; omega
theorem bst_uni {c : Nat → Int} {k b : Nat} (h1 : b ≤ k) (h2 : ∀ h : Nat, h ≤ k → c h ≤ c b) (h3 : ∀ h : Nat, h < b → c h < c b) : bst c k = b := by
  obtain ⟨g1, g2, g3⟩ := bst_spec c k
  rcases Nat.lt_or_ge (bst c k) b with e | e
  · have := h3 _ e; have := g2 b h1; omega
  · rcases Nat.lt_or_ge b (bst c k) with f | f
    · have := g3 _ f; have := h2 _ g1; omega
    · omega
theorem bst_congr {c d : Nat → Int} {k : Nat} (e : ∀ h : Nat, h ≤ k → c h = d h) : bst c k = bst d k := by
  obtain ⟨g1, g2, g3⟩ := bst_spec d k
  refine bst_uni g1 (fun h hh => ?_) (fun h hh => ?_)
  · rw [e h hh, e _ g1]; exact g2 h hh
  · rw [e h (by omega), e _ g1]; exact g3 h hh
/-- goods of those who owe -/
def gy (n E : Nat) (g : Nat → Int) (h : Nat) : Int := if h < n ∧ E.testBit h = false then g h else 0
def gW (n E : Nat) (g : Nat → Int) : Int := sm (gy n E g) 7
def t0 (n E : Nat) (q : Int) (g : Nat → Int) (h : Nat) : Int := q * gy n E g h / gW n E g
def r0 (n E : Nat) (q : Int) (g : Nat → Int) (h : Nat) : Int := q * gy n E g h % gW n E g
def lf (n E : Nat) (q : Int) (g : Nat → Int) : Int := q - sm (t0 n E q g) 7
def gv1 (tc : (Nat → Int) × (Nat → Int)) : (Nat → Int) × (Nat → Int) := (up tc.1 (bst tc.2 6) (tc.1 (bst tc.2 6) + 1), up tc.2 (bst tc.2 6) 0)
def gvs (tc : (Nat → Int) × (Nat → Int)) : Nat → (Nat → Int) × (Nat → Int)
  | 0 => tc
  | i + 1 => gv1 (gvs tc i)
def gvn (n E : Nat) (q : Int) (g : Nat → Int) (i : Nat) : (Nat → Int) × (Nat → Int) := gvs (t0 n E q g, r0 n E q g) i
def txF (n E : Nat) (q : Int) (g : Nat → Int) (h : Nat) : Int := if 0 < gW n E g then (gvn n E q g (lf n E q g).toNat).1 h else 0
def lsF (n E : Nat) (q : Int) (g : Nat → Int) : Int := if 0 < gW n E g then 0 else q
def gdOk (n : Nat) (q : Int) (g : Nat → Int) : Prop := n ≤ 7 ∧ 0 ≤ q ∧ q ≤ 99 ∧ ∀ h : Nat, h < n → 0 ≤ g h ∧ g h ≤ 99
theorem gy_rng {n E : Nat} {q : Int} {g : Nat → Int} (k : gdOk n q g) (h : Nat) : 0 ≤ gy n E g h ∧ gy n E g h ≤ 99 := by
  unfold gy
  split
  · rename_i c; exact k.2.2.2 h c.1
  · omega
theorem gW_rng {n E : Nat} {q : Int} {g : Nat → Int} (k : gdOk n q g) : 0 ≤ gW n E g ∧ gW n E g ≤ 693 := by
  have a := sm_nn 7 (fun h _ => (gy_rng (E := E) k h).1)
  have b := sm_le (m := 99) 7 (fun h _ => (gy_rng (E := E) k h).2)
  unfold gW
  omega
theorem gW_n {n E : Nat} {g : Nat → Int} (h : n ≤ 7) : gW n E g = sm (gy n E g) n := sm_tail 7 h (fun i h1 _ => by unfold gy; rw [if_neg (by omega)])
theorem qg_rng {n E : Nat} {q : Int} {g : Nat → Int} (k : gdOk n q g) (h : Nat) : 0 ≤ q * gy n E g h ∧ q * gy n E g h ≤ 9801 := by
  have a := gy_rng (E := E) k h
  obtain ⟨-, q0, q9, -⟩ := k
  refine ⟨Int.mul_nonneg q0 a.1, ?_⟩
  have := Int.mul_le_mul q9 a.2 a.1 (by omega : (0 : Int) ≤ 99)
  omega
theorem t0_nn {n E : Nat} {q : Int} {g : Nat → Int} (k : gdOk n q g) (h : Nat) : 0 ≤ t0 n E q g h := Int.ediv_nonneg (qg_rng k h).1 (gW_rng k).1
theorem r0_rng {n E : Nat} {q : Int} {g : Nat → Int} (w : 0 < gW n E g) (h : Nat) : 0 ≤ r0 n E q g h ∧ r0 n E q g h < gW n E g := ⟨Int.emod_nonneg _ (by omega), Int.emod_lt_of_pos _ w⟩
theorem lf_eq {n E : Nat} {q : Int} {g : Nat → Int} : gW n E g * lf n E q g = sm (r0 n E q g) 7 := by
  have e := sm_div (W := gW n E g) (q := q) (f := gy n E g) 7
  have f1 : sm (gy n E g) 7 = gW n E g := rfl
  have f2 : sm (fun h => q * gy n E g h / gW n E g) 7 = sm (t0 n E q g) 7 := rfl
  have f3 : sm (fun h => q * gy n E g h % gW n E g) 7 = sm (r0 n E q g) 7 := rfl
  rw [f1, f2, f3] at e
  unfold lf
  rw [Int.mul_sub, Int.mul_comm (gW n E g) q]
  omega
theorem lf_rng {n E : Nat} {q : Int} {g : Nat → Int} (w : 0 < gW n E g) : 0 ≤ lf n E q g ∧ lf n E q g < 7 := by
  have e := lf_eq (n := n) (E := E) (q := q) (g := g)
  have a := sm_nn 7 (fun h _ => (r0_rng (q := q) w h).1)
  have b := sm_le (f := r0 n E q g) (m := gW n E g - 1) 7 (fun h _ => by have := (r0_rng (q := q) w h).2; omega)
  constructor
  · by_cases h : lf n E q g < 0
    · have := Int.mul_neg_of_pos_of_neg w h
      omega
    · omega
  · by_cases h : lf n E q g < 7
    · exact h
    · have := Int.mul_le_mul_of_nonneg_left (show 7 ≤ lf n E q g by omega) (Int.le_of_lt w)
      omega
/-- what holds behind i gifts -/
theorem gvn_inv {n E : Nat} {q : Int} {g : Nat → Int} (k : gdOk n q g) (w : 0 < gW n E g) : ∀ i : Nat, (i : Int) ≤ lf n E q g →
    (∀ h : Nat, 0 ≤ (gvn n E q g i).2 h ∧ (gvn n E q g i).2 h < gW n E g) ∧ (∀ h : Nat, 0 < (gvn n E q g i).2 h → h < n ∧ E.testBit h = false) ∧ (lf n E q g - i) * gW n E g + i ≤ sm (gvn n E q g i).2 7 ∧ sm (gvn n E q g i).1 7 = q - lf n E q g + i ∧ (∀ h : Nat, 0 ≤ (gvn n E q g i).1 h) ∧ (∀ h : Nat, ¬ (h < n ∧ E.testBit h = false) → (gvn n E q g i).1 h = 0)
  | 0 => fun _ => by
    have z : ∀ h : Nat, ¬ (h < n ∧ E.testBit h = false) → gy n E g h = 0 := fun h c => if_neg c
    refine ⟨fun h => r0_rng w h, fun h p => ?_, ?_, ?_, fun h => t0_nn k h, fun h c => ?_⟩
    · rcases Decidable.em (h < n ∧ E.testBit h = false) with c | c
      · exact c
      · have : (gvn n E q g 0).2 h = r0 n E q g h := rfl
        rw [this] at p
        unfold r0 at p
        rw [z h c, Int.mul_zero, Int.zero_emod] at p
        omega
    · have e := lf_eq (n := n) (E := E) (q := q) (g := g)
      rw [Int.mul_comm] at e
      have : sm (gvn n E q g 0).2 7 = sm (r0 n E q g) 7 := rfl
      rw [this, show lf n E q g - ((0 : Nat) : Int) = lf n E q g by omega]
      omega
    · show sm (t0 n E q g) 7 = _
      unfold lf
      omega
    · show t0 n E q g h = 0
      unfold t0
      rw [z h c, Int.mul_zero, Int.zero_ediv]
  | i + 1 => fun hi => by
    obtain ⟨h1, h2, h3, h4, h5, h6⟩ := gvn_inv k w i (by omega)
    have e1 : (gvn n E q g (i + 1)).1 = up (gvn n E q g i).1 (bst (gvn n E q g i).2 6) ((gvn n E q g i).1 (bst (gvn n E q g i).2 6) + 1) := rfl
    have e2 : (gvn n E q g (i + 1)).2 = up (gvn n E q g i).2 (bst (gvn n E q g i).2 6) 0 := rfl
    obtain ⟨b1, b2, -⟩ := bst_spec (gvn n E q g i).2 6
    have m : (lf n E q g - (i : Int)) * gW n E g = (lf n E q g - ((i + 1 : Nat) : Int)) * gW n E g + gW n E g := by
      rw [show lf n E q g - (i : Int) = (lf n E q g - ((i + 1 : Nat) : Int)) + 1 by omega, Int.add_mul, Int.one_mul]
    have mp : 0 ≤ (lf n E q g - ((i + 1 : Nat) : Int)) * gW n E g := Int.mul_nonneg (by omega) (by omega)
    obtain ⟨d, d1, d2⟩ := sm_pos 7 (show 0 < sm (gvn n E q g i).2 7 by omega)
    have bp : 0 < (gvn n E q g i).2 (bst (gvn n E q g i).2 6) := by
      have := b2 d (by omega); omega
    have bl := h1 (bst (gvn n E q g i).2 6)
    have bn := h2 _ bp
    rw [e1, e2]
    refine ⟨fun h => ?_, fun h p => ?_, ?_, ?_, fun h => ?_, fun h c => ?_⟩
    · by_cases e : h = bst (gvn n E q g i).2 6
      · rw [e, up_same]; omega
      · rw [up_ne _ _ e]; exact h1 h
    · by_cases e : h = bst (gvn n E q g i).2 6
      · rw [e, up_same] at p; omega
      · rw [up_ne _ _ e] at p; exact h2 h p
    · rw [sm_up, if_pos (by omega)]
      omega
    · rw [sm_up, if_pos (by omega)]
      omega
    · by_cases e : h = bst (gvn n E q g i).2 6
      · rw [e, up_same]; have := h5 (bst (gvn n E q g i).2 6); omega
      · rw [up_ne _ _ e]; exact h5 h
    · rw [up_ne _ _ (fun e => c (by rw [e]; exact bn))]
      exact h6 h c
/-- as long as something is left the greatest is above 0 -/
theorem gvn_pos {n E : Nat} {q : Int} {g : Nat → Int} (k : gdOk n q g) (w : 0 < gW n E g) {i : Nat} (hi : (i : Int) < lf n E q g) : 0 < (gvn n E q g i).2 (bst (gvn n E q g i).2 6) := by
  obtain ⟨h1, h2, h3, h4, h5, h6⟩ := gvn_inv k w i (by omega)
  have mp : 0 ≤ (lf n E q g - (i : Int)) * gW n E g := Int.mul_nonneg (by omega) (by omega)
  have mq : (lf n E q g - (i : Int)) * gW n E g = (lf n E q g - (i : Int) - 1) * gW n E g + gW n E g := by
    rw [show lf n E q g - (i : Int) = (lf n E q g - (i : Int) - 1) + 1 by omega, Int.add_mul, Int.one_mul, show lf n E q g - (i : Int) - 1 + 1 - 1 = lf n E q g - (i : Int) - 1 by omega]
  have mr : 0 ≤ (lf n E q g - (i : Int) - 1) * gW n E g := Int.mul_nonneg (by omega) (by omega)
  obtain ⟨d, d1, d2⟩ := sm_pos 7 (show 0 < sm (gvn n E q g i).2 7 by omega)
  have := (bst_spec (gvn n E q g i).2 6).2.1 d (by omega)
  omega
theorem txF_all {n E : Nat} {q : Int} {g : Nat → Int} (k : gdOk n q g) : (∀ h : Nat, 0 ≤ txF n E q g h ∧ txF n E q g h ≤ 99) ∧ (∀ h : Nat, ¬ (h < n ∧ E.testBit h = false) → txF n E q g h = 0) ∧ sm (txF n E q g) n = q - lsF n E q g ∧ sm (txF n E q g) 7 = q - lsF n E q g := by
  have n7 := k.1
  have q9 := k.2.2.1
  have q0 := k.2.1
  by_cases w : 0 < gW n E g
  · have l := lf_rng (q := q) w
    obtain ⟨h1, h2, h3, h4, h5, h6⟩ := gvn_inv k w (lf n E q g).toNat (by omega)
    have e : txF n E q g = (gvn n E q g (lf n E q g).toNat).1 := by
      funext h; unfold txF; rw [if_pos w]
    have el : lsF n E q g = 0 := if_pos w
    rw [e, el]
    have s7 : sm (gvn n E q g (lf n E q g).toNat).1 7 = q := by omega
    have sn := sm_tail 7 n7 (fun h h1 _ => h6 h (by omega))
    refine ⟨fun h => ⟨h5 h, ?_⟩, h6, by omega, by omega⟩
    rcases Nat.lt_or_ge h 7 with c | c
    · have := sm_one 7 (fun h _ => h5 h) c; omega
    · rw [h6 h (by omega)]; omega
  · have e : txF n E q g = fun _ => 0 := by
      funext h; unfold txF; rw [if_neg w]
    have el : lsF n E q g = q := if_neg w
    rw [e, el]
    have z : ∀ k : Nat, sm (fun _ => (0 : Int)) k = 0 := fun k => by
      have := sm_tail (f := fun _ => (0 : Int)) (n := 0) k (by omega) (fun _ _ _ => rfl)
      rw [this]; rfl
    refine ⟨fun _ => by dsimp only; omega, fun _ _ => rfl, ?_, ?_⟩
    · rw [z]; omega
    · rw [z]; omega
