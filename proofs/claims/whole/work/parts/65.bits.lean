/-! how many bits; least terms -/
def bcE (a1 : Int) : Int := (iAnd (((iAnd (((iAnd (a1 - (iAnd (iUshr a1 1) 1431655765)) 858993459) + (iAnd (iUshr (a1 - (iAnd (iUshr a1 1) 1431655765)) 2) 858993459)) + (iUshr ((iAnd (a1 - (iAnd (iUshr a1 1) 1431655765)) 858993459) + (iAnd (iUshr (a1 - (iAnd (iUshr a1 1) 1431655765)) 2) 858993459)) 4)) 252645135) + (iUshr (iAnd (((iAnd (a1 - (iAnd (iUshr a1 1) 1431655765)) 858993459) + (iAnd (iUshr (a1 - (iAnd (iUshr a1 1) 1431655765)) 2) 858993459)) + (iUshr ((iAnd (a1 - (iAnd (iUshr a1 1) 1431655765)) 858993459) + (iAnd (iUshr (a1 - (iAnd (iUshr a1 1) 1431655765)) 2) 858993459)) 4)) 252645135) 8)) + (iUshr ((iAnd (((iAnd (a1 - (iAnd (iUshr a1 1) 1431655765)) 858993459) + (iAnd (iUshr (a1 - (iAnd (iUshr a1 1) 1431655765)) 2) 858993459)) + (iUshr ((iAnd (a1 - (iAnd (iUshr a1 1) 1431655765)) 858993459) + (iAnd (iUshr (a1 - (iAnd (iUshr a1 1) 1431655765)) 2) 858993459)) 4)) 252645135) + (iUshr (iAnd (((iAnd (a1 - (iAnd (iUshr a1 1) 1431655765)) 858993459) + (iAnd (iUshr (a1 - (iAnd (iUshr a1 1) 1431655765)) 2) 858993459)) + (iUshr ((iAnd (a1 - (iAnd (iUshr a1 1) 1431655765)) 858993459) + (iAnd (iUshr (a1 - (iAnd (iUshr a1 1) 1431655765)) 2) 858993459)) 4)) 252645135) 8)) 16)) 63)
theorem bc_all : ∀ n : Nat, n < 1024 → bcE (n : Int) = (popc n 12 : Int) := by decide +kernel
theorem c_bitc {X : PX} {σ : Sg} {n : Nat} {P : Int → Sg → Prop} (h : n < 1024) (q : P (popc n 12) σ) : CI X 283 [vI n] σ P := by
  refine v_283 ⟨_, rfl, ?_⟩
  have := bc_all n h
  unfold bcE at this
  rw [this]; exact q
theorem m_bits {X : PX} {σ : Sg} {n : Nat} {P : Int → Sg → Prop} (h : n < 2048) (q : P (popc n 12) σ) : CI X 195 [vI n] σ P := by
  have : ∀ (d k : Nat), k + d = 12 → Ev X 195 4 [some (vI n), some (vI (popc n k)), some (vI k)] [] σ (fun v τ => ∃ x, v = some (vI x) ∧ P x τ) := by
    intro d
    induction d with
    | zero =>
      intro k hk
      refine v_195_4 ⟨by omega, fun _ => ⟨_, rfl, ?_⟩, fun e => absurd (by omega) e⟩
      rw [show k = 12 by omega]; exact q
    | succ d ih =>
      intro k hk
      refine v_195_4 ⟨by omega, fun e => absurd e (by omega), fun _ => ?_⟩
      rw [b_bit (by omega) (by omega)]
      have nx := ih (k + 1) (by omega)
      unfold popc at nx
      have e : (((popc n k + if n.testBit k then 1 else 0 : Nat)) : Int) = (popc n k : Int) + if n.testBit k then 1 else 0 := by split <;> simp
      rw [e] at nx
      exact nx
  exact v_195 (this 12 0 (by omega))
theorem tb_4096 {T i : Nat} (h : T < 4096) (g : T.testBit i = true) : i < 12 := tb_lt (n := 12) h g
theorem popc_lt12 {S T : Nat} (h : gSub S T) (hT : T < 4096) (hne : S ≠ T) : popc S 12 < popc T 12 := by
  rcases Nat.lt_or_ge (popc S 12) (popc T 12) with g | g
  · exact g
  · exact absurd (gSub.eq h (fun i hi => popc_eq h 12 (Nat.le_antisymm (popc_sub h 12) g) i (tb_4096 hT hi) hi)) hne
theorem rem_half {y r : Nat} (h : r < y) (h0 : 0 < r) : 2 * (y % r) < y := by
  have a := Nat.mod_lt y h0
  have b := Nat.mod_le (y - r) r
  have c : y % r = (y - r) % r := by rw [← Nat.mod_eq_sub_mod (by omega)]
  omega
theorem irem_n {x y : Nat} (hx : x < 2147483648) (hy : y < 2147483648) (h : 0 < y) : iRem (x : Int) (y : Int) = ((x % y : Nat) : Int) := by
  rw [b_rem (by omega) (by omega) (by omega) (by omega)]; norm_cast
theorem idiv_n {x y : Nat} (hx : x < 2147483648) (hy : y < 2147483648) (h : 0 < y) : iDiv (x : Int) (y : Int) = ((x / y : Nat) : Int) := by
  rw [b_div (by omega) (by omega) (by omega) (by omega)]; norm_cast
theorem gcd_stp (x y : Nat) : Nat.gcd x y = Nat.gcd y (x % y) := by rw [Nat.gcd_comm x y, Nat.gcd_rec y x, Nat.gcd_comm]
theorem c_gcdl {X : PX} {σ : Sg} {Q : Option PV → Sg → Prop} : ∀ (m x y i : Nat), x < 2147483648 → y < 2147483648 → y < 2 ^ m → i + 2 * m < 64 → Q (some (vI (Nat.gcd x y))) σ → Ev X 159 6 [none, none, some (vI x), some (vI y), some (vI i), none] [] σ Q := by
  intro m
  induction m with
  | zero =>
    intro x y i hx hy hm hi q
    have y0 : y = 0 := by omega
    rw [y0, Nat.gcd_zero_right] at q
    exact v_159_6 ⟨by omega, fun e => absurd e (by omega), fun _ => ⟨by omega, fun _ => q, fun e => absurd (by omega) e⟩⟩
  | succ m ih =>
    intro x y i hx hy hm hi q
    refine v_159_6 ⟨by omega, fun e => absurd e (by omega), fun _ => ⟨by omega, fun e => ?_, fun e => ⟨e, ?_⟩⟩⟩
    · have y0 : y = 0 := by omega
      rw [y0, Nat.gcd_zero_right] at q; exact q
    · rw [irem_n hx hy (by omega)]
      rw [gcd_stp] at q
      have rl := Nat.mod_lt x (show 0 < y by omega)
      refine v_159_6 ⟨by omega, fun e => absurd e (by omega), fun _ => ⟨by omega, fun e => ?_, fun e => ⟨e, ?_⟩⟩⟩
      · have y0 : x % y = 0 := by omega
        rw [y0, Nat.gcd_zero_right] at q; exact q
      · rw [irem_n hy (by omega) (by omega)]
        rw [gcd_stp] at q
        have hh := rem_half rl (by omega)
        have p2 : 2 ^ (m + 1) = 2 * 2 ^ m := by rw [Nat.pow_succ]; omega
        exact ih (x % y) (y % (x % y)) (i + 1 + 1) (by omega) (by omega) (by omega) (by omega) q
theorem m_gcdl {X : PX} {σ : Sg} {Q : Option PV → Sg → Prop} : ∀ (d x y : Nat), x < 2147483648 → y < 2147483648 → y ≤ d → Q (some (vI (Nat.gcd x y))) σ → Ev X 213 4 [none, none, some (vI x), some (vI y), none] [] σ Q := by
  intro d
  induction d with
  | zero =>
    intro x y hx hy hd q
    have y0 : y = 0 := by omega
    rw [y0, Nat.gcd_zero_right] at q
    exact v_213_4 ⟨by omega, fun _ => q, fun e => absurd (by omega) e⟩
  | succ d ih =>
    intro x y hx hy hd q
    refine v_213_4 ⟨by omega, fun e => ?_, fun e => ⟨e, ?_⟩⟩
    · have y0 : y = 0 := by omega
      rw [y0, Nat.gcd_zero_right] at q; exact q
    · rw [irem_n hx hy (by omega)]
      rw [gcd_stp] at q
      have rl := Nat.mod_lt x (show 0 < y by omega)
      exact ih y (x % y) hy (by omega) (by omega) q
def lstT (u d : Nat) (z : Int) : Nat := if z = 0 then u / Nat.gcd u d else d / Nat.gcd u d
theorem lstT_le (u d : Nat) (z : Int) : lstT u d z ≤ u + d := by
  unfold lstT
  have a := Nat.div_le_self u (Nat.gcd u d)
  have b := Nat.div_le_self d (Nat.gcd u d)
  split <;> omega
theorem c_lst {X : PX} {σ : Sg} {u d : Nat} {z : Int} {P : Int → Sg → Prop} (hu : u < 65536) (hd : d < 65536) (h0 : 0 < d) (hz : z = 0 ∨ z = 1) (q : P (lstT u d z) σ) : CI X 158 [vI u, vI d, vI z] σ P := by
  have gp := Nat.gcd_pos_of_pos_right u h0
  have gl := Nat.gcd_le_right u h0
  refine v_158 (v_159 (c_gcdl 16 u d 0 (by omega) (by omega) (by omega) (by omega) ⟨_, rfl, by omega, fun e => absurd e (by omega), fun _ => ⟨by omega, fun _ => ⟨by omega, fun e => ⟨by omega, _, rfl, ?_⟩, fun e => ⟨by omega, _, rfl, ?_⟩⟩, fun e => absurd (by omega) e⟩⟩))
  · rw [idiv_n (by omega) (by omega) gp]
    unfold lstT at q; rw [if_pos e] at q; exact q
  · rw [idiv_n (by omega) (by omega) gp]
    unfold lstT at q; rw [if_neg e] at q; exact q
theorem m_lst {X : PX} {σ : Sg} {u d : Nat} {z : Int} {P : Int → Sg → Prop} (hu : u < 65536) (hd : d < 65536) (h0 : 0 < d) (hz : z = 0 ∨ z = 1) (q : P (lstT u d z) σ) : CI X 214 [vI u, vI d, vI z] σ P := by
  have gp := Nat.gcd_pos_of_pos_right u h0
  have gl := Nat.gcd_le_right u h0
  refine v_214 ⟨by omega, fun e => v_213 (m_gcdl d u d (by omega) (by omega) (by omega) ⟨_, rfl, by omega, by omega, _, rfl, ?_⟩), fun e => v_213 (m_gcdl d u d (by omega) (by omega) (by omega) ⟨_, rfl, by omega, by omega, _, rfl, ?_⟩)⟩
  · rw [idiv_n (by omega) (by omega) gp]
    unfold lstT at q; rw [if_pos e] at q; exact q
  · rw [idiv_n (by omega) (by omega) gp]
    unfold lstT at q; rw [if_neg e] at q; exact q
theorem every_n {n : Nat} (h : n ≤ 10) : iShl 1 (n : Int) - 1 = ((2 ^ n - 1 : Nat) : Int) := by
  have := Nat.two_pow_pos n
  rw [b_one (by omega)]; omega
theorem c_every {X : PX} {σ : Sg} {p n : Nat} {P : Int → Sg → Prop} (hp : p ∈ parL) (h2 : σ.1 p 2 = n) (n7 : n ≤ 7) (q : P ((2 ^ n - 1 : Nat) : Int) σ) : CI X 84 [vR (some p)] σ P := by
  refine v_84 hp ?_
  rw [h2, every_n (by omega)]
  exact ⟨_, rfl, q⟩
theorem m_every {X : PX} {σ : Sg} {n : Nat} {P : Int → Sg → Prop} (h2 : σ.1 170 12 = n) (n7 : n ≤ 7) (q : P ((2 ^ n - 1 : Nat) : Int) σ) : CI X 191 [vR (some 170)] σ P := by
  refine v_191 ?_
  rw [h2, every_n (by omega)]
  exact ⟨_, rfl, q⟩
def smN (f : Nat → Nat) : Nat → Nat
  | 0 => 0
  | k + 1 => smN f k + f k
theorem smN_le {f : Nat → Nat} {m : Nat} (h : ∀ i : Nat, f i ≤ m) : ∀ k : Nat, smN f k ≤ k * m
  | 0 => by unfold smN; omega
  | k + 1 => by
    have := smN_le h k
    have := h k
    unfold smN
    rw [Nat.add_mul]; omega
theorem smN_one {f : Nat → Nat} {b : Nat} : ∀ k : Nat, b < k → f b ≤ smN f k
  | 0 => fun h => absurd h (by omega)
  | k + 1 => fun h => by
    unfold smN
    rcases Nat.lt_or_ge b k with g | g
    · have := smN_one (f := f) k g; omega
    · rw [show b = k by omega]; omega
