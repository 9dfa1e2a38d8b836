/-! RINGED, LONE -/
def itF (f : Nat → Nat) : Nat → Nat
  | 0 => 0
  | k + 1 => f (itF f k)
theorem itF_lt {f : Nat → Nat} (hf : ∀ S : Nat, S < 128 → gSub S (f S) ∧ f S < 128) : ∀ k : Nat, itF f k < 128
  | 0 => by unfold itF; omega
  | k + 1 => (hf _ (itF_lt hf k)).2
theorem itF_pop {f : Nat → Nat} (hf : ∀ S : Nat, S < 128 → gSub S (f S) ∧ f S < 128) : ∀ k : Nat, f (itF f k) = itF f k ∨ k + 1 ≤ popc (itF f (k + 1)) 7
  | 0 => by
    by_cases h : f 0 = 0
    · exact Or.inl h
    · have := popc_lt (S := itF f 0) (T := itF f 1) (hf 0 (by omega)).1 (itF_lt hf 1) (Ne.symm h)
      exact Or.inr (Nat.lt_of_le_of_lt (Nat.zero_le _) this)
  | k + 1 => by
    rcases itF_pop hf k with h | h
    · left
      show f (f (itF f k)) = f (itF f k)
      rw [h]; exact h
    · by_cases g : f (itF f (k + 1)) = itF f (k + 1)
      · exact Or.inl g
      · have := popc_lt (S := itF f (k + 1)) (T := itF f (k + 2)) (hf _ (itF_lt hf (k + 1))).1 (itF_lt hf (k + 2)) (Ne.symm g)
        exact Or.inr (Nat.lt_of_le_of_lt h this)
theorem itF_fix {f : Nat → Nat} (hf : ∀ S : Nat, S < 128 → gSub S (f S) ∧ f S < 128) : f (itF f 7) = itF f 7 := by
  rcases itF_pop hf 7 with h | h
  · exact h
  · exact absurd h (Nat.not_le.mpr (Nat.lt_succ_of_le (popc_le (itF f 8) 7)))
theorem itF_from {f : Nat → Nat} {j : Nat} (h : f (itF f j) = itF f j) : ∀ d : Nat, itF f (j + d) = itF f j
  | 0 => rfl
  | d + 1 => by
    show f (itF f (j + d)) = itF f j
    rw [itF_from h d]; exact h
/-- by ties, one step more -/
def rgO (G : Gs) (h W : Nat) : Nat → Nat
  | 0 => W
  | r + 1 => if G.2.2.2 r = -1 ∧ (W ||| 2 ^ h).testBit (G.2.1 r) = true then rgO G h W r ||| 2 ^ G.2.2.1 r else rgO G h W r
theorem rgO_ok {G : Gs} {n h W : Nat} (hG : gOk G n) (hW : W < 128) : ∀ r : Nat, r ≤ G.1 → gSub W (rgO G h W r) ∧ rgO G h W r < 128
  | 0 => fun _ => ⟨gSub.rfl, hW⟩
  | r + 1 => fun hr => by
    obtain ⟨a, b⟩ := rgO_ok (h := h) hG hW r (by omega)
    have g := (hG.2.2 r (by omega)).2.1
    have g7 := hG.2.1
    unfold rgO
    split
    · exact ⟨a.trans gSub.or, or_lt7 b (by omega)⟩
    · exact ⟨a, b⟩
def rgS (G : Gs) (h W : Nat) : Nat := rgO G h W G.1
def rgB (K : Kz) (h : Nat) : Bool := (itF (rgS (kR K) h) 7).testBit h
theorem c_above {X : PX} {σ : Sg} {p h : Nat} {K : Kz} {s : Cs} {P : Int → Sg → Prop} (hp : p ∈ parL) (ok : sOk K s) (hr : RP σ p K s) (hh : h < kN K) (q : P (itF (rgS (kR K) h) 7) σ) : CI X 13 [vR (some p), vI h] σ P := by
  obtain ⟨e1, e2, e3, e4⟩ := ok.e7
  obtain ⟨r0, r1, r2, r3, r4, r5, r6⟩ := id hr
  have g10 := ok.1.1
  have r4a := r4.1
  have hf : ∀ S : Nat, S < 128 → gSub S (rgS (kR K) h S) ∧ rgS (kR K) h S < 128 := fun S hS => rgO_ok ok.1 hS _ (Nat.le_refl _)
  have p7 : 2 ^ h < 2 ^ 7 := pow_lt_n (by omega)
  have inn : ∀ (W x3 : Nat) (Q : Option PV → Sg → Prop), W < 128 → Ev X 13 4 [some (vR (some p)), some (vI h), some (vI (rgS (kR K) h W)), some (vI ((x3 : Int) + 1)), none, none] [] σ Q → ∀ (d r : Nat), r + d = (kR K).1 → Ev X 13 15 [some (vR (some p)), some (vI h), some (vI (rgO (kR K) h W r)), some (vI x3), some (vI ((W ||| 2 ^ h : Nat) : Int)), some (vI r)] [] σ Q := by
    intro W x3 Q hW k d
    induction d with
    | zero =>
      intro r hr
      refine v_13_15 hp ⟨by omega, by omega, fun _ => ?_, fun e => absurd (by omega) e⟩
      rw [show r = (kR K).1 by omega]; exact k
    | succ d ih =>
      intro r hr
      have nx := ih (r + 1) (by omega)
      rw [show rgO (kR K) h W (r + 1) = if (kR K).2.2.2 r = -1 ∧ (W ||| 2 ^ h).testBit ((kR K).2.1 r) = true then rgO (kR K) h W r ||| 2 ^ (kR K).2.2.1 r else rgO (kR K) h W r from rfl] at nx
      obtain ⟨g1, g2, g3, g4⟩ := ok.1.2.2 r (by omega)
      obtain ⟨q1, q2⟩ := r4.2 r (by omega)
      obtain ⟨q3, q4⟩ := r5 r (by omega)
      have wl : W ||| 2 ^ h < 128 := Nat.or_lt_two_pow (n := 7) hW p7
      have bb := bit_0 (a := W ||| 2 ^ h) (k := (kR K).2.1 r) (by omega) (by omega)
      have ol := (rgO_ok (h := h) ok.1 hW r (by omega)).2
      refine v_13_15 hp ?_
      rw [Int.toNat_natCast, q4, q1, q2]
      refine ⟨by omega, by omega, fun e => absurd e (by omega), fun _ => ⟨fun e => absurd e (by omega), fun _ => ⟨by omega, by omega, fun c => ?_, fun c => ⟨bit_rng (by omega) (by omega), fun c2 => ?_, fun c2 => ?_⟩⟩⟩⟩
      · rw [if_neg (fun x => c x.1)] at nx; exact nx
      · rw [if_neg (fun x => bb.mpr x.2 c2)] at nx; exact nx
      · have en : gNd (kR K) r = 2 ^ (kR K).2.2.1 r := if_pos (by omega)
        have pl : 2 ^ (kR K).2.2.1 r < 2 ^ 7 := pow_lt_n (by omega)
        rw [if_pos ⟨by omega, bb.mp c2⟩] at nx
        rw [en, ior_n (by omega) (by omega)]
        exact nx
  have lp : ∀ (d x : Nat), x + d = 7 → Ev X 13 4 [some (vR (some p)), some (vI h), some (vI (itF (rgS (kR K) h) x)), some (vI x), none, none] [] σ (fun v τ => ∃ x, v = some (vI x) ∧ P x τ) := by
    intro d
    induction d with
    | zero =>
      intro x hx
      refine v_13_4 hp ⟨by omega, fun _ => ⟨_, rfl, ?_⟩, fun e => absurd (by omega) e⟩
      rw [show x = 7 by omega]; exact q
    | succ d ih =>
      intro x hx
      have il := itF_lt hf x
      refine v_13_4 hp ⟨by omega, fun e => absurd e (by omega), fun _ => ?_⟩
      rw [b_one (by omega), ior_n (by omega) (by omega)]
      exact inn _ x _ il (ih (x + 1) (by omega)) (kR K).1 0 (by omega)
  exact v_13 hp (lp 7 0 (by omega))
theorem m_comes {X : PX} {σ : Sg} {o h : Nat} {K : Kz} {s : Cs} {P : Int → Sg → Prop} (ok : sOk K s) (hx : MX σ o K) (hh : h < kN K) (q : P (itF (rgS (kR K) h) 7) σ) : CI X 227 [vR (some 170), vI h] σ P := by
  obtain ⟨e1, e2, e3, e4⟩ := ok.e7
  have g10 := ok.1.1
  have h13 := hx.2.2.1
  have hf : ∀ S : Nat, S < 128 → gSub S (rgS (kR K) h S) ∧ rgS (kR K) h S < 128 := fun S hS => rgO_ok ok.1 hS _ (Nat.le_refl _)
  have p7 : 2 ^ h < 2 ^ 7 := pow_lt_n (by omega)
  have inn : ∀ (W : Nat) (Q : Option PV → Sg → Prop), W < 128 → Ev X 227 4 [some (vR (some 170)), some (vI h), some (vI (rgS (kR K) h W)), some (vI W), none] [] σ Q → ∀ (d r : Nat), r + d = (kR K).1 → Ev X 227 11 [some (vR (some 170)), some (vI h), some (vI (rgO (kR K) h W r)), some (vI W), some (vI r)] [] σ Q := by
    intro W Q hW k d
    induction d with
    | zero =>
      intro r hr
      refine v_227_11 ⟨by omega, by omega, fun _ => ?_, fun e => absurd (by omega) e⟩
      rw [show r = (kR K).1 by omega]; exact k
    | succ d ih =>
      intro r hr
      have nx := ih (r + 1) (by omega)
      rw [show rgO (kR K) h W (r + 1) = if (kR K).2.2.2 r = -1 ∧ (W ||| 2 ^ h).testBit ((kR K).2.1 r) = true then rgO (kR K) h W r ||| 2 ^ (kR K).2.2.1 r else rgO (kR K) h W r from rfl] at nx
      obtain ⟨g1, g2, g3, g4⟩ := ok.1.2.2 r (by omega)
      have wl : W ||| 2 ^ h < 128 := Nat.or_lt_two_pow (n := 7) hW p7
      have bb := bit_1 (a := W ||| 2 ^ h) (k := (kR K).2.1 r) (by omega) (by omega)
      have ol := (rgO_ok (h := h) ok.1 hW r (by omega)).2
      refine v_227_11 ⟨by omega, by omega, fun e => absurd e (by omega), fun _ => m_rule ok.1 hx.rm (by omega) (by omega) ?_⟩
      rw [if_neg (by omega), if_neg (by omega)]
      refine ⟨by omega, fun c => ?_, fun c => m_rule ok.1 hx.rm (by omega) (by omega) ?_⟩
      · rw [if_neg (fun x => c x.1)] at nx; exact nx
      · rw [if_pos rfl, b_one (by omega), ior_n (by omega) (by omega)]
        refine ⟨bit_rng (by omega) (by omega), fun c2 => ?_, fun c2 => m_rule ok.1 hx.rm (by omega) (by omega) ?_⟩
        · rw [if_neg (fun x => c2 (bb.mpr x.2))] at nx; exact nx
        · have pl : 2 ^ (kR K).2.2.1 r < 2 ^ 7 := pow_lt_n (by omega)
          rw [if_pos ⟨by omega, bb.mp (by omega)⟩] at nx
          rw [if_neg (by omega), if_pos rfl, b_one (by omega), ior_n (by omega) (by omega)]
          exact nx
  have lp : ∀ (d k : Nat) (w : Int), k + d = 8 → (w = -1 ∨ ∃ j : Nat, j + 1 = k ∧ w = itF (rgS (kR K) h) j) → (∀ j : Nat, j + 1 ≤ k → j + 1 < k → rgS (kR K) h (itF (rgS (kR K) h) j) ≠ itF (rgS (kR K) h) j) → (k = 0 → w = -1) → (k ≠ 0 → w ≠ -1) → Ev X 227 4 [some (vR (some 170)), some (vI h), some (vI (itF (rgS (kR K) h) k)), some (vI w), none] [] σ (fun v τ => ∃ x, v = some (vI x) ∧ P x τ) := by
    intro d
    induction d with
    | zero =>
      intro k w hk hw hn hz hnz
      have lk := itF_lt hf k
      obtain ⟨j, j1, j2⟩ := hw.resolve_left (hnz (by omega))
      have j7 : j = 7 := by omega
      have e : itF (rgS (kR K) h) k = itF (rgS (kR K) h) 7 := by rw [← j1, j7]; exact itF_fix hf
      rw [j2, e, j7]
      have l7 := itF_lt hf 7
      exact v_227_4 ⟨by omega, by omega, fun _ => ⟨_, rfl, q⟩, fun e => absurd rfl e⟩
    | succ d ih =>
      intro k w hk hw hn hz hnz
      have lk := itF_lt hf k
      have wr : InR w := by
        rcases hw with rfl | ⟨j, j1, rfl⟩
        · omega
        · have := itF_lt hf j; omega
      refine v_227_4 ⟨wr, by omega, fun c => ⟨_, rfl, ?_⟩, fun c => inn _ _ lk ?_ (kR K).1 0 (by omega)⟩
      · rcases hw with rfl | ⟨j, j1, j2⟩
        · omega
        · have fx : rgS (kR K) h (itF (rgS (kR K) h) j) = itF (rgS (kR K) h) j := by
            have : itF (rgS (kR K) h) (j + 1) = itF (rgS (kR K) h) j := by rw [j1]; omega
            exact this
          have e := itF_from fx (7 - j)
          rw [show j + (7 - j) = 7 by omega] at e
          have e2 : itF (rgS (kR K) h) k = itF (rgS (kR K) h) j := by rw [← j1]; exact fx
          rw [e2, ← e]; exact q
      · refine ih (k + 1) _ (by omega) (Or.inr ⟨k, rfl, rfl⟩) (fun j h1 h2 => ?_) (fun e => absurd e (by omega)) (fun _ => by omega)
        rcases Nat.lt_or_ge (j + 1) k with g | g
        · exact hn j (by omega) g
        · have e1 : j + 1 = k := by omega
          intro fx
          rcases hw with rfl | ⟨i, i1, i2⟩
          · exact hnz (by omega) rfl
          · apply c
            rw [i2, show i = j by omega, ← e1]
            have : itF (rgS (kR K) h) (j + 1) = itF (rgS (kR K) h) j := fx
            rw [this]
  exact v_227 (lp 8 0 (-1) (by omega) (Or.inl rfl) (fun j h1 h2 => absurd h2 (by omega)) (fun _ => rfl) (fun e => absurd rfl e))
theorem c_ringed {X : PX} {σ : Sg} {p : Nat} {K : Kz} {s : Cs} {P : Int → Sg → Prop} (hp : p ∈ parL) (ok : sOk K s) (hr : RP σ p K s) (q : P (stB (rgB K) (kN K)) σ) : CI X 12 [vR (some p)] σ P := by
  obtain ⟨e1, e2, e3, e4⟩ := ok.e7
  have r2 := hr.2.2.1
  have lp : ∀ (d h : Nat), h + d = kN K → Ev X 12 4 [some (vR (some p)), some (vI (stB (rgB K) h)), some (vI h)] [] σ (fun v τ => ∃ x, v = some (vI x) ∧ P x τ) := by
    intro d
    induction d with
    | zero =>
      intro h hh
      refine v_12_4 hp ⟨by omega, by omega, fun _ => ⟨_, rfl, ?_⟩, fun e => absurd (by omega) e⟩
      rw [show h = kN K by omega]; exact q
    | succ d ih =>
      intro h hh
      have nx := ih (h + 1) (by omega)
      rw [show stB (rgB K) (h + 1) = if rgB K h = true then stB (rgB K) h ||| 2 ^ h else stB (rgB K) h from rfl] at nx
      have hf : ∀ S : Nat, S < 128 → gSub S (rgS (kR K) h S) ∧ rgS (kR K) h S < 128 := fun S hS => rgO_ok ok.1 hS _ (Nat.le_refl _)
      have l7 := itF_lt hf 7
      have io := ior_st (b := rgB K) (k := h) (by omega)
      obtain ⟨ab1, ab2⟩ := and_bit (a := itF (rgS (kR K) h) 7) (h := h) (by omega) (by omega)
      have p7 : 2 ^ h < 2 ^ 7 := pow_lt_n (by omega)
      refine v_12_4 hp ⟨by omega, by omega, fun e => absurd e (by omega), fun _ => ⟨fun e => absurd e (by omega), fun _ => c_above hp ok hr (by omega) ?_⟩⟩
      rw [b_one (by omega)]
      have sl := stB_lt (b := rgB K) h
      by_cases c : rgB K h = true
      · rw [if_pos c] at nx
        have ea : iAnd (itF (rgS (kR K) h) 7 : Int) ((2 ^ h : Nat) : Int) = ((2 ^ h : Nat) : Int) := by
          rw [b_and (by omega) (by omega)]
          have : itF (rgS (kR K) h) 7 &&& 2 ^ h = 2 ^ h := by
            refine Nat.eq_of_testBit_eq (fun i => ?_)
            rw [Nat.testBit_and, pow_tb]
            by_cases d : h = i
            · rw [← d, show (itF (rgS (kR K) h) 7).testBit h = true from c]; rfl
            · simp [d]
          rw [this]
        rw [ea, b_or (by omega) (by omega)]
        exact nx
      · rw [if_neg c] at nx
        have ea : iAnd (itF (rgS (kR K) h) 7 : Int) ((2 ^ h : Nat) : Int) = 0 := by
          rcases Decidable.em (iAnd (itF (rgS (kR K) h) 7 : Int) ((2 ^ h : Nat) : Int) = 0) with g | g
          · exact g
          · exact absurd (ab2.mp g) c
        rw [ea, io.2]
        exact nx
  exact v_12 hp (lp (kN K) 0 (by omega))
def lnB (K : Kz) (m h : Nat) : Bool := !any (fun r => decide ((kR K).2.1 r = h)) m
theorem lnB_s (K : Kz) (m h : Nat) : lnB K (m + 1) h = (lnB K m h && decide ((kR K).2.1 m ≠ h)) := by
  unfold lnB
  rw [show any (fun r => decide ((kR K).2.1 r = h)) (m + 1) = (any (fun r => decide ((kR K).2.1 r = h)) m || decide ((kR K).2.1 m = h)) from rfl]
  simp
theorem m_houses {X : PX} {σ : Sg} {o : Nat} {K : Kz} {s : Cs} {z : Int} {P : Int → Sg → Prop} (ok : sOk K s) (hx : MX σ o K) (hz : z = 0 ∨ z = 1) (q : P (stB (if z = 0 then lnB K (kR K).1 else rgB K) (kN K)) σ) : CI X 228 [vR (some 170), vI z] σ P := by
  obtain ⟨e1, e2, e3, e4⟩ := ok.e7
  have g10 := ok.1.1
  have h13 := hx.2.2.1
  have h12 := hx.2.1
  have lp : ∀ (d h : Nat), h + d = kN K → Ev X 228 4 [some (vR (some 170)), some (vI z), some (vI (stB (if z = 0 then lnB K (kR K).1 else rgB K) h)), some (vI h), none, none] [] σ (fun v τ => ∃ x, v = some (vI x) ∧ P x τ) := by
    intro d
    induction d with
    | zero =>
      intro h hh
      refine v_228_4 ⟨by omega, by omega, fun _ => ⟨_, rfl, ?_⟩, fun e => absurd (by omega) e⟩
      rw [show h = kN K by omega]; exact q
    | succ d ih =>
      intro h hh
      have nx := ih (h + 1) (by omega)
      have io := ior_st (b := (if z = 0 then lnB K (kR K).1 else rgB K)) (k := h) (by omega)
      rw [show stB (if z = 0 then lnB K (kR K).1 else rgB K) (h + 1) = if (if z = 0 then lnB K (kR K).1 else rgB K) h = true then stB (if z = 0 then lnB K (kR K).1 else rgB K) h ||| 2 ^ h else stB (if z = 0 then lnB K (kR K).1 else rgB K) h from rfl] at nx
      have il : ∀ (d r : Nat), r + d = (kR K).1 → Ev X 228 12 [some (vR (some 170)), some (vI z), some (vI (stB (if z = 0 then lnB K (kR K).1 else rgB K) h)), some (vI h), some (vI (if lnB K r h then 1 else 0)), some (vI r)] [] σ (fun v τ => ∃ x, v = some (vI x) ∧ P x τ) := by
        intro d2
        induction d2 with
        | zero =>
          intro r hr
          have er : r = (kR K).1 := by omega
          refine v_228_12 ?_
          rw [io.1, io.2, er]
          refine ⟨by omega, by omega, fun _ => ⟨by omega, fun c => ⟨by split <;> omega, fun c2 => ?_, fun c2 => ?_⟩, fun c => m_comes ok hx (by omega) ?_⟩, fun e => absurd (by omega) e⟩
          · rw [if_neg] at nx
            · exact nx
            · rw [if_pos c]; intro e; rw [e, if_pos rfl] at c2; omega
          · rw [if_pos] at nx
            · exact nx
            · rw [if_pos c]
              rcases e : lnB K (kR K).1 h with _ | _
              · rw [e] at c2; exact absurd rfl c2
              · rfl
          · have hf : ∀ S : Nat, S < 128 → gSub S (rgS (kR K) h S) ∧ rgS (kR K) h S < 128 := fun S hS => rgO_ok ok.1 hS _ (Nat.le_refl _)
            have l7 := itF_lt hf 7
            have bb := bit_1 (a := itF (rgS (kR K) h) 7) (k := h) (by omega) (by omega)
            refine ⟨bit_rng (by omega) (by omega), fun c2 => ?_, fun c2 => ?_⟩
            · rw [if_neg] at nx
              · exact nx
              · rw [if_neg c]; intro e; exact c2 (bb.mpr e)
            · rw [if_pos] at nx
              · exact nx
              · rw [if_neg c]; exact bb.mp (by omega)
        | succ d2 ih2 =>
          intro r hr
          have n2 := ih2 (r + 1) (by omega)
          rw [lnB_s] at n2
          obtain ⟨g1, g2, g3, g4⟩ := ok.1.2.2 r (by omega)
          refine v_228_12 ⟨by omega, by omega, fun e => absurd e (by omega), fun _ => ⟨by split <;> omega, fun c => ?_, fun c => m_rule ok.1 hx.rm (by omega) (by omega) ?_⟩⟩
          · rcases e : lnB K r h with _ | _
            · rw [e] at n2; exact n2
            · rw [e] at c; simp at c
          · rw [if_pos rfl]
            rcases e : lnB K r h with _ | _
            · rw [e] at c; exact absurd rfl c
            · rw [e, Bool.true_and] at n2
              refine ⟨by omega, by omega, fun c2 => ?_, fun c2 => ?_⟩
              · rw [if_neg (show ¬ decide ((kR K).2.1 r ≠ h) = true by rw [decide_eq_true_iff]; omega)] at n2; exact n2
              · rw [if_pos (show decide ((kR K).2.1 r ≠ h) = true by rw [decide_eq_true_iff]; omega)] at n2; exact n2
      refine v_228_4 ⟨by omega, by omega, fun e => absurd e (by omega), fun _ => ?_⟩
      exact il (kR K).1 0 (by omega)
  exact v_228 (lp (kN K) 0 (by omega))
def clr (a h : Nat) : Nat := a &&& (127 ^^^ 2 ^ h)
theorem clr_eq : ∀ h : Nat, h < 7 → ∀ a : Nat, a < 128 → iAnd (a : Int) (iXor ((2 ^ h : Nat) : Int) (-1)) = (clr a h : Int) := by decide +kernel
theorem clr_le {a h : Nat} : clr a h ≤ a := Nat.and_le_left
theorem clr_tb {a h i : Nat} (ha : a < 128) : (clr a h).testBit i = (a.testBit i && decide (h ≠ i)) := by
  unfold clr
  rw [Nat.testBit_and, Nat.testBit_xor, pow_tb]
  rcases hx : a.testBit i with _ | _
  · rfl
  · have : i < 7 := tb_lt (n := 7) ha hx
    have e : (127 : Nat).testBit i = true := by
      rw [show (127 : Nat) = 2 ^ 7 - 1 from rfl, Nat.testBit_two_pow_sub_one]; simp [this]
    rw [e]; simp
def lnS (K : Kz) : Nat → Nat
  | 0 => 2 ^ kN K - 1
  | r + 1 => clr (lnS K r) ((kR K).2.1 r)
theorem lnS_lt {K : Kz} {s : Cs} (ok : sOk K s) : ∀ r : Nat, lnS K r < 128
  | 0 => by
    have := ok.e7
    have := Nat.two_pow_pos (kN K)
    unfold lnS; omega
  | r + 1 => Nat.lt_of_le_of_lt clr_le (lnS_lt ok r)
theorem lnS_tb {K : Kz} {s : Cs} (ok : sOk K s) {i : Nat} : ∀ r : Nat, (lnS K r).testBit i = (decide (i < kN K) && lnB K r i)
  | 0 => by
    unfold lnS lnB any
    rw [Nat.testBit_two_pow_sub_one]; simp
  | r + 1 => by
    unfold lnS
    rw [clr_tb (lnS_lt ok r), lnS_tb ok r, lnB_s, Bool.and_assoc]
theorem lnS_st {K : Kz} {s : Cs} (ok : sOk K s) (r : Nat) : lnS K r = stB (lnB K r) (kN K) :=
  Nat.eq_of_testBit_eq (fun i => by rw [lnS_tb ok, stB_tb])
theorem c_lone {X : PX} {σ : Sg} {p : Nat} {K : Kz} {s : Cs} {P : Int → Sg → Prop} (hp : p ∈ parL) (ok : sOk K s) (hr : RP σ p K s) (q : P (stB (lnB K (kR K).1) (kN K)) σ) : CI X 14 [vR (some p)] σ P := by
  obtain ⟨e1, e2, e3, e4⟩ := ok.e7
  obtain ⟨r0, r1, r2, r3, r4, r5, r6⟩ := id hr
  have g10 := ok.1.1
  have r4a := r4.1
  have lp : ∀ (d r : Nat), r + d = (kR K).1 → Ev X 14 5 [some (vR (some p)), some (vI (lnS K r)), some (vI r)] [] σ (fun v τ => ∃ x, v = some (vI x) ∧ P x τ) := by
    intro d
    induction d with
    | zero =>
      intro r hr
      refine v_14_5 hp ⟨by omega, by omega, fun _ => ⟨_, rfl, ?_⟩, fun e => absurd (by omega) e⟩
      rw [show r = (kR K).1 by omega, lnS_st ok]; exact q
    | succ d ih =>
      intro r hr
      obtain ⟨g1, g2, g3, g4⟩ := ok.1.2.2 r (by omega)
      obtain ⟨q1, q2⟩ := r4.2 r (by omega)
      refine v_14_5 hp ⟨by omega, by omega, fun e => absurd e (by omega), fun _ => ⟨fun e => absurd e (by omega), fun _ => ⟨by omega, ?_⟩⟩⟩
      rw [Int.toNat_natCast, q1, b_one (by omega), clr_eq _ (by omega) _ (lnS_lt ok r)]
      exact ih (r + 1) (by omega)
  exact v_14 hp (c_every hp r2 e3 (lp (kR K).1 0 (by omega)))
