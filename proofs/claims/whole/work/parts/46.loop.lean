/-! THE LAW'S LOOP: if each call of the two answers alike, the law answers 1 -/
def Same (X : PX) (Rel : Sg → Prop) (kc km : Nat) (as : List PV) : Prop := ∀ σ, Rel σ → CI X kc (vR (some 0) :: as) σ (fun r τ => CI X km (vR (some 170) :: as) τ (fun r2 υ => r2 = r ∧ InR r ∧ Rel υ))
/-- feed -/
def Sm_0 (X : PX) (Rel : Sg → Prop) : Prop := ∀ a b c d e : Int, InR a → InR b → InR c → InR d → InR e → Same X Rel 120 162 [vI a, vI b, vI c, vI d, vI e]
/-- end -/
def Sm_1 (X : PX) (Rel : Sg → Prop) : Prop := ∀ a : Int, InR a → Same X Rel 121 163 [vI a]
/-- text -/
def Sm_2 (X : PX) (Rel : Sg → Prop) : Prop := ∀ a b : Int, InR a → InR b → Same X Rel 122 187 [vI a, vI b]
/-- fault -/
def Sm_3 (X : PX) (Rel : Sg → Prop) : Prop := ∀ a : Int, InR a → Same X Rel 124 188 [vI a]
/-- parish -/
def Sm_4 (X : PX) (Rel : Sg → Prop) : Prop := ∀ a b : Int, InR a → InR b → Same X Rel 128 205 [vI a, vI b]
/-- deed -/
def Sm_5 (X : PX) (Rel : Sg → Prop) : Prop := ∀ a b c : Int, InR a → InR b → InR c → Same X Rel 130 250 [vI a, vI b, vI c]
/-- stop -/
def Sm_6 (X : PX) (Rel : Sg → Prop) : Prop := ∀ a b : Int, InR a → InR b → Same X Rel 132 260 [vI a, vI b]
/-- state -/
def Sm_7 (X : PX) (Rel : Sg → Prop) : Prop := ∀ a b c d : Int, InR a → InR b → InR c → InR d → Same X Rel 133 262 [vI a, vI b, vI c, vI d]
/-- rush -/
def Sm_8 (X : PX) (Rel : Sg → Prop) : Prop := ∀ a b c : Int, InR a → InR b → InR c → Same X Rel 136 207 [vI a, vI b, vI c]
/-- seeds -/
def Sm_9 (X : PX) (Rel : Sg → Prop) : Prop := ∀ a : Int, InR a → (∀ z : Int, z = 0 ∨ z = 1 → Same X Rel 139 208 [vI a, vI z])
/-- cuts -/
def Sm_10 (X : PX) (Rel : Sg → Prop) : Prop := ∀ a b : Int, InR a → InR b → (∀ z : Int, z = 0 ∨ z = 1 → Same X Rel 140 210 [vI a, vI b, vI z])
/-- ruin -/
def Sm_11 (X : PX) (Rel : Sg → Prop) : Prop := ∀ a : Int, InR a → (∀ z : Int, z = 0 ∨ z = 1 → Same X Rel 150 211 [vI a, vI z])
/-- bid -/
def Sm_12 (X : PX) (Rel : Sg → Prop) : Prop := ∀ a b : Int, InR a → InR b → Same X Rel 151 212 [vI a, vI b]
/-- burden -/
def Sm_13 (X : PX) (Rel : Sg → Prop) : Prop := ∀ a b : Int, InR a → InR b → Same X Rel 146 215 [vI a, vI b]
/-- falls -/
def Sm_14 (X : PX) (Rel : Sg → Prop) : Prop := ∀ a b c : Int, InR a → InR b → InR c → Same X Rel 147 217 [vI a, vI b, vI c]
/-- strife -/
def Sm_15 (X : PX) (Rel : Sg → Prop) : Prop := ∀ a b c d : Int, InR a → InR b → InR c → InR d → (∀ z : Int, z = 0 ∨ z = 1 → Same X Rel 138 219 [vI a, vI b, vI c, vI d, vI z])
/-- lot -/
def Sm_16 (X : PX) (Rel : Sg → Prop) : Prop := ∀ a b c : Int, InR a → InR b → InR c → (∀ z : Int, z = 0 ∨ z = 1 → Same X Rel 141 220 [vI a, vI b, vI c, vI z])
/-- spared -/
def Sm_17 (X : PX) (Rel : Sg → Prop) : Prop := ∀ a b : Int, InR a → InR b → (∀ z : Int, z = 0 ∨ z = 1 → Same X Rel 142 221 [vI a, vI b, vI z])
/-- fact -/
def Sm_18 (X : PX) (Rel : Sg → Prop) : Prop := ∀ a b c : Int, InR a → InR b → InR c → Same X Rel 131 266 [vI a, vI b, vI c]
/-- fits -/
def Sm_19 (X : PX) (Rel : Sg → Prop) : Prop := ∀ a b c : Int, InR a → InR b → InR c → Same X Rel 155 272 [vI a, vI b, vI c]
/-- drawn -/
def Sm_20 (X : PX) (Rel : Sg → Prop) : Prop := ∀ a b c d : Int, InR a → InR b → InR c → InR d → Same X Rel 135 279 [vI a, vI b, vI c, vI d]
/-- retinue -/
def Sm_21 (X : PX) (Rel : Sg → Prop) : Prop := ∀ a b : Int, InR a → InR b → Same X Rel 143 222 [vI a, vI b]
/-- chief -/
def Sm_22 (X : PX) (Rel : Sg → Prop) : Prop := ∀ a b : Int, InR a → InR b → Same X Rel 144 231 [vI a, vI b]
/-- rank -/
def Sm_23 (X : PX) (Rel : Sg → Prop) : Prop := ∀ a b : Int, InR a → InR b → Same X Rel 145 232 [vI a, vI b]
/-- harm -/
def Sm_24 (X : PX) (Rel : Sg → Prop) : Prop := ∀ a b c : Int, InR a → InR b → InR c → Same X Rel 148 234 [vI a, vI b, vI c]
/-- foe -/
def Sm_25 (X : PX) (Rel : Sg → Prop) : Prop := ∀ a b c : Int, InR a → InR b → InR c → Same X Rel 149 235 [vI a, vI b, vI c]
/-- sale -/
def Sm_26 (X : PX) (Rel : Sg → Prop) : Prop := ∀ a b c : Int, InR a → InR b → InR c → Same X Rel 137 237 [vI a, vI b, vI c]
/-- top -/
def Sm_27 (X : PX) (Rel : Sg → Prop) : Prop := ∀ a b : Int, InR a → InR b → Same X Rel 152 239 [vI a, vI b]
/-- behind -/
def Sm_28 (X : PX) (Rel : Sg → Prop) : Prop := ∀ a b c : Int, InR a → InR b → InR c → Same X Rel 153 243 [vI a, vI b, vI c]
/-- passed -/
def Sm_29 (X : PX) (Rel : Sg → Prop) : Prop := ∀ a b : Int, InR a → InR b → Same X Rel 154 248 [vI a, vI b]
/-- after -/
def Sm_30 (X : PX) (Rel : Sg → Prop) : Prop := ∀ a b c : Int, InR a → InR b → InR c → Same X Rel 134 264 [vI a, vI b, vI c]
/-- odds -/
def Sm_31 (X : PX) (Rel : Sg → Prop) : Prop := ∀ a b c : Int, InR a → InR b → InR c → (∀ z : Int, z = 0 ∨ z = 1 → Same X Rel 156 273 [vI a, vI b, vI c, vI z])
/-- fewest -/
def Sm_32 (X : PX) (Rel : Sg → Prop) : Prop := ∀ a b c : Int, InR a → InR b → InR c → Same X Rel 157 276 [vI a, vI b, vI c]
/-- count -/
def Sm_33 (X : PX) (Rel : Sg → Prop) : Prop := ∀ a : Int, InR a → Same X Rel 125 280 [vI a]
/-- image -/
def Sm_34 (X : PX) (Rel : Sg → Prop) : Prop := ∀ a : Int, InR a → Same X Rel 126 281 [vI a]
/-- again -/
def Sm_35 (X : PX) (Rel : Sg → Prop) : Prop := ∀ a : Int, InR a → Same X Rel 127 282 [vI a]
def AllSame (X : PX) (Rel : Sg → Prop) : Prop := Sm_0 X Rel ∧ Sm_1 X Rel ∧ Sm_2 X Rel ∧ Sm_3 X Rel ∧ Sm_4 X Rel ∧ Sm_5 X Rel ∧ Sm_6 X Rel ∧ Sm_7 X Rel ∧ Sm_8 X Rel ∧ Sm_9 X Rel ∧ Sm_10 X Rel ∧ Sm_11 X Rel ∧ Sm_12 X Rel ∧ Sm_13 X Rel ∧ Sm_14 X Rel ∧ Sm_15 X Rel ∧ Sm_16 X Rel ∧ Sm_17 X Rel ∧ Sm_18 X Rel ∧ Sm_19 X Rel ∧ Sm_20 X Rel ∧ Sm_21 X Rel ∧ Sm_22 X Rel ∧ Sm_23 X Rel ∧ Sm_24 X Rel ∧ Sm_25 X Rel ∧ Sm_26 X Rel ∧ Sm_27 X Rel ∧ Sm_28 X Rel ∧ Sm_29 X Rel ∧ Sm_30 X Rel ∧ Sm_31 X Rel ∧ Sm_32 X Rel ∧ Sm_33 X Rel ∧ Sm_34 X Rel ∧ Sm_35 X Rel
theorem inr_toInt (x : Int32) : InR x.toInt := ⟨Int32.le_toInt x, Int32.toInt_lt x⟩
theorem inr_and (a b : Int) : InR (iAnd a b) := inr_toInt _
theorem same_on {X : PX} {Rel : Sg → Prop} {kc km : Nat} {as : List PV} (h : Same X Rel kc km as) {σ : Sg} (hR : Rel σ) {P : Int → Sg → Prop} (hP : ∀ r τ, CI X km (vR (some 170) :: as) τ (fun r2 υ => r2 = r ∧ InR r ∧ Rel υ) → P r τ) : CI X kc (vR (some 0) :: as) σ P := CI.mono (h σ hR) hP
theorem same_two {X : PX} {Rel : Sg → Prop} {km : Nat} {as : List PV} {r : Int} {τ : Sg} {Q : Option PV → Sg → Prop} {G : Sg → Prop} (hG : ∀ υ, Rel υ → G υ) (h : CI X km (vR (some 170) :: as) τ (fun r2 υ => r2 = r ∧ InR r ∧ Rel υ)) : CI X km (vR (some 170) :: as) τ (fun r2 υ => InR r ∧ InR r2 ∧ (r = r2 → G υ) ∧ (¬ r = r2 → Q (some (vI 0)) υ)) := CI.mono h (fun r2 υ q => by
  obtain ⟨rfl, h1, h2⟩ := q
  exact ⟨h1, h1, fun _ => hG υ h2, fun n => absurd rfl n⟩)
abbrev LL (x : Int) : PL := [some (vR (some (PK + 14))), some (vR (some 0)), some (vR (some 170)), some (vI x)]
set_option maxHeartbeats 8000000 in
theorem law_loop {X : PX} {Rel : Sg → Prop} (hS : AllSame X Rel) (hL : (X 14).1 ≤ 3072) (hX : ∀ i, InR ((X 14).2 i)) : ∀ (n : Nat) (x3 : Int) (σ : Sg), Rel σ → 0 ≤ x3 → x3 ≤ 4000 → ((X 14).1 : Int) - x3 < n → Ev X 284 10 (LL x3) [] σ (fun v _ => v = some (vI 1)) := by
  intro n
  induction n with
  | zero =>
    intro x3 σ hR h0 h1 h2
    apply v_284_10
    exact ⟨by omega, by omega, fun _ => rfl, fun q => absurd (show ((X 14).1 : Int) - 6 < x3 by omega) q⟩
  | succ n ih =>
    intro x3 σ hR h0 h1 h2
    apply v_284_10
    refine ⟨by omega, by omega, fun _ => rfl, fun q => ⟨by omega, inr_and _ _, ?_, ?_, ?_, ?_, ?_, ?_, ?_, ?_, ?_, ?_, ?_, ?_, ?_, ?_, ?_, ?_, ?_, ?_, ?_, ?_, ?_, ?_, ?_, ?_, ?_, ?_, ?_, ?_, ?_, ?_, ?_, ?_, ?_, ?_, ?_, ?_, ?_⟩⟩
    · intro _
      apply v_284_22
      exact ⟨by omega, by omega, by omega, by omega, by omega, same_on (hS.1 _ _ _ _ _ (hX _) (hX _) (hX _) (hX _) (hX _)) hR (fun r τ h => same_two (Q := fun v _ => v = some (vI 1)) (G := fun υ => Ev X 284 1270 (LL x3) [] υ (fun v _ => v = some (vI 1))) (fun υ hu => v_284_1270 (ih (x3 + 6) υ hu (by omega) (by omega) (by omega))) h)⟩
    · intro _
      apply v_284_79
      exact ⟨by omega, same_on (hS.2.1 _ (hX _)) hR (fun r τ h => same_two (Q := fun v _ => v = some (vI 1)) (G := fun υ => Ev X 284 1270 (LL x3) [] υ (fun v _ => v = some (vI 1))) (fun υ hu => v_284_1270 (ih (x3 + 6) υ hu (by omega) (by omega) (by omega))) h)⟩
    · intro _
      apply v_284_96
      exact ⟨by omega, by omega, same_on (hS.2.2.1 _ _ (hX _) (hX _)) hR (fun r τ h => same_two (Q := fun v _ => v = some (vI 1)) (G := fun υ => Ev X 284 1270 (LL x3) [] υ (fun v _ => v = some (vI 1))) (fun υ hu => v_284_1270 (ih (x3 + 6) υ hu (by omega) (by omega) (by omega))) h)⟩
    · intro _
      apply v_284_123
      exact ⟨by omega, same_on (hS.2.2.2.1 _ (hX _)) hR (fun r τ h => same_two (Q := fun v _ => v = some (vI 1)) (G := fun υ => Ev X 284 1270 (LL x3) [] υ (fun v _ => v = some (vI 1))) (fun υ hu => v_284_1270 (ih (x3 + 6) υ hu (by omega) (by omega) (by omega))) h)⟩
    · intro _
      apply v_284_140
      exact ⟨by omega, by omega, same_on (hS.2.2.2.2.1 _ _ (hX _) (hX _)) hR (fun r τ h => same_two (Q := fun v _ => v = some (vI 1)) (G := fun υ => Ev X 284 1270 (LL x3) [] υ (fun v _ => v = some (vI 1))) (fun υ hu => v_284_1270 (ih (x3 + 6) υ hu (by omega) (by omega) (by omega))) h)⟩
    · intro _
      apply v_284_167
      exact ⟨by omega, by omega, by omega, same_on (hS.2.2.2.2.2.1 _ _ _ (hX _) (hX _) (hX _)) hR (fun r τ h => same_two (Q := fun v _ => v = some (vI 1)) (G := fun υ => Ev X 284 1270 (LL x3) [] υ (fun v _ => v = some (vI 1))) (fun υ hu => v_284_1270 (ih (x3 + 6) υ hu (by omega) (by omega) (by omega))) h)⟩
    · intro _
      apply v_284_204
      exact ⟨by omega, by omega, same_on (hS.2.2.2.2.2.2.1 _ _ (hX _) (hX _)) hR (fun r τ h => same_two (Q := fun v _ => v = some (vI 1)) (G := fun υ => Ev X 284 1270 (LL x3) [] υ (fun v _ => v = some (vI 1))) (fun υ hu => v_284_1270 (ih (x3 + 6) υ hu (by omega) (by omega) (by omega))) h)⟩
    · intro _
      apply v_284_231
      exact ⟨by omega, by omega, by omega, by omega, same_on (hS.2.2.2.2.2.2.2.1 _ _ _ _ (hX _) (hX _) (hX _) (hX _)) hR (fun r τ h => same_two (Q := fun v _ => v = some (vI 1)) (G := fun υ => Ev X 284 1270 (LL x3) [] υ (fun v _ => v = some (vI 1))) (fun υ hu => v_284_1270 (ih (x3 + 6) υ hu (by omega) (by omega) (by omega))) h)⟩
    · intro _
      apply v_284_278
      exact ⟨by omega, by omega, by omega, same_on (hS.2.2.2.2.2.2.2.2.1 _ _ _ (hX _) (hX _) (hX _)) hR (fun r τ h => same_two (Q := fun v _ => v = some (vI 1)) (G := fun υ => Ev X 284 1270 (LL x3) [] υ (fun v _ => v = some (vI 1))) (fun υ hu => v_284_1270 (ih (x3 + 6) υ hu (by omega) (by omega) (by omega))) h)⟩
    · intro _
      apply v_284_315
      refine ⟨by omega, by omega, hX _, fun hz => same_on (hS.2.2.2.2.2.2.2.2.2.1 _ (hX _) 0 (Or.inl rfl)) hR (fun r τ h => ⟨fun _ => same_two (Q := fun v _ => v = some (vI 1)) (G := fun υ => Ev X 284 1270 (LL x3) [] υ (fun v _ => v = some (vI 1))) (fun υ hu => v_284_1270 (ih (x3 + 6) υ hu (by omega) (by omega) (by omega))) h, fun n => absurd hz n⟩), fun hz => same_on (hS.2.2.2.2.2.2.2.2.2.1 _ (hX _) 1 (Or.inr rfl)) hR (fun r τ h => ⟨fun n => absurd n hz, fun _ => same_two (Q := fun v _ => v = some (vI 1)) (G := fun υ => Ev X 284 1270 (LL x3) [] υ (fun v _ => v = some (vI 1))) (fun υ hu => v_284_1270 (ih (x3 + 6) υ hu (by omega) (by omega) (by omega))) h⟩)⟩
    · intro _
      apply v_284_350
      refine ⟨by omega, by omega, by omega, hX _, fun hz => same_on (hS.2.2.2.2.2.2.2.2.2.2.1 _ _ (hX _) (hX _) 0 (Or.inl rfl)) hR (fun r τ h => ⟨fun _ => same_two (Q := fun v _ => v = some (vI 1)) (G := fun υ => Ev X 284 1270 (LL x3) [] υ (fun v _ => v = some (vI 1))) (fun υ hu => v_284_1270 (ih (x3 + 6) υ hu (by omega) (by omega) (by omega))) h, fun n => absurd hz n⟩), fun hz => same_on (hS.2.2.2.2.2.2.2.2.2.2.1 _ _ (hX _) (hX _) 1 (Or.inr rfl)) hR (fun r τ h => ⟨fun n => absurd n hz, fun _ => same_two (Q := fun v _ => v = some (vI 1)) (G := fun υ => Ev X 284 1270 (LL x3) [] υ (fun v _ => v = some (vI 1))) (fun υ hu => v_284_1270 (ih (x3 + 6) υ hu (by omega) (by omega) (by omega))) h⟩)⟩
    · intro _
      apply v_284_395
      refine ⟨by omega, by omega, hX _, fun hz => same_on (hS.2.2.2.2.2.2.2.2.2.2.2.1 _ (hX _) 0 (Or.inl rfl)) hR (fun r τ h => ⟨fun _ => same_two (Q := fun v _ => v = some (vI 1)) (G := fun υ => Ev X 284 1270 (LL x3) [] υ (fun v _ => v = some (vI 1))) (fun υ hu => v_284_1270 (ih (x3 + 6) υ hu (by omega) (by omega) (by omega))) h, fun n => absurd hz n⟩), fun hz => same_on (hS.2.2.2.2.2.2.2.2.2.2.2.1 _ (hX _) 1 (Or.inr rfl)) hR (fun r τ h => ⟨fun n => absurd n hz, fun _ => same_two (Q := fun v _ => v = some (vI 1)) (G := fun υ => Ev X 284 1270 (LL x3) [] υ (fun v _ => v = some (vI 1))) (fun υ hu => v_284_1270 (ih (x3 + 6) υ hu (by omega) (by omega) (by omega))) h⟩)⟩
    · intro _
      apply v_284_430
      exact ⟨by omega, by omega, same_on (hS.2.2.2.2.2.2.2.2.2.2.2.2.1 _ _ (hX _) (hX _)) hR (fun r τ h => same_two (Q := fun v _ => v = some (vI 1)) (G := fun υ => Ev X 284 1270 (LL x3) [] υ (fun v _ => v = some (vI 1))) (fun υ hu => v_284_1270 (ih (x3 + 6) υ hu (by omega) (by omega) (by omega))) h)⟩
    · intro _
      apply v_284_457
      exact ⟨by omega, by omega, same_on (hS.2.2.2.2.2.2.2.2.2.2.2.2.2.1 _ _ (hX _) (hX _)) hR (fun r τ h => same_two (Q := fun v _ => v = some (vI 1)) (G := fun υ => Ev X 284 1270 (LL x3) [] υ (fun v _ => v = some (vI 1))) (fun υ hu => v_284_1270 (ih (x3 + 6) υ hu (by omega) (by omega) (by omega))) h)⟩
    · intro _
      apply v_284_484
      exact ⟨by omega, by omega, by omega, same_on (hS.2.2.2.2.2.2.2.2.2.2.2.2.2.2.1 _ _ _ (hX _) (hX _) (hX _)) hR (fun r τ h => same_two (Q := fun v _ => v = some (vI 1)) (G := fun υ => Ev X 284 1270 (LL x3) [] υ (fun v _ => v = some (vI 1))) (fun υ hu => v_284_1270 (ih (x3 + 6) υ hu (by omega) (by omega) (by omega))) h)⟩
    · intro _
      apply v_284_521
      refine ⟨by omega, by omega, by omega, by omega, by omega, hX _, fun hz => same_on (hS.2.2.2.2.2.2.2.2.2.2.2.2.2.2.2.1 _ _ _ _ (hX _) (hX _) (hX _) (hX _) 0 (Or.inl rfl)) hR (fun r τ h => ⟨fun _ => same_two (Q := fun v _ => v = some (vI 1)) (G := fun υ => Ev X 284 1270 (LL x3) [] υ (fun v _ => v = some (vI 1))) (fun υ hu => v_284_1270 (ih (x3 + 6) υ hu (by omega) (by omega) (by omega))) h, fun n => absurd hz n⟩), fun hz => same_on (hS.2.2.2.2.2.2.2.2.2.2.2.2.2.2.2.1 _ _ _ _ (hX _) (hX _) (hX _) (hX _) 1 (Or.inr rfl)) hR (fun r τ h => ⟨fun n => absurd n hz, fun _ => same_two (Q := fun v _ => v = some (vI 1)) (G := fun υ => Ev X 284 1270 (LL x3) [] υ (fun v _ => v = some (vI 1))) (fun υ hu => v_284_1270 (ih (x3 + 6) υ hu (by omega) (by omega) (by omega))) h⟩)⟩
    · intro _
      apply v_284_586
      refine ⟨by omega, by omega, by omega, by omega, hX _, fun hz => same_on (hS.2.2.2.2.2.2.2.2.2.2.2.2.2.2.2.2.1 _ _ _ (hX _) (hX _) (hX _) 0 (Or.inl rfl)) hR (fun r τ h => ⟨fun _ => same_two (Q := fun v _ => v = some (vI 1)) (G := fun υ => Ev X 284 1270 (LL x3) [] υ (fun v _ => v = some (vI 1))) (fun υ hu => v_284_1270 (ih (x3 + 6) υ hu (by omega) (by omega) (by omega))) h, fun n => absurd hz n⟩), fun hz => same_on (hS.2.2.2.2.2.2.2.2.2.2.2.2.2.2.2.2.1 _ _ _ (hX _) (hX _) (hX _) 1 (Or.inr rfl)) hR (fun r τ h => ⟨fun n => absurd n hz, fun _ => same_two (Q := fun v _ => v = some (vI 1)) (G := fun υ => Ev X 284 1270 (LL x3) [] υ (fun v _ => v = some (vI 1))) (fun υ hu => v_284_1270 (ih (x3 + 6) υ hu (by omega) (by omega) (by omega))) h⟩)⟩
    · intro _
      apply v_284_641
      refine ⟨by omega, by omega, by omega, hX _, fun hz => same_on (hS.2.2.2.2.2.2.2.2.2.2.2.2.2.2.2.2.2.1 _ _ (hX _) (hX _) 0 (Or.inl rfl)) hR (fun r τ h => ⟨fun _ => same_two (Q := fun v _ => v = some (vI 1)) (G := fun υ => Ev X 284 1270 (LL x3) [] υ (fun v _ => v = some (vI 1))) (fun υ hu => v_284_1270 (ih (x3 + 6) υ hu (by omega) (by omega) (by omega))) h, fun n => absurd hz n⟩), fun hz => same_on (hS.2.2.2.2.2.2.2.2.2.2.2.2.2.2.2.2.2.1 _ _ (hX _) (hX _) 1 (Or.inr rfl)) hR (fun r τ h => ⟨fun n => absurd n hz, fun _ => same_two (Q := fun v _ => v = some (vI 1)) (G := fun υ => Ev X 284 1270 (LL x3) [] υ (fun v _ => v = some (vI 1))) (fun υ hu => v_284_1270 (ih (x3 + 6) υ hu (by omega) (by omega) (by omega))) h⟩)⟩
    · intro _
      apply v_284_686
      exact ⟨by omega, by omega, by omega, same_on (hS.2.2.2.2.2.2.2.2.2.2.2.2.2.2.2.2.2.2.1 _ _ _ (hX _) (hX _) (hX _)) hR (fun r τ h => same_two (Q := fun v _ => v = some (vI 1)) (G := fun υ => Ev X 284 1270 (LL x3) [] υ (fun v _ => v = some (vI 1))) (fun υ hu => v_284_1270 (ih (x3 + 6) υ hu (by omega) (by omega) (by omega))) h)⟩
    · intro _
      apply v_284_723
      exact ⟨by omega, by omega, by omega, same_on (hS.2.2.2.2.2.2.2.2.2.2.2.2.2.2.2.2.2.2.2.1 _ _ _ (hX _) (hX _) (hX _)) hR (fun r τ h => same_two (Q := fun v _ => v = some (vI 1)) (G := fun υ => Ev X 284 1270 (LL x3) [] υ (fun v _ => v = some (vI 1))) (fun υ hu => v_284_1270 (ih (x3 + 6) υ hu (by omega) (by omega) (by omega))) h)⟩
    · intro _
      apply v_284_760
      exact ⟨by omega, by omega, by omega, by omega, same_on (hS.2.2.2.2.2.2.2.2.2.2.2.2.2.2.2.2.2.2.2.2.1 _ _ _ _ (hX _) (hX _) (hX _) (hX _)) hR (fun r τ h => same_two (Q := fun v _ => v = some (vI 1)) (G := fun υ => Ev X 284 1270 (LL x3) [] υ (fun v _ => v = some (vI 1))) (fun υ hu => v_284_1270 (ih (x3 + 6) υ hu (by omega) (by omega) (by omega))) h)⟩
    · intro _
      apply v_284_807
      exact ⟨by omega, by omega, same_on (hS.2.2.2.2.2.2.2.2.2.2.2.2.2.2.2.2.2.2.2.2.2.1 _ _ (hX _) (hX _)) hR (fun r τ h => same_two (Q := fun v _ => v = some (vI 1)) (G := fun υ => Ev X 284 1270 (LL x3) [] υ (fun v _ => v = some (vI 1))) (fun υ hu => v_284_1270 (ih (x3 + 6) υ hu (by omega) (by omega) (by omega))) h)⟩
    · intro _
      apply v_284_834
      exact ⟨by omega, by omega, same_on (hS.2.2.2.2.2.2.2.2.2.2.2.2.2.2.2.2.2.2.2.2.2.2.1 _ _ (hX _) (hX _)) hR (fun r τ h => same_two (Q := fun v _ => v = some (vI 1)) (G := fun υ => Ev X 284 1270 (LL x3) [] υ (fun v _ => v = some (vI 1))) (fun υ hu => v_284_1270 (ih (x3 + 6) υ hu (by omega) (by omega) (by omega))) h)⟩
    · intro _
      apply v_284_861
      exact ⟨by omega, by omega, same_on (hS.2.2.2.2.2.2.2.2.2.2.2.2.2.2.2.2.2.2.2.2.2.2.2.1 _ _ (hX _) (hX _)) hR (fun r τ h => same_two (Q := fun v _ => v = some (vI 1)) (G := fun υ => Ev X 284 1270 (LL x3) [] υ (fun v _ => v = some (vI 1))) (fun υ hu => v_284_1270 (ih (x3 + 6) υ hu (by omega) (by omega) (by omega))) h)⟩
    · intro _
      apply v_284_888
      exact ⟨by omega, by omega, by omega, same_on (hS.2.2.2.2.2.2.2.2.2.2.2.2.2.2.2.2.2.2.2.2.2.2.2.2.1 _ _ _ (hX _) (hX _) (hX _)) hR (fun r τ h => same_two (Q := fun v _ => v = some (vI 1)) (G := fun υ => Ev X 284 1270 (LL x3) [] υ (fun v _ => v = some (vI 1))) (fun υ hu => v_284_1270 (ih (x3 + 6) υ hu (by omega) (by omega) (by omega))) h)⟩
    · intro _
      apply v_284_925
      exact ⟨by omega, by omega, by omega, same_on (hS.2.2.2.2.2.2.2.2.2.2.2.2.2.2.2.2.2.2.2.2.2.2.2.2.2.1 _ _ _ (hX _) (hX _) (hX _)) hR (fun r τ h => same_two (Q := fun v _ => v = some (vI 1)) (G := fun υ => Ev X 284 1270 (LL x3) [] υ (fun v _ => v = some (vI 1))) (fun υ hu => v_284_1270 (ih (x3 + 6) υ hu (by omega) (by omega) (by omega))) h)⟩
    · intro _
      apply v_284_962
      exact ⟨by omega, by omega, by omega, same_on (hS.2.2.2.2.2.2.2.2.2.2.2.2.2.2.2.2.2.2.2.2.2.2.2.2.2.2.1 _ _ _ (hX _) (hX _) (hX _)) hR (fun r τ h => same_two (Q := fun v _ => v = some (vI 1)) (G := fun υ => Ev X 284 1270 (LL x3) [] υ (fun v _ => v = some (vI 1))) (fun υ hu => v_284_1270 (ih (x3 + 6) υ hu (by omega) (by omega) (by omega))) h)⟩
    · intro _
      apply v_284_999
      exact ⟨by omega, by omega, same_on (hS.2.2.2.2.2.2.2.2.2.2.2.2.2.2.2.2.2.2.2.2.2.2.2.2.2.2.2.1 _ _ (hX _) (hX _)) hR (fun r τ h => same_two (Q := fun v _ => v = some (vI 1)) (G := fun υ => Ev X 284 1270 (LL x3) [] υ (fun v _ => v = some (vI 1))) (fun υ hu => v_284_1270 (ih (x3 + 6) υ hu (by omega) (by omega) (by omega))) h)⟩
    · intro _
      apply v_284_1026
      exact ⟨by omega, by omega, by omega, same_on (hS.2.2.2.2.2.2.2.2.2.2.2.2.2.2.2.2.2.2.2.2.2.2.2.2.2.2.2.2.1 _ _ _ (hX _) (hX _) (hX _)) hR (fun r τ h => same_two (Q := fun v _ => v = some (vI 1)) (G := fun υ => Ev X 284 1270 (LL x3) [] υ (fun v _ => v = some (vI 1))) (fun υ hu => v_284_1270 (ih (x3 + 6) υ hu (by omega) (by omega) (by omega))) h)⟩
    · intro _
      apply v_284_1063
      exact ⟨by omega, by omega, same_on (hS.2.2.2.2.2.2.2.2.2.2.2.2.2.2.2.2.2.2.2.2.2.2.2.2.2.2.2.2.2.1 _ _ (hX _) (hX _)) hR (fun r τ h => same_two (Q := fun v _ => v = some (vI 1)) (G := fun υ => Ev X 284 1270 (LL x3) [] υ (fun v _ => v = some (vI 1))) (fun υ hu => v_284_1270 (ih (x3 + 6) υ hu (by omega) (by omega) (by omega))) h)⟩
    · intro _
      apply v_284_1090
      exact ⟨by omega, by omega, by omega, same_on (hS.2.2.2.2.2.2.2.2.2.2.2.2.2.2.2.2.2.2.2.2.2.2.2.2.2.2.2.2.2.2.1 _ _ _ (hX _) (hX _) (hX _)) hR (fun r τ h => same_two (Q := fun v _ => v = some (vI 1)) (G := fun υ => Ev X 284 1270 (LL x3) [] υ (fun v _ => v = some (vI 1))) (fun υ hu => v_284_1270 (ih (x3 + 6) υ hu (by omega) (by omega) (by omega))) h)⟩
    · intro _
      apply v_284_1127
      refine ⟨by omega, by omega, by omega, by omega, hX _, fun hz => same_on (hS.2.2.2.2.2.2.2.2.2.2.2.2.2.2.2.2.2.2.2.2.2.2.2.2.2.2.2.2.2.2.2.1 _ _ _ (hX _) (hX _) (hX _) 0 (Or.inl rfl)) hR (fun r τ h => ⟨fun _ => same_two (Q := fun v _ => v = some (vI 1)) (G := fun υ => Ev X 284 1270 (LL x3) [] υ (fun v _ => v = some (vI 1))) (fun υ hu => v_284_1270 (ih (x3 + 6) υ hu (by omega) (by omega) (by omega))) h, fun n => absurd hz n⟩), fun hz => same_on (hS.2.2.2.2.2.2.2.2.2.2.2.2.2.2.2.2.2.2.2.2.2.2.2.2.2.2.2.2.2.2.2.1 _ _ _ (hX _) (hX _) (hX _) 1 (Or.inr rfl)) hR (fun r τ h => ⟨fun n => absurd n hz, fun _ => same_two (Q := fun v _ => v = some (vI 1)) (G := fun υ => Ev X 284 1270 (LL x3) [] υ (fun v _ => v = some (vI 1))) (fun υ hu => v_284_1270 (ih (x3 + 6) υ hu (by omega) (by omega) (by omega))) h⟩)⟩
    · intro _
      apply v_284_1182
      exact ⟨by omega, by omega, by omega, same_on (hS.2.2.2.2.2.2.2.2.2.2.2.2.2.2.2.2.2.2.2.2.2.2.2.2.2.2.2.2.2.2.2.2.1 _ _ _ (hX _) (hX _) (hX _)) hR (fun r τ h => same_two (Q := fun v _ => v = some (vI 1)) (G := fun υ => Ev X 284 1270 (LL x3) [] υ (fun v _ => v = some (vI 1))) (fun υ hu => v_284_1270 (ih (x3 + 6) υ hu (by omega) (by omega) (by omega))) h)⟩
    · intro _
      apply v_284_1219
      exact ⟨by omega, same_on (hS.2.2.2.2.2.2.2.2.2.2.2.2.2.2.2.2.2.2.2.2.2.2.2.2.2.2.2.2.2.2.2.2.2.1 _ (hX _)) hR (fun r τ h => same_two (Q := fun v _ => v = some (vI 1)) (G := fun υ => Ev X 284 1270 (LL x3) [] υ (fun v _ => v = some (vI 1))) (fun υ hu => v_284_1270 (ih (x3 + 6) υ hu (by omega) (by omega) (by omega))) h)⟩
    · intro _
      apply v_284_1236
      exact ⟨by omega, same_on (hS.2.2.2.2.2.2.2.2.2.2.2.2.2.2.2.2.2.2.2.2.2.2.2.2.2.2.2.2.2.2.2.2.2.2.1 _ (hX _)) hR (fun r τ h => same_two (Q := fun v _ => v = some (vI 1)) (G := fun υ => Ev X 284 1270 (LL x3) [] υ (fun v _ => v = some (vI 1))) (fun υ hu => v_284_1270 (ih (x3 + 6) υ hu (by omega) (by omega) (by omega))) h)⟩
    · intro _
      apply v_284_1253
      exact ⟨by omega, same_on (hS.2.2.2.2.2.2.2.2.2.2.2.2.2.2.2.2.2.2.2.2.2.2.2.2.2.2.2.2.2.2.2.2.2.2.2 _ (hX _)) hR (fun r τ h => same_two (Q := fun v _ => v = some (vI 1)) (G := fun υ => Ev X 284 1270 (LL x3) [] υ (fun v _ => v = some (vI 1))) (fun υ hu => v_284_1270 (ih (x3 + 6) υ hu (by omega) (by omega) (by omega))) h)⟩
    · intro _
      exact v_284_1270 (ih (x3 + 6) σ hR (by omega) (by omega) (by omega))
/-- what is left: a relation that holds at first, and that each call keeps, answering alike -/
theorem law_runs (Rel : Sg → Prop) (h0 : Rel σ0) (hS : ∀ (L : Nat) (xs : Nat → Int32), AllSame (XX L xs) Rel) : LawRuns := by
  intro L xs hL
  have h1 : ((XX L xs) 14).1 = L := rfl
  have h2 : ∀ i, InR (((XX L xs) 14).2 i) := fun i => inr_toInt (xs i)
  obtain ⟨n, v, τ, hr, rfl⟩ := law_loop (hS L xs) (by rw [h1]; exact hL) h2 (L + 1) 0 σ0 h0 (by omega) (by omega) (by rw [h1]; omega)
  obtain ⟨m, hm⟩ := law_in ⟨n, hr⟩
  exact ⟨m, hp τ, hm⟩
