/-! READ: which line a word begins -/
theorem wmt_inj {B : Nat → Int} {s : Nat} : ∀ (r r' : List Int) (L : Nat), wmt B s r L = true → wmt B s r' L = true → r = r'
  | [], [], _, _, _ => rfl
  | [], _ :: _, L, h, h' => by
    unfold wmt at h
    rw [of_decide_eq_true h] at h'
    exact absurd h' (by unfold wmt; decide)
  | _ :: _, [], L, h, h' => by
    unfold wmt at h'
    rw [of_decide_eq_true h'] at h
    exact absurd h (by unfold wmt; decide)
  | _ :: _, _ :: _, 0, h, _ => absurd h (by unfold wmt; decide)
  | d :: r, d' :: r', L + 1, h, h' => by
    unfold wmt at h h'
    simp only [Bool.and_eq_true, decide_eq_true_eq] at h h'
    rw [wmt_inj r r' L h.2 h'.2, show d = d' by omega]
theorem wf1 {B : Nat → Int} {s L : Nat} (e : wmt B s w1 L = true) : wid B s L = 1 := by
  unfold wid
  rw [if_pos e]
theorem wf2 {B : Nat → Int} {s L : Nat} (e : wmt B s w2 L = true) : wid B s L = 2 := by
  have n1 : ¬ wmt B s w1 L = true := fun x => absurd (wmt_inj _ _ _ x e) (by decide)
  unfold wid
  rw [if_neg n1, if_pos e]
theorem wf3 {B : Nat → Int} {s L : Nat} (e : wmt B s w3 L = true) : wid B s L = 3 := by
  have n1 : ¬ wmt B s w1 L = true := fun x => absurd (wmt_inj _ _ _ x e) (by decide)
  have n2 : ¬ wmt B s w2 L = true := fun x => absurd (wmt_inj _ _ _ x e) (by decide)
  unfold wid
  rw [if_neg n1, if_neg n2, if_pos e]
theorem wf4 {B : Nat → Int} {s L : Nat} (e : wmt B s w4 L = true) : wid B s L = 4 := by
  have n1 : ¬ wmt B s w1 L = true := fun x => absurd (wmt_inj _ _ _ x e) (by decide)
  have n2 : ¬ wmt B s w2 L = true := fun x => absurd (wmt_inj _ _ _ x e) (by decide)
  have n3 : ¬ wmt B s w3 L = true := fun x => absurd (wmt_inj _ _ _ x e) (by decide)
  unfold wid
  rw [if_neg n1, if_neg n2, if_neg n3, if_pos e]
theorem wf5 {B : Nat → Int} {s L : Nat} (e : wmt B s w5 L = true) : wid B s L = 5 := by
  have n1 : ¬ wmt B s w1 L = true := fun x => absurd (wmt_inj _ _ _ x e) (by decide)
  have n2 : ¬ wmt B s w2 L = true := fun x => absurd (wmt_inj _ _ _ x e) (by decide)
  have n3 : ¬ wmt B s w3 L = true := fun x => absurd (wmt_inj _ _ _ x e) (by decide)
  have n4 : ¬ wmt B s w4 L = true := fun x => absurd (wmt_inj _ _ _ x e) (by decide)
  unfold wid
  rw [if_neg n1, if_neg n2, if_neg n3, if_neg n4, if_pos e]
theorem wf6 {B : Nat → Int} {s L : Nat} (e : wmt B s w6 L = true) : wid B s L = 6 := by
  have n1 : ¬ wmt B s w1 L = true := fun x => absurd (wmt_inj _ _ _ x e) (by decide)
  have n2 : ¬ wmt B s w2 L = true := fun x => absurd (wmt_inj _ _ _ x e) (by decide)
  have n3 : ¬ wmt B s w3 L = true := fun x => absurd (wmt_inj _ _ _ x e) (by decide)
  have n4 : ¬ wmt B s w4 L = true := fun x => absurd (wmt_inj _ _ _ x e) (by decide)
  have n5 : ¬ wmt B s w5 L = true := fun x => absurd (wmt_inj _ _ _ x e) (by decide)
  unfold wid
  rw [if_neg n1, if_neg n2, if_neg n3, if_neg n4, if_neg n5, if_pos e]
theorem wf7 {B : Nat → Int} {s L : Nat} (e : wmt B s w7 L = true) : wid B s L = 7 := by
  have n1 : ¬ wmt B s w1 L = true := fun x => absurd (wmt_inj _ _ _ x e) (by decide)
  have n2 : ¬ wmt B s w2 L = true := fun x => absurd (wmt_inj _ _ _ x e) (by decide)
  have n3 : ¬ wmt B s w3 L = true := fun x => absurd (wmt_inj _ _ _ x e) (by decide)
  have n4 : ¬ wmt B s w4 L = true := fun x => absurd (wmt_inj _ _ _ x e) (by decide)
  have n5 : ¬ wmt B s w5 L = true := fun x => absurd (wmt_inj _ _ _ x e) (by decide)
  have n6 : ¬ wmt B s w6 L = true := fun x => absurd (wmt_inj _ _ _ x e) (by decide)
  unfold wid
  rw [if_neg n1, if_neg n2, if_neg n3, if_neg n4, if_neg n5, if_neg n6, if_pos e]
theorem wf8 {B : Nat → Int} {s L : Nat} (e : wmt B s w8 L = true) : wid B s L = 8 := by
  have n1 : ¬ wmt B s w1 L = true := fun x => absurd (wmt_inj _ _ _ x e) (by decide)
  have n2 : ¬ wmt B s w2 L = true := fun x => absurd (wmt_inj _ _ _ x e) (by decide)
  have n3 : ¬ wmt B s w3 L = true := fun x => absurd (wmt_inj _ _ _ x e) (by decide)
  have n4 : ¬ wmt B s w4 L = true := fun x => absurd (wmt_inj _ _ _ x e) (by decide)
  have n5 : ¬ wmt B s w5 L = true := fun x => absurd (wmt_inj _ _ _ x e) (by decide)
  have n6 : ¬ wmt B s w6 L = true := fun x => absurd (wmt_inj _ _ _ x e) (by decide)
  have n7 : ¬ wmt B s w7 L = true := fun x => absurd (wmt_inj _ _ _ x e) (by decide)
  unfold wid
  rw [if_neg n1, if_neg n2, if_neg n3, if_neg n4, if_neg n5, if_neg n6, if_neg n7, if_pos e]
theorem wf9 {B : Nat → Int} {s L : Nat} (e : wmt B s w9 L = true) : wid B s L = 9 := by
  have n1 : ¬ wmt B s w1 L = true := fun x => absurd (wmt_inj _ _ _ x e) (by decide)
  have n2 : ¬ wmt B s w2 L = true := fun x => absurd (wmt_inj _ _ _ x e) (by decide)
  have n3 : ¬ wmt B s w3 L = true := fun x => absurd (wmt_inj _ _ _ x e) (by decide)
  have n4 : ¬ wmt B s w4 L = true := fun x => absurd (wmt_inj _ _ _ x e) (by decide)
  have n5 : ¬ wmt B s w5 L = true := fun x => absurd (wmt_inj _ _ _ x e) (by decide)
  have n6 : ¬ wmt B s w6 L = true := fun x => absurd (wmt_inj _ _ _ x e) (by decide)
  have n7 : ¬ wmt B s w7 L = true := fun x => absurd (wmt_inj _ _ _ x e) (by decide)
  have n8 : ¬ wmt B s w8 L = true := fun x => absurd (wmt_inj _ _ _ x e) (by decide)
  unfold wid
  rw [if_neg n1, if_neg n2, if_neg n3, if_neg n4, if_neg n5, if_neg n6, if_neg n7, if_neg n8, if_pos e]
theorem wf10 {B : Nat → Int} {s L : Nat} (e : wmt B s w10 L = true) : wid B s L = 10 := by
  have n1 : ¬ wmt B s w1 L = true := fun x => absurd (wmt_inj _ _ _ x e) (by decide)
  have n2 : ¬ wmt B s w2 L = true := fun x => absurd (wmt_inj _ _ _ x e) (by decide)
  have n3 : ¬ wmt B s w3 L = true := fun x => absurd (wmt_inj _ _ _ x e) (by decide)
  have n4 : ¬ wmt B s w4 L = true := fun x => absurd (wmt_inj _ _ _ x e) (by decide)
  have n5 : ¬ wmt B s w5 L = true := fun x => absurd (wmt_inj _ _ _ x e) (by decide)
  have n6 : ¬ wmt B s w6 L = true := fun x => absurd (wmt_inj _ _ _ x e) (by decide)
  have n7 : ¬ wmt B s w7 L = true := fun x => absurd (wmt_inj _ _ _ x e) (by decide)
  have n8 : ¬ wmt B s w8 L = true := fun x => absurd (wmt_inj _ _ _ x e) (by decide)
  have n9 : ¬ wmt B s w9 L = true := fun x => absurd (wmt_inj _ _ _ x e) (by decide)
  unfold wid
  rw [if_neg n1, if_neg n2, if_neg n3, if_neg n4, if_neg n5, if_neg n6, if_neg n7, if_neg n8, if_neg n9, if_pos e]
theorem wf11 {B : Nat → Int} {s L : Nat} (e : wmt B s w11 L = true) : wid B s L = 11 := by
  have n1 : ¬ wmt B s w1 L = true := fun x => absurd (wmt_inj _ _ _ x e) (by decide)
  have n2 : ¬ wmt B s w2 L = true := fun x => absurd (wmt_inj _ _ _ x e) (by decide)
  have n3 : ¬ wmt B s w3 L = true := fun x => absurd (wmt_inj _ _ _ x e) (by decide)
  have n4 : ¬ wmt B s w4 L = true := fun x => absurd (wmt_inj _ _ _ x e) (by decide)
  have n5 : ¬ wmt B s w5 L = true := fun x => absurd (wmt_inj _ _ _ x e) (by decide)
  have n6 : ¬ wmt B s w6 L = true := fun x => absurd (wmt_inj _ _ _ x e) (by decide)
  have n7 : ¬ wmt B s w7 L = true := fun x => absurd (wmt_inj _ _ _ x e) (by decide)
  have n8 : ¬ wmt B s w8 L = true := fun x => absurd (wmt_inj _ _ _ x e) (by decide)
  have n9 : ¬ wmt B s w9 L = true := fun x => absurd (wmt_inj _ _ _ x e) (by decide)
  have n10 : ¬ wmt B s w10 L = true := fun x => absurd (wmt_inj _ _ _ x e) (by decide)
  unfold wid
  rw [if_neg n1, if_neg n2, if_neg n3, if_neg n4, if_neg n5, if_neg n6, if_neg n7, if_neg n8, if_neg n9, if_neg n10, if_pos e]
theorem wid_cs {B : Nat → Int} {s L : Nat} : (wmt B s w1 L = true ∧ wid B s L = 1) ∨ (wmt B s w2 L = true ∧ wid B s L = 2) ∨ (wmt B s w3 L = true ∧ wid B s L = 3) ∨ (wmt B s w4 L = true ∧ wid B s L = 4) ∨ (wmt B s w5 L = true ∧ wid B s L = 5) ∨ (wmt B s w6 L = true ∧ wid B s L = 6) ∨ (wmt B s w7 L = true ∧ wid B s L = 7) ∨ (wmt B s w8 L = true ∧ wid B s L = 8) ∨ (wmt B s w9 L = true ∧ wid B s L = 9) ∨ (wmt B s w10 L = true ∧ wid B s L = 10) ∨ (wmt B s w11 L = true ∧ wid B s L = 11) ∨ wid B s L = 99 := by
  by_cases c1 : wmt B s w1 L = true
  · exact Or.inl ⟨c1, wf1 c1⟩
  by_cases c2 : wmt B s w2 L = true
  · exact Or.inr (Or.inl ⟨c2, wf2 c2⟩)
  by_cases c3 : wmt B s w3 L = true
  · exact Or.inr (Or.inr (Or.inl ⟨c3, wf3 c3⟩))
  by_cases c4 : wmt B s w4 L = true
  · exact Or.inr (Or.inr (Or.inr (Or.inl ⟨c4, wf4 c4⟩)))
  by_cases c5 : wmt B s w5 L = true
  · exact Or.inr (Or.inr (Or.inr (Or.inr (Or.inl ⟨c5, wf5 c5⟩))))
  by_cases c6 : wmt B s w6 L = true
  · exact Or.inr (Or.inr (Or.inr (Or.inr (Or.inr (Or.inl ⟨c6, wf6 c6⟩)))))
  by_cases c7 : wmt B s w7 L = true
  · exact Or.inr (Or.inr (Or.inr (Or.inr (Or.inr (Or.inr (Or.inl ⟨c7, wf7 c7⟩))))))
  by_cases c8 : wmt B s w8 L = true
  · exact Or.inr (Or.inr (Or.inr (Or.inr (Or.inr (Or.inr (Or.inr (Or.inl ⟨c8, wf8 c8⟩)))))))
  by_cases c9 : wmt B s w9 L = true
  · exact Or.inr (Or.inr (Or.inr (Or.inr (Or.inr (Or.inr (Or.inr (Or.inr (Or.inl ⟨c9, wf9 c9⟩))))))))
  by_cases c10 : wmt B s w10 L = true
  · exact Or.inr (Or.inr (Or.inr (Or.inr (Or.inr (Or.inr (Or.inr (Or.inr (Or.inr (Or.inl ⟨c10, wf10 c10⟩)))))))))
  by_cases c11 : wmt B s w11 L = true
  · exact Or.inr (Or.inr (Or.inr (Or.inr (Or.inr (Or.inr (Or.inr (Or.inr (Or.inr (Or.inr (Or.inl ⟨c11, wf11 c11⟩))))))))))
  refine Or.inr (Or.inr (Or.inr (Or.inr (Or.inr (Or.inr (Or.inr (Or.inr (Or.inr (Or.inr (Or.inr ?_))))))))))
  unfold wid
  rw [if_neg c1, if_neg c2, if_neg c3, if_neg c4, if_neg c5, if_neg c6, if_neg c7, if_neg c8, if_neg c9, if_neg c10, if_neg c11]
theorem wi1 {B : Nat → Int} {s L : Nat} : wmt B s w1 L = true ↔ wid B s L = 1 := by
  refine ⟨wf1, fun e => ?_⟩
  rcases wid_cs (B := B) (s := s) (L := L) with ⟨c, d⟩ | ⟨c, d⟩ | ⟨c, d⟩ | ⟨c, d⟩ | ⟨c, d⟩ | ⟨c, d⟩ | ⟨c, d⟩ | ⟨c, d⟩ | ⟨c, d⟩ | ⟨c, d⟩ | ⟨c, d⟩ | d
  all_goals first | exact c | (exact absurd e (by omega))
theorem wi2 {B : Nat → Int} {s L : Nat} : wmt B s w2 L = true ↔ wid B s L = 2 := by
  refine ⟨wf2, fun e => ?_⟩
  rcases wid_cs (B := B) (s := s) (L := L) with ⟨c, d⟩ | ⟨c, d⟩ | ⟨c, d⟩ | ⟨c, d⟩ | ⟨c, d⟩ | ⟨c, d⟩ | ⟨c, d⟩ | ⟨c, d⟩ | ⟨c, d⟩ | ⟨c, d⟩ | ⟨c, d⟩ | d
  all_goals first | exact c | (exact absurd e (by omega))
theorem wi3 {B : Nat → Int} {s L : Nat} : wmt B s w3 L = true ↔ wid B s L = 3 := by
  refine ⟨wf3, fun e => ?_⟩
  rcases wid_cs (B := B) (s := s) (L := L) with ⟨c, d⟩ | ⟨c, d⟩ | ⟨c, d⟩ | ⟨c, d⟩ | ⟨c, d⟩ | ⟨c, d⟩ | ⟨c, d⟩ | ⟨c, d⟩ | ⟨c, d⟩ | ⟨c, d⟩ | ⟨c, d⟩ | d
  all_goals first | exact c | (exact absurd e (by omega))
theorem wi4 {B : Nat → Int} {s L : Nat} : wmt B s w4 L = true ↔ wid B s L = 4 := by
  refine ⟨wf4, fun e => ?_⟩
  rcases wid_cs (B := B) (s := s) (L := L) with ⟨c, d⟩ | ⟨c, d⟩ | ⟨c, d⟩ | ⟨c, d⟩ | ⟨c, d⟩ | ⟨c, d⟩ | ⟨c, d⟩ | ⟨c, d⟩ | ⟨c, d⟩ | ⟨c, d⟩ | ⟨c, d⟩ | d
  all_goals first | exact c | (exact absurd e (by omega))
theorem wi5 {B : Nat → Int} {s L : Nat} : wmt B s w5 L = true ↔ wid B s L = 5 := by
  refine ⟨wf5, fun e => ?_⟩
  rcases wid_cs (B := B) (s := s) (L := L) with ⟨c, d⟩ | ⟨c, d⟩ | ⟨c, d⟩ | ⟨c, d⟩ | ⟨c, d⟩ | ⟨c, d⟩ | ⟨c, d⟩ | ⟨c, d⟩ | ⟨c, d⟩ | ⟨c, d⟩ | ⟨c, d⟩ | d
  all_goals first | exact c | (exact absurd e (by omega))
theorem wi6 {B : Nat → Int} {s L : Nat} : wmt B s w6 L = true ↔ wid B s L = 6 := by
  refine ⟨wf6, fun e => ?_⟩
  rcases wid_cs (B := B) (s := s) (L := L) with ⟨c, d⟩ | ⟨c, d⟩ | ⟨c, d⟩ | ⟨c, d⟩ | ⟨c, d⟩ | ⟨c, d⟩ | ⟨c, d⟩ | ⟨c, d⟩ | ⟨c, d⟩ | ⟨c, d⟩ | ⟨c, d⟩ | d
  all_goals first | exact c | (exact absurd e (by omega))
theorem wi7 {B : Nat → Int} {s L : Nat} : wmt B s w7 L = true ↔ wid B s L = 7 := by
  refine ⟨wf7, fun e => ?_⟩
  rcases wid_cs (B := B) (s := s) (L := L) with ⟨c, d⟩ | ⟨c, d⟩ | ⟨c, d⟩ | ⟨c, d⟩ | ⟨c, d⟩ | ⟨c, d⟩ | ⟨c, d⟩ | ⟨c, d⟩ | ⟨c, d⟩ | ⟨c, d⟩ | ⟨c, d⟩ | d
  all_goals first | exact c | (exact absurd e (by omega))
theorem wi8 {B : Nat → Int} {s L : Nat} : wmt B s w8 L = true ↔ wid B s L = 8 := by
  refine ⟨wf8, fun e => ?_⟩
  rcases wid_cs (B := B) (s := s) (L := L) with ⟨c, d⟩ | ⟨c, d⟩ | ⟨c, d⟩ | ⟨c, d⟩ | ⟨c, d⟩ | ⟨c, d⟩ | ⟨c, d⟩ | ⟨c, d⟩ | ⟨c, d⟩ | ⟨c, d⟩ | ⟨c, d⟩ | d
  all_goals first | exact c | (exact absurd e (by omega))
theorem wi9 {B : Nat → Int} {s L : Nat} : wmt B s w9 L = true ↔ wid B s L = 9 := by
  refine ⟨wf9, fun e => ?_⟩
  rcases wid_cs (B := B) (s := s) (L := L) with ⟨c, d⟩ | ⟨c, d⟩ | ⟨c, d⟩ | ⟨c, d⟩ | ⟨c, d⟩ | ⟨c, d⟩ | ⟨c, d⟩ | ⟨c, d⟩ | ⟨c, d⟩ | ⟨c, d⟩ | ⟨c, d⟩ | d
  all_goals first | exact c | (exact absurd e (by omega))
theorem wi10 {B : Nat → Int} {s L : Nat} : wmt B s w10 L = true ↔ wid B s L = 10 := by
  refine ⟨wf10, fun e => ?_⟩
  rcases wid_cs (B := B) (s := s) (L := L) with ⟨c, d⟩ | ⟨c, d⟩ | ⟨c, d⟩ | ⟨c, d⟩ | ⟨c, d⟩ | ⟨c, d⟩ | ⟨c, d⟩ | ⟨c, d⟩ | ⟨c, d⟩ | ⟨c, d⟩ | ⟨c, d⟩ | d
  all_goals first | exact c | (exact absurd e (by omega))
theorem wi11 {B : Nat → Int} {s L : Nat} : wmt B s w11 L = true ↔ wid B s L = 11 := by
  refine ⟨wf11, fun e => ?_⟩
  rcases wid_cs (B := B) (s := s) (L := L) with ⟨c, d⟩ | ⟨c, d⟩ | ⟨c, d⟩ | ⟨c, d⟩ | ⟨c, d⟩ | ⟨c, d⟩ | ⟨c, d⟩ | ⟨c, d⟩ | ⟨c, d⟩ | ⟨c, d⟩ | ⟨c, d⟩ | d
  all_goals first | exact c | (exact absurd e (by omega))
def wj : List Int := [5, 6, 1, 2, 3, 4, 7, 8, 9, 10, 11]
theorem c_sp {L : Nat} {xs : Nat → Int32} {σ : Sg} {B : Nat → Int} {n i j : Nat} {P : Int → Sg → Prop} (h : TC σ B n) (hj : j < 11) (h8 : σ.1 131 8 = i) (h9 : σ.1 131 9 = enA B n i) (hi : i < n) (q : P (if wid B i (enA B n i - i) = wj.getD j 0 then 1 else 0) σ) : CI (XX L xs) 103 [vR (some 131), vR (some (PK + j))] σ P := by
  have e := en_rng (B := B) hi
  refine c_spell h hj h8 h9 (by omega) e.2 ?_
  have c : j = 0 ∨ j = 1 ∨ j = 2 ∨ j = 3 ∨ j = 4 ∨ j = 5 ∨ j = 6 ∨ j = 7 ∨ j = 8 ∨ j = 9 ∨ j = 10 := by omega
  have tr : ∀ (r : List Int) (k : Int), (wmt B i r (enA B n i - i) = true ↔ wid B i (enA B n i - i) = k) → P (if wid B i (enA B n i - i) = k then 1 else 0) σ → P (if wmt B i r (enA B n i - i) = true then 1 else 0) σ := by
    intro r k w p
    by_cases c : wid B i (enA B n i - i) = k
    · rw [if_pos c] at p; rw [if_pos (w.mpr c)]; exact p
    · rw [if_neg c] at p; rw [if_neg (fun x => c (w.mp x))]; exact p
  rcases c with c | c | c | c | c | c | c | c | c | c | c <;> subst c
  · exact tr w5 5 wi5 q
  · exact tr w6 6 wi6 q
  · exact tr w1 1 wi1 q
  · exact tr w2 2 wi2 q
  · exact tr w3 3 wi3 q
  · exact tr w4 4 wi4 q
  · exact tr w7 7 wi7 q
  · exact tr w8 8 wi8 q
  · exact tr w9 9 wi9 q
  · exact tr w10 10 wi10 q
  · exact tr w11 11 wi11 q
def lnP (w : Int) : Int := if w = 5 then 0 else if w = 6 then 1 else if w = 1 then 2 else if w = 2 then 3 else if w = 3 then 4 else if w = 4 then 5 else -1
def lnY (w : Int) : Int := if w = 7 then 0 else if w = 8 then 1 else if w = 9 then 2 else if w = 5 then 3 else if w = 6 then 4 else if w = 10 then 5 else -1
def lnL (w : Int) : Int := if w = 11 then 0 else -1
def lnW (a : Nat) (w : Int) : Int := if a = 0 then lnP w else if a = 1 then lnY w else lnL w
/-- the line that the token at i begins, -1: none -/
def lnTk (a : Nat) (B : Nat → Int) (n i : Nat) : Int := if isLt (bAt B n i) = true then lnW a (wid B i (enA B n i - i)) else -1
theorem lnTk_rng {a : Nat} {B : Nat → Int} {n i : Nat} : lnTk a B n i = -1 ∨ (0 ≤ lnTk a B n i ∧ lnTk a B n i < (lmT a).length) := by
  unfold lnTk lnW lmT
  by_cases c : isLt (bAt B n i) = true
  · rw [if_pos c]
    by_cases a0 : a = 0
    · rw [if_pos a0, if_pos a0]; unfold lnP
      simp only [List.length_cons, List.length_nil]
      repeat' split
      all_goals omega
    · rw [if_neg a0, if_neg a0]
      by_cases a1 : a = 1
      · rw [if_pos a1, if_pos a1]; unfold lnY
        simp only [List.length_cons, List.length_nil]
        repeat' split
        all_goals omega
      · rw [if_neg a1, if_neg a1]; unfold lnL
        simp only [List.length_cons, List.length_nil]
        repeat' split
        all_goals omega
  · rw [if_neg c]; exact Or.inl rfl
theorem kd_1 {B : Nat → Int} {n i : Nat} : kdA B n i = 1 ↔ isLt (bAt B n i) = true := by
  unfold kdA
  by_cases c : isLt (bAt B n i) = true
  · rw [if_pos c]; exact ⟨fun _ => c, fun _ => rfl⟩
  · rw [if_neg c]
    refine ⟨fun e => ?_, fun e => absurd e c⟩
    repeat' split at e
    all_goals omega
theorem c_lineOf {L : Nat} {xs : Nat → Int32} {σ : Sg} {B : Nat → Int} {n i a : Nat} {P : Int → Sg → Prop} (h : TC σ B n) (t : TkC σ B n i) (ha : a < 3) (q : P (lnTk a B n i) σ) : CI (XX L xs) 100 [vR (some 131), vI a] σ P := by
  obtain ⟨t7, t8, t9, t10⟩ := t
  have kr := kdA_rng (B := B) (n := n) (i := i)
  unfold lnTk at q
  refine v_100 ?_
  rw [t7]
  refine ⟨by omega, fun k1 => ?_, fun k1 => ⟨_, rfl, ?_⟩⟩
  · have il := kd_1.mp k1
    have hi := kd_in (B := B) (n := n) (i := i) (by omega)
    rw [if_pos il] at q
    generalize hw : wid B i (enA B n i - i) = w at q
    have sp : ∀ (j : Nat) (P : Int → Sg → Prop), j < 11 → P (if w = wj.getD j 0 then 1 else 0) σ → CI (XX L xs) 103 [vR (some 131), vR (some (PK + j))] σ P := fun j P hj p => c_sp h hj t8 t9 hi (by rw [hw]; exact p)
    unfold lnW at q
    refine ⟨by omega, fun a0 => ?_, fun a0 => ?_⟩
    · rw [if_neg (by omega)] at q
      refine ⟨fun a1 => ?_, fun a1 => ?_⟩
      · rw [if_neg (by omega)] at q
        unfold lnL at q
        refine sp 10 _ (by omega) ?_
        rw [show wj.getD 10 0 = 11 from rfl]
        by_cases c : w = 11
        · rw [if_pos c] at q ⊢; exact ⟨by omega, fun e => absurd e (by omega), fun _ => ⟨_, rfl, q⟩⟩
        · rw [if_neg c] at q ⊢; exact ⟨by omega, fun _ => ⟨_, rfl, q⟩, fun e => absurd rfl e⟩
      · rw [if_pos (by omega)] at q
        unfold lnY at q
        refine v_102 ?_
        refine sp 6 _ (by omega) ?_
        rw [show wj.getD 6 0 = 7 from rfl]
        by_cases c0 : w = 7
        · rw [if_pos c0] at q ⊢; exact ⟨by omega, fun e => absurd e (by omega), fun _ => ⟨_, rfl, _, rfl, q⟩⟩
        rw [if_neg c0] at q ⊢
        refine ⟨by omega, fun _ => ?_, fun e => absurd rfl e⟩
        refine sp 7 _ (by omega) ?_
        rw [show wj.getD 7 0 = 8 from rfl]
        by_cases c1 : w = 8
        · rw [if_pos c1] at q ⊢; exact ⟨by omega, fun e => absurd e (by omega), fun _ => ⟨_, rfl, _, rfl, q⟩⟩
        rw [if_neg c1] at q ⊢
        refine ⟨by omega, fun _ => ?_, fun e => absurd rfl e⟩
        refine sp 8 _ (by omega) ?_
        rw [show wj.getD 8 0 = 9 from rfl]
        by_cases c2 : w = 9
        · rw [if_pos c2] at q ⊢; exact ⟨by omega, fun e => absurd e (by omega), fun _ => ⟨_, rfl, _, rfl, q⟩⟩
        rw [if_neg c2] at q ⊢
        refine ⟨by omega, fun _ => ?_, fun e => absurd rfl e⟩
        refine sp 0 _ (by omega) ?_
        rw [show wj.getD 0 0 = 5 from rfl]
        by_cases c3 : w = 5
        · rw [if_pos c3] at q ⊢; exact ⟨by omega, fun e => absurd e (by omega), fun _ => ⟨_, rfl, _, rfl, q⟩⟩
        rw [if_neg c3] at q ⊢
        refine ⟨by omega, fun _ => ?_, fun e => absurd rfl e⟩
        refine sp 1 _ (by omega) ?_
        rw [show wj.getD 1 0 = 6 from rfl]
        by_cases c4 : w = 6
        · rw [if_pos c4] at q ⊢; exact ⟨by omega, fun e => absurd e (by omega), fun _ => ⟨_, rfl, _, rfl, q⟩⟩
        rw [if_neg c4] at q ⊢
        refine ⟨by omega, fun _ => ?_, fun e => absurd rfl e⟩
        refine sp 9 _ (by omega) ?_
        rw [show wj.getD 9 0 = 10 from rfl]
        by_cases c5 : w = 10
        · rw [if_pos c5] at q ⊢; exact ⟨by omega, fun e => absurd e (by omega), fun _ => ⟨_, rfl, _, rfl, q⟩⟩
        · rw [if_neg c5] at q ⊢; exact ⟨by omega, fun _ => ⟨_, rfl, _, rfl, q⟩, fun e => absurd rfl e⟩
    · rw [if_pos (by omega)] at q
      unfold lnP at q
      refine v_101 ?_
      refine sp 0 _ (by omega) ?_
      rw [show wj.getD 0 0 = 5 from rfl]
      by_cases c0 : w = 5
      · rw [if_pos c0] at q ⊢; exact ⟨by omega, fun e => absurd e (by omega), fun _ => ⟨_, rfl, _, rfl, q⟩⟩
      rw [if_neg c0] at q ⊢
      refine ⟨by omega, fun _ => ?_, fun e => absurd rfl e⟩
      refine sp 1 _ (by omega) ?_
      rw [show wj.getD 1 0 = 6 from rfl]
      by_cases c1 : w = 6
      · rw [if_pos c1] at q ⊢; exact ⟨by omega, fun e => absurd e (by omega), fun _ => ⟨_, rfl, _, rfl, q⟩⟩
      rw [if_neg c1] at q ⊢
      refine ⟨by omega, fun _ => ?_, fun e => absurd rfl e⟩
      refine sp 2 _ (by omega) ?_
      rw [show wj.getD 2 0 = 1 from rfl]
      by_cases c2 : w = 1
      · rw [if_pos c2] at q ⊢; exact ⟨by omega, fun e => absurd e (by omega), fun _ => ⟨_, rfl, _, rfl, q⟩⟩
      rw [if_neg c2] at q ⊢
      refine ⟨by omega, fun _ => ?_, fun e => absurd rfl e⟩
      refine sp 3 _ (by omega) ?_
      rw [show wj.getD 3 0 = 2 from rfl]
      by_cases c3 : w = 2
      · rw [if_pos c3] at q ⊢; exact ⟨by omega, fun e => absurd e (by omega), fun _ => ⟨_, rfl, _, rfl, q⟩⟩
      rw [if_neg c3] at q ⊢
      refine ⟨by omega, fun _ => ?_, fun e => absurd rfl e⟩
      refine sp 4 _ (by omega) ?_
      rw [show wj.getD 4 0 = 3 from rfl]
      by_cases c4 : w = 3
      · rw [if_pos c4] at q ⊢; exact ⟨by omega, fun e => absurd e (by omega), fun _ => ⟨_, rfl, _, rfl, q⟩⟩
      rw [if_neg c4] at q ⊢
      refine ⟨by omega, fun _ => ?_, fun e => absurd rfl e⟩
      refine sp 5 _ (by omega) ?_
      rw [show wj.getD 5 0 = 4 from rfl]
      by_cases c5 : w = 4
      · rw [if_pos c5] at q ⊢; exact ⟨by omega, fun e => absurd e (by omega), fun _ => ⟨_, rfl, _, rfl, q⟩⟩
      · rw [if_neg c5] at q ⊢; exact ⟨by omega, fun _ => ⟨_, rfl, _, rfl, q⟩, fun e => absurd rfl e⟩
  · rw [if_neg (fun x => k1 (kd_1.mpr x))] at q
    exact q
