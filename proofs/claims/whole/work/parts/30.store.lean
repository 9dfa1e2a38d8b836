/-! THE STORE: behind the constructors the shape of the heap stands still: what moves are ints in fields and rows -/
abbrev Sg : Type := (Nat → Nat → Int) × (Nat → Nat → Int)
/-- kind (0 an object, 1 ints, 2 booleans, 3 longs, 4 references), class or length, references -/
abbrev Sh : Type := Nat × Nat × List (Option Nat)
def SHs : List Sh := [(0, 10, [some 1, some 33, some 130, some 131, some 146, some 157, some 160, some 161, some 163]), (0, 9, [some 2, none, some 3, some 4, some 5, some 6, none, none]), (1, 600, []), (4, 7, [some 7, some 20]), (4, 6, [some 14, some 27]), (4, 6, [some 17, some 30]), (1, 3, []), (0, 7, [none, none, none, none, none, some 8, some 9, some 10, some 11, some 12, some 13]), (1, 7, []), (1, 7, []), (1, 10, []), (1, 10, []), (1, 10, []), (1, 10, []), (0, 6, [none, some 15, some 16]), (1, 40, []), (1, 40, []), (0, 6, [none, some 18, some 19]), (1, 40, []), (1, 40, []), (0, 7, [none, none, none, none, none, some 21, some 22, some 23, some 24, some 25, some 26]), (1, 7, []), (1, 7, []), (1, 10, []), (1, 10, []), (1, 10, []), (1, 10, []), (0, 6, [none, some 28, some 29]), (1, 40, []), (1, 40, []), (0, 6, [none, some 31, some 32]), (1, 40, []), (1, 40, []), (4, 9, [some 34, some 66, some 98]), (0, 9, [some 35, none, some 36, some 37, some 38, some 39, none, none]), (1, 600, []), (4, 7, [some 40, some 53]), (4, 6, [some 47, some 60]), (4, 6, [some 50, some 63]), (1, 3, []), (0, 7, [none, none, none, none, none, some 41, some 42, some 43, some 44, some 45, some 46]), (1, 7, []), (1, 7, []), (1, 10, []), (1, 10, []), (1, 10, []), (1, 10, []), (0, 6, [none, some 48, some 49]), (1, 40, []), (1, 40, []), (0, 6, [none, some 51, some 52]), (1, 40, []), (1, 40, []), (0, 7, [none, none, none, none, none, some 54, some 55, some 56, some 57, some 58, some 59]), (1, 7, []), (1, 7, []), (1, 10, []), (1, 10, []), (1, 10, []), (1, 10, []), (0, 6, [none, some 61, some 62]), (1, 40, []), (1, 40, []), (0, 6, [none, some 64, some 65]), (1, 40, []), (1, 40, []), (0, 9, [some 67, none, some 68, some 69, some 70, some 71, none, none]), (1, 600, []), (4, 7, [some 72, some 85]), (4, 6, [some 79, some 92]), (4, 6, [some 82, some 95]), (1, 3, []), (0, 7, [none, none, none, none, none, some 73, some 74, some 75, some 76, some 77, some 78]), (1, 7, []), (1, 7, []), (1, 10, []), (1, 10, []), (1, 10, []), (1, 10, []), (0, 6, [none, some 80, some 81]), (1, 40, []), (1, 40, []), (0, 6, [none, some 83, some 84]), (1, 40, []), (1, 40, []), (0, 7, [none, none, none, none, none, some 86, some 87, some 88, some 89, some 90, some 91]), (1, 7, []), (1, 7, []), (1, 10, []), (1, 10, []), (1, 10, []), (1, 10, []), (0, 6, [none, some 93, some 94]), (1, 40, []), (1, 40, []), (0, 6, [none, some 96, some 97]), (1, 40, []), (1, 40, []), (0, 9, [some 99, none, some 100, some 101, some 102, some 103, none, none]), (1, 600, []), (4, 7, [some 104, some 117]), (4, 6, [some 111, some 124]), (4, 6, [some 114, some 127]), (1, 3, []), (0, 7, [none, none, none, none, none, some 105, some 106, some 107, some 108, some 109, some 110]), (1, 7, []), (1, 7, []), (1, 10, []), (1, 10, []), (1, 10, []), (1, 10, []), (0, 6, [none, some 112, some 113]), (1, 40, []), (1, 40, []), (0, 6, [none, some 115, some 116]), (1, 40, []), (1, 40, []), (0, 7, [none, none, none, none, none, some 118, some 119, some 120, some 121, some 122, some 123]), (1, 7, []), (1, 7, []), (1, 10, []), (1, 10, []), (1, 10, []), (1, 10, []), (0, 6, [none, some 125, some 126]), (1, 40, []), (1, 40, []), (0, 6, [none, some 128, some 129]), (1, 40, []), (1, 40, []), (2, 3, []), (0, 8, [some 132, some 139, some 142, none, none, some 1, some 145, none, none, none, none, none]), (0, 7, [none, none, none, none, none, some 133, some 134, some 135, some 136, some 137, some 138]), (1, 7, []), (1, 7, []), (1, 10, []), (1, 10, []), (1, 10, []), (1, 10, []), (0, 6, [none, some 140, some 141]), (1, 40, []), (1, 40, []), (0, 6, [none, some 143, some 144]), (1, 40, []), (1, 40, []), (1, 3, []), (0, 2, [some 147, some 154, none, none, none, none, none, none, none, none]), (0, 7, [none, none, none, none, none, some 148, some 149, some 150, some 151, some 152, some 153]), (1, 7, []), (1, 7, []), (1, 10, []), (1, 10, []), (1, 10, []), (1, 10, []), (0, 4, [none, some 155, some 156]), (1, 7, []), (1, 7, []), (0, 1, [some 146, some 158, none, none, none, none, none, some 159]), (1, 7, []), (1, 4, []), (0, 5, [some 146, none]), (0, 0, [some 146, some 162, none, none, none, none, none]), (1, 7, []), (0, 3, [none, none, some 164, some 165, some 166, some 167]), (1, 128, []), (3, 128, []), (1, 128, []), (0, 4, [none, some 168, some 169]), (1, 7, []), (1, 7, []), (0, 11, [some 171, some 172, none, none, none, none, none, none, none, none, some 173, none, none, none, none, none, none, none, none, none, none, none, none, none, none, some 174, some 175, some 176, some 177, none, none, some 178, some 179, some 180, none, none, none, none, none, none, some 181, none, none, some 182, some 183, some 184, none]), (1, 3616, []), (2, 3, []), (1, 81, []), (1, 7, []), (1, 7, []), (1, 7, []), (1, 7, []), (1, 64, []), (1, 7, []), (1, 7, []), (1, 7, []), (1, 128, []), (1, 896, []), (1, 7, [])]
def fval (σ : Sg) (c j : Nat) (o : Option Nat) : PV := match o with
  | none => vI (σ.1 c j)
  | some r => vR (some r)
def hcell (σ : Sg) (c : Nat) (s : Sh) : PE := match s with
  | (0, ci, fs) => .inr (ci, fs.mapIdx fun j o => fval σ c j o)
  | (1, n, _) => .inl (.int, n, .inl (σ.2 c))
  | (2, n, _) => .inl (.boolean, n, .inl (σ.2 c))
  | (3, n, _) => .inl (.long, n, .inr (.inl (σ.2 c)))
  | (_, ci, es) => .inl (.object (vC ci).1, es.length, .inr (.inr fun j => (es[j]?).bind id))
def hp (σ : Sg) : PHp := SHs.mapIdx fun c s => hcell σ c s
def parL : List Nat := [7, 20, 40, 53, 72, 85, 104, 117, 132, 147]
def paiL : List Nat := [14, 17, 27, 30, 47, 50, 60, 63, 79, 82, 92, 95, 111, 114, 124, 127, 139, 142]
def tolL : List Nat := [1, 34, 66, 98]
def levL : List Nat := [154, 167]
theorem parS {p : Nat} (h : p ∈ parL) : SHs[p]? = some (0, 7, [none, none, none, none, none, some (p + 1), some (p + 2), some (p + 3), some (p + 4), some (p + 5), some (p + 6)]) ∧ SHs[p + 1]? = some (1, 7, []) ∧ SHs[p + 2]? = some (1, 7, []) ∧ SHs[p + 3]? = some (1, 10, []) ∧ SHs[p + 4]? = some (1, 10, []) ∧ SHs[p + 5]? = some (1, 10, []) ∧ SHs[p + 6]? = some (1, 10, []) := by
  simp only [parL, List.mem_cons, List.not_mem_nil, or_false] at h
  rcases h with rfl | rfl | rfl | rfl | rfl | rfl | rfl | rfl | rfl | rfl <;> exact ⟨rfl, rfl, rfl, rfl, rfl, rfl, rfl⟩
theorem paiS {p : Nat} (h : p ∈ paiL) : SHs[p]? = some (0, 6, [none, some (p + 1), some (p + 2)]) ∧ SHs[p + 1]? = some (1, 40, []) ∧ SHs[p + 2]? = some (1, 40, []) := by
  simp only [paiL, List.mem_cons, List.not_mem_nil, or_false] at h
  rcases h with rfl | rfl | rfl | rfl | rfl | rfl | rfl | rfl | rfl | rfl | rfl | rfl | rfl | rfl | rfl | rfl | rfl | rfl <;> exact ⟨rfl, rfl, rfl⟩
theorem tolS {p : Nat} (h : p ∈ tolL) : SHs[p]? = some (0, 9, [some (p + 1), none, some (p + 2), some (p + 3), some (p + 4), some (p + 5), none, none]) ∧ SHs[p + 1]? = some (1, 600, []) ∧ SHs[p + 2]? = some (4, 7, [some (p + 6), some (p + 19)]) ∧ SHs[p + 3]? = some (4, 6, [some (p + 13), some (p + 26)]) ∧ SHs[p + 4]? = some (4, 6, [some (p + 16), some (p + 29)]) ∧ SHs[p + 5]? = some (1, 3, []) ∧ p + 6 ∈ parL ∧ p + 19 ∈ parL ∧ p + 13 ∈ paiL ∧ p + 26 ∈ paiL ∧ p + 16 ∈ paiL ∧ p + 29 ∈ paiL := by
  simp only [tolL, List.mem_cons, List.not_mem_nil, or_false] at h
  rcases h with rfl | rfl | rfl | rfl <;> exact ⟨rfl, rfl, rfl, rfl, rfl, rfl, by decide, by decide, by decide, by decide, by decide, by decide⟩
theorem levS {p : Nat} (h : p ∈ levL) : SHs[p]? = some (0, 4, [none, some (p + 1), some (p + 2)]) ∧ SHs[p + 1]? = some (1, 7, []) ∧ SHs[p + 2]? = some (1, 7, []) := by
  simp only [levL, List.mem_cons, List.not_mem_nil, or_false] at h
  rcases h with rfl | rfl <;> exact ⟨rfl, rfl, rfl⟩
theorem hp_at (σ : Sg) (c : Nat) : (hp σ)[c]? = (SHs[c]?).map (hcell σ c) := by simp [hp]
theorem SHs_lt {c : Nat} {s : Sh} (h : SHs[c]? = some s) : c < PK := by
  have h1 := (List.getElem?_eq_some_iff.mp h).1
  have h2 : SHs.length = 185 := by decide +kernel
  show c < 1000000
  omega
theorem hp_obj {σ : Sg} {c ci : Nat} {fs : List (Option Nat)} (h : SHs[c]? = some (0, ci, fs)) : hObj (hp σ) c ci = some (fs.mapIdx fun j o => fval σ c j o) := by
  unfold hObj
  rw [if_pos (SHs_lt h), hp_at, h]
  simp [hcell]
theorem hp_int {σ : Sg} {c n : Nat} {es : List (Option Nat)} (h : SHs[c]? = some (1, n, es)) (hn : n ≤ 100000) : hInt .int (hp σ) c = some (n, σ.2 c) := by
  unfold hInt
  rw [if_pos (SHs_lt h), hp_at, h]
  simp [hcell, hn]
theorem hp_bool {σ : Sg} {c n : Nat} {es : List (Option Nat)} (h : SHs[c]? = some (2, n, es)) (hn : n ≤ 100000) : hInt .boolean (hp σ) c = some (n, σ.2 c) := by
  unfold hInt
  rw [if_pos (SHs_lt h), hp_at, h]
  simp [hcell, hn]
theorem hp_long {σ : Sg} {c n : Nat} {es : List (Option Nat)} (h : SHs[c]? = some (3, n, es)) (hn : n ≤ 100000) : hLong (hp σ) c = some (n, σ.2 c) := by
  unfold hLong
  rw [if_pos (SHs_lt h), hp_at, h]
  simp [hcell, hn]
theorem hp_ref {σ : Sg} {c ci : Nat} {es : List (Option Nat)} (h : SHs[c]? = some (4, ci, es)) (hn : es.length ≤ 100000) : hRef (hp σ) c = some (.object (vC ci).1, es.length, fun j => (es[j]?).bind id) := by
  unfold hRef
  rw [if_pos (SHs_lt h), hp_at, h]
  simp [hcell, hn]
theorem up_same {α : Type} (f : Nat → α) (k : Nat) (x : α) : up f k x k = x := if_pos rfl
theorem up_ne {α : Type} (f : Nat → α) {k j : Nat} (x : α) (h : j ≠ k) : up f k x j = f j := if_neg h
theorem up_up {α : Type} (f : Nat → α) (k : Nat) (x y : α) : up (up f k x) k y = up f k y := by
  funext j
  unfold up
  split <;> rfl
theorem up_eta {α : Type} (f : Nat → α) (k : Nat) : up f k (f k) = f := by
  funext j
  unfold up
  split
  · next h => rw [h]
  · rfl
/-- one place of one cell -/
def up2 (f : Nat → Nat → Int) (c j : Nat) (x : Int) : Nat → Nat → Int := fun a b => if a = c then (if b = j then x else f a b) else f a b
theorem up2_eq (f : Nat → Nat → Int) (c j : Nat) (x : Int) : up2 f c j x = up f c (up (f c) j x) := by
  funext a b
  unfold up2 up
  by_cases h : a = c
  · subst h; rw [if_pos rfl, if_pos rfl]
  · rw [if_neg h, if_neg h]
theorem up2_ne (f : Nat → Nat → Int) {c d : Nat} (j : Nat) (x : Int) (h : d ≠ c) : up2 f c j x d = f d := by
  funext b
  exact if_neg h
theorem up2_at (f : Nat → Nat → Int) (c j : Nat) (x : Int) : up2 f c j x c = up (f c) j x := by rw [up2_eq, up_same]
def upc (A : Nat → Nat → Int) (s d sp dp w : Nat) : Nat → Nat → Int := up A d (cpy (A s) (A d) sp dp w)
theorem hp_ext {σ τ : Sg} {c : Nat} {s : Sh} (h : SHs[c]? = some s) (ho : ∀ d, d ≠ c → τ.1 d = σ.1 d ∧ τ.2 d = σ.2 d) : (hp σ).set c (hcell τ c s) = hp τ := by
  apply List.ext_getElem?
  intro d
  rw [List.getElem?_set, hp_at τ d]
  have hl : c < (hp σ).length := by simp [hp]; exact (List.getElem?_eq_some_iff.mp h).1
  by_cases hd : c = d
  · subst hd
    rw [if_pos rfl, if_pos hl, h]
    rfl
  · rw [if_neg hd, hp_at σ d]
    obtain ⟨q1, q2⟩ := ho d (fun q => hd q.symm)
    cases hs : SHs[d]? with
    | none => rfl
    | some s2 =>
      show some _ = some _
      congr 1
      unfold hcell
      split <;> first | (simp only [fval, q1]; done) | rw [q2] | rfl
theorem hp_putF {σ : Sg} {c ci j : Nat} {x : Int} {fs : List (Option Nat)} (h : SHs[c]? = some (0, ci, fs)) (hj : fs[j]? = some none) : (hp σ).set c (.inr (ci, (fs.mapIdx fun j o => fval σ c j o).set j (vI x))) = hp (up σ.1 c (up (σ.1 c) j x), σ.2) := by
  rw [← hp_ext (σ := σ) (τ := (up σ.1 c (up (σ.1 c) j x), σ.2)) h (fun d hd => ⟨up_ne _ _ hd, rfl⟩)]
  congr 1
  show Sum.inr _ = Sum.inr _
  congr 1
  show (ci, _) = (ci, _)
  congr 1
  apply List.ext_getElem?
  intro i
  rw [List.getElem?_set, List.getElem?_mapIdx, List.getElem?_mapIdx, List.length_mapIdx]
  by_cases hi : j = i
  · subst hi
    rw [if_pos rfl, if_pos (List.getElem?_eq_some_iff.mp hj).1, hj]
    simp [fval, up_same]
  · rw [if_neg hi]
    cases hf : fs[i]? with
    | none => rfl
    | some o =>
      cases o with
      | none => simp [fval, up_same, up_ne _ _ (fun q : i = j => hi q.symm)]
      | some r => rfl
theorem hp_putA {σ : Sg} {c kd n : Nat} {g : Nat → Int} {es : List (Option Nat)} (h : SHs[c]? = some (kd, n, es)) : (hp σ).set c (hcell (σ.1, up σ.2 c g) c (kd, n, es)) = hp (σ.1, up σ.2 c g) := hp_ext h (fun d hd => ⟨rfl, up_ne _ _ hd⟩)
/-! runs -/
theorem run_succ (X : PX) : ∀ (n k : Nat) (c : PC) (r : Option PV × PHp), run X cds mi n k c = some r → run X cds mi (n + 1) k c = some r := by
  intro n
  induction n with
  | zero => intro k c r h; simp [run] at h
  | succ n ih =>
    intro k c r h
    rw [run] at h ⊢
    split at h
    · cases h
    · next e he =>
      try rw [he]
      try dsimp only at h ⊢
      split at h
      · cases h
      · next d hd =>
        try rw [hd]
        try dsimp only
        split at h
        · next hb => try rw [if_pos hb]
                     exact ih _ _ _ h
        · cases h
      · next v hv => first | exact h | (rw [hv]; exact h)
      · next k2 as r2 hs =>
        try rw [hs]
        try dsimp only
        split at h
        · next hb =>
          try rw [if_pos hb]
          split at h
          · cases h
          · next v h2 hr =>
            rw [ih _ _ _ hr]
            exact ih _ _ _ h
        · cases h
theorem run_mono {X : PX} {n m k : Nat} {c : PC} {r : Option PV × PHp} (h : run X cds mi n k c = some r) (hm : n ≤ m) : run X cds mi m k c = some r := by
  induction hm with
  | refl => exact h
  | step _ ih => exact run_succ X _ _ _ _ ih
/-- cells and slots that the law's own frame has made ahead of its loop -/
def ck (k : Nat) : Nat := if k = 284 then 185 else 0
def sk (k : Nat) : Nat := if k = 284 then 10002 else 0
theorem ck_le (k : Nat) : ck k ≤ mMc k ∧ sk k ≤ mMs k := by
  unfold ck sk
  by_cases h : k = 284
  · subst h
    decide +kernel
  · rw [if_neg h, if_neg h]
    exact ⟨Nat.zero_le _, Nat.zero_le _⟩
theorem ckz {k : Nat} (h : mMc k = 0) : ck k = 0 ∧ sk k = 0 := by
  unfold ck sk
  by_cases h2 : k = 284
  · subst h2
    exact absurd h (by decide +kernel)
  · rw [if_neg h2, if_neg h2]
    exact ⟨rfl, rfl⟩
def Ev (X : PX) (k i : Nat) (L : PL) (st : List PV) (σ : Sg) (Q : Option PV → Sg → Prop) : Prop := ∃ (n : Nat) (v : Option PV) (τ : Sg), run X cds mi n k (i, L, st, hp σ, ck k, sk k) = some (v, hp τ) ∧ Q v τ
/-- a call -/
def Cl (X : PX) (k : Nat) (as : List PV) (σ : Sg) (Q : Option PV → Sg → Prop) : Prop := (pargs as).length ≤ mL k ∧ mMc k = 0 ∧ mMs k = 0 ∧ Ev X k 0 (pent (mL k) as) [] σ Q
theorem Ev.mono {X : PX} {k i : Nat} {L : PL} {st : List PV} {σ : Sg} {Q P : Option PV → Sg → Prop} (h : Ev X k i L st σ Q) (hq : ∀ v τ, Q v τ → P v τ) : Ev X k i L st σ P := by
  obtain ⟨n, v, τ, h1, h2⟩ := h
  exact ⟨n, v, τ, h1, hq v τ h2⟩
theorem Cl.mono {X : PX} {k : Nat} {as : List PV} {σ : Sg} {Q P : Option PV → Sg → Prop} (h : Cl X k as σ Q) (hq : ∀ v τ, Q v τ → P v τ) : Cl X k as σ P := ⟨h.1, h.2.1, h.2.2.1, h.2.2.2.mono hq⟩
abbrev InR (x : Int) : Prop := -2147483648 ≤ x ∧ x < 2147483648
abbrev InL (x : Int) : Prop := -9223372036854775808 ≤ x ∧ x < 9223372036854775808
/-- calls by what they answer -/
def CI (X : PX) (k : Nat) (as : List PV) (σ : Sg) (Q : Int → Sg → Prop) : Prop := Cl X k as σ (fun v τ => ∃ x, v = some (vI x) ∧ Q x τ)
def CG (X : PX) (k : Nat) (as : List PV) (σ : Sg) (Q : Int → Sg → Prop) : Prop := Cl X k as σ (fun v τ => ∃ x, v = some (vL x) ∧ Q x τ)
def CV (X : PX) (k : Nat) (as : List PV) (σ : Sg) (Q : Sg → Prop) : Prop := Cl X k as σ (fun v τ => v = none ∧ Q τ)
theorem CI.mono {X : PX} {k : Nat} {as : List PV} {σ : Sg} {Q P : Int → Sg → Prop} (h : CI X k as σ Q) (hq : ∀ x τ, Q x τ → P x τ) : CI X k as σ P := Cl.mono h (fun _ τ ⟨x, e, q⟩ => ⟨x, e, hq x τ q⟩)
theorem CG.mono {X : PX} {k : Nat} {as : List PV} {σ : Sg} {Q P : Int → Sg → Prop} (h : CG X k as σ Q) (hq : ∀ x τ, Q x τ → P x τ) : CG X k as σ P := Cl.mono h (fun _ τ ⟨x, e, q⟩ => ⟨x, e, hq x τ q⟩)
theorem CV.mono {X : PX} {k : Nat} {as : List PV} {σ : Sg} {Q P : Sg → Prop} (h : CV X k as σ Q) (hq : ∀ τ, Q τ → P τ) : CV X k as σ P := Cl.mono h (fun _ τ ⟨e, q⟩ => ⟨e, hq τ q⟩)
section RULES
variable {X : PX} {k i : Nat} {L : PL} {st : List PV} {σ : Sg} {Q : Option PV → Sg → Prop} {cdl : List PEn}
theorem e_nx {en : PEn} {i2 : Nat} {L2 : PL} {st2 : List PV} {τ : Sg} (hcd : cds k = cdl) (hc : cdl[i]? = some en) (hs : stp X en (i, L, st, hp σ, ck k, sk k) = some (.inl (i2, L2, st2, hp τ, ck k, sk k))) (g : Ev X k i2 L2 st2 τ Q) : Ev X k i L st σ Q := by
  obtain ⟨n, v, υ, h1, h2⟩ := g
  refine ⟨n + 1, v, υ, ?_, h2⟩
  rw [run]
  dsimp only
  rw [hcd, hc]
  dsimp only
  rw [hs]
  dsimp only
  rw [if_pos (show ck k ≤ (mi k).2.1 ∧ sk k ≤ (mi k).2.2 from ck_le k)]
  exact h1
theorem e_ret {en : PEn} {v : Option PV} (hcd : cds k = cdl) (hc : cdl[i]? = some en) (hs : stp X en (i, L, st, hp σ, ck k, sk k) = some (.inr (.inl v))) (q : Q v σ) : Ev X k i L st σ Q := by
  refine ⟨1, v, σ, ?_, q⟩
  rw [run]
  dsimp only
  rw [hcd, hc]
  dsimp only
  rw [hs]
theorem e_call {en : PEn} {k2 : Nat} {as r : List PV} (hcd : cds k = cdl) (hc : cdl[i]? = some en) (hs : stp X en (i, L, st, hp σ, ck k, sk k) = some (.inr (.inr (k2, as, r)))) (g : Cl X k2 as σ (fun v τ => Ev X k (i + 1) L (v.toList ++ r) τ Q)) : Ev X k i L st σ Q := by
  obtain ⟨g1, g2, g3, n, v, τ, h1, m, w, υ, h3, h4⟩ := g
  refine ⟨max n m + 1, w, υ, ?_, h4⟩
  rw [run]
  dsimp only
  rw [hcd, hc]
  dsimp only
  rw [hs]
  dsimp only
  have e1 : (mi k2).1 = mL k2 := rfl
  have e2 : (mi k2).2.1 = 0 := g2
  have e3 : (mi k2).2.2 = 0 := g3
  rw [(ckz g2).1, (ckz g2).2] at h1
  rw [e1, e2, e3, if_pos (show ck k + 0 ≤ (mi k).2.1 ∧ sk k + 0 ≤ (mi k).2.2 ∧ (pargs as).length ≤ mL k2 from ⟨(ck_le k).1, (ck_le k).2, g1⟩), run_mono h1 (Nat.le_max_left n m)]
  exact run_mono h3 (Nat.le_max_right n m)
theorem e_pc {i2 : Nat} (h : i = i2) (g : Ev X k i2 L st σ Q) : Ev X k i L st σ Q := h ▸ g
theorem ofR {x : Int} (h : InR x) : (Int32.ofInt x).toInt = x := Int32.toInt_ofInt_of_le (by omega) (by omega)
theorem ofL {x : Int} (h : InL x) : (Int64.ofInt x).toInt = x := Int64.toInt_ofInt_of_le (by omega) (by omega)
theorem o_lt {x y : Int} (hx : InR x) (hy : InR y) : Int32.ofInt x < Int32.ofInt y ↔ x < y := by rw [Int32.lt_iff_toInt_lt, ofR hx, ofR hy]
theorem o_eq {x y : Int} (hx : InR x) (hy : InR y) : Int32.ofInt x = Int32.ofInt y ↔ x = y := by rw [← Int32.toInt_inj, ofR hx, ofR hy]
def cmpP (cd : ClassFile.Cond) (x y : Int) : Prop := match cd with
  | .eq => x = y
  | .ne => x ≠ y
  | .lt => x < y
  | .ge => y ≤ x
  | .gt => y < x
  | .le => x ≤ y
theorem iCmp_iff {cd : ClassFile.Cond} {x y : Int} (hx : InR x) (hy : InR y) : iCmp cd x y = true ↔ cmpP cd x y := by
  cases cd <;> simp [iCmp, cmpP, o_lt hx hy, o_lt hy hx, o_eq hx hy]
theorem r_icmp {bp ln : Nat} {cd : ClassFile.Cond} {off z x y : Int} {ar : List Nat} (hcd : cds k = cdl) (hc : cdl[i]? = some (bp, .if_icmp cd off, ln, ar, z)) (hx : InR x) (hy : InR y) (g1 : cmpP cd x y → Ev X k (ord ar 0) L st σ Q) (g2 : ¬ cmpP cd x y → Ev X k (i + 1) L st σ Q) : Ev X k i L (vI y :: vI x :: st) σ Q := by
  have hs : stp X (bp, .if_icmp cd off, ln, ar, z) (i, L, vI y :: vI x :: st, hp σ, ck k, sk k) = some (.inl (if iCmp cd x y = true then ord ar 0 else i + 1, L, st, hp σ, ck k, sk k)) := rfl
  refine e_nx hcd hc hs ?_
  by_cases h : cmpP cd x y
  · rw [if_pos ((iCmp_iff hx hy).mpr h)]; exact g1 h
  · rw [if_neg (fun q => h ((iCmp_iff hx hy).mp q))]; exact g2 h
theorem r_if {bp ln : Nat} {cd : ClassFile.Cond} {off z x : Int} {ar : List Nat} (hcd : cds k = cdl) (hc : cdl[i]? = some (bp, .ifCond cd off, ln, ar, z)) (hx : InR x) (g1 : cmpP cd x 0 → Ev X k (ord ar 0) L st σ Q) (g2 : ¬ cmpP cd x 0 → Ev X k (i + 1) L st σ Q) : Ev X k i L (vI x :: st) σ Q := by
  have hs : stp X (bp, .ifCond cd off, ln, ar, z) (i, L, vI x :: st, hp σ, ck k, sk k) = some (.inl (if iCmp cd x 0 = true then ord ar 0 else i + 1, L, st, hp σ, ck k, sk k)) := rfl
  have hy : InR 0 := by omega
  refine e_nx hcd hc hs ?_
  by_cases h : cmpP cd x 0
  · rw [if_pos ((iCmp_iff hx hy).mpr h)]; exact g1 h
  · rw [if_neg (fun q => h ((iCmp_iff hx hy).mp q))]; exact g2 h
theorem r_tab {bp ln : Nat} {d lo hi z x : Int} {offs : Array Int} {ar : List Nat} (hcd : cds k = cdl) (hc : cdl[i]? = some (bp, .tableswitch d lo hi offs, ln, ar, z)) (hx : InR x) (g : Ev X k (if x < lo ∨ hi < x then ord ar 0 else ord ar (1 + (x - lo).toNat)) L st σ Q) : Ev X k i L (vI x :: st) σ Q := by
  have hs : stp X (bp, .tableswitch d lo hi offs, ln, ar, z) (i, L, vI x :: st, hp σ, ck k, sk k) = some (.inl (if (Int32.ofInt x).toInt < lo ∨ hi < (Int32.ofInt x).toInt then ord ar 0 else ord ar (1 + ((Int32.ofInt x).toInt - lo).toNat), L, st, hp σ, ck k, sk k)) := rfl
  rw [ofR hx] at hs
  exact e_nx hcd hc hs g
theorem r_lkp {bp ln : Nat} {d z x : Int} {ps : Array (Int × Int)} {ar : List Nat} (hcd : cds k = cdl) (hc : cdl[i]? = some (bp, .lookupswitch d ps, ln, ar, z)) (hx : InR x) (g : Ev X k (match ps.toList.findIdx? (fun p => p.1 == x) with
      | some k => ord ar (k + 1)
      | none => ord ar 0) L st σ Q) : Ev X k i L (vI x :: st) σ Q := by
  have hs : stp X (bp, .lookupswitch d ps, ln, ar, z) (i, L, vI x :: st, hp σ, ck k, sk k) = some (.inl ((match ps.toList.findIdx? (fun p => p.1 == (Int32.ofInt x).toInt) with
      | some k => ord ar (k + 1)
      | none => ord ar 0), L, st, hp σ, ck k, sk k)) := rfl
  rw [ofR hx] at hs
  exact e_nx hcd hc hs g
theorem fld_at {fs : List (Option Nat)} {j c : Nat} {o : Option Nat} (h : fs[j]? = some o) : (fs.mapIdx fun j o => fval σ c j o)[j]? = some (fval σ c j o) := by rw [List.getElem?_mapIdx, h]; rfl
theorem r_getI {bp ln ix ci j c : Nat} {z : Int} {ar : List Nat} {fs : List (Option Nat)} (hcd : cds k = cdl) (hc : cdl[i]? = some (bp, .getfield ix, ln, ci :: j :: ar, z)) (hS : SHs[c]? = some (0, ci, fs)) (hj : fs[j]? = some none) (g : Ev X k (i + 1) L (vI (σ.1 c j) :: st) σ Q) : Ev X k i L (vR (some c) :: st) σ Q := by
  refine e_nx hcd hc ?_ g
  show (hObj (hp σ) c ci).bind _ = _
  rw [hp_obj hS]
  show (match (fs.mapIdx fun j o => fval σ c j o)[j]? with | some v => _ | none => _) = _
  rw [fld_at hj]
  rfl
theorem r_getR {bp ln ix ci j c r : Nat} {z : Int} {ar : List Nat} {fs : List (Option Nat)} (hcd : cds k = cdl) (hc : cdl[i]? = some (bp, .getfield ix, ln, ci :: j :: ar, z)) (hS : SHs[c]? = some (0, ci, fs)) (hj : fs[j]? = some (some r)) (g : Ev X k (i + 1) L (vR (some r) :: st) σ Q) : Ev X k i L (vR (some c) :: st) σ Q := by
  refine e_nx hcd hc ?_ g
  show (hObj (hp σ) c ci).bind _ = _
  rw [hp_obj hS]
  show (match (fs.mapIdx fun j o => fval σ c j o)[j]? with | some v => _ | none => _) = _
  rw [fld_at hj]
  rfl
theorem r_putI {bp ln ix ci j t c : Nat} {z x : Int} {ar : List Nat} {fs : List (Option Nat)} (hcd : cds k = cdl) (hc : cdl[i]? = some (bp, .putfield ix, ln, ci :: j :: t :: ar, z)) (hS : SHs[c]? = some (0, ci, fs)) (hj : fs[j]? = some none) (ht : fitF t (vI x) = true) (g : Ev X k (i + 1) L st (up2 σ.1 c j x, σ.2) Q) : Ev X k i L (vI x :: vR (some c) :: st) σ Q := by
  rw [up2_eq] at g
  refine e_nx hcd hc ?_ g
  show (hObj (hp σ) c ci).bind _ = _
  rw [hp_obj hS]
  show (if j < (fs.mapIdx fun j o => fval σ c j o).length ∧ fitF t (vI x) = true then nx (i + 1) L st ((hp σ).set c (.inr (ci, (fs.mapIdx fun j o => fval σ c j o).set j (vI x)))) (ck k) (sk k) else none) = _
  rw [if_pos ⟨by rw [List.length_mapIdx]; exact (List.getElem?_eq_some_iff.mp hj).1, ht⟩, hp_putF hS hj]
  rfl
theorem at2_in {n : Nat} {f : Nat → Int} {j : Int} (h : 0 ≤ j ∧ j < n) : at2 n f j = some (f j.toNat) := if_pos h
theorem r_ild {bp ln c n : Nat} {z j : Int} {ar : List Nat} {es : List (Option Nat)} (hcd : cds k = cdl) (hc : cdl[i]? = some (bp, .iaload, ln, ar, z)) (hS : SHs[c]? = some (1, n, es)) (hn : n ≤ 100000) (hj : 0 ≤ j ∧ j < n) (g : Ev X k (i + 1) L (vI (σ.2 c j.toNat) :: st) σ Q) : Ev X k i L (vI j :: vR (some c) :: st) σ Q := by
  refine e_nx hcd hc ?_ g
  show (xInt X (hp σ) c).bind _ = _
  unfold xInt
  rw [if_pos (SHs_lt hS), hp_int hS hn]
  show (at2 n (σ.2 c) j).bind _ = _
  rw [at2_in hj]
  rfl
theorem r_xld {bp ln c : Nat} {z j : Int} {ar : List Nat} (hcd : cds k = cdl) (hc : cdl[i]? = some (bp, .iaload, ln, ar, z)) (h1 : PK + 11 ≤ c) (h2 : c < PK + 15) (hj : 0 ≤ j ∧ j < (X (c - PK)).1) (g : Ev X k (i + 1) L (vI ((X (c - PK)).2 j.toNat) :: st) σ Q) : Ev X k i L (vI j :: vR (some c) :: st) σ Q := by
  refine e_nx hcd hc ?_ g
  show (xInt X (hp σ) c).bind _ = _
  unfold xInt
  rw [if_neg (by omega), if_neg (by omega), if_pos h2]
  show (at2 (X (c - PK)).1 (X (c - PK)).2 j).bind _ = _
  rw [at2_in hj]
  rfl
theorem r_xln {bp ln c : Nat} {z : Int} {ar : List Nat} (hcd : cds k = cdl) (hc : cdl[i]? = some (bp, .arraylength, ln, ar, z)) (h1 : PK + 11 ≤ c) (h2 : c < PK + 15) (g : Ev X k (i + 1) L (vI (X (c - PK)).1 :: st) σ Q) : Ev X k i L (vR (some c) :: st) σ Q := by
  refine e_nx hcd hc ?_ g
  show (xInt X (hp σ) c).bind _ = _
  unfold xInt
  rw [if_neg (by omega), if_neg (by omega), if_pos h2]
  rfl
theorem r_bld {bp ln c n : Nat} {z j : Int} {ar : List Nat} {es : List (Option Nat)} (hcd : cds k = cdl) (hc : cdl[i]? = some (bp, .baload, ln, ar, z)) (hS : SHs[c]? = some (2, n, es)) (hn : n ≤ 100000) (hj : 0 ≤ j ∧ j < n) (g : Ev X k (i + 1) L (vI (σ.2 c j.toNat) :: st) σ Q) : Ev X k i L (vI j :: vR (some c) :: st) σ Q := by
  refine e_nx hcd hc ?_ g
  show (hInt .boolean (hp σ) c).bind _ = _
  rw [hp_bool hS hn]
  show (at2 n (σ.2 c) j).bind _ = _
  rw [at2_in hj]
  rfl
theorem r_lld {bp ln c n : Nat} {z j : Int} {ar : List Nat} {es : List (Option Nat)} (hcd : cds k = cdl) (hc : cdl[i]? = some (bp, .laload, ln, ar, z)) (hS : SHs[c]? = some (3, n, es)) (hn : n ≤ 100000) (hj : 0 ≤ j ∧ j < n) (g : Ev X k (i + 1) L (vL (σ.2 c j.toNat) :: st) σ Q) : Ev X k i L (vI j :: vR (some c) :: st) σ Q := by
  refine e_nx hcd hc ?_ g
  show (hLong (hp σ) c).bind _ = _
  rw [hp_long hS hn]
  show (at2 n (σ.2 c) j).bind _ = _
  rw [at2_in hj]
  rfl
theorem r_ald {bp ln c ci q : Nat} {z j : Int} {ar : List Nat} {es : List (Option Nat)} (hcd : cds k = cdl) (hc : cdl[i]? = some (bp, .aaload, ln, ci :: ar, z)) (hS : SHs[c]? = some (4, ci, es)) (hn : es.length ≤ 100000) (hj : 0 ≤ j ∧ j < es.length) (hq : es[j.toNat]? = some (some q)) (g : Ev X k (i + 1) L (vR (some q) :: st) σ Q) : Ev X k i L (vI j :: vR (some c) :: st) σ Q := by
  refine e_nx hcd hc ?_ g
  show (hRef (hp σ) c).bind _ = _
  rw [hp_ref hS hn]
  show (if 0 ≤ j ∧ j < es.length ∧ FieldType.object (vC ci).1 = FieldType.object (vC ci).1 then nx (i + 1) L (vR ((es[j.toNat]?).bind id) :: st) (hp σ) (ck k) (sk k) else none) = _
  rw [if_pos ⟨hj.1, hj.2, rfl⟩, hq]
  rfl
theorem r_ist {bp ln c n : Nat} {z j x : Int} {ar : List Nat} {es : List (Option Nat)} (hcd : cds k = cdl) (hc : cdl[i]? = some (bp, .iastore, ln, ar, z)) (hS : SHs[c]? = some (1, n, es)) (hn : n ≤ 100000) (hj : 0 ≤ j ∧ j < n) (g : Ev X k (i + 1) L st (σ.1, up2 σ.2 c j.toNat x) Q) : Ev X k i L (vI x :: vI j :: vR (some c) :: st) σ Q := by
  rw [up2_eq] at g
  refine e_nx hcd hc ?_ g
  show (hInt .int (hp σ) c).bind _ = _
  rw [hp_int hS hn]
  show (if 0 ≤ j ∧ j < n then nx (i + 1) L st ((hp σ).set c (.inl (.int, n, .inl (up (σ.2 c) j.toNat x)))) (ck k) (sk k) else none) = _
  rw [if_pos hj, ← hp_putA (σ := σ) (g := up (σ.2 c) j.toNat x) hS]
  simp [hcell, up_same, nx]
theorem r_bst {bp ln c n : Nat} {z j x : Int} {ar : List Nat} {es : List (Option Nat)} (hcd : cds k = cdl) (hc : cdl[i]? = some (bp, .bastore, ln, ar, z)) (hS : SHs[c]? = some (2, n, es)) (hn : n ≤ 100000) (hj : 0 ≤ j ∧ j < n) (hx : x = 0 ∨ x = 1) (g : Ev X k (i + 1) L st (σ.1, up2 σ.2 c j.toNat x) Q) : Ev X k i L (vI x :: vI j :: vR (some c) :: st) σ Q := by
  rw [up2_eq] at g
  refine e_nx hcd hc ?_ g
  show (hInt .boolean (hp σ) c).bind _ = _
  rw [hp_bool hS hn]
  show (if 0 ≤ j ∧ j < n ∧ (x = 0 ∨ x = 1) then nx (i + 1) L st ((hp σ).set c (.inl (.boolean, n, .inl (up (σ.2 c) j.toNat x)))) (ck k) (sk k) else none) = _
  rw [if_pos ⟨hj.1, hj.2, hx⟩, ← hp_putA (σ := σ) (g := up (σ.2 c) j.toNat x) hS]
  simp [hcell, up_same, nx]
theorem r_lst {bp ln c n : Nat} {z j x : Int} {ar : List Nat} {es : List (Option Nat)} (hcd : cds k = cdl) (hc : cdl[i]? = some (bp, .lastore, ln, ar, z)) (hS : SHs[c]? = some (3, n, es)) (hn : n ≤ 100000) (hj : 0 ≤ j ∧ j < n) (g : Ev X k (i + 1) L st (σ.1, up2 σ.2 c j.toNat x) Q) : Ev X k i L (vL x :: vI j :: vR (some c) :: st) σ Q := by
  rw [up2_eq] at g
  refine e_nx hcd hc ?_ g
  show (hLong (hp σ) c).bind _ = _
  rw [hp_long hS hn]
  show (if 0 ≤ j ∧ j < n then nx (i + 1) L st ((hp σ).set c (.inl (.long, n, .inr (.inl (up (σ.2 c) j.toNat x))))) (ck k) (sk k) else none) = _
  rw [if_pos hj, ← hp_putA (σ := σ) (g := up (σ.2 c) j.toNat x) hS]
  simp [hcell, up_same, nx]
theorem r_cpy {bp ln ix s d n m : Nat} {z sp dp w : Int} {ar : List Nat} {es fs : List (Option Nat)} (hcd : cds k = cdl) (hc : cdl[i]? = some (bp, .invokestatic ix, ln, 901 :: ar, z)) (hS : SHs[s]? = some (1, n, es)) (hn : n ≤ 100000) (hD : SHs[d]? = some (1, m, fs)) (hm : m ≤ 100000) (h1 : 0 ≤ sp ∧ 0 ≤ dp ∧ 0 ≤ w ∧ sp + w ≤ n ∧ dp + w ≤ m) (h8 : catS st ≤ 8) (g : Ev X k (i + 1) L st (σ.1, upc σ.2 s d sp.toNat dp.toNat w.toNat) Q) : Ev X k i L (vI w :: vI dp :: vR (some d) :: vI sp :: vR (some s) :: st) σ Q := by
  refine e_nx hcd hc ?_ g
  show (hInt .int (hp σ) s).bind _ = _
  rw [hp_int hS hn]
  show (hInt .int (hp σ) d).bind _ = _
  rw [hp_int hD hm]
  show (if 0 ≤ sp ∧ 0 ≤ dp ∧ 0 ≤ w ∧ sp + w ≤ n ∧ dp + w ≤ m ∧ n ≤ 100000 ∧ m ≤ 100000 ∧ catS st ≤ 8 then nx (i + 1) L st ((hp σ).set d (.inl (.int, m, .inl (cpy (σ.2 s) (σ.2 d) sp.toNat dp.toNat w.toNat)))) (ck k) (sk k) else none) = some (.inl (i + 1, L, st, hp (σ.1, up σ.2 d (cpy (σ.2 s) (σ.2 d) sp.toNat dp.toNat w.toNat)), ck k, sk k))
  rw [if_pos ⟨h1.1, h1.2.1, h1.2.2.1, h1.2.2.2.1, h1.2.2.2.2, hn, hm, h8⟩, ← hp_putA (σ := σ) (g := cpy (σ.2 s) (σ.2 d) sp.toNat dp.toNat w.toNat) hD]
  simp [hcell, up_same, nx]
theorem r_div {bp ln : Nat} {z x y : Int} {ar : List Nat} (hcd : cds k = cdl) (hc : cdl[i]? = some (bp, .idiv, ln, ar, z)) (hy : InR y) (h0 : y ≠ 0) (g : Ev X k (i + 1) L (vI (iDiv x y) :: st) σ Q) : Ev X k i L (vI y :: vI x :: st) σ Q := by
  refine e_nx hcd hc ?_ g
  have : ¬ Int32.ofInt y = 0 := fun q => h0 ((o_eq hy (by omega)).mp (q.trans rfl))
  show (Option.map _ (if Int32.ofInt y = 0 then none else some (vI (iDiv x y)))).bind _ = _
  rw [if_neg this]
  rfl
theorem r_rem {bp ln : Nat} {z x y : Int} {ar : List Nat} (hcd : cds k = cdl) (hc : cdl[i]? = some (bp, .irem, ln, ar, z)) (hy : InR y) (h0 : y ≠ 0) (g : Ev X k (i + 1) L (vI (iRem x y) :: st) σ Q) : Ev X k i L (vI y :: vI x :: st) σ Q := by
  refine e_nx hcd hc ?_ g
  have : ¬ Int32.ofInt y = 0 := fun q => h0 ((o_eq hy (by omega)).mp (q.trans rfl))
  show (Option.map _ (if Int32.ofInt y = 0 then none else some (vI (iRem x y)))).bind _ = _
  rw [if_neg this]
  rfl
theorem r_max {bp ln ix : Nat} {z x y : Int} {ar : List Nat} (hcd : cds k = cdl) (hc : cdl[i]? = some (bp, .invokestatic ix, ln, 904 :: ar, z)) (hx : InR x) (hy : InR y) (h8 : catS st ≤ 8) (g : Ev X k (i + 1) L (vI (max x y) :: st) σ Q) : Ev X k i L (vI y :: vI x :: st) σ Q := by
  refine e_nx hcd hc ?_ g
  show (if catS st ≤ 8 then nx (i + 1) L (vI (if Int32.ofInt x < Int32.ofInt y then y else x) :: st) (hp σ) (ck k) (sk k) else none) = _
  rw [if_pos h8, show (if Int32.ofInt x < Int32.ofInt y then y else x) = max x y from by simp only [o_lt hx hy]; omega]
  rfl
theorem r_min {bp ln ix : Nat} {z x y : Int} {ar : List Nat} (hcd : cds k = cdl) (hc : cdl[i]? = some (bp, .invokestatic ix, ln, 905 :: ar, z)) (hx : InR x) (hy : InR y) (h8 : catS st ≤ 8) (g : Ev X k (i + 1) L (vI (min x y) :: st) σ Q) : Ev X k i L (vI y :: vI x :: st) σ Q := by
  refine e_nx hcd hc ?_ g
  show (if catS st ≤ 8 then nx (i + 1) L (vI (if Int32.ofInt y < Int32.ofInt x then y else x) :: st) (hp σ) (ck k) (sk k) else none) = _
  rw [if_pos h8, show (if Int32.ofInt y < Int32.ofInt x then y else x) = min x y from by simp only [o_lt hy hx]; omega]
  rfl
theorem r_abs {bp ln ix : Nat} {z x : Int} {ar : List Nat} (hcd : cds k = cdl) (hc : cdl[i]? = some (bp, .invokestatic ix, ln, 906 :: ar, z)) (hx : InR x) (h8 : catS st ≤ 8) (g : Ev X k (i + 1) L (vI (if x < 0 then -x else x) :: st) σ Q) : Ev X k i L (vI x :: st) σ Q := by
  refine e_nx hcd hc ?_ g
  show (if catS st ≤ 8 then nx (i + 1) L (vI (if Int32.ofInt x < 0 then -x else x) :: st) (hp σ) (ck k) (sk k) else none) = _
  rw [if_pos h8, show (if Int32.ofInt x < 0 then -x else x) = (if x < 0 then -x else x) from by simp only [show Int32.ofInt x < 0 ↔ x < 0 from o_lt hx (show InR 0 by omega)]]
  rfl
theorem r_stl {bp ln ix c : Nat} {z : Int} {ar : List Nat} (hcd : cds k = cdl) (hc : cdl[i]? = some (bp, .invokevirtual ix, ln, 902 :: ar, z)) (h1 : PK ≤ c) (h2 : c < PK + 11) (h8 : catS st ≤ 8) (g : Ev X k (i + 1) L (vI (X (c - PK)).1 :: st) σ Q) : Ev X k i L (vR (some c) :: st) σ Q := by
  refine e_nx hcd hc ?_ g
  show (if PK ≤ c ∧ c < PK + 11 ∧ catS st ≤ 8 then _ else none) = _
  rw [if_pos ⟨h1, h2, h8⟩]
  rfl
theorem r_stc {bp ln ix c : Nat} {z j : Int} {ar : List Nat} (hcd : cds k = cdl) (hc : cdl[i]? = some (bp, .invokevirtual ix, ln, 903 :: ar, z)) (h1 : PK ≤ c) (h2 : c < PK + 11) (h8 : catS st ≤ 8) (hj : 0 ≤ j ∧ j < (X (c - PK)).1) (g : Ev X k (i + 1) L (vI ((X (c - PK)).2 j.toNat) :: st) σ Q) : Ev X k i L (vI j :: vR (some c) :: st) σ Q := by
  refine e_nx hcd hc ?_ g
  show (if PK ≤ c ∧ c < PK + 11 ∧ catS st ≤ 8 then (at2 (X (c - PK)).1 (X (c - PK)).2 j).bind _ else none) = _
  rw [if_pos ⟨h1, h2, h8⟩, at2_in hj]
  rfl
/-- a virtual call: the arguments lie ahead of the receiver, last on top -/
theorem r_cv {bp ln ix k2 n ci c : Nat} {z : Int} {ar : List Nat} {fs : List (Option Nat)} {as r : List PV} (hcd : cds k = cdl) (hc : cdl[i]? = some (bp, .invokevirtual ix, ln, k2 :: n :: ci :: ar, z)) (hk : k2 < 900) (hS : SHs[c]? = some (0, ci, fs)) (hd : st.drop n = vR (some c) :: r) (ha : (st.take n).reverse = as) (h8 : catS r ≤ 8) (g : Cl X k2 (vR (some c) :: as) σ (fun v τ => Ev X k (i + 1) L (v.toList ++ r) τ Q)) : Ev X k i L st σ Q := by
  refine e_call hcd hc ?_ g
  subst ha
  have h2 : ¬ k2 = 902 := by omega
  have h3 : ¬ k2 = 903 := by omega
  show (if k2 = 902 then _ else if k2 = 903 then _ else match st.drop n with | .inr (.inr (some c)) :: r => (if (hObj (hp σ) c ci).isSome = true ∧ catS r ≤ 8 then _ else none) | _ => none) = _
  rw [if_neg h2, if_neg h3, hd]
  show (if (hObj (hp σ) c ci).isSome = true ∧ catS r ≤ 8 then _ else none) = _
  rw [if_pos ⟨by rw [hp_obj hS]; rfl, h8⟩]
  rfl
theorem r_cs {bp ln ix k2 n : Nat} {z : Int} {ar : List Nat} {as r : List PV} (hcd : cds k = cdl) (hc : cdl[i]? = some (bp, .invokestatic ix, ln, k2 :: n :: ar, z)) (hk : k2 < 900) (hn : n ≤ st.length) (hd : st.drop n = r) (ha : (st.take n).reverse = as) (h8 : catS r ≤ 8) (g : Cl X k2 as σ (fun v τ => Ev X k (i + 1) L (v.toList ++ r) τ Q)) : Ev X k i L st σ Q := by
  refine e_call hcd hc ?_ g
  subst ha hd
  show (if k2 = 901 then _ else if k2 = 904 then _ else if k2 = 905 then _ else if k2 = 906 then _ else if n ≤ st.length ∧ catS (st.drop n) ≤ 8 then _ else none) = _
  rw [if_neg (by omega), if_neg (by omega), if_neg (by omega), if_neg (by omega), if_pos ⟨hn, h8⟩]
  rfl
theorem r_iret {bp ln a b : Nat} {z x : Int} (hcd : cds k = cdl) (hc : cdl[i]? = some (bp, .ireturn, ln, [0, a, b], z)) (ha : ck k = a) (hb : sk k = b) (q : Q (some (vI x)) σ) : Ev X k i L [vI x] σ Q := e_ret hcd hc (if_pos ⟨ha, hb, Or.inl rfl⟩) q
theorem r_zret {bp ln a b : Nat} {z x : Int} (hcd : cds k = cdl) (hc : cdl[i]? = some (bp, .ireturn, ln, [1, a, b], z)) (ha : ck k = a) (hb : sk k = b) (hx : x = 0 ∨ x = 1) (q : Q (some (vI x)) σ) : Ev X k i L [vI x] σ Q := e_ret hcd hc (if_pos ⟨ha, hb, Or.inr hx⟩) q
theorem r_lret {bp ln a b c : Nat} {z x : Int} (hcd : cds k = cdl) (hc : cdl[i]? = some (bp, .lreturn, ln, [c, a, b], z)) (ha : ck k = a) (hb : sk k = b) (q : Q (some (vL x)) σ) : Ev X k i L [vL x] σ Q := e_ret hcd hc (if_pos ⟨ha, hb⟩) q
theorem r_vret {bp ln a b c : Nat} {z : Int} (hcd : cds k = cdl) (hc : cdl[i]? = some (bp, .return_, ln, [c, a, b], z)) (ha : ck k = a) (hb : sk k = b) (q : Q none σ) : Ev X k i L [] σ Q := e_ret hcd hc (if_pos ⟨ha, hb⟩) q
/-- locals that nobody reads again -/
def lleq (A B : PL) : Prop := A.length = B.length ∧ ∀ (j : Nat) (v : PV), A[j]? = some (some v) → B[j]? = some (some v)
theorem lleq.get {A B : PL} (h : lleq A B) {j : Nat} {v : PV} (q : lget A j = some v) : lget B j = some v := by
  unfold lget at q
  split at q
  · next w hw => cases q; unfold lget; rw [h.2 j _ hw]
  · cases q
theorem lput_at {L : PL} {i j : Nat} {v w : PV} (h : (lput L i v)[j]? = some (some w)) : (j = i ∧ w = v) ∨ (j ≠ i ∧ L[j]? = some (some w) ∧ ¬ (j + 1 = i ∧ isLg L[j]? = true)) := by
  unfold lput at h
  rw [List.getElem?_set] at h
  split at h
  · next e =>
    split at h
    · cases h; exact Or.inl ⟨e.symm, rfl⟩
    · cases h
  · next e => exact Or.inr ⟨fun q => e q.symm, lclr_at h⟩
theorem lput_of {L : PL} {i j : Nat} {v w : PV} (hi : i < L.length) (h : (j = i ∧ w = v) ∨ (j ≠ i ∧ L[j]? = some (some w) ∧ ¬ (j + 1 = i ∧ isLg L[j]? = true))) : (lput L i v)[j]? = some (some w) := by
  unfold lput
  rw [List.getElem?_set]
  rcases h with ⟨rfl, rfl⟩ | ⟨h1, h2, h3⟩
  · rw [if_pos rfl, lclr_len, if_pos hi]
  · rw [if_neg (fun q => h1 q.symm)]
    cases i with
    | zero => exact h2
    | succ m =>
      simp only [lclr]
      split
      · next hl =>
        rw [List.getElem?_set]
        split
        · next e => subst e; exact absurd ⟨rfl, hl⟩ h3
        · exact h2
      · exact h2
theorem lleq.put {A B : PL} (h : lleq A B) {i : Nat} (v : PV) (hi : i < A.length) : lleq (lput A i v) (lput B i v) := by
  refine ⟨by unfold lput; rw [List.length_set, List.length_set, lclr_len, lclr_len]; exact h.1, fun j w q => ?_⟩
  refine lput_of (by rw [← h.1]; exact hi) ?_
  rcases lput_at q with q | ⟨q1, q2, q3⟩
  · exact Or.inl q
  · have q4 := h.2 j w q2
    refine Or.inr ⟨q1, q4, fun e => q3 ⟨e.1, ?_⟩⟩
    rw [q2]
    rw [q4] at e
    exact e.2
theorem lput2_eq {L : PL} {i : Nat} {v : PV} : lput2 L i v = (lput L i v).set (i + 1) none := rfl
theorem lleq.put2 {A B : PL} (h : lleq A B) {i : Nat} (v : PV) (hi : i < A.length) : lleq (lput2 A i v) (lput2 B i v) := by
  have h1 := h.put v hi
  refine ⟨by rw [lput2_eq, lput2_eq, List.length_set, List.length_set]; exact h1.1, fun j w q => ?_⟩
  rw [lput2_eq, List.getElem?_set] at q ⊢
  split at q
  · split at q <;> cases q
  · next e => rw [if_neg e]; exact h1.2 j w q
def fg (ks : List Nat) (B : PL) : PL := ks.foldl (fun B k => B.set k none) B
theorem fg_le : ∀ (ks : List Nat) (B : PL), lleq (fg ks B) B
  | [], B => ⟨rfl, fun _ _ h => h⟩
  | k :: ks, B => by
    obtain ⟨h1, h2⟩ := fg_le ks (B.set k none)
    refine ⟨by show (fg ks (B.set k none)).length = _; rw [h1, List.length_set], fun j v h => ?_⟩
    have h3 := h2 j v h
    rw [List.getElem?_set] at h3
    split at h3
    · split at h3 <;> cases h3
    · exact h3
def setL (L : PL) (o : PO) : PO := match o with
  | .inl (i, _, st, h, cs, sl) => .inl (i, L, st, h, cs, sl)
  | .inr w => .inr w
def isLoc (ins : Instr) : Bool := match ins with
  | .iload_n _ | .iload _ | .lload_n _ | .lload _ | .aload_n _ | .aload _ | .istore_n _ | .istore _ | .lstore_n _ | .lstore _ | .astore_n _ | .astore _ | .iinc _ _ => true
  | _ => false
theorem bind_map {α β γ : Type} {o : Option α} {f : α → Option β} {g : α → Option γ} {m : β → γ} (h : ∀ a, g a = (f a).map m) : o.bind g = (o.bind f).map m := by
  cases o with
  | none => rfl
  | some a => exact h a
set_option maxHeartbeats 4000000 in
theorem stp_L {X : PX} {bp ln : Nat} {ins : Instr} {ar : List Nat} {z : Int} (hloc : isLoc ins = false) (i : Nat) (L : PL) (st : List PV) (h : PHp) (cs sl : Nat) : stp X (bp, ins, ln, ar, z) (i, L, st, h, cs, sl) = (stp X (bp, ins, ln, ar, z) (i, [], st, h, cs, sl)).map (setL L) := by
  cases ins <;> first
    | (cases hloc; done)
    | rfl
    | (dsimp only [stp]; exact bind_map (fun _ => rfl))
    | (dsimp only [stp]; split <;> first | rfl | exact bind_map (fun _ => rfl) | (split <;> first | rfl | (split <;> first | rfl | (split <;> rfl))))
    | (dsimp only [stp]; split <;> first | rfl | (refine bind_map (fun _ => ?_); first | rfl | (split <;> rfl) | exact bind_map (fun _ => rfl) | (refine bind_map (fun _ => ?_); split <;> rfl)))
    | (dsimp only [stp]; repeat' split
       all_goals first | rfl | exact bind_map (fun _ => rfl) | (refine bind_map (fun _ => ?_); first | rfl | (split <;> rfl) | (refine bind_map (fun _ => ?_); first | rfl | (split <;> rfl))))
theorem ld_fg {A B : PL} (h : lleq A B) {kd j : Nat} {f : PV → Option PO} {r : PO} (q : (ld A kd j).bind f = some r) : ∃ v, (ld A kd j) = some v ∧ ld B kd j = some v ∧ f v = some r := by
  obtain ⟨v, h1, h2⟩ := Option.bind_eq_some_iff.mp q
  refine ⟨v, h1, ?_, h2⟩
  cases hg : lget A j with
  | none => unfold ld at h1; rw [hg] at h1; cases h1
  | some w =>
    unfold ld at h1 ⊢
    rw [hg] at h1
    rw [h.get hg]
    exact h1
theorem stp_fg {X : PX} {en : PEn} {A B : PL} (h : lleq A B) {i : Nat} {st : List PV} {hh : PHp} {cs sl : Nat} {o : PO} (q : stp X en (i, A, st, hh, cs, sl) = some o) : (∃ w, o = .inr w ∧ stp X en (i, B, st, hh, cs, sl) = some (.inr w)) ∨ ∃ i2 A2 B2 st2 h2 cs2 sl2, o = .inl (i2, A2, st2, h2, cs2, sl2) ∧ stp X en (i, B, st, hh, cs, sl) = some (.inl (i2, B2, st2, h2, cs2, sl2)) ∧ lleq A2 B2 := by
  obtain ⟨bp, ins, ln, ar, z⟩ := en
  by_cases hl : isLoc ins = false
  · rw [stp_L hl] at q
    rw [stp_L hl]
    cases hs : stp X (bp, ins, ln, ar, z) (i, [], st, hh, cs, sl) with
    | none => rw [hs] at q; cases q
    | some p =>
      rw [hs] at q
      match p with
      | .inr w => cases q; exact Or.inl ⟨w, rfl, rfl⟩
      | .inl (i2, _, st2, h2, cs2, sl2) => cases q; exact Or.inr ⟨i2, A, B, st2, h2, cs2, sl2, rfl, rfl, h⟩
  · right
    cases ins <;> first | (exact absurd rfl hl) | skip
    case iload_n j => obtain ⟨v, h1, h2, h3⟩ := ld_fg h q; cases h3; exact ⟨_, _, B, _, _, _, _, rfl, by show (ld B 0 j).bind _ = _; rw [h2]; rfl, h⟩
    case iload j => obtain ⟨v, h1, h2, h3⟩ := ld_fg h q; cases h3; exact ⟨_, _, B, _, _, _, _, rfl, by show (ld B 0 j).bind _ = _; rw [h2]; rfl, h⟩
    case lload_n j => obtain ⟨v, h1, h2, h3⟩ := ld_fg h q; cases h3; exact ⟨_, _, B, _, _, _, _, rfl, by show (ld B 1 j).bind _ = _; rw [h2]; rfl, h⟩
    case lload j => obtain ⟨v, h1, h2, h3⟩ := ld_fg h q; cases h3; exact ⟨_, _, B, _, _, _, _, rfl, by show (ld B 1 j).bind _ = _; rw [h2]; rfl, h⟩
    case aload_n j => obtain ⟨v, h1, h2, h3⟩ := ld_fg h q; cases h3; exact ⟨_, _, B, _, _, _, _, rfl, by show (ld B 2 j).bind _ = _; rw [h2]; rfl, h⟩
    case aload j => obtain ⟨v, h1, h2, h3⟩ := ld_fg h q; cases h3; exact ⟨_, _, B, _, _, _, _, rfl, by show (ld B 2 j).bind _ = _; rw [h2]; rfl, h⟩
    case iinc j n =>
      dsimp only [stp] at q
      split at q
      · next x hx =>
        cases q
        have hj : j < A.length := by
          unfold lget at hx
          split at hx
          · next w hw => exact (List.getElem?_eq_some_iff.mp hw).1
          · cases hx
        exact ⟨_, _, lput B j (vI (x + n)), _, _, _, _, rfl, by dsimp only [stp]; rw [h.get hx]; rfl, h.put _ hj⟩
      · cases q
    case istore_n j =>
      dsimp only [stp] at q
      split at q
      · split at q
        · next x r hj => cases q; exact ⟨_, _, lput B j (vI x), _, _, _, _, rfl, by dsimp only [stp]; rw [if_pos (by rw [← h.1]; exact hj)]; rfl, h.put _ hj⟩
        · cases q
      · cases q
    case istore j =>
      dsimp only [stp] at q
      split at q
      · split at q
        · next x r hj => cases q; exact ⟨_, _, lput B j (vI x), _, _, _, _, rfl, by dsimp only [stp]; rw [if_pos (by rw [← h.1]; exact hj)]; rfl, h.put _ hj⟩
        · cases q
      · cases q
    case astore_n j =>
      dsimp only [stp] at q
      split at q
      · split at q
        · next x r hj => cases q; exact ⟨_, _, lput B j (vR (some x)), _, _, _, _, rfl, by dsimp only [stp]; rw [if_pos (by rw [← h.1]; exact hj)]; rfl, h.put _ hj⟩
        · cases q
      · cases q
    case astore j =>
      dsimp only [stp] at q
      split at q
      · split at q
        · next x r hj => cases q; exact ⟨_, _, lput B j (vR (some x)), _, _, _, _, rfl, by dsimp only [stp]; rw [if_pos (by rw [← h.1]; exact hj)]; rfl, h.put _ hj⟩
        · cases q
      · cases q
    case lstore_n j =>
      dsimp only [stp] at q
      split at q
      · split at q
        · next x r hj => cases q; exact ⟨_, _, lput2 B j (vL x), _, _, _, _, rfl, by dsimp only [stp]; rw [if_pos (by rw [← h.1]; exact hj)]; rfl, h.put2 _ (by omega)⟩
        · cases q
      · cases q
    case lstore j =>
      dsimp only [stp] at q
      split at q
      · split at q
        · next x r hj => cases q; exact ⟨_, _, lput2 B j (vL x), _, _, _, _, rfl, by dsimp only [stp]; rw [if_pos (by rw [← h.1]; exact hj)]; rfl, h.put2 _ (by omega)⟩
        · cases q
      · cases q
theorem run_fg {X : PX} : ∀ (n k i : Nat) (A B : PL) (st : List PV) (h : PHp) (cs sl : Nat) (r : Option PV × PHp), lleq A B → run X cds mi n k (i, A, st, h, cs, sl) = some r → run X cds mi n k (i, B, st, h, cs, sl) = some r := by
  intro n
  induction n with
  | zero => intro k i A B st h cs sl r hl q; simp [run] at q
  | succ n ih =>
    intro k i A B st h cs sl r hl q
    rw [run] at q ⊢
    dsimp only at q ⊢
    split at q
    · cases q
    · next e he =>
      try rw [he]
      try dsimp only at q ⊢
      cases hs : stp X e (i, A, st, h, cs, sl) with
      | none => rw [hs] at q; cases q
      | some o =>
        rw [hs] at q
        rcases stp_fg hl hs with ⟨w, rfl, h1⟩ | ⟨i2, A2, B2, st2, h2, cs2, sl2, rfl, h1, h3⟩
        · rw [h1]
          match w with
          | .inl v => exact q
          | .inr (k2, as, r2) =>
            dsimp only at q ⊢
            split at q
            · next hb =>
              rw [if_pos hb]
              split at q
              · cases q
              · next v h4 hr =>
                try rw [hr]
                exact ih _ _ _ _ _ _ _ _ _ hl q
            · cases q
        · rw [h1]
          dsimp only at q ⊢
          split at q
          · next hb => rw [if_pos hb]; exact ih _ _ _ _ _ _ _ _ _ h3 q
          · cases q
theorem e_fg (ks : List Nat) (g : Ev X k i (fg ks L) st σ Q) : Ev X k i L st σ Q := by
  obtain ⟨n, v, τ, h1, h2⟩ := g
  exact ⟨n, v, τ, run_fg n k i _ _ st _ (ck k) (sk k) _ (fg_le ks L) h1, h2⟩
theorem tab_def {ar : List Nat} {lo hi x : Int} (h : lo ≤ x → x ≤ hi → ord ar (1 + (x - lo).toNat) = ord ar 0) : (if x < lo ∨ hi < x then ord ar 0 else ord ar (1 + (x - lo).toNat)) = ord ar 0 := by
  split
  · rfl
  · exact h (by omega) (by omega)
theorem fit1 {x : Int} (h : x = 0 ∨ x = 1) : fitF 1 (vI x) = true := by rcases h with rfl | rfl <;> rfl
theorem c_in {as : List PV} (h1 : (pargs as).length ≤ mL k) (h2 : mMc k = 0) (h3 : mMs k = 0) (g : Ev X k 0 (pent (mL k) as) [] σ Q) : Cl X k as σ Q := ⟨h1, h2, h3, g⟩
end RULES
