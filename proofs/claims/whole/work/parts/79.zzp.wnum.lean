/-! ===== how often a loop goes round a cell of the grid ===== -/
noncomputable def iN (P : Prop) : Int := @ite Int P (Classical.propDecidable P) 1 0
theorem iN_t {P : Prop} (h : P) : iN P = 1 := if_pos h
theorem iN_f {P : Prop} (h : ¬ P) : iN P = 0 := if_neg h
theorem iN_01 (P : Prop) : iN P = 0 ∨ iN P = 1 := by
  by_cases h : P
  · exact Or.inr (iN_t h)
  · exact Or.inl (iN_f h)
theorem iN_iff {P Q : Prop} (h : P ↔ Q) : iN P = iN Q := by
  have e : P = Q := propext h
  rw [e]
def BC (C : Int → Int → Bool) (W H : Int) : Prop := 0 ≤ W ∧ 0 ≤ H ∧ ∀ i j, C i j = true → 0 ≤ i ∧ i < W ∧ 0 ≤ j ∧ j < H
/-- a set of sides that is closed under going on and back -/
def OS (C : Int → Int → Bool) (O : wlk → Prop) : Prop := (∀ q, O q → isS C q) ∧ ∀ q, isS C q → (O (stp C q) ↔ O q)
section
variable {C : Int → Int → Bool} {O : wlk → Prop} {W H : Int}
theorem BC_f (b : BC C W H) {i j : Int} (h : ¬ (0 ≤ i ∧ i < W ∧ 0 ≤ j ∧ j < H)) : C i j = false := by
  cases e : C i j
  · rfl
  · exact absurd (b.2.2 i j e) h
theorem st_0 (i j : Int) : stp C (i - 1, j, 0) = (i, j, ot4 (C i j) (C (i - 1) j) (C (i - 1) (j - 1)) (C i (j - 1)) 0) := by
  have e1 : goX (i - 1, j, 0) = i := by show i - 1 + 1 = i; omega
  have e2 : goY (i - 1, j, 0) = j := rfl
  unfold stp
  rw [goW_4, e1, e2]
theorem st_1 (i j : Int) : stp C (i, j - 1, 1) = (i, j, ot4 (C i j) (C (i - 1) j) (C (i - 1) (j - 1)) (C i (j - 1)) 1) := by
  have e1 : goX (i, j - 1, 1) = i := rfl
  have e2 : goY (i, j - 1, 1) = j := by show j - 1 + 1 = j; omega
  unfold stp
  rw [goW_4, e1, e2]
theorem st_2 (i j : Int) : stp C (i + 1, j, 2) = (i, j, ot4 (C i j) (C (i - 1) j) (C (i - 1) (j - 1)) (C i (j - 1)) 2) := by
  have e1 : goX (i + 1, j, 2) = i := by show i + 1 - 1 = i; omega
  have e2 : goY (i + 1, j, 2) = j := rfl
  unfold stp
  rw [goW_4, e1, e2]
theorem st_3 (i j : Int) : stp C (i, j + 1, 3) = (i, j, ot4 (C i j) (C (i - 1) j) (C (i - 1) (j - 1)) (C i (j - 1)) 3) := by
  have e1 : goX (i, j + 1, 3) = i := rfl
  have e2 : goY (i, j + 1, 3) = j := by show j + 1 - 1 = j; omega
  unfold stp
  rw [goW_4, e1, e2]
theorem is_0 (i j : Int) : isS C (i - 1, j, 0) ↔ in4 (C i j) (C (i - 1) j) (C (i - 1) (j - 1)) (C i (j - 1)) 0 = true := ⟨fun h => h.2, fun h => ⟨Or.inl rfl, h⟩⟩
theorem is_1 (i j : Int) : isS C (i, j - 1, 1) ↔ in4 (C i j) (C (i - 1) j) (C (i - 1) (j - 1)) (C i (j - 1)) 1 = true := ⟨fun h => h.2, fun h => ⟨Or.inr (Or.inl rfl), h⟩⟩
theorem is_2 (i j : Int) : isS C (i + 1, j, 2) ↔ in4 (C i j) (C (i - 1) j) (C (i - 1) (j - 1)) (C i (j - 1)) 2 = true := by
  have e : ldc C (i + 1) j 2 = in4 (C i j) (C (i - 1) j) (C (i - 1) (j - 1)) (C i (j - 1)) 2 := by
    show (C (i + 1 - 1) (j - 1) && !C (i + 1 - 1) j) = (C i (j - 1) && !C i j)
    rw [show i + 1 - 1 = i by omega]
  rw [← e]
  exact ⟨fun h => h.2, fun h => ⟨Or.inr (Or.inr (Or.inl rfl)), h⟩⟩
theorem is_3 (i j : Int) : isS C (i, j + 1, 3) ↔ in4 (C i j) (C (i - 1) j) (C (i - 1) (j - 1)) (C i (j - 1)) 3 = true := by
  have e : ldc C i (j + 1) 3 = in4 (C i j) (C (i - 1) j) (C (i - 1) (j - 1)) (C i (j - 1)) 3 := by
    show (C i (j + 1 - 1) && !C (i - 1) (j + 1 - 1)) = (C i j && !C (i - 1) j)
    rw [show j + 1 - 1 = j by omega]
  rw [← e]
  exact ⟨fun h => h.2, fun h => ⟨Or.inr (Or.inr (Or.inr rfl)), h⟩⟩
theorem flow4 (ne nw sw se : Bool) (f : Int → Int) (z0 : ld4 ne nw sw se 0 = false → f 0 = 0) (z1 : ld4 ne nw sw se 1 = false → f 1 = 0) (z2 : ld4 ne nw sw se 2 = false → f 2 = 0) (z3 : ld4 ne nw sw se 3 = false → f 3 = 0) :
    (if in4 ne nw sw se 0 = true then f (ot4 ne nw sw se 0) else 0) + (if in4 ne nw sw se 1 = true then f (ot4 ne nw sw se 1) else 0) + (if in4 ne nw sw se 2 = true then f (ot4 ne nw sw se 2) else 0) + (if in4 ne nw sw se 3 = true then f (ot4 ne nw sw se 3) else 0) = f 0 + f 1 + f 2 + f 3 := by
  cases ne <;> cases nw <;> cases sw <;> cases se <;> simp [in4, ot4, ld4] at z0 z1 z2 z3 ⊢ <;> omega
theorem O_in (h : OS C O) {q : wlk} {i j w : Int} {b : Bool} (hi : isS C q ↔ b = true) (hs : stp C q = (i, j, w)) : iN (O q) = if b = true then iN (O (i, j, w)) else 0 := by
  by_cases z : b = true
  · rw [if_pos z]
    have x := h.2 q (hi.mpr z)
    rw [hs] at x
    exact (iN_iff x).symm
  · rw [if_neg z]
    exact iN_f (fun o => z (hi.mp (h.1 q o)))
/-- as many come to a place as leave it -/
theorem flow (h : OS C O) (i j : Int) : iN (O (i - 1, j, 0)) + iN (O (i, j - 1, 1)) + iN (O (i + 1, j, 2)) + iN (O (i, j + 1, 3)) = iN (O (i, j, 0)) + iN (O (i, j, 1)) + iN (O (i, j, 2)) + iN (O (i, j, 3)) := by
  rw [O_in h (is_0 i j) (st_0 i j), O_in h (is_1 i j) (st_1 i j), O_in h (is_2 i j) (st_2 i j), O_in h (is_3 i j) (st_3 i j)]
  have out : ∀ w, ld4 (C i j) (C (i - 1) j) (C (i - 1) (j - 1)) (C i (j - 1)) w = false → iN (O (i, j, w)) = 0 := fun w z => iN_f (fun o => by
    have y : ldc C i j w = true := (h.1 _ o).2
    rw [ldc_4, z] at y
    exact absurd y Bool.false_ne_true)
  exact flow4 _ _ _ _ (fun w => iN (O (i, j, w))) (out 0) (out 1) (out 2) (out 3)
/-- crossing the line at c from the left to the right -/
noncomputable def dX (O : wlk → Prop) (c j : Int) : Int := iN (O (c, j + 1, 3)) - iN (O (c, j, 1))
noncomputable def wn (O : wlk → Prop) (i j : Int) : Int := sumN (fun c => dX O c j) (i + 1).toNat
theorem dX_0 (h : OS C O) {c j : Int} (e : C c j = C (c - 1) j) : dX O c j = 0 := by
  have a : ¬ O (c, j + 1, 3) := fun o => by
    have y : (C c (j + 1 - 1) && !C (c - 1) (j + 1 - 1)) = true := (h.1 _ o).2
    rw [show j + 1 - 1 = j by omega, e] at y
    revert y
    cases C (c - 1) j <;> decide
  have b : ¬ O (c, j, 1) := fun o => by
    have y : (C (c - 1) j && !C c j) = true := (h.1 _ o).2
    rw [e] at y
    revert y
    cases C (c - 1) j <;> decide
  unfold dX
  rw [iN_f a, iN_f b]
  rfl
theorem wn_neg {i j : Int} (h : i < 0) : wn O i j = 0 := by
  unfold wn
  rw [show (i + 1).toNat = 0 by omega]
  rfl
theorem wn_h (h : OS C O) (b : BC C W H) (i j : Int) : wn O i j = wn O (i - 1) j + dX O i j := by
  by_cases z : i < 0
  · rw [wn_neg z, wn_neg (show i - 1 < 0 by omega), dX_0 h (by rw [BC_f b (by omega), BC_f b (by omega)])]
    rfl
  · unfold wn
    rw [show (i + 1).toNat = (i - 1 + 1).toNat + 1 by omega]
    show sumN _ _ + dX O (((i - 1 + 1).toNat : Nat) : Int) j = _
    rw [show (((i - 1 + 1).toNat : Nat) : Int) = i by omega]
theorem wn_up (h : OS C O) (b : BC C W H) (i j : Int) : wn O i j = wn O i (j - 1) + (iN (O (i, j, 0)) - iN (O (i + 1, j, 2))) := by
  have neg : ∀ i, i < 0 → wn O i j = wn O i (j - 1) + (iN (O (i, j, 0)) - iN (O (i + 1, j, 2))) := fun i z => by
    have a : ¬ O (i, j, 0) := fun o => by
      have y : (C i j && !C i (j - 1)) = true := (h.1 _ o).2
      rw [BC_f b (by omega)] at y
      exact absurd y Bool.false_ne_true
    have a' : ¬ O (i + 1, j, 2) := fun o => by
      have y : (C (i + 1 - 1) (j - 1) && !C (i + 1 - 1) j) = true := (h.1 _ o).2
      rw [BC_f b (show ¬ (0 ≤ i + 1 - 1 ∧ i + 1 - 1 < W ∧ 0 ≤ j - 1 ∧ j - 1 < H) by omega)] at y
      exact absurd y Bool.false_ne_true
    rw [wn_neg z, wn_neg z, iN_f a, iN_f a']
    rfl
  have key : ∀ n : Nat, ∀ i : Int, (i + 1).toNat ≤ n → wn O i j = wn O i (j - 1) + (iN (O (i, j, 0)) - iN (O (i + 1, j, 2))) := by
    intro n
    induction n with
    | zero => intro i hi; exact neg i (by omega)
    | succ n ih =>
      intro i hi
      by_cases z : i < 0
      · exact neg i z
      · have x := ih (i - 1) (by omega)
        have f := flow h i j
        rw [wn_h h b i j, wn_h h b i (j - 1), x]
        unfold dX
        rw [show j - 1 + 1 = j by omega, show i - 1 + 1 = i by omega]
        omega
  exact key _ i (Nat.le_refl _)
theorem wn_hs (h : OS C O) (b : BC C W H) {i j : Int} (e : C i j = C (i - 1) j) : wn O i j = wn O (i - 1) j := by
  rw [wn_h h b, dX_0 h e]
  omega
theorem wn_vs (h : OS C O) (b : BC C W H) {i j : Int} (e : C i j = C i (j - 1)) : wn O i j = wn O i (j - 1) := by
  have a : ¬ O (i, j, 0) := fun o => by
    have y : (C i j && !C i (j - 1)) = true := (h.1 _ o).2
    rw [e] at y
    revert y
    cases C i (j - 1) <;> decide
  have a' : ¬ O (i + 1, j, 2) := fun o => by
    have y : (C (i + 1 - 1) (j - 1) && !C (i + 1 - 1) j) = true := (h.1 _ o).2
    rw [show i + 1 - 1 = i by omega, e] at y
    revert y
    cases C i (j - 1) <;> decide
  rw [wn_up h b, iN_f a, iN_f a']
  omega
/-- the same with the other one first -/
theorem wn_hs' (h : OS C O) (b : BC C W H) {i j : Int} (e : C (i + 1) j = C i j) : wn O (i + 1) j = wn O i j := by
  have x := wn_hs h b (i := i + 1) (j := j) (by rw [show i + 1 - 1 = i by omega]; exact e)
  rw [show i + 1 - 1 = i by omega] at x
  exact x
theorem wn_vs' (h : OS C O) (b : BC C W H) {i j : Int} (e : C i (j + 1) = C i j) : wn O i (j + 1) = wn O i j := by
  have x := wn_vs h b (i := i) (j := j + 1) (by rw [show j + 1 - 1 = j by omega]; exact e)
  rw [show j + 1 - 1 = j by omega] at x
  exact x
/-- nothing is gone round outside -/
theorem wn_out (h : OS C O) (b : BC C W H) {i j : Int} (z : ¬ (0 ≤ i ∧ i < W ∧ 0 ≤ j ∧ j < H)) : wn O i j = 0 := by
  obtain ⟨b0, b1, b2⟩ := id b
  have low : ∀ j, j < 0 → ∀ n : Nat, ∀ i : Int, (i + 1).toNat ≤ n → wn O i j = 0 := fun j jz n => by
    induction n with
    | zero => intro i hi; exact wn_neg (by omega)
    | succ n ih =>
      intro i hi
      rw [wn_hs h b (by rw [BC_f b (by omega), BC_f b (by omega)])]
      by_cases y : i < 0
      · exact wn_neg (by omega)
      · exact ih (i - 1) (by omega)
  have high : ∀ j, H ≤ j → ∀ n : Nat, ∀ i : Int, (i + 1).toNat ≤ n → wn O i j = 0 := fun j jz n => by
    induction n with
    | zero => intro i hi; exact wn_neg (by omega)
    | succ n ih =>
      intro i hi
      rw [wn_hs h b (by rw [BC_f b (by omega), BC_f b (by omega)])]
      by_cases y : i < 0
      · exact wn_neg (by omega)
      · exact ih (i - 1) (by omega)
  have right : ∀ i, W ≤ i → ∀ n : Nat, ∀ j : Int, (j + 1).toNat ≤ n → wn O i j = 0 := fun i iz n => by
    induction n with
    | zero => intro j hj; exact low j (by omega) _ i (Nat.le_refl _)
    | succ n ih =>
      intro j hj
      by_cases y : j < 0
      · exact low j y _ i (Nat.le_refl _)
      · rw [wn_vs h b (by rw [BC_f b (by omega), BC_f b (by omega)])]
        exact ih (j - 1) (by omega)
  by_cases y1 : i < 0
  · exact wn_neg y1
  · by_cases y2 : j < 0
    · exact low j y2 _ i (Nat.le_refl _)
    · by_cases y3 : H ≤ j
      · exact high j y3 _ i (Nat.le_refl _)
      · exact right i (by omega) _ j (Nat.le_refl _)
/-- the cell on the left of a side, and on its right -/
def cL (q : wlk) : Int × Int := if q.2.2 = 0 then (q.1, q.2.1) else if q.2.2 = 1 then (q.1 - 1, q.2.1) else if q.2.2 = 2 then (q.1 - 1, q.2.1 - 1) else (q.1, q.2.1 - 1)
def cR (q : wlk) : Int × Int := if q.2.2 = 0 then (q.1, q.2.1 - 1) else if q.2.2 = 1 then (q.1, q.2.1) else if q.2.2 = 2 then (q.1 - 1, q.2.1) else (q.1 - 1, q.2.1 - 1)
theorem cLR {q : wlk} (hq : isS C q) : C (cL q).1 (cL q).2 = true ∧ C (cR q).1 (cR q).2 = false := by
  obtain ⟨i, j, w⟩ := q
  obtain ⟨hw, h⟩ := hq
  have hw' : w = 0 ∨ w = 1 ∨ w = 2 ∨ w = 3 := hw
  have h' : ldc C i j w = true := h
  have no : ∀ b : Bool, (!b) = true → b = false := fun b => by cases b <;> decide
  rcases hw' with rfl | rfl | rfl | rfl
  · have x := Bool.and_eq_true_iff.mp (show (C i j && !C i (j - 1)) = true from h')
    exact ⟨x.1, no _ x.2⟩
  · have x := Bool.and_eq_true_iff.mp (show (C (i - 1) j && !C i j) = true from h')
    exact ⟨x.1, no _ x.2⟩
  · have x := Bool.and_eq_true_iff.mp (show (C (i - 1) (j - 1) && !C (i - 1) j) = true from h')
    exact ⟨x.1, no _ x.2⟩
  · have x := Bool.and_eq_true_iff.mp (show (C i (j - 1) && !C (i - 1) (j - 1)) = true from h')
    exact ⟨x.1, no _ x.2⟩
theorem wn_LR (h : OS C O) (b : BC C W H) {q : wlk} (o : O q) : wn O (cL q).1 (cL q).2 = wn O (cR q).1 (cR q).2 + 1 := by
  have hq := h.1 q o
  have lr := cLR hq
  obtain ⟨i, j, w⟩ := q
  have hw' : w = 0 ∨ w = 1 ∨ w = 2 ∨ w = 3 := hq.1
  rcases hw' with rfl | rfl | rfl | rfl
  · have l1 : C i j = true := lr.1
    have l2 : C i (j - 1) = false := lr.2
    have n : ¬ O (i + 1, j, 2) := fun o' => by
      have y : (C (i + 1 - 1) (j - 1) && !C (i + 1 - 1) j) = true := (h.1 _ o').2
      rw [show i + 1 - 1 = i by omega, l2] at y
      exact absurd y Bool.false_ne_true
    show wn O i j = wn O i (j - 1) + 1
    rw [wn_up h b, iN_t o, iN_f n]
    omega
  · have l1 : C (i - 1) j = true := lr.1
    have l2 : C i j = false := lr.2
    have n : ¬ O (i, j + 1, 3) := fun o' => by
      have y : (C i (j + 1 - 1) && !C (i - 1) (j + 1 - 1)) = true := (h.1 _ o').2
      rw [show j + 1 - 1 = j by omega, l2] at y
      exact absurd y Bool.false_ne_true
    show wn O (i - 1) j = wn O i j + 1
    rw [wn_h h b i j]
    unfold dX
    rw [iN_t o, iN_f n]
    omega
  · have l1 : C (i - 1) (j - 1) = true := lr.1
    have l2 : C (i - 1) j = false := lr.2
    have n : ¬ O (i - 1, j, 0) := fun o' => by
      have y : (C (i - 1) j && !C (i - 1) (j - 1)) = true := (h.1 _ o').2
      rw [l2] at y
      exact absurd y Bool.false_ne_true
    show wn O (i - 1) (j - 1) = wn O (i - 1) j + 1
    rw [wn_up h b (i - 1) j, show i - 1 + 1 = i by omega, iN_t o, iN_f n]
    omega
  · have l1 : C i (j - 1) = true := lr.1
    have l2 : C (i - 1) (j - 1) = false := lr.2
    have n : ¬ O (i, j - 1, 1) := fun o' => by
      have y : (C (i - 1) (j - 1) && !C i (j - 1)) = true := (h.1 _ o').2
      rw [l2] at y
      exact absurd y Bool.false_ne_true
    show wn O i (j - 1) = wn O (i - 1) (j - 1) + 1
    rw [wn_h h b i (j - 1)]
    unfold dX
    rw [show j - 1 + 1 = j by omega, iN_t o, iN_f n]
    omega
def near (a b : Int × Int) : Prop := -1 ≤ b.1 - a.1 ∧ b.1 - a.1 ≤ 1 ∧ -1 ≤ b.2 - a.2 ∧ b.2 - a.2 ≤ 1
/-- going on, the cells on the left are gone round as often; those on the right stay near -/
theorem wn_go (h : OS C O) (b : BC C W H) {q : wlk} (hq : isS C q) : wn O (cL (stp C q)).1 (cL (stp C q)).2 = wn O (cL q).1 (cL q).2 ∧ near (cR q) (cR (stp C q)) := by
  have lr := cLR hq
  obtain ⟨i, j, w⟩ := q
  have hw' : w = 0 ∨ w = 1 ∨ w = 2 ∨ w = 3 := hq.1
  rcases hw' with rfl | rfl | rfl | rfl
  · have l1 : C i j = true := lr.1
    have l2 : C i (j - 1) = false := lr.2
    have e := st_0 (C := C) (i + 1) j
    rw [show i + 1 - 1 = i by omega, l1, l2] at e
    rw [e]
    cases ne : C (i + 1) j
    · cases se : C (i + 1) (j - 1)
      · show wn O (i + 1 - 1) j = wn O i j ∧ near (i, j - 1) (i + 1, j)
        rw [show i + 1 - 1 = i by omega]
        exact ⟨rfl, by unfold near; omega⟩
      · show wn O (i + 1 - 1) j = wn O i j ∧ near (i, j - 1) (i + 1, j)
        rw [show i + 1 - 1 = i by omega]
        exact ⟨rfl, by unfold near; omega⟩
    · have x := wn_hs' h b (i := i) (j := j) (by rw [ne, l1])
      cases se : C (i + 1) (j - 1)
      · show wn O (i + 1) j = wn O i j ∧ near (i, j - 1) (i + 1, j - 1)
        exact ⟨x, by unfold near; omega⟩
      · show wn O (i + 1) (j - 1) = wn O i j ∧ near (i, j - 1) (i + 1 - 1, j - 1)
        have y := wn_vs h b (i := i + 1) (j := j) (by rw [ne, se])
        exact ⟨by rw [← y, x], by unfold near; omega⟩
  · have l1 : C (i - 1) j = true := lr.1
    have l2 : C i j = false := lr.2
    have e := st_1 (C := C) i (j + 1)
    rw [show j + 1 - 1 = j by omega, l1, l2] at e
    rw [e]
    cases nw : C (i - 1) (j + 1)
    · cases ne : C i (j + 1)
      · show wn O (i - 1) (j + 1 - 1) = wn O (i - 1) j ∧ near (i, j) (i - 1, j + 1)
        rw [show j + 1 - 1 = j by omega]
        exact ⟨rfl, by unfold near; omega⟩
      · show wn O (i - 1) (j + 1 - 1) = wn O (i - 1) j ∧ near (i, j) (i - 1, j + 1)
        rw [show j + 1 - 1 = j by omega]
        exact ⟨rfl, by unfold near; omega⟩
    · have x := wn_vs' h b (i := i - 1) (j := j) (by rw [nw, l1])
      cases ne : C i (j + 1)
      · show wn O (i - 1) (j + 1) = wn O (i - 1) j ∧ near (i, j) (i, j + 1)
        exact ⟨x, by unfold near; omega⟩
      · show wn O i (j + 1) = wn O (i - 1) j ∧ near (i, j) (i, j + 1 - 1)
        have y := wn_hs h b (i := i) (j := j + 1) (by rw [ne, nw])
        exact ⟨by rw [y, x], by unfold near; omega⟩
  · have l1 : C (i - 1) (j - 1) = true := lr.1
    have l2 : C (i - 1) j = false := lr.2
    have e := st_2 (C := C) (i - 1) j
    rw [show i - 1 + 1 = i by omega, l1, l2] at e
    rw [e]
    cases sw : C (i - 1 - 1) (j - 1)
    · cases nw : C (i - 1 - 1) j
      · show wn O (i - 1) (j - 1) = wn O (i - 1) (j - 1) ∧ near (i - 1, j) (i - 1 - 1, j - 1)
        exact ⟨rfl, by unfold near; omega⟩
      · show wn O (i - 1) (j - 1) = wn O (i - 1) (j - 1) ∧ near (i - 1, j) (i - 1 - 1, j - 1)
        exact ⟨rfl, by unfold near; omega⟩
    · have x := wn_hs h b (i := i - 1) (j := j - 1) (by rw [sw, l1])
      cases nw : C (i - 1 - 1) j
      · show wn O (i - 1 - 1) (j - 1) = wn O (i - 1) (j - 1) ∧ near (i - 1, j) (i - 1 - 1, j)
        exact ⟨x.symm, by unfold near; omega⟩
      · show wn O (i - 1 - 1) j = wn O (i - 1) (j - 1) ∧ near (i - 1, j) (i - 1, j)
        have y := wn_vs h b (i := i - 1 - 1) (j := j) (by rw [nw, sw])
        exact ⟨by rw [y, x], by unfold near; omega⟩
  · have l1 : C i (j - 1) = true := lr.1
    have l2 : C (i - 1) (j - 1) = false := lr.2
    have e := st_3 (C := C) i (j - 1)
    rw [show j - 1 + 1 = j by omega, l1, l2] at e
    rw [e]
    cases se : C i (j - 1 - 1)
    · cases sw : C (i - 1) (j - 1 - 1)
      · show wn O i (j - 1) = wn O i (j - 1) ∧ near (i - 1, j - 1) (i, j - 1 - 1)
        exact ⟨rfl, by unfold near; omega⟩
      · show wn O i (j - 1) = wn O i (j - 1) ∧ near (i - 1, j - 1) (i, j - 1 - 1)
        exact ⟨rfl, by unfold near; omega⟩
    · have x := wn_vs h b (i := i) (j := j - 1) (by rw [se, l1])
      cases sw : C (i - 1) (j - 1 - 1)
      · show wn O i (j - 1 - 1) = wn O i (j - 1) ∧ near (i - 1, j - 1) (i - 1, j - 1 - 1)
        exact ⟨x.symm, by unfold near; omega⟩
      · show wn O (i - 1) (j - 1 - 1) = wn O i (j - 1) ∧ near (i - 1, j - 1) (i - 1, j - 1)
        have y := wn_hs h b (i := i) (j := j - 1 - 1) (by rw [se, sw])
        exact ⟨by rw [← y, x], by unfold near; omega⟩
/-- all of them: k on the left, k - 1 on the right -/
theorem wn_all {p : wlk} (h : OS C (orb C p)) (b : BC C W H) (hp : isS C p) {q : wlk} (o : orb C p q) : wn (orb C p) (cL q).1 (cL q).2 = wn (orb C p) (cL p).1 (cL p).2 ∧ wn (orb C p) (cR q).1 (cR q).2 = wn (orb C p) (cL p).1 (cL p).2 - 1 := by
  have key : ∀ u : Nat, wn (orb C p) (cL (sti C u p)).1 (cL (sti C u p)).2 = wn (orb C p) (cL p).1 (cL p).2 := by
    intro u
    induction u with
    | zero => rfl
    | succ u ih =>
      rw [sti_last, (wn_go h b (sti_isS hp u)).1]
      exact ih
  obtain ⟨u, e⟩ := id o
  have x := key u
  rw [e] at x
  have y := wn_LR h b o
  exact ⟨x, by omega⟩
theorem wn_vals {p : wlk} (h : OS C (orb C p)) (b : BC C W H) (hp : isS C p) (j : Int) : ∀ n : Nat, ∀ i : Int, (i + 1).toNat ≤ n → wn (orb C p) i j = 0 ∨ wn (orb C p) i j = wn (orb C p) (cL p).1 (cL p).2 ∨ wn (orb C p) i j = wn (orb C p) (cL p).1 (cL p).2 - 1 := by
  intro n
  induction n with
  | zero => intro i hi; exact Or.inl (wn_neg (by omega))
  | succ n ih =>
    intro i hi
    by_cases z : i < 0
    · exact Or.inl (wn_neg z)
    · by_cases d3 : orb C p (i, j + 1, 3)
      · have x := (wn_all h b hp d3).1
        have e : (cL (i, j + 1, 3)) = (i, j) := by
          show (i, j + 1 - 1) = (i, j)
          rw [show j + 1 - 1 = j by omega]
        rw [e] at x
        exact Or.inr (Or.inl x)
      · by_cases d1 : orb C p (i, j, 1)
        · have x := (wn_all h b hp d1).2
          exact Or.inr (Or.inr x)
        · have x := ih (i - 1) (by omega)
          have y := wn_h h b i j
          unfold dX at y
          rw [iN_f d3, iN_f d1] at y
          rw [y]
          rcases x with x | x | x
          · exact Or.inl (by omega)
          · exact Or.inr (Or.inl (by omega))
          · exact Or.inr (Or.inr (by omega))
/-- 0 or 1 on the left -/
theorem wn_k {p : wlk} (h : OS C (orb C p)) (b : BC C W H) (hp : isS C p) {c j : Int} (v : vcol C p j c) : wn (orb C p) (cL p).1 (cL p).2 = 0 ∨ wn (orb C p) (cL p).1 (cL p).2 = 1 := by
  have c0 : 0 ≤ c := by
    rcases v with v | v
    · have x := (cLR (h.1 _ v)).1
      have x' : C (c - 1) j = true := x
      have := b.2.2 _ _ x'
      omega
    · have x := (cLR (h.1 _ v)).1
      have x' : C c (j + 1 - 1) = true := x
      have := b.2.2 _ _ x'
      omega
  have key : ∀ n : Nat, (wn (orb C p) (cL p).1 (cL p).2 = 0 ∨ wn (orb C p) (cL p).1 (cL p).2 = 1) ∨ (∀ c', 0 ≤ c' → c' < (n : Int) → ¬ vcol C p j c') ∧ wn (orb C p) ((n : Int) - 1) j = 0 := by
    intro n
    induction n with
    | zero =>
      exact Or.inr ⟨fun c' a a' => absurd a' (by omega), wn_neg (by omega)⟩
    | succ n ih =>
      rcases ih with ih | ⟨i1, i2⟩
      · exact Or.inl ih
      · by_cases d3 : orb C p ((n : Int), j + 1, 3)
        · have x := (wn_all h b hp d3).2
          have e : (cR ((n : Int), j + 1, 3)) = ((n : Int) - 1, j) := by
            show ((n : Int) - 1, j + 1 - 1) = ((n : Int) - 1, j)
            rw [show j + 1 - 1 = j by omega]
          rw [e] at x
          have x' : wn (orb C p) ((n : Int) - 1) j = wn (orb C p) (cL p).1 (cL p).2 - 1 := x
          exact Or.inl (Or.inr (by omega))
        · by_cases d1 : orb C p ((n : Int), j, 1)
          · have x := (wn_all h b hp d1).1
            have x' : wn (orb C p) ((n : Int) - 1) j = wn (orb C p) (cL p).1 (cL p).2 := x
            exact Or.inl (Or.inl (by omega))
          · have y := wn_h h b n j
            unfold dX at y
            rw [iN_f d3, iN_f d1] at y
            refine Or.inr ⟨fun c' a a' => ?_, ?_⟩
            · by_cases z : c' = n
              · rw [z]
                exact fun u => u.elim d1 d3
              · exact i1 c' a (by omega)
            · rw [show ((n + 1 : Nat) : Int) - 1 = (n : Int) by omega]
              omega
  rcases key (c.toNat + 1) with x | x
  · exact x
  · exact absurd v (x.1 c c0 (by omega))
end
