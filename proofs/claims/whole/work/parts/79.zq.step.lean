/-! ===== leads, sideOf, step ===== -/
noncomputable def Cg (s : sh) (M : mm_M) : Int → Int → Bool := fun i j => @decide (cel s M i j) (Classical.propDecidable _)
theorem Cg_iff {s : sh} {M : mm_M} {i j : Int} : Cg s M i j = true ↔ cel s M i j := by
  unfold Cg
  exact @decide_eq_true_iff _ (Classical.propDecidable _)
theorem Cg_keep {s : sh} {M M1 : mm_M} (h : gKeep M M1) : Cg s M1 = Cg s M := by
  funext i j
  unfold Cg
  have e : cel s M1 i j = cel s M i j := propext (gKeep_cel h i j)
  rw [e]
def b2i (b : Bool) : Int := if b = true then 1 else 0
/-- the index of a side -/
def sx (W : Int) (p : wlk) : Int := 4 * (p.2.1 * (W + 1) + p.1) + p.2.2
section
variable {s : sh} {M : mm_M}
theorem isS_rg {p : wlk} (h : isS (Cg s M) p) : 0 ≤ p.1 ∧ p.1 ≤ gw M ∧ 0 ≤ p.2.1 ∧ p.2.1 ≤ gh M ∧ (p.2.2 = 0 → p.1 < gw M ∧ p.2.1 < gh M) ∧ (p.2.2 = 1 → 0 < p.1 ∧ p.2.1 < gh M) ∧ (p.2.2 = 2 → 0 < p.1 ∧ 0 < p.2.1) ∧ (p.2.2 = 3 → p.1 < gw M ∧ 0 < p.2.1) := by
  obtain ⟨i, j, w⟩ := p
  obtain ⟨hw, h⟩ := h
  have hw' : w = 0 ∨ w = 1 ∨ w = 2 ∨ w = 3 := hw
  have h' : ldc (Cg s M) i j w = true := h
  show 0 ≤ i ∧ i ≤ gw M ∧ 0 ≤ j ∧ j ≤ gh M ∧ (w = 0 → i < gw M ∧ j < gh M) ∧ (w = 1 → 0 < i ∧ j < gh M) ∧ (w = 2 → 0 < i ∧ 0 < j) ∧ (w = 3 → i < gw M ∧ 0 < j)
  clear hw h
  rcases hw' with rfl | rfl | rfl | rfl
  · have c := (Bool.and_eq_true_iff.mp h').1
    have e := Cg_iff.mp c
    have := e.1
    have := e.2.1
    have := e.2.2.1
    have := e.2.2.2.1
    omega
  · have c := (Bool.and_eq_true_iff.mp h').1
    have e := Cg_iff.mp c
    have := e.1
    have := e.2.1
    have := e.2.2.1
    have := e.2.2.2.1
    omega
  · have c := (Bool.and_eq_true_iff.mp h').1
    have e := Cg_iff.mp c
    have := e.1
    have := e.2.1
    have := e.2.2.1
    have := e.2.2.2.1
    omega
  · have c := (Bool.and_eq_true_iff.mp h').1
    have e := Cg_iff.mp c
    have := e.1
    have := e.2.1
    have := e.2.2.1
    have := e.2.2.2.1
    omega
theorem sx_rg {W H : Int} {p : wlk} (W1 : W ≤ 799) (H1 : H ≤ 199) (i0 : 0 ≤ p.1) (i1 : p.1 ≤ W) (j0 : 0 ≤ p.2.1) (j1 : p.2.1 ≤ H) (w0 : p.2.2 = 0 ∨ p.2.2 = 1 ∨ p.2.2 = 2 ∨ p.2.2 = 3) : 0 ≤ sx W p ∧ sx W p < 4 * (W + 1) * (H + 1) ∧ 4 * (W + 1) * (H + 1) ≤ 640000 := by
  have a : 0 ≤ p.2.1 * (W + 1) := Int.mul_nonneg j0 (by omega)
  have b : p.2.1 * (W + 1) ≤ H * (W + 1) := Int.mul_le_mul_of_nonneg_right j1 (by omega)
  have e : 4 * (W + 1) * (H + 1) = 4 * (H * (W + 1)) + 4 * (W + 1) := by
    rw [Int.mul_add, Int.mul_one, Int.mul_assoc, Int.mul_comm (W + 1) H]
  have d : H * (W + 1) ≤ 199 * (W + 1) := Int.mul_le_mul_of_nonneg_right H1 (by omega)
  unfold sx
  omega
theorem sx_lt {W : Int} {p q : wlk} (i0 : 0 ≤ p.1) (i1 : p.1 ≤ W) (k0 : 0 ≤ q.1) (k1 : q.1 ≤ W) (w0 : p.2.2 = 0 ∨ p.2.2 = 1 ∨ p.2.2 = 2 ∨ p.2.2 = 3) (v0 : q.2.2 = 0 ∨ q.2.2 = 1 ∨ q.2.2 = 2 ∨ q.2.2 = 3) : sx W p < sx W q ↔ (p.2.1 < q.2.1 ∨ (p.2.1 = q.2.1 ∧ (p.1 < q.1 ∨ (p.1 = q.1 ∧ p.2.2 < q.2.2)))) := by
  unfold sx
  by_cases a : p.2.1 < q.2.1
  · have b : (p.2.1 + 1) * (W + 1) ≤ q.2.1 * (W + 1) := Int.mul_le_mul_of_nonneg_right (by omega) (by omega)
    rw [Int.add_mul, Int.one_mul] at b
    exact ⟨fun _ => Or.inl a, fun _ => by omega⟩
  · by_cases c : q.2.1 < p.2.1
    · have b : (q.2.1 + 1) * (W + 1) ≤ p.2.1 * (W + 1) := Int.mul_le_mul_of_nonneg_right (by omega) (by omega)
      rw [Int.add_mul, Int.one_mul] at b
      exact ⟨fun _ => by omega, fun _ => by omega⟩
    · have e : p.2.1 = q.2.1 := by omega
      rw [e]
      omega
theorem sx_inj {W : Int} {p q : wlk} (i0 : 0 ≤ p.1) (i1 : p.1 ≤ W) (k0 : 0 ≤ q.1) (k1 : q.1 ≤ W) (w0 : p.2.2 = 0 ∨ p.2.2 = 1 ∨ p.2.2 = 2 ∨ p.2.2 = 3) (v0 : q.2.2 = 0 ∨ q.2.2 = 1 ∨ q.2.2 = 2 ∨ q.2.2 = 3) (e : sx W p = sx W q) : p = q := by
  have a := sx_lt i0 i1 k0 k1 w0 v0
  have b := sx_lt k0 k1 i0 i1 v0 w0
  have c : p.1 = q.1 ∧ p.2.1 = q.2.1 ∧ p.2.2 = q.2.2 := by omega
  obtain ⟨i, j, w⟩ := p
  obtain ⟨i', j', w'⟩ := q
  have c1 : i = i' := c.1
  have c2 : j = j' := c.2.1
  have c3 : w = w' := c.2.2
  rw [c1, c2, c3]
end
section
variable {sc : Nat × (Int → Int)} {M : mm_M} {X : Nat → mm_M → Prop} {s : sh}
theorem c146b {K : Int → mm_M → Prop} {i j : Int} (ho : mr_ok M) (h : GRD s M) (hi : mr_rg i) (hj : mr_rg j) (k : K (b2i (Cg s M i j)) M) : en_CI sc 146 [mm_r 72, mm_i i, mm_i j] M K X := by
  refine c146 ho h hi hj (fun y => ?_) (fun n => ?_)
  · have e : b2i (Cg s M i j) = 1 := if_pos (Cg_iff.mpr y)
    rw [e] at k; exact k
  · have e : b2i (Cg s M i j) = 0 := if_neg (fun z => n (Cg_iff.mp z))
    rw [e] at k; exact k
theorem b2i_0 {b : Bool} : b2i b = 0 ↔ b = false := by
  cases b
  · exact ⟨fun _ => rfl, fun _ => rfl⟩
  · exact ⟨fun z => absurd z (by decide), fun z => absurd z (by decide)⟩
theorem b2i_rg (b : Bool) : mr_rg (b2i b) := by
  cases b <;> exact ⟨by decide, by decide⟩
/-- CellAreasModel.leads -/
theorem c149 {K : Int → mm_M → Prop} {i j w : Int} (ho : mr_ok M) (h : GRD s M) (hi : -10 ≤ i ∧ i ≤ 10000) (hj : -10 ≤ j ∧ j ≤ 10000) (hw : w = 0 ∨ w = 1 ∨ w = 2 ∨ w = 3) (k : K (b2i (ldc (Cg s M) i j w)) M) : en_CI sc 149 [mm_r 72, mm_i i, mm_i j, mm_i w, mm_u, mm_u, mm_u, mm_u] M K X := by
  refine vc149_0 ho ⟨by omega, by omega⟩ (c146b ho h ⟨by omega, by omega⟩ ⟨by omega, by omega⟩ (fun _ => c146b ho h ⟨by omega, by omega⟩ ⟨by omega, by omega⟩ (fun _ => c146b ho h ⟨by omega, by omega⟩ ⟨by omega, by omega⟩ (fun _ => c146b ho h ⟨by omega, by omega⟩ ⟨by omega, by omega⟩ (fun _ => ?_)))))
  rw [ldc_4] at k
  generalize Cg s M i j = ne at k ⊢
  generalize Cg s M (i - 1) j = nw at k ⊢
  generalize Cg s M (i - 1) (j - 1) = sw at k ⊢
  generalize Cg s M i (j - 1) = se at k ⊢
  refine ⟨fun w0 => ⟨fun w1 => ⟨fun w2 => ⟨b2i_rg _, fun z => Or.inl ⟨_, rfl, ?_⟩, fun z => ⟨b2i_rg _, fun z2 => Or.inl ⟨_, rfl, ?_⟩, fun z2 => Or.inl ⟨_, rfl, ?_⟩⟩⟩, fun w2 => ⟨b2i_rg _, fun z => Or.inl ⟨_, rfl, ?_⟩, fun z => ⟨b2i_rg _, fun z2 => Or.inl ⟨_, rfl, ?_⟩, fun z2 => Or.inl ⟨_, rfl, ?_⟩⟩⟩⟩, fun w1 => ⟨b2i_rg _, fun z => Or.inl ⟨_, rfl, ?_⟩, fun z => ⟨b2i_rg _, fun z2 => Or.inl ⟨_, rfl, ?_⟩, fun z2 => Or.inl ⟨_, rfl, ?_⟩⟩⟩⟩, fun w0 => ⟨b2i_rg _, fun z => Or.inl ⟨_, rfl, ?_⟩, fun z => ⟨b2i_rg _, fun z2 => Or.inl ⟨_, rfl, ?_⟩, fun z2 => Or.inl ⟨_, rfl, ?_⟩⟩⟩⟩
  all_goals
    rw [b2i_0] at z
    try rw [ne_eq, b2i_0] at z2
    try rw [Classical.not_not] at z2
    have e : w = 0 ∨ w = 1 ∨ w = 2 ∨ w = 3 := hw
    rcases e with rfl | rfl | rfl | rfl <;> first | omega | skip
  all_goals
    revert z k
    try revert z2
    cases ne <;> cases nw <;> cases sw <;> cases se <;> intro a b <;> first | exact b | exact a | (intro c; first | exact c | exact (a rfl).elim | exact (b rfl).elim | exact absurd b (by decide) | exact absurd a (by decide)) | exact absurd a (by decide) | exact absurd b (by decide)
/-- CellAreasModel.sideOf -/
theorem c150 {K : Int → mm_M → Prop} {p : wlk} (ho : mr_ok M) (k : K (sx (gw M) p) M) : en_CI sc 150 [mm_r 72, mm_i p.1, mm_i p.2.1, mm_i p.2.2] M K X := vc150_0 ho (Or.inl ⟨_, rfl, k⟩)
end
