/-! ===== what is not of the area, by parts that hang together ===== -/
def okc (C : Int → Int → Bool) (W H : Int) (a : Int × Int) : Prop := -1 ≤ a.1 ∧ a.1 ≤ W ∧ -1 ≤ a.2 ∧ a.2 ≤ H ∧ C a.1 a.2 = false
def cmp (C : Int → Int → Bool) (W H : Int) (a b : Int × Int) : Prop := ∀ S : Int × Int → Prop, S a → (∀ p q, S p → okc C W H p → okc C W H q → near p q → S q) → S b
theorem near_sym {a b : Int × Int} (h : near a b) : near b a := by
  unfold near at h ⊢
  omega
section
variable {C : Int → Int → Bool} {O : wlk → Prop} {W H : Int}
theorem cmp_refl (a : Int × Int) : cmp C W H a a := fun _ h _ => h
theorem cmp_trans {a b c : Int × Int} (h : cmp C W H a b) (g : cmp C W H b c) : cmp C W H a c := fun S hs hc => g S (h S hs hc) hc
theorem cmp_step {a b : Int × Int} (ha : okc C W H a) (hb : okc C W H b) (n : near a b) : cmp C W H a b := fun _ hs hc => hc a b hs ha hb n
theorem cmp_sym {a b : Int × Int} (h : cmp C W H a b) : cmp C W H b a := h (fun q => cmp C W H q a) (cmp_refl a) (fun p q hp op oq n => cmp_trans (cmp_step oq op (near_sym n)) hp)
theorem cmp_ok {a b : Int × Int} (ha : okc C W H a) (h : cmp C W H a b) : okc C W H b := h (okc C W H) ha (fun _ _ _ _ oq _ => oq)
theorem wn_d1 (h : OS C O) (b : BC C W H) {i j : Int} (c1 : C i j = false) (c2 : C (i + 1) (j + 1) = false) : wn O (i + 1) (j + 1) = wn O i j := by
  cases c3 : C (i + 1) j
  · rw [wn_vs' h b (by rw [c2, c3]), wn_hs' h b (by rw [c3, c1])]
  · cases c4 : C i (j + 1)
    · rw [wn_hs' h b (by rw [c2, c4]), wn_vs' h b (by rw [c4, c1])]
    · have s1 : isS C (i, j + 1, 0) := ⟨Or.inl rfl, by
        show (C i (j + 1) && !C i (j + 1 - 1)) = true
        rw [show j + 1 - 1 = j by omega, c4, c1]
        rfl⟩
      have e := st_0 (C := C) (i + 1) (j + 1)
      rw [show i + 1 - 1 = i by omega, show j + 1 - 1 = j by omega, c1, c2, c3, c4] at e
      have x := h.2 _ s1
      rw [e] at x
      have x' : O (i + 1, j + 1, 1) ↔ O (i, j + 1, 0) := x
      have n1 : ¬ O (i + 1, j + 1, 2) := fun o => by
        have y : (C (i + 1 - 1) (j + 1 - 1) && !C (i + 1 - 1) (j + 1)) = true := (h.1 _ o).2
        rw [show i + 1 - 1 = i by omega, show j + 1 - 1 = j by omega, c1] at y
        exact absurd y Bool.false_ne_true
      have n2 : ¬ O (i + 1, j + 1 + 1, 3) := fun o => by
        have y : (C (i + 1) (j + 1 + 1 - 1) && !C (i + 1 - 1) (j + 1 + 1 - 1)) = true := (h.1 _ o).2
        rw [show j + 1 + 1 - 1 = j + 1 by omega, c2] at y
        exact absurd y Bool.false_ne_true
      have u1 := wn_up h b i (j + 1)
      have u2 := wn_h h b (i + 1) (j + 1)
      unfold dX at u2
      rw [show j + 1 - 1 = j by omega, iN_f n1] at u1
      rw [show i + 1 - 1 = i by omega, iN_f n2, iN_iff x'] at u2
      omega
theorem wn_d2 (h : OS C O) (b : BC C W H) {i j : Int} (c1 : C i (j + 1) = false) (c2 : C (i + 1) j = false) : wn O (i + 1) j = wn O i (j + 1) := by
  cases c3 : C (i + 1) (j + 1)
  · rw [← wn_vs' h b (i := i + 1) (j := j) (by rw [c2, c3]), wn_hs' h b (by rw [c3, c1])]
  · cases c4 : C i j
    · rw [wn_hs' h b (by rw [c2, c4]), wn_vs' h b (by rw [c4, c1])]
    · have s1 : isS C (i + 1, j + 1 + 1, 3) := ⟨Or.inr (Or.inr (Or.inr rfl)), by
        show (C (i + 1) (j + 1 + 1 - 1) && !C (i + 1 - 1) (j + 1 + 1 - 1)) = true
        rw [show j + 1 + 1 - 1 = j + 1 by omega, show i + 1 - 1 = i by omega, c3, c1]
        rfl⟩
      have e := st_3 (C := C) (i + 1) (j + 1)
      rw [show i + 1 - 1 = i by omega, show j + 1 - 1 = j by omega, c1, c2, c3, c4] at e
      have x := h.2 _ s1
      rw [e] at x
      have x' : O (i + 1, j + 1, 0) ↔ O (i + 1, j + 1 + 1, 3) := x
      have n1 : ¬ O (i + 1 + 1, j + 1, 2) := fun o => by
        have y : (C (i + 1 + 1 - 1) (j + 1 - 1) && !C (i + 1 + 1 - 1) (j + 1)) = true := (h.1 _ o).2
        rw [show i + 1 + 1 - 1 = i + 1 by omega, show j + 1 - 1 = j by omega, c2] at y
        exact absurd y Bool.false_ne_true
      have n2 : ¬ O (i + 1, j + 1, 1) := fun o => by
        have y : (C (i + 1 - 1) (j + 1) && !C (i + 1) (j + 1)) = true := (h.1 _ o).2
        rw [show i + 1 - 1 = i by omega, c1] at y
        exact absurd y Bool.false_ne_true
      have u1 := wn_up h b (i + 1) (j + 1)
      have u2 := wn_h h b (i + 1) (j + 1)
      unfold dX at u2
      rw [show j + 1 - 1 = j by omega, iN_f n1, iN_iff x'] at u1
      rw [show i + 1 - 1 = i by omega, iN_f n2] at u2
      omega
/-- what hangs together is gone round as often -/
theorem wn_near (h : OS C O) (b : BC C W H) {p q : Int × Int} (hp : C p.1 p.2 = false) (hq : C q.1 q.2 = false) (n : near p q) : wn O q.1 q.2 = wn O p.1 p.2 := by
  obtain ⟨i, j⟩ := p
  obtain ⟨i', j'⟩ := q
  have hp' : C i j = false := hp
  have hq' : C i' j' = false := hq
  have n' : -1 ≤ i' - i ∧ i' - i ≤ 1 ∧ -1 ≤ j' - j ∧ j' - j ≤ 1 := n
  show wn O i' j' = wn O i j
  clear hp hq n
  have ci : i' = i ∨ i' = i + 1 ∨ i = i' + 1 := by omega
  have cj : j' = j ∨ j' = j + 1 ∨ j = j' + 1 := by omega
  clear n'
  rcases ci with rfl | rfl | rfl <;> rcases cj with rfl | rfl | rfl
  · rfl
  · exact wn_vs' h b (by rw [hp', hq'])
  · exact (wn_vs' h b (by rw [hp', hq'])).symm
  · exact wn_hs' h b (by rw [hp', hq'])
  · exact wn_d1 h b hp' hq'
  · exact wn_d2 h b hp' hq'
  · exact (wn_hs' h b (by rw [hp', hq'])).symm
  · exact (wn_d2 h b hq' hp').symm
  · exact (wn_d1 h b hq' hp').symm
theorem wn_cmp (h : OS C O) (b : BC C W H) {p q : Int × Int} (c : cmp C W H p q) : wn O q.1 q.2 = wn O p.1 p.2 :=
  c (fun z => wn O z.1 z.2 = wn O p.1 p.2) rfl (fun x y hx ox oy n => (wn_near h b ox.2.2.2.2 oy.2.2.2.2 n).trans hx)
theorem cR_ok (b : BC C W H) {q : wlk} (hq : isS C q) : okc C W H (cR q) := by
  have lr := cLR hq
  have r := b.2.2 _ _ lr.1
  refine ⟨?_, ?_, ?_, ?_, lr.2⟩ <;> clear lr <;> obtain ⟨i, j, w⟩ := q <;> (have hw' : w = 0 ∨ w = 1 ∨ w = 2 ∨ w = 3 := hq.1) <;> rcases hw' with rfl | rfl | rfl | rfl
  · have r' : 0 ≤ i ∧ i < W ∧ 0 ≤ j ∧ j < H := r
    show -1 ≤ i
    omega
  · have r' : 0 ≤ i - 1 ∧ i - 1 < W ∧ 0 ≤ j ∧ j < H := r
    show -1 ≤ i
    omega
  · have r' : 0 ≤ i - 1 ∧ i - 1 < W ∧ 0 ≤ j - 1 ∧ j - 1 < H := r
    show -1 ≤ i - 1
    omega
  · have r' : 0 ≤ i ∧ i < W ∧ 0 ≤ j - 1 ∧ j - 1 < H := r
    show -1 ≤ i - 1
    omega
  · have r' : 0 ≤ i ∧ i < W ∧ 0 ≤ j ∧ j < H := r
    show i ≤ W
    omega
  · have r' : 0 ≤ i - 1 ∧ i - 1 < W ∧ 0 ≤ j ∧ j < H := r
    show i ≤ W
    omega
  · have r' : 0 ≤ i - 1 ∧ i - 1 < W ∧ 0 ≤ j - 1 ∧ j - 1 < H := r
    show i - 1 ≤ W
    omega
  · have r' : 0 ≤ i ∧ i < W ∧ 0 ≤ j - 1 ∧ j - 1 < H := r
    show i - 1 ≤ W
    omega
  · have r' : 0 ≤ i ∧ i < W ∧ 0 ≤ j ∧ j < H := r
    show -1 ≤ j - 1
    omega
  · have r' : 0 ≤ i - 1 ∧ i - 1 < W ∧ 0 ≤ j ∧ j < H := r
    show -1 ≤ j
    omega
  · have r' : 0 ≤ i - 1 ∧ i - 1 < W ∧ 0 ≤ j - 1 ∧ j - 1 < H := r
    show -1 ≤ j
    omega
  · have r' : 0 ≤ i ∧ i < W ∧ 0 ≤ j - 1 ∧ j - 1 < H := r
    show -1 ≤ j - 1
    omega
  · have r' : 0 ≤ i ∧ i < W ∧ 0 ≤ j ∧ j < H := r
    show j - 1 ≤ H
    omega
  · have r' : 0 ≤ i - 1 ∧ i - 1 < W ∧ 0 ≤ j ∧ j < H := r
    show j ≤ H
    omega
  · have r' : 0 ≤ i - 1 ∧ i - 1 < W ∧ 0 ≤ j - 1 ∧ j - 1 < H := r
    show j ≤ H
    omega
  · have r' : 0 ≤ i ∧ i < W ∧ 0 ≤ j - 1 ∧ j - 1 < H := r
    show j - 1 ≤ H
    omega
theorem cR_cmp (h : OS C O) (b : BC C W H) {p q : wlk} (hp : isS C p) (o : orb C p q) : cmp C W H (cR p) (cR q) := by
  obtain ⟨u, e⟩ := o
  rw [← e]
  clear e
  induction u with
  | zero => exact cmp_refl _
  | succ u ih =>
    have i1 := sti_isS hp u
    have i2 := sti_isS hp (u + 1)
    rw [sti_last] at i2 ⊢
    exact cmp_trans ih (cmp_step (cR_ok b i1) (cR_ok b i2) (wn_go h b i1).2)
/-- the index of a cell of the grid with its rim -/
def idx (W : Int) (a : Int × Int) : Int := (a.2 + 1) * (W + 2) + (a.1 + 1)
theorem idx_row {a b : Int × Int} (ha : -1 ≤ a.1 ∧ a.1 ≤ W) (hb : -1 ≤ b.1 ∧ b.1 ≤ W) (h : a.2 < b.2) : idx W a < idx W b := by
  unfold idx
  have x : (a.2 + 1 + 1) * (W + 2) ≤ (b.2 + 1) * (W + 2) := Int.mul_le_mul_of_nonneg_right (by omega) (by omega)
  rw [Int.add_mul (a.2 + 1) 1] at x
  omega
theorem idx_one {a b : Int × Int} (ha : -1 ≤ a.1 ∧ a.1 ≤ W) (hb : -1 ≤ b.1 ∧ b.1 ≤ W) (h : idx W a = idx W b) : a = b := by
  have e : a.2 = b.2 := by
    by_cases z : a.2 < b.2
    · have := idx_row ha hb z
      omega
    · by_cases z2 : b.2 < a.2
      · have := idx_row hb ha z2
        omega
      · omega
  unfold idx at h
  rw [e] at h
  exact Prod.ext (by omega) e
theorem idx_rg {a : Int × Int} (h : okc C W H a) : 0 ≤ idx W a ∧ idx W a < (W + 2) * (H + 2) := by
  obtain ⟨h1, h2, h3, h4, _⟩ := h
  unfold idx
  have x : 0 ≤ (a.2 + 1) * (W + 2) := Int.mul_nonneg (by omega) (by omega)
  have y : (a.2 + 1) * (W + 2) ≤ (H + 1) * (W + 2) := Int.mul_le_mul_of_nonneg_right (by omega) (by omega)
  have e : (W + 2) * (H + 2) = (H + 1) * (W + 2) + (W + 2) := by
    rw [Int.mul_comm, show H + 2 = H + 1 + 1 by omega, Int.add_mul (H + 1) 1, Int.one_mul]
  omega
/-- the first cell of a hole -/
def HL (C : Int → Int → Bool) (W H : Int) (a : Int × Int) : Prop := okc C W H a ∧ ¬ cmp C W H (-1, -1) a ∧ ∀ b, cmp C W H a b → idx W a ≤ idx W b
/-- the side under a cell -/
def bsd (a : Int × Int) : wlk := (a.1 + 1, a.2, 2)
theorem cR_bsd (a : Int × Int) : cR (bsd a) = a := by
  show (a.1 + 1 - 1, a.2) = a
  rw [show a.1 + 1 - 1 = a.1 by omega]
theorem rim (b : BC C W H) : ∀ n : Nat, ∀ i : Int, (i + 1).toNat ≤ n → -1 ≤ i → i ≤ W → cmp C W H (-1, -1) (i, -1) := by
  have ok : ∀ i, -1 ≤ i → i ≤ W → okc C W H (i, -1) := fun i a a' => ⟨a, a', by show (-1 : Int) ≤ -1; omega, by have := b.2.1; show (-1 : Int) ≤ H; omega, BC_f b (by show ¬ (0 ≤ i ∧ i < W ∧ (0 : Int) ≤ -1 ∧ (-1 : Int) < H); omega)⟩
  intro n
  induction n with
  | zero =>
    intro i hi i0 i1
    rw [show i = -1 by omega]
    exact cmp_refl _
  | succ n ih =>
    intro i hi i0 i1
    by_cases z : i = -1
    · rw [z]; exact cmp_refl _
    · refine cmp_trans (ih (i - 1) (by omega) (by omega) (by omega)) (cmp_step (ok _ (by omega) (by omega)) (ok _ i0 i1) ?_)
      show -1 ≤ i - (i - 1) ∧ i - (i - 1) ≤ 1 ∧ (-1 : Int) ≤ -1 - -1 ∧ (-1 : Int) - -1 ≤ 1
      omega
/-- the cells round the first cell of a hole, left and below, are of the area -/
theorem HL_round (b : BC C W H) {i j : Int} (h : HL C W H (i, j)) : C i (j - 1) = true ∧ C (i - 1) j = true ∧ C (i - 1) (j - 1) = true ∧ C i j = false ∧ 0 ≤ i ∧ 0 ≤ j := by
  obtain ⟨⟨o1, o2, o3, o4, o5⟩, n, l⟩ := h
  have o1' : -1 ≤ i := o1
  have o2' : i ≤ W := o2
  have o3' : -1 ≤ j := o3
  have o4' : j ≤ H := o4
  have o5' : C i j = false := o5
  have ok : okc C W H (i, j) := ⟨o1, o2, o3, o4, o5⟩
  have j0 : 0 ≤ j := Classical.byContradiction (fun z => by
    apply n
    rw [show j = -1 by omega]
    exact rim b _ i (Nat.le_refl _) o1' o2')
  have t : ∀ i' j', -1 ≤ i' → i' ≤ W → -1 ≤ j' → j' ≤ H → near (i, j) (i', j') → idx W (i', j') < idx W (i, j) → C i' j' = true := fun i' j' a1 a2 a3 a4 nr lt => by
    cases e : C i' j'
    · have := l (i', j') (cmp_step ok ⟨a1, a2, a3, a4, e⟩ nr)
      omega
    · rfl
  have c1 : C i (j - 1) = true := t i (j - 1) o1' o2' (by omega) (by omega) (by
    show -1 ≤ i - i ∧ i - i ≤ 1 ∧ -1 ≤ j - 1 - j ∧ j - 1 - j ≤ 1
    omega) (idx_row ⟨o1', o2'⟩ ⟨o1', o2'⟩ (show j - 1 < j by omega))
  have r := b.2.2 _ _ c1
  refine ⟨c1, ?_, ?_, o5', r.1, j0⟩
  · refine t (i - 1) j (by omega) (by omega) o3' o4' ?_ ?_
    · show -1 ≤ i - 1 - i ∧ i - 1 - i ≤ 1 ∧ -1 ≤ j - j ∧ j - j ≤ 1
      omega
    · show (j + 1) * (W + 2) + (i - 1 + 1) < (j + 1) * (W + 2) + (i + 1)
      omega
  · refine t (i - 1) (j - 1) (by omega) (by omega) (by omega) (by omega) ?_ (idx_row ⟨by show -1 ≤ i - 1; omega, by show i - 1 ≤ W; omega⟩ ⟨o1', o2'⟩ (show j - 1 < j by omega))
    show -1 ≤ i - 1 - i ∧ i - 1 - i ≤ 1 ∧ -1 ≤ j - 1 - j ∧ j - 1 - j ≤ 1
    omega
theorem HL_side (b : BC C W H) {i j : Int} (h : HL C W H (i, j)) : isS C (bsd (i, j)) ∧ stp C (bsd (i, j)) = (i, j, 1) ∧ isS C (i, j, 1) := by
  obtain ⟨c1, c2, c3, c4, i0, j0⟩ := HL_round b h
  have s1 : isS C (i + 1, j, 2) := ⟨Or.inr (Or.inr (Or.inl rfl)), by
    show (C (i + 1 - 1) (j - 1) && !C (i + 1 - 1) j) = true
    rw [show i + 1 - 1 = i by omega, c1, c4]
    rfl⟩
  have e := st_2 (C := C) i j
  rw [c1, c2, c3, c4] at e
  refine ⟨s1, e, Or.inr (Or.inl rfl), ?_⟩
  show (C (i - 1) j && !C i j) = true
  rw [c2, c4]
  rfl
/-- an upright side of the loop in a row -/
theorem wn_v (h : OS C O) (b : BC C W H) (j : Int) : ∀ n : Nat, ∀ i : Int, (i + 1).toNat ≤ n → wn O i j ≠ 0 → ∃ c, O (c, j + 1, 3) ∨ O (c, j, 1) := by
  intro n
  induction n with
  | zero => intro i hi z; exact absurd (wn_neg (by omega)) z
  | succ n ih =>
    intro i hi z
    by_cases y : i < 0
    · exact absurd (wn_neg y) z
    · by_cases d3 : O (i, j + 1, 3)
      · exact ⟨i, Or.inl d3⟩
      · by_cases d1 : O (i, j, 1)
        · exact ⟨i, Or.inr d1⟩
        · have x := wn_h h b i j
          unfold dX at x
          rw [iN_f d3, iN_f d1] at x
          exact ih (i - 1) (by omega) (by omega)
/-- no upright side in the row below a first cell -/
theorem HL_below (b : BC C W H) {p : wlk} (hp : isS C p) (h : OS C (orb C p)) {i j : Int} (l : HL C W H (i, j)) (c : cmp C W H (cR p) (i, j)) : wn (orb C p) i (j - 1) = 0 := Classical.byContradiction (fun z => by
  obtain ⟨c', o⟩ := wn_v h b (j - 1) _ i (Nat.le_refl _) z
  obtain ⟨⟨o1, o2, _⟩, _, least⟩ := l
  have key : ∀ q, orb C p q → (cR q).2 = j - 1 → False := fun q oq e => by
    have cc := cmp_trans (cmp_sym c) (cR_cmp h b hp oq)
    have ok := cR_ok b (h.1 q oq)
    have := least _ cc
    have := idx_row (W := W) (a := cR q) (b := (i, j)) ⟨ok.1, ok.2.1⟩ ⟨o1, o2⟩ (by show (cR q).2 < j; omega)
    omega
  rcases o with o | o
  · exact key _ o (by show j - 1 + 1 - 1 = j - 1; omega)
  · exact key _ o rfl)
/-- the loop along the side under the first cell of a hole has nothing on its left -/
theorem HL_neg (b : BC C W H) {p : wlk} (hp : isS C p) (h : OS C (orb C p)) {a : Int × Int} (l : HL C W H a) (o : orb C p (bsd a)) : wn (orb C p) (cL p).1 (cL p).2 = 0 := by
  obtain ⟨i, j⟩ := a
  have x := (wn_all h b hp o).1
  have c := cR_cmp h b hp o
  rw [cR_bsd] at c
  have y := HL_below b hp h l c
  have x' : wn (orb C p) (i + 1 - 1) (j - 1) = wn (orb C p) (cL p).1 (cL p).2 := x
  rw [show i + 1 - 1 = i by omega] at x'
  omega
theorem least_cmp (b : BC C W H) {r : Int × Int} (hr : okc C W H r) : ∃ a, cmp C W H r a ∧ ∀ z, cmp C W H r z → idx W a ≤ idx W z := by
  have key : ∀ n : Nat, ∀ r' : Int × Int, cmp C W H r r' → (idx W r').toNat ≤ n → ∃ a, cmp C W H r a ∧ ∀ z, cmp C W H r z → idx W a ≤ idx W z := by
    intro n
    induction n with
    | zero =>
      intro r' c hn
      refine ⟨r', c, fun z cz => ?_⟩
      have := idx_rg (cmp_ok hr cz)
      have := idx_rg (cmp_ok hr c)
      omega
    | succ n ih =>
      intro r' c hn
      by_cases q : ∃ z, cmp C W H r z ∧ idx W z < idx W r'
      · obtain ⟨z, cz, lt⟩ := q
        have := idx_rg (cmp_ok hr cz)
        exact ih z cz (by omega)
      · exact ⟨r', c, fun z cz => Classical.byContradiction (fun y => q ⟨z, cz, by omega⟩)⟩
  exact key _ r (cmp_refl r) (Nat.le_refl _)
/-- and every such loop runs along the side under the first cell of a hole -/
theorem neg_HL (b : BC C W H) {p : wlk} (hp : isS C p) (h : OS C (orb C p)) (k0 : wn (orb C p) (cL p).1 (cL p).2 = 0) : ∃ a, HL C W H a ∧ orb C p (bsd a) := by
  have okr := cR_ok b hp
  obtain ⟨a, ca, la⟩ := least_cmp b okr
  have wa : wn (orb C p) a.1 a.2 = -1 := by
    rw [wn_cmp h b ca, (wn_all h b hp (q := p) ⟨0, rfl⟩).2, k0]
    rfl
  have l : HL C W H a := ⟨cmp_ok okr ca, fun c => by
    have x := wn_cmp h b c
    rw [wa, show wn (orb C p) ((-1 : Int), (-1 : Int)).1 ((-1 : Int), (-1 : Int)).2 = 0 from wn_neg (by decide)] at x
    exact absurd x (by decide), fun z cz => la z (cmp_trans ca cz)⟩
  refine ⟨a, l, ?_⟩
  obtain ⟨i, j⟩ := a
  have y := HL_below b hp h l ca
  have wa' : wn (orb C p) i j = -1 := wa
  have u := wn_up h b i j
  have c4 := (HL_round b l).2.2.2.1
  have n1 : ¬ orb C p (i, j, 0) := fun o => by
    have y : (C i j && !C i (j - 1)) = true := (h.1 _ o).2
    rw [c4] at y
    exact absurd y Bool.false_ne_true
  rw [iN_f n1] at u
  by_cases z : orb C p (i + 1, j, 2)
  · exact z
  · rw [iN_f z] at u
    omega
theorem HL_one (b : BC C W H) {p : wlk} (hp : isS C p) (h : OS C (orb C p)) {a a' : Int × Int} (l : HL C W H a) (l' : HL C W H a') (o : orb C p (bsd a)) (o' : orb C p (bsd a')) : a = a' := by
  have c := cR_cmp h b hp o
  have c' := cR_cmp h b hp o'
  rw [cR_bsd] at c c'
  have x := l.2.2 a' (cmp_trans (cmp_sym c) c')
  have y := l'.2.2 a (cmp_trans (cmp_sym c') c)
  exact idx_one ⟨l.1.1, l.1.2.1⟩ ⟨l'.1.1, l'.1.2.1⟩ (by omega)
theorem OS_orb {p : wlk} {m : Nat} (hp : isS C p) (m0 : 0 < m) (hm : sti C m p = p) : OS C (orb C p) := ⟨fun _ o => orb_isS hp o, fun _ hq => orb_clo hp m0 hm hq⟩
end
