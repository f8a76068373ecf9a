/-! ===== the flat sides, band by band ===== -/
section
variable {s : sh} {M : mm_M}
theorem hsd_at {W i j : Int} (i0 : 0 ≤ i) (i1 : i ≤ W) : hsd W (2 * (j * (W + 1) + i)) = (i, j, 0) ∧ hsd W (2 * (j * (W + 1) + i) + 1) = (i + 1, j, 2) := by
  have d := dec_ix (w := W + 1) (j := j) i0 (by omega)
  unfold hsd
  rw [if_pos (by omega), if_neg (by omega), show 2 * (j * (W + 1) + i) / 2 = j * (W + 1) + i by omega, show (2 * (j * (W + 1) + i) + 1) / 2 = j * (W + 1) + i by omega, d.1, d.2]
  exact ⟨rfl, rfl⟩
theorem dxK_at {i j : Int} (i0 : 0 ≤ i) (i1 : i ≤ gw M) : dxK M (2 * (j * (gw M + 1) + i)) = gx M (i + 1) - gx M i ∧ dxK M (2 * (j * (gw M + 1) + i) + 1) = gx M (i + 1) - gx M i := by
  have d := dec_ix (w := gw M + 1) (j := j) i0 (by omega)
  unfold dxK
  rw [show 2 * (j * (gw M + 1) + i) / 2 = j * (gw M + 1) + i by omega, show (2 * (j * (gw M + 1) + i) + 1) / 2 = j * (gw M + 1) + i by omega, d.1]
  exact ⟨rfl, rfl⟩
/-- under row j, and over it -/
noncomputable def fB (s : sh) (M : mm_M) (j : Int) : Int := sumN (fun i => @ite _ (isS (Cg s M) (i, j, 0)) (Classical.propDecidable _) (gx M (i + 1) - gx M i) 0) (gw M).toNat
noncomputable def fT (s : sh) (M : mm_M) (j : Int) : Int := sumN (fun i => @ite _ (isS (Cg s M) (i + 1, j, 2)) (Classical.propDecidable _) (gx M (i + 1) - gx M i) 0) (gw M).toNat
theorem is0_iff {i j : Int} : isS (Cg s M) (i, j, 0) ↔ cel s M i j ∧ ¬ cel s M i (j - 1) := by
  constructor
  · intro h
    have x := cLR h
    exact ⟨Cg_iff.mp x.1, Cg_no.mp x.2⟩
  · rintro ⟨a, b⟩
    refine ⟨Or.inl rfl, ?_⟩
    show (Cg s M i j && !Cg s M i (j - 1)) = true
    rw [Cg_t a, Cg_f b]
    rfl
theorem is2_iff {i j : Int} : isS (Cg s M) (i + 1, j, 2) ↔ cel s M i (j - 1) ∧ ¬ cel s M i j := by
  constructor
  · intro h
    have x := cLR h
    have x1 : Cg s M (i + 1 - 1) (j - 1) = true := x.1
    have x2 : Cg s M (i + 1 - 1) j = false := x.2
    rw [show i + 1 - 1 = i by omega] at x1 x2
    exact ⟨Cg_iff.mp x1, Cg_no.mp x2⟩
  · rintro ⟨a, b⟩
    refine ⟨Or.inr (Or.inr (Or.inl rfl)), ?_⟩
    show (Cg s M (i + 1 - 1) (j - 1) && !Cg s M (i + 1 - 1) j) = true
    rw [show i + 1 - 1 = i by omega, Cg_t a, Cg_f b]
    rfl
theorem flat_rows (g : GL s M) : sumN (fun K => @ite _ (isS (Cg s M) (hsd (gw M) K)) (Classical.propDecidable _) (dxK M K) 0) (2 * ((gw M + 1) * (gh M + 1))).toNat = sumN (fun j => fB s M j + fT s M (1 + j)) (gh M).toNat := by
  have W0 := g.1
  have H0 := g.2.2.1
  have p0 : 0 ≤ (gw M + 1) * (gh M + 1) := Int.mul_nonneg (by omega) (by omega)
  have eN : ((gw M + 1) * (gh M + 1)).toNat = (gh M + 1).toNat * (gw M + 1).toNat := by
    have e : (((gh M + 1).toNat * (gw M + 1).toNat : Nat) : Int) = (gw M + 1) * (gh M + 1) := by
      rw [Int.natCast_mul, show (((gh M + 1).toNat : Nat) : Int) = gh M + 1 by omega, show (((gw M + 1).toNat : Nat) : Int) = gw M + 1 by omega, Int.mul_comm]
    omega
  rw [show (2 * ((gw M + 1) * (gh M + 1))).toNat = 2 * ((gw M + 1) * (gh M + 1)).toNat by omega, sum_pair, eN, sum_blocks]
  have rows : sumN (fun j => sumN (fun c => @ite _ (isS (Cg s M) (hsd (gw M) (2 * (j * (((gw M + 1).toNat : Nat) : Int) + c)))) (Classical.propDecidable _) (dxK M (2 * (j * (((gw M + 1).toNat : Nat) : Int) + c))) 0 + @ite _ (isS (Cg s M) (hsd (gw M) (2 * (j * (((gw M + 1).toNat : Nat) : Int) + c) + 1))) (Classical.propDecidable _) (dxK M (2 * (j * (((gw M + 1).toNat : Nat) : Int) + c) + 1)) 0) (gw M + 1).toNat) (gh M + 1).toNat = sumN (fun j => fB s M j + fT s M j) (gh M + 1).toNat := sumN_eq (fun j j0 j1 => by
    have e : sumN (fun c => @ite _ (isS (Cg s M) (hsd (gw M) (2 * (j * (((gw M + 1).toNat : Nat) : Int) + c)))) (Classical.propDecidable _) (dxK M (2 * (j * (((gw M + 1).toNat : Nat) : Int) + c))) 0 + @ite _ (isS (Cg s M) (hsd (gw M) (2 * (j * (((gw M + 1).toNat : Nat) : Int) + c) + 1))) (Classical.propDecidable _) (dxK M (2 * (j * (((gw M + 1).toNat : Nat) : Int) + c) + 1)) 0) (gw M + 1).toNat = sumN (fun i => @ite _ (isS (Cg s M) (i, j, 0)) (Classical.propDecidable _) (gx M (i + 1) - gx M i) 0 + @ite _ (isS (Cg s M) (i + 1, j, 2)) (Classical.propDecidable _) (gx M (i + 1) - gx M i) 0) (gw M + 1).toNat := sumN_eq (fun c c0 c1 => by
      have c2 : c ≤ gw M := by omega
      rw [show (((gw M + 1).toNat : Nat) : Int) = gw M + 1 by omega, (hsd_at c0 c2).1, (hsd_at c0 c2).2, (dxK_at c0 c2).1, (dxK_at c0 c2).2])
    rw [e, sumN_add, show (gw M + 1).toNat = (gw M).toNat + 1 by omega]
    show (fB s M j + @ite _ (isS (Cg s M) ((((gw M).toNat : Nat) : Int), j, 0)) (Classical.propDecidable _) _ 0) + (fT s M j + @ite _ (isS (Cg s M) ((((gw M).toNat : Nat) : Int) + 1, j, 2)) (Classical.propDecidable _) _ 0) = fB s M j + fT s M j
    rw [show (((gw M).toNat : Nat) : Int) = gw M by omega, if_neg (fun h => by
      have := (is0_iff.mp h).1.2.1
      omega), if_neg (fun h => by
      have := (is2_iff.mp h).1.2.1
      omega)]
    omega)
  rw [rows, sumN_add, sumN_add]
  have eB : sumN (fun j => fB s M j) (gh M + 1).toNat = sumN (fun j => fB s M j) (gh M).toNat := by
    rw [show (gh M + 1).toNat = (gh M).toNat + 1 by omega]
    show _ + fB s M (((gh M).toNat : Nat) : Int) = _
    have z : fB s M (((gh M).toNat : Nat) : Int) = 0 := sumN_z (fun i i0 i1 => if_neg (fun h => by
      have := (is0_iff.mp h).1.2.2.2.1
      omega))
    rw [z, Int.add_zero]
  have eT : sumN (fun j => fT s M j) (gh M + 1).toNat = sumN (fun j => fT s M (1 + j)) (gh M).toNat := by
    rw [show (gh M + 1).toNat = 1 + (gh M).toNat by omega, sumN_split]
    have z : sumN (fun j => fT s M j) 1 = 0 := by
      show (0 : Int) + fT s M ((0 : Nat) : Int) = 0
      have z : fT s M ((0 : Nat) : Int) = 0 := sumN_z (fun i i0 i1 => if_neg (fun h => by
        have := (is2_iff.mp h).1.2.2.1
        omega))
      rw [z]
      rfl
    rw [z, Int.zero_add]
    rfl
  rw [eB, eT]
/-- columns and units -/
theorem col_mu (g : GL s M) (B : GBd M) {R : Int → Prop} (hc : ∀ i x, 0 ≤ i → i < gw M → gx M i ≤ x → x < gx M (i + 1) → (R x ↔ R (gx M i))) (hr : ∀ x, R x → gx M 0 ≤ x ∧ x < gx M (gw M)) : sumN (fun i => @ite _ (R (gx M i)) (Classical.propDecidable _) (gx M (i + 1) - gx M i) 0) (gw M).toNat = mu R := by
  have W0 := g.1
  have ax := g.2.2.2.2.1
  have key : ∀ n : Nat, (n : Int) ≤ gw M → sumN (fun i => @ite _ (R (gx M i)) (Classical.propDecidable _) (gx M (i + 1) - gx M i) 0) n = mu (fun x => R x ∧ x < gx M n) := by
    intro n
    induction n with
    | zero =>
      intro _
      rw [mu_0 (fun x z => by
        have := (hr x z.1).1
        have z2 : x < gx M 0 := z.2
        omega)]
      rfl
    | succ n ih =>
      intro hn
      have lt := ax n ((n : Int) + 1) (by omega) (by omega) (by omega)
      have b1 := B.1 n (by omega) (by omega)
      have b2 := B.1 ((n : Int) + 1) (by omega) (by omega)
      show sumN (fun i => @ite _ (R (gx M i)) (Classical.propDecidable _) (gx M (i + 1) - gx M i) 0) n + @ite _ (R (gx M (n : Int))) (Classical.propDecidable _) (gx M ((n : Int) + 1) - gx M (n : Int)) 0 = _
      rw [ih (by omega), show ((n + 1 : Nat) : Int) = (n : Int) + 1 by omega]
      have sp : mu (fun x => R x ∧ x < gx M ((n : Int) + 1)) = mu (fun x => R x ∧ x < gx M (n : Int)) + mu (fun x => R (gx M (n : Int)) ∧ gx M (n : Int) ≤ x ∧ x < gx M ((n : Int) + 1)) := by
        rw [← mu_add (fun x z => by
          have := z.1.2
          have := z.2.2.1
          omega)]
        refine mu_eq (fun x _ _ => ⟨fun z => ?_, fun z => ?_⟩)
        · by_cases y : x < gx M (n : Int)
          · exact Or.inl ⟨z.1, y⟩
          · exact Or.inr ⟨(hc n x (by omega) (by omega) (by omega) z.2).mp z.1, by omega, z.2⟩
        · rcases z with z | z
          · exact ⟨z.1, by have := z.2; omega⟩
          · exact ⟨(hc n x (by omega) (by omega) z.2.1 z.2.2).mpr z.1, z.2.2⟩
      rw [sp]
      by_cases y : R (gx M (n : Int))
      · rw [if_pos y, ← mu_int b1.1 (show gx M (n : Int) ≤ gx M ((n : Int) + 1) by omega) b2.2]
        have e : mu (fun x => R (gx M (n : Int)) ∧ gx M (n : Int) ≤ x ∧ x < gx M ((n : Int) + 1)) = mu (fun x => gx M (n : Int) ≤ x ∧ x < gx M ((n : Int) + 1)) := mu_eq (fun x _ _ => ⟨fun z => z.2, fun z => ⟨y, z⟩⟩)
        rw [e]
      · rw [if_neg y, mu_0 (P := fun x => R (gx M (n : Int)) ∧ gx M (n : Int) ≤ x ∧ x < gx M ((n : Int) + 1)) (fun x z => y z.1)]
  have x := key (gw M).toNat (by omega)
  rw [x, show (((gw M).toNat : Nat) : Int) = gw M by omega]
  exact mu_eq (fun x _ _ => ⟨fun z => z.1, fun z => ⟨z, (hr x z).2⟩⟩)
/-- the row below a line, the row above it -/
theorem line_lo (h : wf s) (g : GL s M) (n : 0 < sn s) {i j : Int} (i0 : 0 ≤ i) (i1 : i < gw M) (j0 : 0 ≤ j) (j1 : j ≤ gh M) : cel s M i (j - 1) ↔ has s (gx M i) (gy M j - 1) := by
  obtain ⟨_, _, _, he⟩ := GL_pos g (Int.le_refl 0) n
  have ay := g.2.2.2.2.2.1
  by_cases z : j = 0
  · rw [z]
    constructor
    · intro c
      have := c.2.2.1
      omega
    · intro c
      obtain ⟨v, v1, v2⟩ := ends_lo c
      obtain ⟨k, k0, k1, k2⟩ := (he v).mp v1
      by_cases y : k = 0
      · rw [y] at k2; omega
      · have := ay 0 k (Int.le_refl _) (by omega) k1
        omega
  · have lt := ay (j - 1) j (by omega) (by omega) j1
    have c := rows_const (T := has s) (mk := ends s) (l := gy M (j - 1)) (h := gy M j) (fun y a b q x => has_const (fun ⟨k, k0, k1, k2⟩ => q ⟨k, k0, k1, k2⟩) x) (fun y a b q => by
      obtain ⟨k, k0, k1, k2⟩ := (he y).mp q
      have a1 := (asc_inj ay (show 0 ≤ j - 1 by omega) (show j - 1 ≤ gh M by omega) k0 k1).1.mp (by omega)
      have a2 := (asc_inj ay k0 k1 (show 0 ≤ j by omega) j1).1.mp (by omega)
      omega) (y := gy M j - 1) (by omega) (by omega) (gx M i)
    rw [c]
    exact ⟨fun q => q.2.2.2.2, fun q => ⟨i0, i1, by omega, by omega, q⟩⟩
theorem line_hi (h : wf s) (g : GL s M) (n : 0 < sn s) {i j : Int} (i0 : 0 ≤ i) (i1 : i < gw M) (j0 : 0 ≤ j) (j1 : j ≤ gh M) : cel s M i j ↔ has s (gx M i) (gy M j) := by
  obtain ⟨_, _, _, he⟩ := GL_pos g (Int.le_refl 0) n
  have ay := g.2.2.2.2.2.1
  refine ⟨fun c => c.2.2.2.2, fun c => ⟨i0, i1, j0, ?_, c⟩⟩
  obtain ⟨v, v1, v2⟩ := ends_hi c
  obtain ⟨k, k0, k1, k2⟩ := (he v).mp v1
  have := (asc_inj ay j0 j1 k0 k1).1.mp (by omega)
  omega
theorem band_flat (h : wf s) (g : GL s M) {b j : Int} (b0 : 0 ≤ b) (b1 : b < sn s) (j0 : 0 ≤ j) (j1 : j < gh M) (r : RBd s M b j) : fB s M j = mu (fun x => inb s b x ∧ ¬ has s x (slo s b - 1)) ∧ fT s M (1 + j) = mu (fun x => inb s b x ∧ ¬ has s x (shi s b)) := by
  have n : 0 < sn s := by omega
  have B := GL_GB h g n
  have bk := h.2.2.1 b b0 b1
  have bk3 := bk.2.2.1
  have row : ∀ x, has s x (gy M j) ↔ inb s b x := fun x => has_at h b0 b1 (by rw [r.1]; exact Int.le_refl _) (by rw [r.1]; exact bk3) x
  have cc : ∀ y i x, 0 ≤ i → i < gw M → gx M i ≤ x → x < gx M (i + 1) → ((inb s b x ∧ ¬ has s x y) ↔ (inb s b (gx M i) ∧ ¬ has s (gx M i) y)) := fun y i x i0 i1 x0 x1 => by
    rw [inb_col h g b0 b1 i0 i1 x0 x1, col_same h g i0 i1 x0 x1 y]
  have rr : ∀ y x, (inb s b x ∧ ¬ has s x y) → gx M 0 ≤ x ∧ x < gx M (gw M) := fun y x z => by
    obtain ⟨c, c0, c1, c2, c3⟩ := col_ex h g b0 b1 z.1
    have ax := g.2.2.2.2.1
    constructor
    · by_cases q : c = 0
      · rw [q] at c2; exact c2
      · have := ax 0 c (Int.le_refl _) (by omega) (by omega)
        omega
    · by_cases q : c + 1 = gw M
      · rw [q] at c3; exact c3
      · have := ax (c + 1) (gw M) (by omega) (by omega) (Int.le_refl _)
        omega
  constructor
  · rw [← col_mu g B (cc (slo s b - 1)) (rr (slo s b - 1))]
    unfold fB
    refine sumN_eq (fun i i0 i1 => ?_)
    have iff : isS (Cg s M) (i, j, 0) ↔ (inb s b (gx M i) ∧ ¬ has s (gx M i) (slo s b - 1)) := by
      rw [is0_iff, line_hi h g n i0 (by omega) j0 (by omega), line_lo h g n i0 (by omega) j0 (by omega), row, r.1]
    by_cases z : isS (Cg s M) (i, j, 0)
    · rw [if_pos z, if_pos (iff.mp z)]
    · rw [if_neg z, if_neg (fun y => z (iff.mpr y))]
  · rw [← col_mu g B (cc (shi s b)) (rr (shi s b))]
    unfold fT
    refine sumN_eq (fun i i0 i1 => ?_)
    have iff : isS (Cg s M) (i + 1, 1 + j, 2) ↔ (inb s b (gx M i) ∧ ¬ has s (gx M i) (shi s b)) := by
      rw [is2_iff, show 1 + j - 1 = j by omega, show 1 + j = j + 1 by omega, line_hi h g n i0 (by omega) j0 (by omega), line_hi h g n i0 (by omega) (show 0 ≤ j + 1 by omega) (by omega), row, r.2]
    by_cases z : isS (Cg s M) (i + 1, 1 + j, 2)
    · rw [if_pos z, if_pos (iff.mp z)]
    · rw [if_neg z, if_neg (fun y => z (iff.mpr y))]
theorem flat_SD (h : wf s) (g : GL s M) : sumN (fun j => fB s M j + fT s M (1 + j)) (gh M).toNat = sumN (fun b => mu (fun x => inb s b x ∧ ¬ has s x (slo s b - 1)) + mu (fun x => inb s b x ∧ ¬ has s x (shi s b))) (sn s).toNat := by
  have n0 := h.1
  have H0 := g.2.2.1
  have rowE : ∀ b, 0 ≤ b → b < sn s → 0 ≤ Classical.epsilon (fun j => 0 ≤ j ∧ j < gh M ∧ RBd s M b j) ∧ Classical.epsilon (fun j => 0 ≤ j ∧ j < gh M ∧ RBd s M b j) < gh M ∧ RBd s M b (Classical.epsilon (fun j => 0 ≤ j ∧ j < gh M ∧ RBd s M b j)) := fun b b0 b1 => Classical.epsilon_spec (p := fun j => 0 ≤ j ∧ j < gh M ∧ RBd s M b j) (by
    obtain ⟨j, j0, j1, e1, e2⟩ := band_row h g b0 b1
    exact ⟨j, j0, j1, e1, e2⟩)
  have x := sum_imgP (P := fun _ => True) (g := fun u => Classical.epsilon (fun j => 0 ≤ j ∧ j < gh M ∧ RBd s M (u : Int) j)) (w := fun j => fB s M j + fT s M (1 + j)) (N := (gh M).toNat) (sn s).toNat (fun u u1 _ => by
    have y := rowE u (by omega) (by omega)
    exact ⟨y.1, by have := y.2.1; omega⟩) (fun u v uv vm _ _ e => by
    have y := rowE u (by omega) (by omega)
    have z := rowE v (by omega) (by omega)
    have e' : Classical.epsilon (fun j => 0 ≤ j ∧ j < gh M ∧ RBd s M (u : Int) j) = Classical.epsilon (fun j => 0 ≤ j ∧ j < gh M ∧ RBd s M (v : Int) j) := e
    rw [e'] at y
    have := RBd_one h (show (0 : Int) ≤ u by omega) (by omega) (show (0 : Int) ≤ v by omega) (by omega) y.2.2 z.2.2
    omega)
  rw [← sumU_N (f := fun b => mu (fun x => inb s b x ∧ ¬ has s x (slo s b - 1)) + mu (fun x => inb s b x ∧ ¬ has s x (shi s b)))]
  have y : sumU (fun u => (fun b => mu (fun x => inb s b x ∧ ¬ has s x (slo s b - 1)) + mu (fun x => inb s b x ∧ ¬ has s x (shi s b))) (u : Int)) (sn s).toNat = sumU (fun u => @ite _ True (Classical.propDecidable _) ((fun j => fB s M j + fT s M (1 + j)) (Classical.epsilon (fun j => 0 ≤ j ∧ j < gh M ∧ RBd s M (u : Int) j))) 0) (sn s).toNat := sumU_cong _ (fun u hu => by
    have y := rowE u (by omega) (by omega)
    have z := band_flat h g (show (0 : Int) ≤ u by omega) (by omega) y.1 y.2.1 y.2.2
    show _ = @ite _ True (Classical.propDecidable _) (fB s M _ + fT s M (1 + _)) 0
    rw [if_pos trivial, z.1, z.2])
  rw [y, x]
  refine sumN_eq (fun j j0 j1 => ?_)
  show fB s M j + fT s M (1 + j) = @ite _ (∃ v : Nat, v < (sn s).toNat ∧ True ∧ Classical.epsilon (fun j => 0 ≤ j ∧ j < gh M ∧ RBd s M (v : Int) j) = j) (Classical.propDecidable _) (fB s M j + fT s M (1 + j)) 0
  by_cases z : ∃ v : Nat, v < (sn s).toNat ∧ True ∧ Classical.epsilon (fun j => 0 ≤ j ∧ j < gh M ∧ RBd s M (v : Int) j) = j
  · rw [if_pos z]
  · rw [if_neg z]
    have no : ∀ i, ¬ cel s M i j := fun i c => by
      obtain ⟨b, k, r, a, _, _⟩ := cel_at h g c
      apply z
      have y := rowE b a.1 a.2.1
      have e : Classical.epsilon (fun j => 0 ≤ j ∧ j < gh M ∧ RBd s M b j) = j := (asc_inj g.2.2.2.2.2.1 y.1 (by have := y.2.1; omega) j0 (by omega)).2.mp (by rw [y.2.2.1, r.1])
      have b1 : b < sn s := a.2.1
      have b0 : 0 ≤ b := a.1
      refine ⟨b.toNat, by omega, trivial, ?_⟩
      rw [show ((b.toNat : Nat) : Int) = b by omega]
      exact e
    have z1 : fB s M j = 0 := sumN_z (fun i _ _ => if_neg (fun q => no i (is0_iff.mp q).1))
    have z2 : fT s M (1 + j) = 0 := sumN_z (fun i _ _ => if_neg (fun q => no i (by
      have := (is2_iff.mp q).1
      rw [show 1 + j - 1 = j by omega] at this
      exact this)))
    rw [z1, z2]
    rfl
theorem sides_eq {Mc : mm_M} (w : wf s) (F : FLS s M) (T : MTC s M Mc) : sumN (fun l => clenF Mc l) (Mc.1 17 0).toNat = SD s := by
  have g := F.1.1
  rw [clen_all w F T, flat_rows g, flat_SD w g, sum_vE w, ← sumN_add]
  unfold SD
  refine sumN_eq (fun b b0 b1 => ?_)
  have two : ∀ P : Int → Prop, mu (inb s b) = mu (fun x => inb s b x ∧ P x) + mu (fun x => inb s b x ∧ ¬ P x) := fun P => by
    rw [← mu_add (fun x z => z.2.2 z.1.2)]
    refine mu_eq (fun x _ _ => ⟨fun z => ?_, fun z => z.elim (fun y => y.1) (fun y => y.1)⟩)
    by_cases y : P x
    · exact Or.inl ⟨z, y⟩
    · exact Or.inr ⟨z, y⟩
  have a := two (fun x => has s x (slo s b - 1))
  have c := two (fun x => has s x (shi s b))
  show _ = sdB s b
  unfold sdB
  omega
end
