/-! ===== clear, both sides ===== -/
theorem none_fits : fits ((0, fun _ => 0, fun _ => 0, fun _ => 0, fun _ => 0, fun _ => 0) : sh) (fun _ _ => False) := by
  refine ⟨⟨(by decide : (0 : Int) ≤ 0), rfl, fun i i0 i1 => ?_, fun i i0 i1 => ?_⟩, (by decide : (0 : Int) ≤ 100), (by decide : (0 : Int) ≤ 400), fun x y => ⟨?_, fun z => z.elim⟩⟩
  · have : i < 0 := i1
    omega
  · have : i + 1 < 0 := i1
    omega
  · rintro ⟨i, i0, i1, _⟩
    have : i < 0 := i1
    omega
section
variable {sc : Nat × (Int → Int)} {M : mm_M} {X : Nat → mm_M → Prop}
/-- CellAreas.clear -/
theorem c43 {K : Int → mm_M → Prop} {t : Int} (ho : mr_ok M) (hO : OW M) (ht : mr_rg t) (x1 : ¬ (0 ≤ t ∧ t < 8) → X 1 (M.1, M.2.1, M.2.2 + 1))
    (k : (0 ≤ t ∧ t < 8) → ∀ M1, M1.2.2 = M.2.2 → OW M1 → fits (rdA M1 (ar M1 t)) (fun _ _ => False) → (∀ j, 0 ≤ j → j < 8 → j ≠ t → rdA M1 (ar M1 j) = rdA M (ar M j)) → M1.1 0 6 = (if M.1 0 6 = t then -1 else M.1 0 6) → cfr M M1 → K (cells (rdA M (ar M t))) M1) : en_CI sc 43 [mm_r 0, mm_i t, mm_u] M K X := by
  refine vc43_0 ho (c9 ho ht (fun gt _ => ?_) (fun q => Or.inr ⟨1, rfl, by decide, x1 q⟩))
  have at' := hO.1 t gt.1 gt.2
  have hA := hO.2.2.2.1
  refine ⟨gt.1, gt.2, ar M t, at'.1, at'.2.1.1, c42 ho at'.2.1 (fun _ => ?_)⟩
  refine c18 ho hO.2.2.1 hA (hO.2.2.2.2 _ hA) (fun Mc fc Bc hoc => ?_)
  obtain ⟨Oc, oc1, oc2, oc3⟩ := OW_fr hO fc (bS_O hA) (by
    intro z
    unfold bS at z
    unfold mr_A at hA
    omega)
  rw [← oc2] at Bc
  refine c30x hoc Oc Bc gt.1 gt.2 (fun ov => (not_both none_fits ov).elim) (fun Me e1 e2 e3 e4 e5 e6 _ => Or.inl ⟨_, rfl, ?_⟩)
  refine k gt Me ?_ e2 e3 (fun j j0 j1 jt => ?_) ?_ ?_
  · rw [e1, fc.1]
  · rw [e4 j j0 j1 jt, oc1]
    exact oc3 j j0 j1
  · have p : Mc.1 0 6 = M.1 0 6 := fc.2 _ _ (by unfold bS; unfold mr_A at hA; omega)
    rw [e5, p]
  · exact cfr_trans (cfr_bS hA fc) (fun a k q => e6 a k (by omega))
/-- CellAreasModel.clear -/
theorem c47 {K : Int → mm_M → Prop} {t : Int} (ho : mr_ok M) (hW : ∀ j, 0 ≤ j → j < 8 → RWk M j) (ht : mr_rg t) (k1 : ¬ (0 ≤ t ∧ t < 8) → ∀ M1, fr (fun a k => a = 72 ∧ k = 0) M M1 → M1.1 72 0 = 1 → K 0 M1)
    (k : (0 ≤ t ∧ t < 8) → ∀ M1, rfr M M1 → M1.1 72 0 = 0 → (∀ j, 0 ≤ j → j < 8 → RWk M1 j) → (∀ j, 0 ≤ j → j < 8 → j ≠ t → eqv (rdB M j) (rdB M1 j)) → fits (rdB M1 t) (fun _ _ => False) → K (cells (rdB M t)) M1) : en_CI sc 47 [mm_r 72, mm_i t, mm_u] M K X := by
  refine vc47_0 ho (c34 ho ht (fun gt _ => ⟨⟨by decide, by decide⟩, fun z => absurd z (by decide), fun _ => ?_⟩) (fun gt _ => ⟨⟨by decide, by decide⟩, fun _ => ?_, fun z => absurd rfl z⟩))
  · have ho0 : mr_ok (mm_putN M 72 0 0) := mr_ok_putI ho ⟨by decide, by decide⟩
    have e0 : (mm_putN M 72 0 0).1 72 0 = 0 := put_eq
    have f0 : fr (fun a k => a = 72 ∧ k = 0) M (mm_putN M 72 0 0) := fr_put ⟨rfl, rfl⟩
    refine vc47_14 ho ⟨by decide, by decide⟩ ⟨fun _ => ?_, fun z => absurd (by rw [e0]; decide) z⟩
    generalize mm_putN M 72 0 0 = Ma at ho0 e0 f0
    have wa : ∀ j, 0 ≤ j → j < 8 → eqv (rdB M j) (rdB Ma j) ∧ RWk Ma j := fun j j0 j1 => rdB_same (hW j j0 j1) (fun a k z => f0.2 _ _ (by unfold hS at z; omega))
    refine c46 ho0 gt.1 (by omega) (wa t gt.1 gt.2).2 (fun _ => ⟨gt.1, by omega, gt.1, by omega, Or.inl ⟨_, rfl, ?_⟩⟩)
    rw [← cells_eqv (hW t gt.1 gt.2).1 (wa t gt.1 gt.2).1]
    have fb : fr (fun a k => (a = 77 ∧ k = t) ∨ (a = 80 ∧ k = t)) Ma (mm_putN (mm_putN Ma 77 t 0) 80 t 0) := fr_trans (fr_put (Or.inl ⟨rfl, rfl⟩)) (fr_put (Or.inr ⟨rfl, rfl⟩))
    have e77 : (mm_putN (mm_putN Ma 77 t 0) 80 t 0).1 77 t = 0 := by rw [put_a (by decide), put_eq]
    have e80 : (mm_putN (mm_putN Ma 77 t 0) 80 t 0).1 80 t = 0 := put_eq
    generalize mm_putN (mm_putN Ma 77 t 0) 80 t 0 = Mb at fb e77 e80
    have F : fits (rdB Mb t) (fun _ _ => False) := by
      have nn : sn (rdB Mb t) = 0 := e77
      have ss : sst (rdB Mb t) 0 = 0 := by
        have := rdB_end (M := Mb) (k := t)
        rw [e77, e80] at this
        exact this
      refine ⟨⟨by omega, ss, fun i a b => absurd b (by omega), fun i a b => absurd b (by omega)⟩, by omega, by rw [nn, ss]; decide, fun x y => ⟨?_, fun z => z.elim⟩⟩
      rintro ⟨i, i0, i1, _⟩
      omega
    have other : ∀ j, 0 ≤ j → j < 8 → j ≠ t → eqv (rdB Ma j) (rdB Mb j) ∧ RWk Mb j := fun j j0 j1 jt => rdB_same (wa j j0 j1).2 (fun a k z => fb.2 _ _ (by unfold hS at z; omega))
    refine k gt Mb ⟨?_, fun a k z => ?_⟩ ?_ (fun j j0 j1 => ?_) (fun j j0 j1 jt => eqv_trans (hW j j0 j1).1 (wa j j0 j1).1 (other j j0 j1 jt).1) F
    · rw [fb.1, f0.1]
    · rw [fb.2 _ _ (by omega), f0.2 _ _ (by omega)]
    · rw [fb.2 _ _ (by omega), e0]
    · by_cases jt : j = t
      · rw [jt]
        refine ⟨F.1, fun i a b => absurd b (by omega), by omega, by omega⟩
      · exact (other j j0 j1 jt).2
  · have e1 : (mm_putN M 72 0 1).1 72 0 = 1 := put_eq
    exact vc47_14 ho ⟨by decide, by decide⟩ ⟨fun z => absurd z (by rw [e1]; decide), fun _ => Or.inl ⟨_, rfl, k1 gt _ (fr_put ⟨rfl, rfl⟩) e1⟩⟩
end
