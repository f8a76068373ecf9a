/-! ===== box, the class's side ===== -/
/-- the reference, the law's array and the loops stay -/
def cfr (M M1 : mm_M) : Prop := ∀ a k, ((17 ≤ a ∧ a ≤ 20) ∨ 72 ≤ a) → M1.1 a k = M.1 a k
theorem cfr_trans {M M1 M2 : mm_M} (h : cfr M M1) (g : cfr M1 M2) : cfr M M2 := fun a k q => (g a k q).trans (h a k q)
theorem cfr_row {M M1 : mm_M} {w : Nat} (hw : mr_Rw w) (h : fr (rS w) M M1) : cfr M M1 := fun a k q => h.2 a k (fun z => by
  have z' : a = w + 1 := z
  unfold mr_Rw at hw
  omega)
theorem cfr_bS {M M1 : mm_M} {b : Nat} (hb : mr_A b) (h : fr (bS b) M M1) : cfr M M1 := fun a k q => h.2 a k (fun z => by
  unfold bS at z
  unfold mr_A at hb
  omega)
section
variable {sc : Nat × (Int → Int)} {M : mm_M} {X : Nat → mm_M → Prop}
/-- what box() may be asked -/
def boxOk (l lo r hi : Int) : Prop := -1000 ≤ l ∧ l ≤ 1000 ∧ -1000 ≤ lo ∧ lo ≤ 1000 ∧ l + 1 ≤ r ∧ r ≤ 1000 ∧ lo + 1 ≤ hi ∧ hi ≤ 1000
/-- CellAreas.box -/
theorem c31 {K : mm_M → Prop} {t l lo r hi : Int} (ho : mr_ok M) (hO : OW M) (ht : mr_rg t) (hl : mr_rg l) (hlo : mr_rg lo) (hr : mr_rg r) (hhi : mr_rg hi)
    (x1 : ¬ (0 ≤ t ∧ t < 8) → X 1 (M.1, M.2.1, M.2.2 + 1)) (x2 : (0 ≤ t ∧ t < 8) → ¬ boxOk l lo r hi → X 2 (M.1, M.2.1, M.2.2 + 1))
    (k : (0 ≤ t ∧ t < 8) → boxOk l lo r hi → ∀ M1, M1.2.2 = M.2.2 → OW M1 → fits (rdA M1 (ar M1 t)) (fun x y => lo ≤ y ∧ y < hi ∧ l ≤ x ∧ x < r) → (∀ j, 0 ≤ j → j < 8 → j ≠ t → rdA M1 (ar M1 j) = rdA M (ar M j)) → M1.1 0 6 = (if M.1 0 6 = t then -1 else M.1 0 6) → cfr M M1 → K M1) : en_CV sc 31 [mm_r 0, mm_i t, mm_i l, mm_i lo, mm_i r, mm_i hi] M K X := by
  have c1000 : mr_rg (-1000) := ⟨by decide, by decide⟩
  have d1000 : mr_rg 1000 := ⟨by decide, by decide⟩
  refine vc31_0 ho (c9 ho ht (fun gt _ => ?_) (fun q => Or.inr ⟨1, rfl, by decide, x1 q⟩))
  refine c10 ho hl c1000 d1000 (fun g1 _ => ?_) (fun q => Or.inr ⟨2, rfl, by decide, x2 gt (fun z => q ⟨z.1, z.2.1⟩)⟩)
  refine c10 ho hlo c1000 d1000 (fun g2 _ => ?_) (fun q => Or.inr ⟨2, rfl, by decide, x2 gt (fun z => q ⟨z.2.2.1, z.2.2.2.1⟩)⟩)
  refine c10 ho hr ⟨by omega, by omega⟩ d1000 (fun g3 _ => ?_) (fun q => Or.inr ⟨2, rfl, by decide, x2 gt (fun z => q ⟨z.2.2.2.2.1, z.2.2.2.2.2.1⟩)⟩)
  refine c10 ho hhi ⟨by omega, by omega⟩ d1000 (fun g4 _ => ?_) (fun q => Or.inr ⟨2, rfl, by decide, x2 gt (fun z => q ⟨z.2.2.2.2.2.2.1, z.2.2.2.2.2.2.2⟩)⟩)
  have w11 : mr_Rw 11 := Or.inr (Or.inl rfl)
  refine c12 ho w11 (fun Ma fa ra hoa => ?_)
  refine c17 hoa w11 hl hr (by omega) (fun Mb fb rb' hob => ?_)
  have fab := fr_trans fa fb
  obtain ⟨Ob, ob1, ob2, ob3⟩ := OW_fr hO fab (rS_O w11) (by
    intro z
    have z' : br M + 3 = 11 + 1 := z
    have := hO.2.2.2.1
    unfold mr_A at this
    omega)
  have hA := Ob.2.2.2.1
  refine c18 hob Ob.2.2.1 hA (Ob.2.2.2.2 _ hA) (fun Mc fc Bc hoc => ?_)
  obtain ⟨Oc, oc1, oc2, oc3⟩ := OW_fr Ob fc (bS_O hA) (by
    intro z
    unfold bS at z
    unfold mr_A at hA
    omega)
  have rc : ∀ x, ri Mc 11 x ↔ l ≤ x ∧ x < r := by
    intro x
    rw [ri_fr fc (fun k z => by unfold bS at z; unfold mr_A at hA; omega), rb']
    constructor
    · rintro (g | g)
      · exact absurd g (ra x)
      · exact ⟨g.2.2.1, g.2.2.2⟩
    · intro g
      exact Or.inr ⟨by omega, by omega, g.1, g.2⟩
  refine c29 hoc Bc w11 (by decide) (fun x g => by have := (rc x).mp g; omega) hlo hhi (fun _ => ⟨by omega, by omega⟩) (fun _ x y z => z.elim) (fun Md fd Bd hod => ?_)
  have hA' := Oc.2.2.2.1
  rw [← oc2] at fd Bd
  obtain ⟨Od, od1, od2, od3⟩ := OW_fr Oc fd (bS_O hA') (by
    intro z
    unfold bS at z
    unfold mr_A at hA'
    omega)
  rw [← od2] at Bd
  have Be : BS Md (br Md) (fun x y => lo ≤ y ∧ y < hi ∧ l ≤ x ∧ x < r) := BS_iff Bd (fun x y => by
    rw [rc]
    exact ⟨fun z => z.elim (fun z => z.elim) id, Or.inr⟩)
  refine c30x hod Od Be gt.1 gt.2 (fun ov => (not_both (box_fits ⟨by omega, by omega, by omega, by omega, by omega, by omega⟩) ov).elim) (fun Me e1 e2 e3 e4 e5 e6 _ => Or.inl ⟨rfl, ?_⟩)
  refine k gt ⟨g1.1, g1.2, g2.1, g2.2, g3.1, g3.2, g4.1, g4.2⟩ Me ?_ e2 e3 (fun j j0 j1 jt => ?_) ?_ ?_
  · rw [e1, fd.1, fc.1, fab.1]
  · rw [e4 j j0 j1 jt, od1, oc1, ob1]
    have p1 := ob3 j j0 j1
    have p2 := oc3 j j0 j1
    have p3 := od3 j j0 j1
    rw [ob1] at p2
    rw [oc1, ob1] at p3
    rw [p3, p2, p1]
  · have p : Md.1 0 6 = M.1 0 6 := by
      rw [fd.2 _ _ (by unfold bS; unfold mr_A at hA'; omega), fc.2 _ _ (by unfold bS; unfold mr_A at hA; omega), fab.2 _ _ (by intro z; have z' : 0 = 11 + 1 := z; omega)]
    rw [e5, p]
  · exact cfr_trans (cfr_row w11 fab) (cfr_trans (cfr_bS hA fc) (cfr_trans (cfr_bS hA' fd) (fun a k q => e6 a k (by omega))))
end
