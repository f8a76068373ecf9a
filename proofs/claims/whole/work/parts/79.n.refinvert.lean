/-! ===== the reference's loop over the cuts, once for all; invert ===== -/
/-- behind the cuts: Md holds them for the cells T -/
def RD (M Md : mm_M) (T : Int → Int → Prop) : Prop := fr vT M Md ∧ Md.1 72 0 = 0 ∧ CT Md ∧ Md.1 72 19 ≤ 1600 ∧ (∀ y, ¬ cu Md (y + 1) → ∀ x, T x (y + 1) ↔ T x y) ∧ (∀ x y, T x y → ∃ v, cu Md v ∧ v ≤ y) ∧ (∀ x y, T x y → ∃ v, cu Md v ∧ y < v)
def RI (Md M' : mm_M) (T : Int → Int → Prop) (i : Int) : Prop := mr_ok M' ∧ fr vS Md M' ∧ RS M' (fun x y => T x y ∧ i < Md.1 72 19 ∧ y < Md.1 87 i)
/-- what making a row writes -/
def wS : Nat → Int → Prop := fun a k => (a = 72 ∧ k ≠ 0 ∧ k ≠ 19 ∧ k ≠ 20) ∨ (81 ≤ a ∧ a ≤ 97 ∧ a ≠ 87)
theorem wS_vS : ∀ a k, wS a k → vS a k := by
  intro a k h
  unfold wS at h
  unfold vS
  omega
theorem nS_wS : ∀ a k, nS a k → wS a k := by
  intro a k h
  unfold wS
  have h' : a = 85 ∨ a = 86 ∨ (a = 72 ∧ k = 17) := h
  omega
theorem RS_w {M M1 : mm_M} {T : Int → Int → Prop} (h : fr wS M M1) (g : RS M T) : RS M1 T := RS_fr h (fun a k z => by unfold wS at z; omega) g
theorem RD_keep {M Md M' : mm_M} {T : Int → Int → Prop} (h : RD M Md T) (hf : fr vS Md M') : fr vT M M' := fr_trans h.1 (fr_mono hf vS_vT)
theorem RD_has {M M' : mm_M} (hf : fr vT M M') {j : Int} (hj : isA j) (hW : RWk M j) (x y : Int) : has (rdB M' j) x y ↔ has (rdB M j) x y := (eqv_has hW.1 (vT_keep hf hj.1 hj.2 hW).1 x y).symm
theorem RI_0 {M Md : mm_M} {T : Int → Int → Prop} (ho : mr_ok Md) (h : RD M Md T) (hR : RS Md (fun _ _ => False)) : RI Md Md T 0 := ⟨ho, fr_refl, RS_iff hR (fun x y => cu_beg h.2.2.1 h.2.2.2.2.2.1 x y)⟩
section
variable {sc : Nat × (Int → Int)} {M : mm_M} {X : Nat → mm_M → Prop}
theorem c38y {K : mm_M → Prop} {Md M' Mg : mm_M} {T : Int → Int → Prop} {i : Int} (hD : RD M Md T) (h : RI Md M' T i) (ho : mr_ok Mg) (hw : fr wS M' Mg) (hN : NR Mg) (hr : ∀ x, rN Mg x ↔ T x (Md.1 87 i)) (i0 : 0 ≤ i) (i1 : i + 1 < Md.1 72 19) (k : ∀ M1, RI Md M1 T (i + 1) → K M1) : en_CV sc 38 [mm_r 72, mm_i (Mg.1 87 i), mm_i (Mg.1 87 (i + 1)), mm_u, mm_u] Mg (fun M1 => mr_ok M1 → K M1) X := by
  obtain ⟨ho', hf, hR⟩ := h
  have vg : fr vS Md Mg := fr_trans hf (fr_mono hw wS_vS)
  obtain ⟨g19, g87⟩ := vS_cut vg
  rw [g87, g87]
  have bi := hD.2.2.1.2.1 i i0 (by omega)
  have bj := hD.2.2.1.2.1 (i + 1) (by omega) (by omega)
  refine c38 ho hN (RS_w hw hR) ⟨by omega, by omega⟩ ⟨by omega, by omega⟩ (fun _ => ⟨by omega, by omega⟩) (fun _ x y z => z.2.2) (fun Mh fh Rh hoh => k Mh ⟨hoh, fr_trans vg (fr_mono fh gS_vS), RS_iff Rh (fun x y => ?_)⟩)
  rw [← cu_stp hD.2.2.1 hD.2.2.2.2.1 i0 i1 x y, hr]
theorem c39z {K : Int → mm_M → Prop} {Md M' : mm_M} {T : Int → Int → Prop} {i t : Int} (hW : ∀ j, 0 ≤ j → j < 8 → RWk M j) (hD : RD M Md T) (h : RI Md M' T i) (i1 : Md.1 72 19 ≤ i + 1) (i2 : i < Md.1 72 19 ∨ i = 0 ∧ Md.1 72 19 = 0) (ht : isA t) (k : ∀ r M1, RB M M1 t T r → K r M1) : en_CI sc 39 [mm_r 72, mm_i t, mm_u] M' (fun r M1 => mr_ok M1 → K r M1) X := by
  obtain ⟨ho', hf, hR⟩ := h
  exact c39y ho' hW (by rw [hf.2 _ _ (by unfold vS; omega)]; exact hD.2.1) (RD_keep hD hf) (RS_iff hR (fun x y => cu_fin hD.2.2.1 hD.2.2.2.2.2.2 i1 (by omega) x y)) ht.1 ht.2 (fun r M1 c _ => k r M1 c)
/-- CellAreasModel.invert -/
theorem c71 {K : Int → mm_M → Prop} {t a : Int} (ho : mr_ok M) (hW : ∀ j, 0 ≤ j → j < 8 → RWk M j) (ht : mr_rg t) (ha : mr_rg a)
    (k1 : ¬ (isA t ∧ isA a) → ∀ M1, fr thS M M1 → M1.1 72 0 = 1 → K 0 M1) (k : (isA t ∧ isA a) → ∀ r M1, RB M M1 t (inv (rdB M a)) r → K r M1) : en_CI sc 71 [mm_r 72, mm_i t, mm_i a, mm_u] M K X := by
  refine vc71_0 ho (c70 ho ht ha (fun q M1 f1 e1 _ => ⟨⟨by decide, by decide⟩, fun z => absurd rfl z, fun _ => Or.inl ⟨_, rfl, k1 q M1 f1 e1⟩⟩) (fun g Ma fa ta hoa => ⟨⟨by decide, by decide⟩, fun _ => ?_, fun z => absurd (by decide) z⟩))
  replace k := k g
  obtain ⟨gt, ga⟩ := g
  have a0 := ga.1
  have a1 := ga.2
  have f0 : fr vT M Ma := fr_mono fa thS_vT
  refine c35 hoa (fun Mb fb cb Rb hob => ?_)
  have vb : fr vT M Mb := fr_trans f0 (fr_mono fb (fun a k z => Or.inl (bgS_vR a k z)))
  have wb := vT_keep vb ga.1 ga.2 (hW a ga.1 ga.2)
  refine c59x hob ga.1 ga.2 wb.2 (CT_0 cb) (by omega) (fun Mc fc Cc nc uc hoc => ?_)
  refine c58 hoc Cc (by omega) ⟨by decide, by decide⟩ (fun Me fe Ce ne ue hoe => ?_)
  refine c58 hoe Ce (by omega) ⟨by decide, by decide⟩ (fun Md fd Cd nd ud hod => ?_)
  have fcd : fr uS Mb Md := fr_trans fc (fr_trans fe fd)
  have vd : fr vT M Md := fr_trans vb (fr_mono fcd (fun a k z => Or.inl (uS_vR a k z)))
  have td : Md.1 72 0 = 0 := by rw [fcd.2 _ _ (by omega), fb.2 _ _ (by omega)]; exact ta
  rw [clp_in (by decide) (by decide)] at ue ud
  have U : ∀ w, cu Md w ↔ ends (rdB M a) w ∨ w = -1000 ∨ w = 1000 := by
    intro w
    rw [ud, ue, uc, ← ends_eqv wb.1]
    constructor
    · rintro (((g | g) | g) | g)
      · exact absurd g (cu_0 cb w)
      · exact Or.inl g
      · exact Or.inr (Or.inl g)
      · exact Or.inr (Or.inr g)
    · rintro (g | g | g)
      · exact Or.inl (Or.inl (Or.inr g))
      · exact Or.inl (Or.inr g)
      · exact Or.inr g
  have Rd : RS Md (fun _ _ => False) := RS_fr fcd (fun a k z => by omega) Rb
  have D : RD M Md (inv (rdB M a)) := by
    refine ⟨vd, td, Cd, by omega, fun y q x => ?_, fun x y z => ⟨-1000, (U _).mpr (Or.inr (Or.inl rfl)), z.2.2.1⟩, fun x y z => ⟨1000, (U _).mpr (Or.inr (Or.inr rfl)), z.2.2.2.1⟩⟩
    have q1 : y + 1 ≠ -1000 := fun z => q ((U _).mpr (Or.inr (Or.inl z)))
    have q2 : y + 1 ≠ 1000 := fun z => q ((U _).mpr (Or.inr (Or.inr z)))
    unfold inv
    rw [has_const (fun z => q ((U _).mpr (Or.inl z))) x]
    constructor
    · exact fun z => ⟨z.1, z.2.1, by omega, by omega, z.2.2.2.2⟩
    · exact fun z => ⟨z.1, z.2.1, by omega, by omega, z.2.2.2.2⟩
  have n0 := Cd.1
  have nn := D.2.2.2.1
  have loop : ∀ (c : Nat) (i : Int) (M' : mm_M), c = (Md.1 72 19 - i).toNat → 0 ≤ i → (i < Md.1 72 19 ∨ i = 0 ∧ Md.1 72 19 = 0) → RI Md M' (inv (rdB M a)) i → en_R sc 71 36 [mm_r 72, mm_i t, mm_i a, mm_i i] [] M' (QI K X) := by
    intro c
    induction c with
    | zero =>
      intro i M' hc i0 i1 hI
      obtain ⟨e19, e87⟩ := vS_cut hI.2.1
      refine vc71_36 hI.1 ?_
      rw [e19]
      exact ⟨⟨by omega, by omega⟩, fun q => c39z hW D hI (by omega) i1 gt (fun r M1 c => Or.inl ⟨r, rfl, k r M1 c⟩), fun q => absurd (by omega) q⟩
    | succ c ih =>
      intro i M' hc i0 i1 hI
      obtain ⟨e19, e87⟩ := vS_cut hI.2.1
      refine vc71_36 hI.1 ?_
      rw [e19]
      refine ⟨⟨by omega, by omega⟩, fun q => c39z hW D hI (by omega) i1 gt (fun r M1 c => Or.inl ⟨r, rfl, k r M1 c⟩), fun q => ⟨i0, by omega, ?_⟩⟩
      have bi := Cd.2.1 i i0 (by omega)
      have hoe : mr_ok (mm_putN (mm_putN (mm_putN M' 72 11 1) 81 0 (-1000)) 82 0 1000) := mr_ok_putI (mr_ok_putI (mr_ok_putI hI.1 ⟨by decide, by decide⟩) ⟨by decide, by decide⟩) ⟨by decide, by decide⟩
      have fe : fr wS M' (mm_putN (mm_putN (mm_putN M' 72 11 1) 81 0 (-1000)) 82 0 1000) := fr_trans (fr_put (by unfold wS; omega)) (fr_trans (fr_put (by unfold wS; omega)) (fr_put (by unfold wS; omega)))
      have e11 : (mm_putN (mm_putN (mm_putN M' 72 11 1) 81 0 (-1000)) 82 0 1000).1 72 11 = 1 := by rw [put_a (by decide), put_a (by decide), put_eq]
      have e81 : (mm_putN (mm_putN (mm_putN M' 72 11 1) 81 0 (-1000)) 82 0 1000).1 81 0 = -1000 := by rw [put_a (by decide), put_eq]
      have e82 : (mm_putN (mm_putN (mm_putN M' 72 11 1) 81 0 (-1000)) 82 0 1000).1 82 0 = 1000 := put_eq
      generalize mm_putN (mm_putN (mm_putN M' 72 11 1) 81 0 (-1000)) 82 0 1000 = Me at hoe fe e11 e81 e82
      have ve : fr vS Md Me := fr_trans hI.2.1 (fr_mono fe wS_vS)
      have ee := (vS_cut ve).2 i
      rw [ee]
      have Ne : NRg Me 81 82 11 ∧ ∀ x, rNg Me 81 82 11 x ↔ -1000 ≤ x ∧ x < 1000 := by
        unfold NRg rNg
        rw [e11]
        refine ⟨⟨by decide, ⟨fun j a b => ?_, fun j a b => absurd b (by omega)⟩, fun j a b => ?_⟩, fun x => ⟨?_, fun z => ⟨0, by decide, by decide, by omega, by omega⟩⟩⟩
        · have : j = 0 := by omega
          rw [this, e81, e82]
          decide
        · have : j = 0 := by omega
          rw [this, e81, e82]
          decide
        · rintro ⟨j, a, b, c, d⟩
          have : j = 0 := by omega
          rw [this, e81] at c
          rw [this, e82] at d
          exact ⟨c, d⟩
      have vm := RD_keep D ve
      have w2 := vT_keep vm ga.1 ga.2 (hW a ga.1 ga.2)
      refine c62 hoe ga.1 (by omega) w2.2 ⟨by omega, by omega⟩ (fun Mf ff Nf _ rf hof => ?_)
      have N1 := NRg_fr ff (fun a k z => by omega) Ne.1
      refine c65 hof ⟨by decide, by decide⟩ N1.1 Nf (fun Mg fg Ng rg hog => ?_)
      refine ⟨i0, by omega, by omega, by omega, ?_⟩
      have wg : fr wS M' Mg := fr_trans fe (fr_trans (fr_mono ff (fun a k z => by unfold wS; omega)) (fr_mono fg nS_wS))
      refine c38y D hI hog wg Ng (fun x => ?_) i0 (by omega) (fun Mh Ih => ih (i + 1) Mh (by omega) (by omega) (Or.inl (by omega)) Ih)
      rw [rg]
      have s1 := Cd.2.2 i (i + 1) i0 (by omega) (by omega)
      have bj := Cd.2.1 (i + 1) (by omega) (by omega)
      have e1 : rNg Mf 81 82 11 x ↔ -1000 ≤ x ∧ x < 1000 := (N1.2 x).trans (Ne.2 x)
      have e2 : rNg Mf 83 84 14 x ↔ has (rdB M a) x (Md.1 87 i) := (rf x).trans (RD_has vm ga (hW a ga.1 ga.2) x _)
      rw [mp_iff e1 e2]
      unfold mp inv
      constructor
      · rintro (g | g | g | g)
        · exact absurd g.1 (by decide)
        · exact absurd g.1 (by decide)
        · exact ⟨g.2.1.1, g.2.1.2, by omega, by omega, g.2.2⟩
        · exact absurd g.1 (by decide)
      · rintro ⟨g1, g2, g3, g4, g5⟩
        exact Or.inr (Or.inr (Or.inl ⟨rfl, ⟨g1, g2⟩, g5⟩))
  exact loop _ 0 Md rfl (by decide) (by omega) (RI_0 hod D Rd)
end
