/-! ===== the class's loop over the rows, once for all; invert ===== -/
/-- at the row low: marks are made, the rows before low are built -/
def LI (M M' : mm_M) (mk : Int → Prop) (T : Int → Int → Prop) (low : Int) : Prop := mr_ok M' ∧ fr (kS (br M)) M M' ∧ (∀ x, ri M' 15 x ↔ mk x) ∧ BS M' (br M) (fun x y => T x y ∧ y < low)
abbrev inF (T : Int → Int → Prop) : Prop := ∀ x y, T x y → -1000 ≤ x ∧ x < 1000 ∧ -1000 ≤ y ∧ y < 1000
abbrev cst (mk : Int → Prop) (T : Int → Int → Prop) : Prop := ∀ y, -1000 ≤ y → y + 1 < 1000 → ¬ mk (y + 1) → ∀ x, T x (y + 1) ↔ T x y
section
variable {sc : Nat × (Int → Int)} {M : mm_M} {X : Nat → mm_M → Prop}
theorem c18y {K : mm_M → Prop} {M' : mm_M} {mk : Int → Prop} {T : Int → Int → Prop} (ho : mr_ok M') (hO : OW M) (hf : fr (kS (br M)) M M') (hm : ∀ x, ri M' 15 x ↔ mk x) (hT : inF T) (k : ∀ M1, LI M M1 mk T (-1000) → K M1) : en_CV sc 18 [mm_r 2] M' (fun M1 => mr_ok M1 → K M1) X := by
  obtain ⟨Oc, c2, c3, c4, _⟩ := kS_keep hO hf
  have hA := hO.2.2.2.1
  have hbr := Oc.2.2.1
  have h0br := Oc.2.2.2.2 (br M) hA
  rw [c3] at hbr
  refine c18 ho hbr hA h0br (fun Md fd Bd hod => k Md ⟨hod, fr_trans hf (fr_mono fd kS_b), fun x => ?_, BS_iff Bd (fun x y => ⟨fun z => z.elim, fun z => by have := hT x y z.1; omega⟩)⟩)
  rw [ri_fr fd (fun k z => by unfold bS at z; unfold mr_A at hA; omega)]
  exact hm x
theorem c29y {K : mm_M → Prop} {M' Mg : mm_M} {mk : Int → Prop} {T : Int → Int → Prop} {low r : Int} (hO : OW M) (hT : inF T) (H : cst mk T) (h : LI M M' mk T low) (ho : mr_ok Mg) (frow : fr (fun a _ => a = 12 ∨ a = 14) M' Mg) (R : ∀ x, ri Mg 11 x ↔ T x low) (l0 : -1000 ≤ low) (l1 : low < 1000) (r1 : r ≤ 1000) (r2 : ∀ x, low + 1 ≤ x → x < r → ¬ ri M' 15 x) (k : ∀ M1, LI M M1 mk T (max (low + 1) r) → K M1) : en_CV sc 29 [mm_r 2, mm_i low, mm_i (max (low + 1) r), mm_r 11, mm_u] Mg (fun M1 => mr_ok M1 → K M1) X := by
  obtain ⟨ho', hf, hm, hB⟩ := h
  have hA := hO.2.2.2.1
  have Bg : BS Mg (br M) (fun x y => T x y ∧ y < low) := BS_fr frow (fun a k z => by omega) hB
  have kg : fr (kS (br M)) M Mg := fr_trans hf (fr_mono frow (fun a k z => by unfold kS; omega))
  refine c29 ho Bg w11 (by decide) (fun x g => ?_) ⟨by omega, by omega⟩ ⟨by omega, by omega⟩ (fun _ => ⟨by omega, by omega⟩) (fun _ x y z => z.2) (fun Mh fh Bh hoh => k Mh ⟨hoh, fr_trans kg (fr_mono fh kS_b), fun x => ?_, BS_iff Bh (fun x y => ?_)⟩)
  · have := hT x low ((R x).mp g)
    omega
  · rw [ri_fr fh (fun k z => by unfold bS at z; unfold mr_A at hA; omega), ri_fr frow (fun k z => by omega)]
    exact hm x
  · exact cl_iff (T := T) H l0 l1 r1 (fun x g1 g2 g3 => r2 x g1 g2 ((hm x).mpr g3)) R x y
theorem c30z {K : Int → mm_M → Prop} {M' : mm_M} {mk : Int → Prop} {T : Int → Int → Prop} {low t : Int} (hO : OW M) (hT : inF T) (h : LI M M' mk T low) (l0 : -1000 ≤ low) (h1 : 1000 ≤ low ∨ M'.1 2 2 ≠ 0) (ht : isA t) (k : ∀ r M1, CB M M1 t T r → K r M1) : en_CI sc 30 [mm_r 0, mm_i t, mm_u] M' (fun r M1 => mr_ok M1 → K r M1) X := by
  obtain ⟨ho', hf, hm, hB⟩ := h
  exact c30y ho' hO hf (BS_end hT l0 h1 hB) ht.1 ht.2 (fun r M1 c _ => k r M1 c)
/-- what invert makes -/
def inv (s : sh) (x y : Int) : Prop := -1000 ≤ x ∧ x < 1000 ∧ -1000 ≤ y ∧ y < 1000 ∧ ¬ has s x y
theorem inv_iff {s t : sh} (h : wf s) (e : eqv s t) (x y : Int) : inv s x y ↔ inv t x y := by
  unfold inv
  rw [eqv_has h e]
/-- CellAreas.invert -/
theorem c68 {K : Int → mm_M → Prop} {t a : Int} (ho : mr_ok M) (hO : OW M) (ht : mr_rg t) (ha : mr_rg a)
    (x1 : ¬ (isA t ∧ isA a) → X 1 (M.1, M.2.1, M.2.2 + 1))
    (k : (isA t ∧ isA a) → ∀ r M1, CB M M1 t (inv (rdA M (ar M a))) r → K r M1) : en_CI sc 68 [mm_r 0, mm_i t, mm_i a, mm_u, mm_u] M K X := by
  refine vc68_0 ho (c9 ho ht (fun gt _ => ?_) (fun q => Or.inr ⟨1, rfl, by decide, x1 (fun z => q z.1)⟩))
  refine c9 ho ha (fun ga _ => ?_) (fun q => Or.inr ⟨1, rfl, by decide, x1 (fun z => q z.2)⟩)
  replace k := k ⟨gt, ga⟩
  refine c12 ho w15 (fun Ma fa ra hoa => ?_)
  have ka : fr (kS (br M)) M Ma := fr_mono fa (kS_row (by decide))
  obtain ⟨Oa, a2, a3, a4, _⟩ := kS_keep hO ka
  have Aa := OW_A Oa ga
  rw [a2] at Aa
  refine ⟨ga.1, ga.2, ar M a, Aa.1, Aa.2.1, c48x hoa Aa.2 w15 ⟨by decide, by decide⟩ (fun Mb fb rb' hob => ?_)⟩
  rw [a4 a ga.1 ga.2] at rb'
  have kb : fr (kS (br M)) M Mb := fr_trans ka (fr_mono fb (kS_row (by decide)))
  have mk : ∀ x, ri Mb 15 x ↔ mkr (rdA M (ar M a)) 0 x := fun x => (rb' x).trans ⟨fun z => z.elim (fun z => absurd z (ra x)) id, Or.inr⟩
  have hT : inF (inv (rdA M (ar M a))) := fun x y z => ⟨z.1, z.2.1, z.2.2.1, z.2.2.2.1⟩
  have H : cst (mkr (rdA M (ar M a)) 0) (inv (rdA M (ar M a))) := fun y y0 y1 q x => by
    unfold inv
    rw [mkr_const y0 y1 q x]
    constructor
    · exact fun z => ⟨z.1, z.2.1, by omega, by omega, z.2.2.2.2⟩
    · exact fun z => ⟨z.1, z.2.1, by omega, by omega, z.2.2.2.2⟩
  refine c18y hob hO kb mk hT (fun Md Ld => ?_)
  have fin : ∀ (low : Int) (l5 : mm_V) (M' : mm_M), -1000 ≤ low → LI M M' (mkr (rdA M (ar M a)) 0) (inv (rdA M (ar M a))) low → (1000 ≤ low ∨ M'.1 2 2 ≠ 0) → en_R sc 68 126 [mm_r 0, mm_i t, mm_i a, l5, mm_i low] [] M' (QI K X) := by
    intro low l5 M' l0 hL h1
    exact vc68_126 hL.1 (c30z hO hT hL l0 h1 gt (fun r M1 c => Or.inl ⟨r, rfl, k r M1 c⟩))
  have loop : ∀ (c : Nat) (low : Int) (l5 : mm_V) (M' : mm_M), (1000 - low).toNat ≤ c → -1000 ≤ low → low ≤ 1000 → LI M M' (mkr (rdA M (ar M a)) 0) (inv (rdA M (ar M a))) low → en_R sc 68 41 [mm_r 0, mm_i t, mm_i a, l5, mm_i low] [] M' (QI K X) := by
    intro c
    induction c with
    | zero =>
      intro low l5 M' hc l0 l1 hL
      exact vc68_41 hL.1 ⟨by omega, by omega⟩ ⟨fun q => fin low l5 M' l0 hL (Or.inl q), fun q => absurd (by omega) q⟩
    | succ c ih =>
      intro low l5 M' hc l0 l1 hL
      have ho' := hL.1
      refine vc68_41 ho' ⟨by omega, by omega⟩ ⟨fun q => fin low l5 M' l0 hL (Or.inl q), fun q => ⟨fun q2 => fin low l5 M' l0 hL (Or.inr q2), fun _ => ?_⟩⟩
      refine c22 ho' w15 ⟨by omega, by omega⟩ (by omega) (fun r r0 r1 r2 r3 _ => ⟨⟨by omega, by omega⟩, ⟨by omega, by omega⟩, ga.1, ga.2, ar M a, ?_⟩)
      obtain ⟨O', p2, p3, p4, _⟩ := kS_keep hO hL.2.1
      have A' := OW_A O' ga
      rw [p2] at A'
      refine ⟨A'.1, A'.2.1, c53 ho' A'.2 w11 ⟨by omega, by omega⟩ (fun Me fe re hoe => ?_)⟩
      rw [p4 a ga.1 ga.2] at re
      refine c67 hoe w11 ⟨by decide, by decide⟩ ⟨by decide, by decide⟩ (by decide) (fun Mg fg rg hog => ?_)
      refine c29y hO hT H hL hog (fr_trans (fr_mono fe (fun a k z => Or.inl z)) (fr_mono fg (fun a k z => Or.inl z))) (fun x => ?_) l0 (by omega) r1 r2 (fun Mh Lh => ih _ _ Mh (by omega) (by omega) (by omega) Lh)
      rw [rg, re]
      unfold inv
      have hrg := fun g : has (rdA M (ar M a)) x low => has_rg (OW_A hO ga).2.2.1 g
      by_cases g : has (rdA M (ar M a)) x low
      · have := hrg g
        constructor
        · exact fun z => absurd ⟨fun _ => ⟨by omega, by omega, by omega, by omega⟩, fun _ => g⟩ z
        · exact fun z => absurd g z.2.2.2.2
      · constructor
        · intro z
          have : -1000 ≤ x ∧ x < 1000 := Classical.byContradiction fun q => z ⟨fun w => absurd w g, fun w => absurd ⟨w.1, w.2.1⟩ q⟩
          exact ⟨this.1, this.2, by omega, by omega, g⟩
        · exact fun z w => g (w.mpr ⟨z.1, z.2.1, z.1, z.2.1⟩)
  exact loop _ (-1000) mm_u Md (Nat.le_refl _) (by decide) (by decide) Ld
/-- CellAreasModel.areAreas -/
theorem c70 {K : Int → mm_M → Prop} {a b : Int} (ho : mr_ok M) (ha : mr_rg a) (hb : mr_rg b) (k0 : ¬ (isA a ∧ isA b) → ∀ M1, fr thS M M1 → M1.1 72 0 = 1 → K 0 M1) (k1 : (isA a ∧ isA b) → ∀ M1, fr thS M M1 → M1.1 72 0 = 0 → K 1 M1) : en_CI sc 70 [mm_r 72, mm_i a, mm_i b] M K X := by
  have r0 : mr_rg 0 := ⟨by decide, by decide⟩
  have r1 : mr_rg 1 := ⟨by decide, by decide⟩
  have no : ¬ (isA a ∧ isA b) → en_R sc 70 21 [mm_r 72, mm_i a, mm_i b] [mm_r 72] M (QI K X) := fun q => vc70_21 ho (vc70_22 ho r1 ⟨fun _ => Or.inl ⟨_, rfl, k0 q _ (fr_put ⟨rfl, rfl⟩) put_eq⟩, fun z => absurd (by rw [put_eq]; decide) z⟩)
  refine vc70_0 ho (c34 ho ha (fun ga _ => ⟨r1, fun z => absurd z (by decide), fun _ => ?_⟩) (fun ga _ => ⟨r0, fun _ => no (fun z => ga z.1), fun z => absurd rfl z⟩))
  refine c34 ho hb (fun gb _ => ⟨r1, fun z => absurd z (by decide), fun _ => ?_⟩) (fun gb _ => ⟨r0, fun _ => no (fun z => gb z.2), fun z => absurd rfl z⟩)
  exact vc70_22 ho r0 ⟨fun z => absurd put_eq z, fun _ => Or.inl ⟨_, rfl, k1 ⟨ga, gb⟩ _ (fr_put ⟨rfl, rfl⟩) put_eq⟩⟩
end
