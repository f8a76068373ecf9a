/-! ===== within, both sides ===== -/
def sub (s t : sh) : Prop := ∀ x y, has s x y → has t x y
theorem sub_iff {s t s' t' : sh} (h : wf s) (h' : wf t) (e : eqv s s') (e' : eqv t t') : sub s t ↔ sub s' t' := by
  unfold sub
  constructor
  · intro g x y z
    exact (eqv_has h' e' x y).mp (g x y ((eqv_has h e x y).mpr z))
  · intro g x y z
    exact (eqv_has h' e' x y).mpr (g x y ((eqv_has h e x y).mp z))
abbrev rows3 : Nat → Int → Prop := fun a _ => a = 12 ∨ a = 14 ∨ a = 16
theorem rows3_kS {b : Nat} : ∀ a k, rows3 a k → kS b a k := by
  intro a k h
  have h' : a = 12 ∨ a = 14 ∨ a = 16 := h
  unfold kS
  omega
theorem mp2 {p q : Prop} : mp 2 p q ↔ p ∧ ¬ q := by
  unfold mp
  constructor
  · rintro (z | z | z | z)
    · exact absurd z.1 (by decide)
    · exact absurd z.1 (by decide)
    · exact z.2
    · exact absurd z.1 (by decide)
  · exact fun z => Or.inr (Or.inr (Or.inl ⟨rfl, z⟩))
section
variable {sc : Nat × (Int → Int)} {M : mm_M} {X : Nat → mm_M → Prop}
/-- CellAreas.within -/
theorem c183 {K : Int → mm_M → Prop} {a b : Int} (ho : mr_ok M) (hO : OW M) (ha : mr_rg a) (hb : mr_rg b) (x1 : ¬ (isA a ∧ isA b) → X 1 (M.1, M.2.1, M.2.2 + 1))
    (ky : (isA a ∧ isA b) → sub (rdA M (ar M a)) (rdA M (ar M b)) → ∀ M1, fr rows3 M M1 → K 1 M1) (kn : (isA a ∧ isA b) → ¬ sub (rdA M (ar M a)) (rdA M (ar M b)) → ∀ M1, fr rows3 M M1 → K 0 M1) : en_CI sc 183 [mm_r 0, mm_i a, mm_i b, mm_u, mm_u, mm_u] M K X := by
  refine vc183_0 ho (c9 ho ha (fun ga _ => ?_) (fun q => Or.inr ⟨1, rfl, by decide, x1 (fun z => q z.1)⟩))
  refine c9 ho hb (fun gb _ => ?_) (fun q => Or.inr ⟨1, rfl, by decide, x1 (fun z => q z.2)⟩)
  replace ky := ky ⟨ga, gb⟩
  replace kn := kn ⟨ga, gb⟩
  have Aa := OW_A hO ga
  have Ab := OW_A hO gb
  have r15 : ∀ M1 M2 : mm_M, fr (rS 15) M1 M2 → fr rows3 M1 M2 := fun M1 M2 f => fr_mono f (fun a k z => Or.inr (Or.inr z))
  have r11 : ∀ M1 M2 : mm_M, fr (rS 11) M1 M2 → fr rows3 M1 M2 := fun M1 M2 f => fr_mono f (fun a k z => Or.inl z)
  have r13 : ∀ M1 M2 : mm_M, fr (rS 13) M1 M2 → fr rows3 M1 M2 := fun M1 M2 f => fr_mono f (fun a k z => Or.inr (Or.inl z))
  refine ⟨ga.1, ga.2, ar M a, Aa.1, Aa.2.1, c12 ho w15 (fun Ma fa ra hoa => ?_)⟩
  have fA : fr rows3 M Ma := r15 _ _ fa
  obtain ⟨_, A1, s1⟩ := kA hO (fr_mono fA rows3_kS) ga
  refine c48x hoa A1 w15 ⟨by decide, by decide⟩ (fun Mb fb rb' hob => ?_)
  rw [s1] at rb'
  have fB : fr rows3 M Mb := fr_trans fA (r15 _ _ fb)
  obtain ⟨e2, A2, s2⟩ := kA hO (fr_mono fB rows3_kS) gb
  refine ⟨gb.1, gb.2, ar M b, e2, A2.1, c48x hob A2 w15 ⟨by decide, by decide⟩ (fun Mc fc rc hoc => ?_)⟩
  rw [s2] at rc
  have fC : fr rows3 M Mc := fr_trans fB (r15 _ _ fc)
  have mk : ∀ x, ri Mc 15 x ↔ mkr (rdA M (ar M a)) 0 x ∨ mkr (rdA M (ar M b)) 0 x := by
    intro x
    rw [rc, rb']
    constructor
    · rintro ((g | g) | g)
      · exact absurd g (ra x)
      · exact Or.inl g
      · exact Or.inr g
    · rintro (g | g)
      · exact Or.inl (Or.inr g)
      · exact Or.inr g
  have wa := Aa.2.2.1
  have wb := Ab.2.2.1
  have loop : ∀ (c : Nat) (low : Int) (l4 : mm_V) (M' : mm_M), (1000 - low).toNat ≤ c → -1000 ≤ low → low ≤ 1000 → mr_ok M' → fr rows3 M M' → (∀ x, ri M' 15 x ↔ mkr (rdA M (ar M a)) 0 x ∨ mkr (rdA M (ar M b)) 0 x) → (∀ x y, y < low → has (rdA M (ar M a)) x y → has (rdA M (ar M b)) x y) → en_R sc 183 50 [mm_r 0, mm_i a, mm_i b, mm_r (ar M a), l4, mm_i low] [] M' (QI K X) := by
    intro c
    induction c with
    | zero =>
      intro low l4 M' hc l0 l1 ho' hf hm hB
      exact vc183_50 ho' ⟨by omega, by omega⟩ ⟨fun q => Or.inl ⟨_, rfl, ky (fun x y z => hB x y (by have := has_rg wa z; omega) z) M' hf⟩, fun q => absurd (by omega) q⟩
    | succ c ih =>
      intro low l4 M' hc l0 l1 ho' hf hm hB
      refine vc183_50 ho' ⟨by omega, by omega⟩ ⟨fun q => Or.inl ⟨_, rfl, ky (fun x y z => hB x y (by have := has_rg wa z; omega) z) M' hf⟩, fun q => ?_⟩
      obtain ⟨_, A', s'⟩ := kA hO (fr_mono hf rows3_kS) ga
      refine c22 ho' w15 ⟨by omega, by omega⟩ (by omega) (fun r r0 r1 r2 r3 _ => ⟨⟨by omega, by omega⟩, ⟨by omega, by omega⟩, c53 ho' A' w11 ⟨by omega, by omega⟩ (fun Me fe re hoe => ⟨gb.1, gb.2, ar M b, ?_⟩)⟩)
      rw [s'] at re
      have fE : fr rows3 M Me := fr_trans hf (r11 _ _ fe)
      obtain ⟨e3, A3, s3⟩ := kA hO (fr_mono fE rows3_kS) gb
      refine ⟨e3, A3.1, c53 hoe A3 w13 ⟨by omega, by omega⟩ (fun Mf ff rf hof => ?_)⟩
      rw [s3] at rf
      refine c55x hof w11 w13 (by decide) ⟨by decide, by decide⟩ (fun Mg fg rg hog => ?_)
      have fG : fr rows3 M Mg := fr_trans fE (fr_trans (r13 _ _ ff) (r11 _ _ fg))
      have R : ∀ x, ri Mg 11 x ↔ has (rdA M (ar M a)) x low ∧ ¬ has (rdA M (ar M b)) x low := by
        intro x
        rw [rg, mp2, rf, ri_fr ff (fun k z => by have z' : 11 + 1 = 13 + 1 := z; omega), re]
      have frow : fr (fun a _ => a = 12 ∨ a = 14) M' Mg := fr_trans (fr_mono fe (fun a k z => Or.inl z)) (fr_trans (fr_mono ff (fun a k z => Or.inr z)) (fr_mono fg (fun a k z => Or.inl z)))
      refine c23 hog w11 (fun no _ => ⟨⟨by decide, by decide⟩, fun _ => ?_, fun z => absurd (by decide) z⟩) (fun yes _ => ⟨⟨by decide, by decide⟩, fun z => absurd rfl z, fun _ => Or.inl ⟨_, rfl, kn (fun z => ?_) Mg fG⟩⟩)
      · refine ih _ _ Mg (by omega) (by omega) (by omega) hog fG (fun x => ?_) (fun x y y1 z => ?_)
        · rw [ri_fr frow (fun k z => by omega)]
          exact hm x
        · by_cases y2 : y < low
          · exact hB x y y2 z
          · have nm : ∀ v, low < v → v < max (low + 1) r → ¬ (mkr (rdA M (ar M a)) 0 v ∨ mkr (rdA M (ar M b)) 0 v) := fun v v1 v2 v3 => r2 v (by omega) (by omega) ((hm v).mpr v3)
            have ca := rows_const (T := has (rdA M (ar M a))) (mk := fun v => mkr (rdA M (ar M a)) 0 v ∨ mkr (rdA M (ar M b)) 0 v) (h := max (low + 1) r) (fun y c1 c2 q x => mkr_const (by omega) (by omega) (fun z => q (Or.inl z)) x) nm (show low ≤ y by omega) y1 x
            have cb := rows_const (T := has (rdA M (ar M b))) (mk := fun v => mkr (rdA M (ar M a)) 0 v ∨ mkr (rdA M (ar M b)) 0 v) (h := max (low + 1) r) (fun y c1 c2 q x => mkr_const (by omega) (by omega) (fun z => q (Or.inr z)) x) nm (show low ≤ y by omega) y1 x
            rw [cb]
            have zl := ca.mp z
            refine Classical.byContradiction (fun nb => ?_)
            exact no x (has_rg wa zl).2.1 ((R x).mpr ⟨zl, nb⟩)
      · obtain ⟨x, _, x2⟩ := yes
        have := (R x).mp x2
        exact this.2 (z x low this.1)
  exact loop _ (-1000) _ Mc (Nat.le_refl _) (by decide) (by decide) hoc fC mk (fun x y q z => by have := has_rg wa z; omega)
/-- CellAreasModel.within -/
theorem c185 {K : Int → mm_M → Prop} {a b : Int} (ho : mr_ok M) (hW : ∀ j, 0 ≤ j → j < 8 → RWk M j) (ha : mr_rg a) (hb : mr_rg b) (k1 : ¬ (isA a ∧ isA b) → ∀ M1, fr thS M M1 → M1.1 72 0 = 1 → K 0 M1)
    (ky : (isA a ∧ isA b) → sub (rdB M a) (rdB M b) → ∀ M1, fr vT M M1 → M1.1 72 0 = 0 → K 1 M1) (kn : (isA a ∧ isA b) → ¬ sub (rdB M a) (rdB M b) → ∀ M1, fr vT M M1 → M1.1 72 0 = 0 → K 0 M1) : en_CI sc 185 [mm_r 72, mm_i a, mm_i b, mm_u, mm_u] M K X := by
  refine vc185_0 ho (c70 ho ha hb (fun q M1 f1 e1 _ => ⟨⟨by decide, by decide⟩, fun z => absurd rfl z, fun _ => Or.inl ⟨_, rfl, k1 q M1 f1 e1⟩⟩) (fun g Ma fa ta hoa => ⟨⟨by decide, by decide⟩, fun _ => ?_, fun z => absurd (by decide) z⟩))
  replace ky := ky g
  replace kn := kn g
  obtain ⟨ga, gb⟩ := g
  have f0 : fr vT M Ma := fr_mono fa thS_vT
  refine c35 hoa (fun Mb fb cb Rb hob => ?_)
  have vb : fr vT M Mb := fr_trans f0 (fr_mono fb (fun a k z => Or.inl (bgS_vR a k z)))
  have wb := vT_keep vb ga.1 ga.2 (hW a ga.1 ga.2)
  refine c59x hob ga.1 ga.2 wb.2 (CT_0 cb) (by omega) (fun Mc fc Cc nc uc hoc => ?_)
  have vc : fr vT M Mc := fr_trans vb (fr_mono fc (fun a k z => Or.inl (uS_vR a k z)))
  have wc := vT_keep vc gb.1 gb.2 (hW b gb.1 gb.2)
  refine c59x hoc gb.1 gb.2 wc.2 Cc (by omega) (fun Md fd Cd nd ud hod => ?_)
  have vd : fr vT M Md := fr_trans vc (fr_mono fd (fun a k z => Or.inl (uS_vR a k z)))
  have td : Md.1 72 0 = 0 := by rw [fd.2 _ _ (by omega), fc.2 _ _ (by omega), fb.2 _ _ (by omega)]; exact ta
  have U : ∀ w, cu Md w ↔ ends (rdB M a) w ∨ ends (rdB M b) w := by
    intro w
    rw [ud, uc, ← ends_eqv wb.1, ← ends_eqv wc.1]
    constructor
    · rintro ((g | g) | g)
      · exact absurd g (cu_0 cb w)
      · exact Or.inl g
      · exact Or.inr g
    · rintro (g | g)
      · exact Or.inl (Or.inr g)
      · exact Or.inr g
  have n0 := Cd.1
  have H : ∀ y, ¬ cu Md (y + 1) → ∀ x, (has (rdB M a) x (y + 1) ∧ ¬ has (rdB M b) x (y + 1)) ↔ (has (rdB M a) x y ∧ ¬ has (rdB M b) x y) := fun y q x => by
    rw [has_const (fun z => q ((U _).mpr (Or.inl z))) x, has_const (fun z => q ((U _).mpr (Or.inr z))) x]
  have HB : ∀ x y, (has (rdB M a) x y ∧ ¬ has (rdB M b) x y) → ∃ v, cu Md v ∧ v ≤ y := fun x y z => by obtain ⟨v, v1, v2⟩ := ends_lo z.1; exact ⟨v, (U v).mpr (Or.inl v1), v2⟩
  have HE : ∀ x y, (has (rdB M a) x y ∧ ¬ has (rdB M b) x y) → ∃ v, cu Md v ∧ y < v := fun x y z => by obtain ⟨v, v1, v2⟩ := ends_hi z.1; exact ⟨v, (U v).mpr (Or.inl v1), v2⟩
  have loop : ∀ (c : Nat) (i v : Int) (M' : mm_M), c = (Md.1 72 19 - i).toNat → 0 ≤ i → (i < Md.1 72 19 ∨ i = 0 ∧ Md.1 72 19 = 0) → mr_ok M' → fr vS Md M' → (v = 0 ∨ v = 1) → (v = 0 → ¬ sub (rdB M a) (rdB M b)) → (v = 1 → ∀ x y, ¬ ((has (rdB M a) x y ∧ ¬ has (rdB M b) x y) ∧ i < Md.1 72 19 ∧ y < Md.1 87 i)) → en_R sc 185 30 [mm_r 72, mm_i a, mm_i b, mm_i v, mm_i i] [] M' (QI K X) := by
    have fin : ∀ (i v : Int) (M' : mm_M), Md.1 72 19 ≤ i + 1 → (i < Md.1 72 19 ∨ i = 0 ∧ Md.1 72 19 = 0) → fr vS Md M' → (v = 0 ∨ v = 1) → (v = 0 → ¬ sub (rdB M a) (rdB M b)) → (v = 1 → ∀ x y, ¬ ((has (rdB M a) x y ∧ ¬ has (rdB M b) x y) ∧ i < Md.1 72 19 ∧ y < Md.1 87 i)) → (v = 0 ∨ v = 1) ∧ QI K X (.inl (some (mm_i v))) M' := by
      intro i v M' h1 h2 hf hv h0 h01
      refine ⟨hv, Or.inl ⟨v, rfl, ?_⟩⟩
      have vm : fr vT M M' := fr_trans vd (fr_mono hf vS_vT)
      have tm : M'.1 72 0 = 0 := by rw [hf.2 _ _ (by unfold vS; omega)]; exact td
      rcases hv with rfl | rfl
      · exact kn (h0 rfl) M' vm tm
      · refine ky (fun x y z => Classical.byContradiction fun nz => h01 rfl x y ?_) M' vm tm
        exact (cu_fin Cd HE h1 (by omega) x y).mpr ⟨z, nz⟩
    intro c
    induction c with
    | zero =>
      intro i v M' hc i0 i1 ho' hf hv h0 h01
      obtain ⟨e19, e87⟩ := vS_cut hf
      refine vc185_30 ho' ⟨by omega, by omega⟩ ?_
      rw [e19]
      exact ⟨⟨by omega, by omega⟩, fun q => fin i v M' q i1 hf hv h0 h01, fun q => absurd (by omega) q⟩
    | succ c ih =>
      intro i v M' hc i0 i1 ho' hf hv h0 h01
      obtain ⟨e19, e87⟩ := vS_cut hf
      refine vc185_30 ho' ⟨by omega, by omega⟩ ?_
      rw [e19, e87]
      refine ⟨⟨by omega, by omega⟩, fun q => fin i v M' q i1 hf hv h0 h01, fun q => ⟨i0, by omega, ?_⟩⟩
      have bi := Cd.2.1 i i0 (by omega)
      have bj := Cd.2.1 (i + 1) (by omega) (by omega)
      have lt := Cd.2.2 i (i + 1) i0 (by omega) (by omega)
      have vm : fr vT M M' := fr_trans vd (fr_mono hf vS_vT)
      have w1 := vT_keep vm ga.1 ga.2 (hW a ga.1 ga.2)
      have a1 := ga.2
      have b1 := gb.2
      refine c61 ho' ga.1 (by omega) w1.2 ⟨by omega, by omega⟩ (fun Me fe Ne _ re hoe => ⟨i0, by omega, ?_⟩)
      have le : fr vS M' Me := fr_mono fe (fun a k z => by unfold vS; omega)
      rw [fe.2 87 _ (by omega), e87]
      have ve : fr vT M Me := fr_trans vm (fr_mono le vS_vT)
      have w2 := vT_keep ve gb.1 gb.2 (hW b gb.1 gb.2)
      refine c62 hoe gb.1 (by omega) w2.2 ⟨by omega, by omega⟩ (fun Mf ff Nf _ rf hof => ?_)
      have lf : fr vS Me Mf := fr_mono ff (fun a k z => by unfold vS; omega)
      have N1 := NRg_fr ff (p := 81) (q := 82) (f := 11) (fun a k z => by omega) Ne
      refine c65 hof ⟨by decide, by decide⟩ N1.1 Nf (fun Mg fg Ng rg hog => ?_)
      have vg : fr vS Md Mg := fr_trans hf (fr_trans le (fr_trans lf (fr_mono fg nS_vS)))
      have R : ∀ x, rN Mg x ↔ has (rdB M a) x (Md.1 87 i) ∧ ¬ has (rdB M b) x (Md.1 87 i) := by
        intro x
        rw [rg, mp2, N1.2, re, rf, ← eqv_has (hW a ga.1 ga.2).1 w1.1, ← eqv_has (hW b gb.1 gb.2).1 w2.1]
      refine ⟨fun q => ih (i + 1) 0 Mg (by omega) (by omega) (Or.inl (by omega)) hog vg (Or.inl rfl) (fun _ => h0 q) (fun z => absurd z (by decide)), fun q => ⟨fun q2 => ?_, fun q2 => ?_⟩⟩
      · refine ih (i + 1) 0 Mg (by omega) (by omega) (Or.inl (by omega)) hog vg (Or.inl rfl) (fun _ z => ?_) (fun z => absurd z (by decide))
        have m0 := Ng.1
        have lt := Ng.2.1.1 0 (Int.le_refl _) (by omega)
        have x := (R (Mg.1 85 0)).mp ⟨0, Int.le_refl _, by omega, Int.le_refl _, lt⟩
        exact x.2 (z _ _ x.1)
      · refine ih (i + 1) 1 Mg (by omega) (by omega) (Or.inl (by omega)) hog vg (Or.inr rfl) (fun z => absurd z (by decide)) (fun _ x y z => ?_)
        rcases (cu_stp (T := fun x y => has (rdB M a) x y ∧ ¬ has (rdB M b) x y) Cd H i0 (by omega) x y).mpr z with z | ⟨z1, z2, z3⟩
        · exact h01 (by omega) x y z
        · exact rN_0 (Classical.byContradiction q2) x ((R x).mpr z3)
  exact loop _ 0 1 Md rfl (by decide) (by omega) hod fr_refl (Or.inr rfl) (fun z => absurd z (by decide)) (fun _ x y z => (cu_beg (T := fun x y => has (rdB M a) x y ∧ ¬ has (rdB M b) x y) Cd HB x y).mpr z)
end
