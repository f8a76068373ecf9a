/-! ===== combine, the reference's side ===== -/
def ends (s : sh) (w : Int) : Prop := ∃ i, 0 ≤ i ∧ i < sn s ∧ (w = slo s i ∨ w = shi s i)
theorem ends_eqv {s t : sh} (e : eqv s t) (w : Int) : ends s w ↔ ends t w := by
  constructor
  · rintro ⟨i, a, b, c⟩
    have x := e.2.1 i a b
    exact ⟨i, a, by rw [← e.1]; exact b, by rw [← x.1, ← x.2]; exact c⟩
  · rintro ⟨i, a, b, c⟩
    have b' : i < sn s := by rw [e.1]; exact b
    have x := e.2.1 i a b'
    exact ⟨i, a, b', by rw [x.1, x.2]; exact c⟩
theorem ends_lo {s : sh} {x y : Int} (h : has s x y) : ∃ v, ends s v ∧ v ≤ y := by
  obtain ⟨i, a, b, c, d, _⟩ := h
  exact ⟨_, ⟨i, a, b, Or.inl rfl⟩, c⟩
theorem ends_hi {s : sh} {x y : Int} (h : has s x y) : ∃ v, ends s v ∧ y < v := by
  obtain ⟨i, a, b, c, d, _⟩ := h
  exact ⟨_, ⟨i, a, b, Or.inr rfl⟩, d⟩
theorem NRg_fr {M M1 : mm_M} {S : Nat → Int → Prop} {p q : Nat} {f : Int} (h : fr S M M1) (hs : ∀ a k, S a k → a ≠ p ∧ a ≠ q ∧ ¬ (a = 72 ∧ k = f)) (g : NRg M p q f) : NRg M1 p q f ∧ ∀ x, rNg M1 p q f x ↔ rNg M p q f x := by
  have ef : M1.1 72 f = M.1 72 f := h.2 _ _ (fun z => (hs _ _ z).2.2 ⟨rfl, rfl⟩)
  have ep : M1.1 p = M.1 p := by
    funext j
    exact h.2 _ _ (fun z => (hs _ _ z).1 rfl)
  have eq : M1.1 q = M.1 q := by
    funext j
    exact h.2 _ _ (fun z => (hs _ _ z).2.1 rfl)
  unfold NRg rNg
  rw [ef, ep, eq]
  exact ⟨g, fun _ => Iff.rfl⟩
abbrev thS : Nat → Int → Prop := fun a k => a = 72 ∧ k = 0
theorem thS_vT : ∀ a k, thS a k → vT a k := fun a k h => Or.inr h
theorem bgS_vR : ∀ a k, ((a = 77 ∧ k = 8) ∨ (a = 80 ∧ k = 8) ∨ (a = 72 ∧ k = 20) ∨ (a = 72 ∧ k = 19)) → vR a k := by
  intro a k h
  unfold vR
  omega
theorem cu_fr {M M1 : mm_M} (e1 : M1.1 72 19 = M.1 72 19) (e2 : ∀ j, M1.1 87 j = M.1 87 j) (v : Int) : cu M1 v ↔ cu M v := by
  unfold cu
  rw [e1]
  constructor
  · rintro ⟨k, a, b, c⟩
    exact ⟨k, a, b, by rw [← e2]; exact c⟩
  · rintro ⟨k, a, b, c⟩
    exact ⟨k, a, b, by rw [e2]; exact c⟩
section
variable {sc : Nat × (Int → Int)} {M : mm_M} {X : Nat → mm_M → Prop}
theorem c59x {K : mm_M → Prop} {a : Int} (ho : mr_ok M) (h0 : 0 ≤ a) (h1 : a < 8) (hW : RWk M a) (hC : CT M) (hn : M.1 72 19 ≤ 1000)
    (k : ∀ M1, fr uS M M1 → CT M1 → M1.1 72 19 ≤ M.1 72 19 + 200 → (∀ w, cu M1 w ↔ cu M w ∨ ends (rdB M a) w) → K M1) : en_CV sc 59 [mm_r 72, mm_i a, mm_u] M K X := c59 ho h0 h1 hW hC hn k
/-- CellAreasModel.combine -/
theorem c66 {K : Int → mm_M → Prop} {t a b how : Int} (ho : mr_ok M) (hW : ∀ j, 0 ≤ j → j < 8 → RWk M j) (ht : mr_rg t) (ha : mr_rg a) (hb : mr_rg b) (hh : mr_rg how)
    (k1 : ¬ (isA t ∧ isA a ∧ isA b) → ∀ M1, fr thS M M1 → M1.1 72 0 = 1 → K 0 M1) (k2 : (isA t ∧ isA a ∧ isA b) → ¬ (0 ≤ how ∧ how ≤ 3) → ∀ M1, fr thS M M1 → M1.1 72 0 = 2 → K 0 M1)
    (k : (isA t ∧ isA a ∧ isA b) → (0 ≤ how ∧ how ≤ 3) → ∀ r M1, RB M M1 t (fun x y => mp how (has (rdB M a) x y) (has (rdB M b) x y)) r → K r M1) : en_CI sc 66 [mm_r 72, mm_i t, mm_i a, mm_i b, mm_i how, mm_u] M K X := by
  have r0 : mr_rg 0 := ⟨by decide, by decide⟩
  have r1 : mr_rg 1 := ⟨by decide, by decide⟩
  have r2 : mr_rg 2 := ⟨by decide, by decide⟩
  have bad : ∀ s1 : Int, mr_rg s1 → 0 < s1 → K 0 (mm_putN M 72 0 s1) → en_R sc 66 44 [mm_r 72, mm_i t, mm_i a, mm_i b, mm_i how, mm_u] [mm_i s1, mm_r 72] M (QI K X) := fun s1 rs s0 hK => vc66_44 ho rs ⟨fun q => absurd (put_eq (M := M) (a := 72) (k := 0) (x := s1)) (fun e => by omega), fun _ => Or.inl ⟨_, rfl, hK⟩⟩
  have no : ¬ (isA t ∧ isA a ∧ isA b) → en_R sc 66 25 [mm_r 72, mm_i t, mm_i a, mm_i b, mm_i how, mm_u] [mm_r 72] M (QI K X) := fun q => vc66_25 ho (bad 1 r1 (by decide) (k1 q _ (fr_put ⟨rfl, rfl⟩) put_eq))
  refine vc66_0 ho (c34 ho ht (fun gt _ => ⟨r1, fun z => absurd z (by decide), fun _ => ?_⟩) (fun gt _ => ⟨r0, fun _ => no (fun z => gt z.1), fun z => absurd rfl z⟩))
  refine c34 ho ha (fun ga _ => ⟨r1, fun z => absurd z (by decide), fun _ => ?_⟩) (fun ga _ => ⟨r0, fun _ => no (fun z => ga z.2.1), fun z => absurd rfl z⟩)
  refine c34 ho hb (fun gb _ => ⟨r1, fun _ => ?_, fun z => absurd (by decide) z⟩) (fun gb _ => ⟨r0, fun z => absurd rfl z, fun _ => no (fun z => gb z.2.2)⟩)
  refine c33 ho hh r0 ⟨by decide, by decide⟩ (fun gh _ => ⟨r1, fun _ => ?_, fun z => absurd (by decide) z⟩) (fun gh _ => ⟨r0, fun z => absurd rfl z, fun _ => bad 2 r2 (by decide) (k2 ⟨gt, ga, gb⟩ gh _ (fr_put ⟨rfl, rfl⟩) put_eq)⟩)
  replace k := k ⟨gt, ga, gb⟩ gh
  refine vc66_44 ho r0 ⟨fun _ => ?_, fun q => absurd (put_eq (M := M) (a := 72) (k := 0) (x := 0)) (fun e => by omega)⟩
  have ho0 : mr_ok (mm_putN M 72 0 0) := mr_ok_putI ho r0
  have t0 : (mm_putN M 72 0 0).1 72 0 = 0 := put_eq
  have f0 : fr vT M (mm_putN M 72 0 0) := fr_put (Or.inr ⟨rfl, rfl⟩)
  generalize mm_putN M 72 0 0 = Ma at ho0 t0 f0
  refine c35 ho0 (fun Mb fb cb Rb hob => ?_)
  have vb : fr vT M Mb := fr_trans f0 (fr_mono fb (fun a k z => Or.inl (bgS_vR a k z)))
  have wb := vT_keep vb ga.1 ga.2 (hW a ga.1 ga.2)
  refine c59x hob ga.1 ga.2 wb.2 (CT_0 cb) (by omega) (fun Mc fc Cc nc uc hoc => ?_)
  have vc : fr vT M Mc := fr_trans vb (fr_mono fc (fun a k z => Or.inl (uS_vR a k z)))
  have wc := vT_keep vc gb.1 gb.2 (hW b gb.1 gb.2)
  refine c59x hoc gb.1 gb.2 wc.2 Cc (by omega) (fun Md fd Cd nd ud hod => ?_)
  have vd : fr vT M Md := fr_trans vc (fr_mono fd (fun a k z => Or.inl (uS_vR a k z)))
  have td : Md.1 72 0 = 0 := by rw [fd.2 _ _ (by omega), fc.2 _ _ (by omega), fb.2 _ _ (by omega)]; exact t0
  have U : ∀ w, cu Md w ↔ ends (rdB M a) w ∨ ends (rdB M b) w := by
    intro w
    rw [ud, uc, ← ends_eqv wb.1, ← ends_eqv wc.1]
    constructor
    · rintro ((g | g) | g)
      · exact absurd g (cu_0 cb w)
      · exact Or.inl g
      · exact Or.inr g
    · rintro (g | g)
      · exact Or.inl (Or.inr g)
      · exact Or.inr g
  have Rd : RS Md (fun _ _ => False) := RS_fr fd (fun a k z => by omega) (RS_fr fc (fun a k z => by omega) Rb)
  have H : ∀ y, ¬ cu Md (y + 1) → ∀ x, mp how (has (rdB M a) x (y + 1)) (has (rdB M b) x (y + 1)) ↔ mp how (has (rdB M a) x y) (has (rdB M b) x y) := fun y q x => mp_iff (has_const (fun z => q ((U _).mpr (Or.inl z))) x) (has_const (fun z => q ((U _).mpr (Or.inr z))) x)
  have HB : ∀ x y, mp how (has (rdB M a) x y) (has (rdB M b) x y) → ∃ v, cu Md v ∧ v ≤ y := fun x y z => (mp_or z).elim (fun z => by obtain ⟨v, v1, v2⟩ := ends_lo z; exact ⟨v, (U v).mpr (Or.inl v1), v2⟩) (fun z => by obtain ⟨v, v1, v2⟩ := ends_lo z; exact ⟨v, (U v).mpr (Or.inr v1), v2⟩)
  have HE : ∀ x y, mp how (has (rdB M a) x y) (has (rdB M b) x y) → ∃ v, cu Md v ∧ y < v := fun x y z => (mp_or z).elim (fun z => by obtain ⟨v, v1, v2⟩ := ends_hi z; exact ⟨v, (U v).mpr (Or.inl v1), v2⟩) (fun z => by obtain ⟨v, v1, v2⟩ := ends_hi z; exact ⟨v, (U v).mpr (Or.inr v1), v2⟩)
  have n0 := Cd.1
  have loop : ∀ (c : Nat) (i : Int) (M' : mm_M), c = (Md.1 72 19 - i).toNat → 0 ≤ i → (i < Md.1 72 19 ∨ i = 0 ∧ Md.1 72 19 = 0) → mr_ok M' → fr vS Md M' → RS M' (fun x y => mp how (has (rdB M a) x y) (has (rdB M b) x y) ∧ i < Md.1 72 19 ∧ y < Md.1 87 i) → en_R sc 66 73 [mm_r 72, mm_i t, mm_i a, mm_i b, mm_i how, mm_i i] [] M' (QI K X) := by
    intro c
    induction c with
    | zero =>
      intro i M' hc i0 i1 ho' hf hR
      obtain ⟨e19, e87⟩ := vS_cut hf
      refine vc66_73 ho' ?_
      rw [e19]
      refine ⟨⟨by omega, by omega⟩, fun q => ?_, fun q => absurd (by omega) q⟩
      exact c39y ho' hW (by rw [hf.2 _ _ (by unfold vS; omega)]; exact td) (fr_trans vd (fr_mono hf vS_vT)) (RS_iff hR (fun x y => cu_fin Cd HE (by omega) (by omega) x y)) gt.1 gt.2 (fun r M1 c _ => Or.inl ⟨r, rfl, k r M1 c⟩)
    | succ c ih =>
      intro i M' hc i0 i1 ho' hf hR
      obtain ⟨e19, e87⟩ := vS_cut hf
      refine vc66_73 ho' ?_
      rw [e19, e87]
      refine ⟨⟨by omega, by omega⟩, fun q => ?_, fun q => ⟨i0, by omega, ?_⟩⟩
      · exact c39y ho' hW (by rw [hf.2 _ _ (by unfold vS; omega)]; exact td) (fr_trans vd (fr_mono hf vS_vT)) (RS_iff hR (fun x y => cu_fin Cd HE (by omega) (by omega) x y)) gt.1 gt.2 (fun r M1 c _ => Or.inl ⟨r, rfl, k r M1 c⟩)
      have bi := Cd.2.1 i i0 (by omega)
      have bj := Cd.2.1 (i + 1) (by omega) (by omega)
      have vm : fr vT M M' := fr_trans vd (fr_mono hf vS_vT)
      have w1 := vT_keep vm ga.1 ga.2 (hW a ga.1 ga.2)
      refine c61 ho' ga.1 (by omega) w1.2 ⟨by omega, by omega⟩ (fun Me fe Ne _ re hoe => ⟨i0, by omega, ?_⟩)
      have le : fr vS M' Me := fr_mono fe (fun a k z => by unfold vS; omega)
      rw [fe.2 87 _ (by omega), e87]
      have ve : fr vT M Me := fr_trans vm (fr_mono le vS_vT)
      have w2 := vT_keep ve gb.1 gb.2 (hW b gb.1 gb.2)
      refine c62 hoe gb.1 (by omega) w2.2 ⟨by omega, by omega⟩ (fun Mf ff Nf _ rf hof => ?_)
      have lf : fr vS Me Mf := fr_mono ff (fun a k z => by unfold vS; omega)
      have N1 := NRg_fr ff (fun a k z => by omega) Ne
      refine c65 hof gh N1.1 Nf (fun Mg fg Ng rg hog => ?_)
      have lg : fr vS Mf Mg := fr_mono fg nS_vS
      have vg : fr vS Md Mg := fr_trans hf (fr_trans le (fr_trans lf lg))
      obtain ⟨g19, g87⟩ := vS_cut vg
      refine ⟨i0, by omega, by omega, by omega, ?_⟩
      rw [g87, g87]
      have Rg : RS Mg (fun x y => mp how (has (rdB M a) x y) (has (rdB M b) x y) ∧ i < Md.1 72 19 ∧ y < Md.1 87 i) := RS_fr fg (fun a k z => by omega) (RS_fr ff (fun a k z => by omega) (RS_fr fe (fun a k z => by omega) hR))
      refine c38 hog Ng Rg ⟨by omega, by omega⟩ ⟨by omega, by omega⟩ (fun _ => ⟨by omega, by omega⟩) (fun _ x y z => z.2.2) (fun Mh fh Rh hoh => ?_)
      refine ih (i + 1) Mh (by omega) (by omega) (Or.inl (by omega)) hoh (fr_trans vg (fr_mono fh gS_vS)) (RS_iff Rh (fun x y => ?_))
      have e : rN Mg x ↔ mp how (has (rdB M a) x (Md.1 87 i)) (has (rdB M b) x (Md.1 87 i)) := by
        rw [rg]
        refine mp_iff ?_ ?_
        · rw [N1.2, re, ← eqv_has (hW a ga.1 ga.2).1 w1.1]
        · rw [rf, ← eqv_has (hW b gb.1 gb.2).1 w2.1]
      rw [e]
      exact cu_stp (T := fun x y => mp how (has (rdB M a) x y) (has (rdB M b) x y)) Cd H i0 (by omega) x y
  exact loop _ 0 Md rfl (by decide) (by omega) hod fr_refl (RS_iff Rd (fun x y => cu_beg Cd HB x y))
end
