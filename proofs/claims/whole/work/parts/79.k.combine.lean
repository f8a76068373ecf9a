/-! ===== combine, the class's side ===== -/
def isA (t : Int) : Prop := 0 ≤ t ∧ t < 8
/-- the marks of an area's rows, moved by d -/
def mkr (s : sh) (d x : Int) : Prop := -1000 ≤ x ∧ x < 1000 ∧ ∃ i, 0 ≤ i ∧ i < sn s ∧ (x = slo s i + d ∨ x = shi s i + d)
theorem mkr_const {s : sh} {y : Int} (h0 : -1000 ≤ y) (h1 : y + 1 < 1000) (h : ¬ mkr s 0 (y + 1)) (x : Int) : has s x (y + 1) ↔ has s x y := by
  refine has_const ?_ x
  rintro ⟨i, a, b, c⟩
  exact h ⟨by omega, h1, i, a, b, by omega⟩
theorem BS_fr {M M1 : mm_M} {S : Nat → Int → Prop} {b : Nat} {T : Int → Int → Prop} (h : fr S M M1) (hs : ∀ a k, S a k → a = 12 ∨ a = 14 ∨ a = 16) (g : BS M b T) : BS M1 b T := by
  obtain ⟨g1, g2, g3⟩ := g
  have er : rdA M1 b = rdA M b := rdA_fr h (fun c k h0 h1 z => by
    clear g3
    have := hs c k z
    unfold mr_A at g2
    omega)
  have e2 : M1.1 2 2 = M.1 2 2 := h.2 _ _ (fun z => by clear g3; have := hs _ _ z; omega)
  refine ⟨by rw [h.1]; exact g1, g2, ?_⟩
  rw [er, e2]
  rcases g3 with ⟨a, b, c, d, g, i⟩ | g
  · refine Or.inl ⟨a, b, c, d, g, fun z x => ?_⟩
    rw [ri_fr h (fun k z => by have := hs _ _ z; omega)]
    exact i z x
  · exact Or.inr g
theorem BS_end {M : mm_M} {b : Nat} {T : Int → Int → Prop} {low : Int} (hT : ∀ x y, T x y → -1000 ≤ x ∧ x < 1000 ∧ -1000 ≤ y ∧ y < 1000) (h0 : -1000 ≤ low) (h1 : 1000 ≤ low ∨ M.1 2 2 ≠ 0) (h : BS M b (fun x y => T x y ∧ y < low)) : BS M b T := by
  by_cases q : 1000 ≤ low
  · exact BS_iff h (fun x y => ⟨fun z => z.1, fun z => ⟨z, by have := hT x y z; omega⟩⟩)
  · obtain ⟨g1, g2, g3⟩ := h
    refine ⟨g1, g2, ?_⟩
    rcases g3 with ⟨a, _⟩ | ⟨a, g⟩
    · exact absurd a (h1.resolve_left q)
    · exact Or.inr ⟨a, over_all hT h0 g⟩
theorem cl_iff {T : Int → Int → Prop} {mk R : Int → Prop} {low r : Int} (H : ∀ y, -1000 ≤ y → y + 1 < 1000 → ¬ mk (y + 1) → ∀ x, T x (y + 1) ↔ T x y) (l0 : -1000 ≤ low) (l1 : low < 1000) (r1 : r ≤ 1000) (hr : ∀ x, low + 1 ≤ x → x < r → ¬ mk x) (hR : ∀ x, R x ↔ T x low) (x y : Int) :
    ((T x y ∧ y < low) ∨ (low ≤ y ∧ y < max (low + 1) r ∧ R x)) ↔ (T x y ∧ y < max (low + 1) r) := by
  have cst : ∀ y, low ≤ y → y < max (low + 1) r → (T x y ↔ T x low) := fun y a b => rows_const (mk := mk) (h := max (low + 1) r) (fun y c d q => H y (by omega) (by omega) q) (fun y c d => hr y (by omega) (by omega)) a b x
  rw [hR]
  constructor
  · rintro (⟨a, b⟩ | ⟨a, b, c⟩)
    · exact ⟨a, by omega⟩
    · exact ⟨(cst y a b).mpr c, b⟩
  · rintro ⟨a, b⟩
    by_cases q : y < low
    · exact Or.inl ⟨a, q⟩
    · exact Or.inr ⟨by omega, b, (cst y (by omega) b).mp a⟩
theorem mp_iff {how : Int} {p q p' q' : Prop} (h1 : p ↔ p') (h2 : q ↔ q') : mp how p q ↔ mp how p' q' := by
  unfold mp
  rw [h1, h2]
theorem mp_or {how : Int} {p q : Prop} (h : mp how p q) : p ∨ q := by
  by_cases a : p
  · exact Or.inl a
  · by_cases b : q
    · exact Or.inr b
    · exact absurd h (mp_no a b)
theorem OW_A {M : mm_M} (hO : OW M) {j : Int} (h : isA j) : M.2.1 1 j = some (ar M j) ∧ AW M (ar M j) := ⟨(hO.1 j h.1 h.2).1, (hO.1 j h.1 h.2).2.1⟩
section
variable {sc : Nat × (Int → Int)} {M : mm_M} {X : Nat → mm_M → Prop}
theorem c48x {K : mm_M → Prop} {a w : Nat} {d : Int} (ho : mr_ok M) (h : AW M a) (hw : mr_Rw w) (hd : -100000 ≤ d ∧ d ≤ 100000)
    (k : ∀ M1, fr (rS w) M M1 → (∀ x, ri M1 w x ↔ ri M w x ∨ mkr (rdA M a) d x) → K M1) : en_CV sc 48 [mm_r a, mm_r w, mm_i d, mm_u] M K X := c48 ho h hw hd k
theorem w11 : mr_Rw 11 := Or.inr (Or.inl rfl)
theorem w13 : mr_Rw 13 := Or.inr (Or.inr (Or.inl rfl))
theorem w15 : mr_Rw 15 := Or.inr (Or.inr (Or.inr rfl))
/-- CellAreas.combine -/
theorem c56 {K : Int → mm_M → Prop} {t a b how : Int} (ho : mr_ok M) (hO : OW M) (ht : mr_rg t) (ha : mr_rg a) (hb : mr_rg b) (hh : mr_rg how)
    (x1 : ¬ (isA t ∧ isA a ∧ isA b) → X 1 (M.1, M.2.1, M.2.2 + 1)) (x2 : (isA t ∧ isA a ∧ isA b) → ¬ (0 ≤ how ∧ how ≤ 3) → X 2 (M.1, M.2.1, M.2.2 + 1))
    (k : (isA t ∧ isA a ∧ isA b) → (0 ≤ how ∧ how ≤ 3) → ∀ r M1, CB M M1 t (fun x y => mp how (has (rdA M (ar M a)) x y) (has (rdA M (ar M b)) x y)) r → K r M1) : en_CI sc 56 [mm_r 0, mm_i t, mm_i a, mm_i b, mm_i how, mm_u, mm_u] M K X := by
  refine vc56_0 ho (c9 ho ht (fun gt _ => ?_) (fun q => Or.inr ⟨1, rfl, by decide, x1 (fun z => q z.1)⟩))
  refine c9 ho ha (fun ga _ => ?_) (fun q => Or.inr ⟨1, rfl, by decide, x1 (fun z => q z.2.1)⟩)
  refine c9 ho hb (fun gb _ => ?_) (fun q => Or.inr ⟨1, rfl, by decide, x1 (fun z => q z.2.2)⟩)
  refine c10 ho hh ⟨by decide, by decide⟩ ⟨by decide, by decide⟩ (fun gh _ => ?_) (fun q => Or.inr ⟨2, rfl, by decide, x2 ⟨gt, ga, gb⟩ q⟩)
  replace k := k ⟨gt, ga, gb⟩ gh
  refine c12 ho w15 (fun Ma fa ra hoa => ?_)
  have ka : fr (kS (br M)) M Ma := fr_mono fa (kS_row (by decide))
  obtain ⟨Oa, a2, a3, a4, _⟩ := kS_keep hO ka
  have Aa := OW_A Oa ga
  rw [a2] at Aa
  refine ⟨ga.1, ga.2, ar M a, Aa.1, Aa.2.1, c48x hoa Aa.2 w15 ⟨by decide, by decide⟩ (fun Mb fb rb' hob => ?_)⟩
  rw [a4 a ga.1 ga.2] at rb'
  have kb : fr (kS (br M)) M Mb := fr_trans ka (fr_mono fb (kS_row (by decide)))
  obtain ⟨Ob, b2, b3, b4, _⟩ := kS_keep hO kb
  have Ab := OW_A Ob gb
  rw [b2] at Ab
  refine ⟨gb.1, gb.2, ar M b, Ab.1, Ab.2.1, c48x hob Ab.2 w15 ⟨by decide, by decide⟩ (fun Mc fc rc hoc => ?_)⟩
  rw [b4 b gb.1 gb.2] at rc
  have kc : fr (kS (br M)) M Mc := fr_trans kb (fr_mono fc (kS_row (by decide)))
  obtain ⟨Oc, c2, c3, c4, _⟩ := kS_keep hO kc
  have hA := hO.2.2.2.1
  have hbr := Oc.2.2.1
  have h0br := Oc.2.2.2.2 (br M) hA
  rw [c3] at hbr
  refine c18 hoc hbr hA h0br (fun Md fd Bd hod => ?_)
  have kd : fr (kS (br M)) M Md := fr_trans kc (fr_mono fd kS_b)
  have mk : ∀ x, ri Md 15 x ↔ mkr (rdA M (ar M a)) 0 x ∨ mkr (rdA M (ar M b)) 0 x := by
    intro x
    rw [ri_fr fd (fun k z => by unfold bS at z; unfold mr_A at hA; omega), rc, rb']
    constructor
    · rintro ((g | g) | g)
      · exact absurd g (ra x)
      · exact Or.inl g
      · exact Or.inr g
    · rintro (g | g)
      · exact Or.inl (Or.inr g)
      · exact Or.inr g
  have wa := (OW_A hO ga).2.2.1
  have wb := (OW_A hO gb).2.2.1
  have hT : ∀ x y, mp how (has (rdA M (ar M a)) x y) (has (rdA M (ar M b)) x y) → -1000 ≤ x ∧ x < 1000 ∧ -1000 ≤ y ∧ y < 1000 := fun x y z => (mp_or z).elim (has_rg wa) (has_rg wb)
  have H : ∀ y, -1000 ≤ y → y + 1 < 1000 → ¬ (mkr (rdA M (ar M a)) 0 (y + 1) ∨ mkr (rdA M (ar M b)) 0 (y + 1)) → ∀ x, mp how (has (rdA M (ar M a)) x (y + 1)) (has (rdA M (ar M b)) x (y + 1)) ↔ mp how (has (rdA M (ar M a)) x y) (has (rdA M (ar M b)) x y) := fun y y0 y1 q x => mp_iff (mkr_const y0 y1 (fun z => q (Or.inl z)) x) (mkr_const y0 y1 (fun z => q (Or.inr z)) x)
  have fin : ∀ (low : Int) (l5 : mm_V) (M' : mm_M), -1000 ≤ low → mr_ok M' → fr (kS (br M)) M M' → (1000 ≤ low ∨ M'.1 2 2 ≠ 0) → BS M' (br M) (fun x y => mp how (has (rdA M (ar M a)) x y) (has (rdA M (ar M b)) x y) ∧ y < low) → en_R sc 56 169 [mm_r 0, mm_i t, mm_i a, mm_i b, mm_i how, l5, mm_i low] [] M' (QI K X) := by
    intro low l5 M' l0 ho' hf h1 hB
    exact vc56_169 ho' (c30y ho' hO hf (BS_end hT l0 h1 hB) gt.1 gt.2 (fun r M1 c _ => Or.inl ⟨r, rfl, k r M1 c⟩))
  have loop : ∀ (c : Nat) (low : Int) (l5 : mm_V) (M' : mm_M), (1000 - low).toNat ≤ c → -1000 ≤ low → low ≤ 1000 → mr_ok M' → fr (kS (br M)) M M' → (∀ x, ri M' 15 x ↔ mkr (rdA M (ar M a)) 0 x ∨ mkr (rdA M (ar M b)) 0 x) → BS M' (br M) (fun x y => mp how (has (rdA M (ar M a)) x y) (has (rdA M (ar M b)) x y) ∧ y < low) → en_R sc 56 66 [mm_r 0, mm_i t, mm_i a, mm_i b, mm_i how, l5, mm_i low] [] M' (QI K X) := by
    intro c
    induction c with
    | zero =>
      intro low l5 M' hc l0 l1 ho' hf hm hB
      exact vc56_66 ho' ⟨by omega, by omega⟩ ⟨fun q => fin low l5 M' l0 ho' hf (Or.inl q) hB, fun q => absurd (by omega) q⟩
    | succ c ih =>
      intro low l5 M' hc l0 l1 ho' hf hm hB
      refine vc56_66 ho' ⟨by omega, by omega⟩ ⟨fun q => fin low l5 M' l0 ho' hf (Or.inl q) hB, fun q => ⟨fun q2 => fin low l5 M' l0 ho' hf (Or.inr q2) hB, fun _ => ?_⟩⟩
      refine c22 ho' w15 ⟨by omega, by omega⟩ (by omega) (fun r r0 r1 r2 r3 _ => ⟨⟨by omega, by omega⟩, ⟨by omega, by omega⟩, ga.1, ga.2, ar M a, ?_⟩)
      obtain ⟨O', p2, p3, p4, _⟩ := kS_keep hO hf
      have A' := OW_A O' ga
      rw [p2] at A'
      refine ⟨A'.1, A'.2.1, c53 ho' A'.2 w11 ⟨by omega, by omega⟩ (fun Me fe re hoe => ⟨gb.1, gb.2, ar M b, ?_⟩)⟩
      rw [p4 a ga.1 ga.2] at re
      have ke : fr (kS (br M)) M Me := fr_trans hf (fr_mono fe (kS_row (by decide)))
      obtain ⟨Oe, e2, e3, e4, _⟩ := kS_keep hO ke
      have Ae := OW_A Oe gb
      rw [e2] at Ae
      refine ⟨Ae.1, Ae.2.1, c53 hoe Ae.2 w13 ⟨by omega, by omega⟩ (fun Mf ff rf hof => ?_)⟩
      rw [e4 b gb.1 gb.2] at rf
      have kf : fr (kS (br M)) M Mf := fr_trans ke (fr_mono ff (kS_row (by decide)))
      refine c55x hof w11 w13 (by decide) gh (fun Mg fg rg hog => ?_)
      have kg : fr (kS (br M)) M Mg := fr_trans kf (fr_mono fg (kS_row (by decide)))
      have frow : fr (fun a _ => a = 12 ∨ a = 14) M' Mg := fr_trans (fr_mono fe (fun a k z => Or.inl z)) (fr_trans (fr_mono ff (fun a k z => Or.inr z)) (fr_mono fg (fun a k z => Or.inl z)))
      have Bg : BS Mg (br M) (fun x y => mp how (has (rdA M (ar M a)) x y) (has (rdA M (ar M b)) x y) ∧ y < low) := BS_fr frow (fun a k z => by omega) hB
      have R : ∀ x, ri Mg 11 x ↔ mp how (has (rdA M (ar M a)) x low) (has (rdA M (ar M b)) x low) := by
        intro x
        rw [rg]
        refine mp_iff ?_ (rf x)
        rw [ri_fr ff (fun k z => by have z' : 11 + 1 = 13 + 1 := z; omega)]
        exact re x
      refine c29 hog Bg w11 (by decide) (fun x g => ?_) ⟨by omega, by omega⟩ ⟨by omega, by omega⟩ (fun _ => ⟨by omega, by omega⟩) (fun _ x y z => z.2) (fun Mh fh Bh hoh => ?_)
      · have := hT x low ((R x).mp g)
        omega
      · refine ih _ _ Mh (by omega) (by omega) (by omega) hoh (fr_trans kg (fr_mono fh kS_b)) (fun x => ?_) (BS_iff Bh (fun x y => ?_))
        · rw [ri_fr fh (fun k z => by unfold bS at z; unfold mr_A at hA; omega), ri_fr frow (fun k z => by omega)]
          exact hm x
        · exact cl_iff (T := fun x y => mp how (has (rdA M (ar M a)) x y) (has (rdA M (ar M b)) x y)) H l0 (by omega) r1 (fun x g1 g2 g3 => r2 x g1 g2 ((hm x).mpr g3)) R x y
  exact loop _ (-1000) mm_u Md (Nat.le_refl _) (by decide) (by decide) hod kd mk (BS_iff Bd (fun x y => ⟨fun z => z.elim, fun z => by have := hT x y z.1; omega⟩))
end
