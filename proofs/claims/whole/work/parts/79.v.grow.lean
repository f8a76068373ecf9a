/-! ===== grow, the class's side ===== -/
/-- in band i, made wider -/
def wid (s : sh) (l r i x : Int) : Prop := ∃ k, sst s i ≤ k ∧ k < sst s (i + 1) ∧ slf s k - l ≤ x ∧ x < srt s k + r
def grT (s : sh) (l r d u x y : Int) : Prop := fld x y ∧ ∃ i, 0 ≤ i ∧ i < sn s ∧ slo s i - d ≤ y ∧ y < shi s i + u ∧ wid s l r i x
theorem wid_eqv {s t : sh} (h : wf s) (e : eqv s t) {l r i x : Int} (i0 : 0 ≤ i) (i1 : i < sn s) : wid s l r i x ↔ wid t l r i x := by
  have z0 := sst_mono h (Int.le_refl 0) i0 (show i ≤ sn s by omega)
  have z1 := sst_mono h (show 0 ≤ i + 1 by omega) (show i + 1 ≤ sn s by omega) (Int.le_refl _)
  rw [h.2.1] at z0
  have e1 := e.2.2.1 i i0 (by omega)
  have e2 := e.2.2.1 (i + 1) (by omega) (by omega)
  unfold wid
  rw [← e1, ← e2]
  constructor
  · rintro ⟨k, a, b, c, d⟩
    have x := e.2.2.2 k (by omega) (by omega)
    exact ⟨k, a, b, by rw [← x.1]; exact c, by rw [← x.2]; exact d⟩
  · rintro ⟨k, a, b, c, d⟩
    have x := e.2.2.2 k (by omega) (by omega)
    exact ⟨k, a, b, by rw [x.1]; exact c, by rw [x.2]; exact d⟩
theorem grT_iff {s t : sh} (h : wf s) (e : eqv s t) (l r d u x y : Int) : grT s l r d u x y ↔ grT t l r d u x y := by
  unfold grT
  constructor
  · rintro ⟨f, i, a, b, c, g, w⟩
    have x := e.2.1 i a b
    exact ⟨f, i, a, by rw [← e.1]; exact b, by rw [← x.1]; exact c, by rw [← x.2]; exact g, (wid_eqv h e a b).mp w⟩
  · rintro ⟨f, i, a, b, c, g, w⟩
    have b' : i < sn s := by rw [e.1]; exact b
    have x := e.2.1 i a b'
    exact ⟨f, i, a, b', by rw [x.1]; exact c, by rw [x.2]; exact g, (wid_eqv h e a b').mpr w⟩
abbrev reach (l r d u : Int) : Prop := (0 ≤ l ∧ l ≤ 2000) ∧ (0 ≤ r ∧ r ≤ 2000) ∧ (0 ≤ d ∧ d ≤ 2000) ∧ 0 ≤ u ∧ u ≤ 2000
section
variable {sc : Nat × (Int → Int)} {M : mm_M} {X : Nat → mm_M → Prop}
/-- CellAreas.needReach -/
theorem c90 {K : mm_M → Prop} {l r d u : Int} (ho : mr_ok M) (hl : mr_rg l) (hr : mr_rg r) (hd : mr_rg d) (hu : mr_rg u) (k : reach l r d u → K M) (x : ¬ reach l r d u → X 2 (M.1, M.2.1, M.2.2 + 1)) : en_CV sc 90 [mm_i l, mm_i r, mm_i d, mm_i u] M K X := by
  have r0 : mr_rg 0 := ⟨by decide, by decide⟩
  have r2 : mr_rg 2000 := ⟨by decide, by decide⟩
  refine vc90_0 ho (c10 ho hl r0 r2 (fun g1 _ => ?_) (fun q => Or.inr ⟨2, rfl, by decide, x (fun z => q z.1)⟩))
  refine c10 ho hr r0 r2 (fun g2 _ => ?_) (fun q => Or.inr ⟨2, rfl, by decide, x (fun z => q z.2.1)⟩)
  refine c10 ho hd r0 r2 (fun g3 _ => ?_) (fun q => Or.inr ⟨2, rfl, by decide, x (fun z => q z.2.2.1)⟩)
  exact c10 ho hu r0 r2 (fun g4 _ => Or.inl ⟨rfl, k ⟨g1, g2, g3, g4⟩⟩) (fun q => Or.inr ⟨2, rfl, by decide, x (fun z => q z.2.2.2)⟩)
/-- CellAreas.grow -/
theorem c91 {K : Int → mm_M → Prop} {t a l r d u : Int} (ho : mr_ok M) (hO : OW M) (ht : mr_rg t) (ha : mr_rg a) (hl : mr_rg l) (hr : mr_rg r) (hd : mr_rg d) (hu : mr_rg u)
    (x1 : ¬ (isA t ∧ isA a) → X 1 (M.1, M.2.1, M.2.2 + 1)) (x2 : (isA t ∧ isA a) → ¬ reach l r d u → X 2 (M.1, M.2.1, M.2.2 + 1))
    (k : (isA t ∧ isA a) → reach l r d u → ∀ v M1, CB M M1 t (grT (rdA M (ar M a)) l r d u) v → K v M1) : en_CI sc 91 [mm_r 0, mm_i t, mm_i a, mm_i l, mm_i r, mm_i d, mm_i u, mm_u, mm_u, mm_u, mm_u] M K X := by
  refine vc91_0 ho (c9 ho ht (fun gt _ => ?_) (fun q => Or.inr ⟨1, rfl, by decide, x1 (fun z => q z.1)⟩))
  refine c9 ho ha (fun ga _ => ?_) (fun q => Or.inr ⟨1, rfl, by decide, x1 (fun z => q z.2)⟩)
  refine c90 ho hl hr hd hu (fun gr _ => ?_) (fun q => Or.inr ⟨2, rfl, by decide, x2 ⟨gt, ga⟩ q⟩)
  replace k := k ⟨gt, ga⟩ gr
  have Aa := OW_A hO ga
  have w := Aa.2.2.1
  have n0 := w.1
  have n1 : sn (rdA M (ar M a)) ≤ 100 := Aa.2.2.2.1
  refine ⟨ga.1, ga.2, ar M a, Aa.1, Aa.2.1, c12 ho w15 (fun Ma fa ra hoa => ?_)⟩
  have ka : fr (kS (br M)) M Ma := fr_mono fa (kS_row (by decide))
  obtain ⟨_, A1, s1⟩ := kA hO ka ga
  refine c48x hoa A1 w15 ⟨by omega, by omega⟩ (fun Mb fb rb' hob => ?_)
  rw [s1] at rb'
  have kb : fr (kS (br M)) M Mb := fr_trans ka (fr_mono fb (kS_row (by decide)))
  obtain ⟨_, A2, s2⟩ := kA hO kb ga
  refine c48x hob A2 w15 ⟨by omega, by omega⟩ (fun Mc fc rc hoc => ?_)
  rw [s2] at rc
  have kc : fr (kS (br M)) M Mc := fr_trans kb (fr_mono fc (kS_row (by decide)))
  have mk : ∀ x, ri Mc 15 x ↔ mkr (rdA M (ar M a)) (0 - d) x ∨ mkr (rdA M (ar M a)) u x := by
    intro x
    rw [rc, rb']
    constructor
    · rintro ((z | z) | z)
      · exact absurd z (ra x)
      · exact Or.inl z
      · exact Or.inr z
    · rintro (z | z)
      · exact Or.inl (Or.inr z)
      · exact Or.inr z
  have hT : inF (grT (rdA M (ar M a)) l r d u) := fun x y z => z.1
  have H : cst (fun x => mkr (rdA M (ar M a)) (0 - d) x ∨ mkr (rdA M (ar M a)) u x) (grT (rdA M (ar M a)) l r d u) := by
    intro y y0 y1 q x
    unfold grT
    constructor
    · rintro ⟨f, i, i0, i1, i2, i3, i4⟩
      have : y + 1 ≠ slo (rdA M (ar M a)) i + (0 - d) := fun z => q (Or.inl ⟨by omega, by omega, i, i0, i1, Or.inl z⟩)
      exact ⟨⟨f.1, f.2.1, by omega, by omega⟩, i, i0, i1, by omega, by omega, i4⟩
    · rintro ⟨f, i, i0, i1, i2, i3, i4⟩
      have : y + 1 ≠ shi (rdA M (ar M a)) i + u := fun z => q (Or.inr ⟨by omega, by omega, i, i0, i1, Or.inr z⟩)
      exact ⟨⟨f.1, f.2.1, by omega, by omega⟩, i, i0, i1, by omega, by omega, i4⟩
  refine c18y hoc hO kc mk hT (fun Md Ld => ?_)
  have fin : ∀ (low : Int) (l8 l10 : mm_V) (M' : mm_M), -1000 ≤ low → LI M M' (fun x => mkr (rdA M (ar M a)) (0 - d) x ∨ mkr (rdA M (ar M a)) u x) (grT (rdA M (ar M a)) l r d u) low → (1000 ≤ low ∨ M'.1 2 2 ≠ 0) → en_R sc 91 200 [mm_r 0, mm_i t, mm_i a, mm_i l, mm_i r, mm_i d, mm_i u, mm_r (ar M a), l8, mm_i low, l10] [] M' (QI K X) := by
    intro low l8 l10 M' l0 hL h1
    exact vc91_200 hL.1 (c30z hO hT hL l0 h1 gt (fun r M1 c => Or.inl ⟨r, rfl, k r M1 c⟩))
  have row : ∀ (c : Nat) (low high i : Int) (M' : mm_M), c = (sn (rdA M (ar M a)) - i).toNat → 0 ≤ i → i ≤ sn (rdA M (ar M a)) → -1000 ≤ low → low < 1000 → mr_ok M' → fr (kS (br M)) M M' → (∀ x, ri M' 11 x ↔ (-1000 ≤ x ∧ x < 1000) ∧ ∃ j, 0 ≤ j ∧ j < i ∧ slo (rdA M (ar M a)) j - d ≤ low ∧ low < shi (rdA M (ar M a)) j + u ∧ wid (rdA M (ar M a)) l r j x) →
      (∀ (M1 : mm_M) (l10 : Int), mr_ok M1 → fr (rS 11) M' M1 → (∀ x, ri M1 11 x ↔ grT (rdA M (ar M a)) l r d u x low) → en_CV sc 29 [mm_r 2, mm_i low, mm_i high, mm_r 11, mm_u] M1 (fun M2 => mr_ok M2 → en_R sc 91 68 [mm_r 0, mm_i t, mm_i a, mm_i l, mm_i r, mm_i d, mm_i u, mm_r (ar M a), mm_i high, mm_i high, mm_i l10] [] M2 (QI K X)) (fun e M9 => QI K X (.inr e) M9)) →
      en_R sc 91 116 [mm_r 0, mm_i t, mm_i a, mm_i l, mm_i r, mm_i d, mm_i u, mm_r (ar M a), mm_i high, mm_i low, mm_i i] [] M' (QI K X) := by
    intro c
    induction c with
    | zero =>
      intro low high i M' hc i0 i1 l0 l1 ho' hf hr' g
      obtain ⟨_, A', s'⟩ := kA hO hf ga
      have rr := rdA_row s' i i0
      have ei : i = sn (rdA M (ar M a)) := by omega
      refine vc91_116 ho' Aa.2.1 ⟨by omega, by omega⟩ ⟨by omega, by omega⟩ ?_
      rw [rr.2.2.2.2.2.2.1]
      refine ⟨fun _ => g M' i ho' fr_refl (fun x => ?_), fun q => absurd (by omega) q⟩
      rw [hr', ei]
      unfold grT
      exact ⟨fun z => ⟨⟨z.1.1, z.1.2, l0, l1⟩, z.2⟩, fun z => ⟨⟨z.1.1, z.1.2.1⟩, z.2⟩⟩
    | succ c ih =>
      intro low high i M' hc i0 i1 l0 l1 ho' hf hr' g
      obtain ⟨_, A', s'⟩ := kA hO hf ga
      have rr := rdA_row s' i i0
      have bk := w.2.2.1 i i0 (by omega)
      have b2 := bk.2.1
      have b3 := bk.2.2.1
      have b4 := bk.2.2.2.1
      have skip : ¬ (slo (rdA M (ar M a)) i - d ≤ low ∧ low < shi (rdA M (ar M a)) i + u) → en_R sc 91 116 [mm_r 0, mm_i t, mm_i a, mm_i l, mm_i r, mm_i d, mm_i u, mm_r (ar M a), mm_i high, mm_i low, mm_i (i + 1)] [] M' (QI K X) := by
        intro q
        refine ih low high (i + 1) M' (by omega) (by omega) (by omega) l0 l1 ho' hf (fun x => ?_) g
        rw [hr']
        constructor
        · rintro ⟨z, j, j0, j1, j2⟩
          exact ⟨z, j, j0, by omega, j2⟩
        · rintro ⟨z, j, j0, j1, j2, j3, j4⟩
          by_cases y : j = i
          · rw [y] at j2 j3
            exact absurd ⟨j2, j3⟩ q
          · exact ⟨z, j, j0, by omega, j2, j3, j4⟩
      refine vc91_116 ho' Aa.2.1 ⟨by omega, by omega⟩ ⟨by omega, by omega⟩ ?_
      rw [rr.2.2.2.2.2.2.1, rr.2.2.2.2.1, rr.2.2.2.2.2.1]
      refine ⟨fun q => absurd q (by omega), fun _ => ⟨i0, by omega, ⟨by omega, by omega⟩, fun q => skip (by omega), fun q => ⟨i0, by omega, ⟨by omega, by omega⟩, fun q2 => skip (by omega), fun q2 => ?_⟩⟩⟩
      refine c52 ho' A' w11 (by omega) (Or.inl (by rw [rr.2.2.2.2.2.2.1]; omega)) ⟨by omega, by omega⟩ ⟨by omega, by omega⟩ (fun Me fe re hoe => ?_)
      rw [rr.1, rr.2.1, rr.2.2.1, rr.2.2.2.1] at re
      refine ih low high (i + 1) Me (by omega) (by omega) (by omega) l0 l1 hoe (fr_trans hf (fr_mono fe (kS_row (by decide)))) (fun x => ?_) (fun M1 l10 o1 f1 => g M1 l10 o1 (fr_trans fe f1))
      rw [re, hr']
      constructor
      · rintro (⟨z, j, j0, j1, j2⟩ | ⟨z1, z2, z3⟩)
        · exact ⟨z, j, j0, by omega, j2⟩
        · exact ⟨⟨z1, z2⟩, i, i0, by omega, by omega, by omega, z3⟩
      · rintro ⟨z, j, j0, j1, j2, j3, j4⟩
        by_cases y : j = i
        · rw [y] at j4
          exact Or.inr ⟨z.1, z.2, j4⟩
        · exact Or.inl ⟨z, j, j0, by omega, j2, j3, j4⟩
  have loop : ∀ (c : Nat) (low : Int) (l8 l10 : mm_V) (M' : mm_M), (1000 - low).toNat ≤ c → -1000 ≤ low → low ≤ 1000 → LI M M' (fun x => mkr (rdA M (ar M a)) (0 - d) x ∨ mkr (rdA M (ar M a)) u x) (grT (rdA M (ar M a)) l r d u) low → en_R sc 91 68 [mm_r 0, mm_i t, mm_i a, mm_i l, mm_i r, mm_i d, mm_i u, mm_r (ar M a), l8, mm_i low, l10] [] M' (QI K X) := by
    intro c
    induction c with
    | zero =>
      intro low l8 l10 M' hc l0 l1 hL
      exact vc91_68 hL.1 ⟨by omega, by omega⟩ ⟨fun q => fin low l8 l10 M' l0 hL (Or.inl q), fun q => absurd (by omega) q⟩
    | succ c ih =>
      intro low l8 l10 M' hc l0 l1 hL
      have ho' := hL.1
      refine vc91_68 ho' ⟨by omega, by omega⟩ ⟨fun q => fin low l8 l10 M' l0 hL (Or.inl q), fun q => ⟨fun q2 => fin low l8 l10 M' l0 hL (Or.inr q2), fun _ => ?_⟩⟩
      refine c22 ho' w15 ⟨by omega, by omega⟩ (by omega) (fun v r0 r1 r2 r3 _ => ⟨⟨by omega, by omega⟩, ⟨by omega, by omega⟩, c12 ho' w11 (fun Me fe re hoe => ?_)⟩)
      refine row _ low _ 0 Me rfl (Int.le_refl _) n0 l0 (by omega) hoe (fr_trans hL.2.1 (fr_mono fe (kS_row (by decide)))) (fun x => ⟨fun z => absurd z (re x), fun ⟨_, j, j0, j1, _⟩ => absurd j1 (by omega)⟩) (fun M1 l10 o1 f1 R1 => ?_)
      exact c29y hO hT H hL o1 (fr_trans (fr_mono fe (fun a k z => Or.inl z)) (fr_mono f1 (fun a k z => Or.inl z))) R1 l0 (by omega) r1 r2 (fun Mh Lh => ih _ _ _ Mh (by omega) (by omega) (by omega) Lh)
  exact loop _ (-1000) _ _ Md (Nat.le_refl _) (by decide) (by decide) Ld
end
