/-! ===== bands, band, stretch, has ===== -/
def bandV (s : sh) (i what : Int) : Int := if 0 ≤ i ∧ i < sn s then (if what = 0 then slo s i else if what = 1 then shi s i else if what = 2 then sst s (i + 1) - sst s i else -2001) else -2001
def strV (s : sh) (i k what : Int) : Int := if (0 ≤ i ∧ i < sn s) ∧ 0 ≤ k ∧ k < sst s (i + 1) - sst s i then (if what = 0 then slf s (sst s i + k) else if what = 1 then srt s (sst s i + k) else -2001) else -2001
theorem bandV_eqv {s t : sh} (e : eqv s t) (i what : Int) : bandV s i what = bandV t i what := by
  unfold bandV
  by_cases h : 0 ≤ i ∧ i < sn s
  · have h' : 0 ≤ i ∧ i < sn t := by rw [← e.1]; exact h
    rw [if_pos h, if_pos h', (e.2.1 i h.1 h.2).1, (e.2.1 i h.1 h.2).2, e.2.2.1 i h.1 (by omega), e.2.2.1 (i + 1) (by omega) (by omega)]
  · rw [if_neg h, if_neg (by rw [← e.1]; exact h)]
theorem strV_eqv {s t : sh} (hs : wf s) (e : eqv s t) (i k what : Int) : strV s i k what = strV t i k what := by
  unfold strV
  by_cases h : 0 ≤ i ∧ i < sn s
  · have e1 := e.2.2.1 i h.1 (by omega)
    have e2 := e.2.2.1 (i + 1) (by omega) (by omega)
    have z0 := sst_mono hs (Int.le_refl 0) h.1 (show i ≤ sn s by omega)
    have z1 := sst_mono hs (show 0 ≤ i + 1 by omega) (show i + 1 ≤ sn s by omega) (Int.le_refl _)
    rw [hs.2.1] at z0
    rw [← e1, ← e2, ← e.1]
    by_cases g : 0 ≤ k ∧ k < sst s (i + 1) - sst s i
    · have x := e.2.2.2 (sst s i + k) (by omega) (by omega)
      have hg : (0 ≤ i ∧ i < sn s) ∧ 0 ≤ k ∧ k < sst s (i + 1) - sst s i := ⟨h, g⟩
      rw [if_pos hg, if_pos hg, x.1, x.2]
    · rw [if_neg (fun z => g z.2), if_neg (fun z => g z.2)]
  · rw [if_neg (fun z => h z.1), if_neg (fun z => h (by rw [e.1]; exact z.1))]
section
variable {sc : Nat × (Int → Int)} {M : mm_M} {X : Nat → mm_M → Prop}
/-- CellAreas.bands -/
theorem c102 {K : Int → mm_M → Prop} {a : Int} (ho : mr_ok M) (hO : OW M) (ha : mr_rg a) (x1 : ¬ isA a → X 1 (M.1, M.2.1, M.2.2 + 1)) (k : isA a → K (sn (rdA M (ar M a))) M) : en_CI sc 102 [mm_r 0, mm_i a] M K X :=
  vc102_0 ho (c9 ho ha (fun ga _ => ⟨ga.1, ga.2, ar M a, (OW_A hO ga).1, (OW_A hO ga).2.1, Or.inl ⟨_, rfl, k ga⟩⟩) (fun q => Or.inr ⟨1, rfl, by decide, x1 q⟩))
/-- CellAreas.band -/
theorem c105 {K : Int → mm_M → Prop} {a i what : Int} (ho : mr_ok M) (hO : OW M) (ha : mr_rg a) (hi : mr_rg i) (hw : mr_rg what) (x1 : ¬ isA a → X 1 (M.1, M.2.1, M.2.2 + 1)) (k : isA a → K (bandV (rdA M (ar M a)) i what) M) : en_CI sc 105 [mm_r 0, mm_i a, mm_i i, mm_i what, mm_u] M K X := by
  refine vc105_0 ho hi hw (c9 ho ha (fun ga _ => ?_) (fun q => Or.inr ⟨1, rfl, by decide, x1 q⟩))
  have A := (OW_A hO ga).2
  have n1 := A.2.2.1
  replace k := k ga
  unfold bandV at k
  have es : sn (rdA M (ar M a)) = M.1 (ar M a) 0 := rfl
  rw [es] at k
  refine ⟨ga.1, ga.2, ar M a, (OW_A hO ga).1, A.1, fun q => Or.inl ⟨_, rfl, ?_⟩, fun q => ⟨fun q2 => ⟨fun w0 => ⟨by omega, by omega, Or.inl ⟨_, rfl, ?_⟩⟩, fun w1 => ⟨by omega, by omega, Or.inl ⟨_, rfl, ?_⟩⟩, fun w2 => c51 ho A.1 (by omega) (by omega) (fun _ => c50 ho A.1 (by omega) (by omega) (fun _ => Or.inl ⟨_, rfl, ?_⟩)), fun w0 w1 w2 => Or.inl ⟨_, rfl, ?_⟩⟩, fun q2 => Or.inl ⟨_, rfl, ?_⟩⟩⟩
  · rwa [if_neg (by omega)] at k
  · rwa [if_pos (by omega), if_pos w0] at k
  · rwa [if_pos (by omega), if_neg (by omega), if_pos w1] at k
  · rw [if_pos (by omega), if_neg (by omega), if_neg (by omega), if_pos w2] at k
    unfold bSt bEn
    rw [if_neg (by omega), if_neg (by omega)]
    exact k
  · rwa [if_pos (by omega), if_neg w0, if_neg w1, if_neg w2] at k
  · rwa [if_neg (by omega)] at k
/-- CellAreas.stretch -/
theorem c108 {K : Int → mm_M → Prop} {a i j what : Int} (ho : mr_ok M) (hO : OW M) (ha : mr_rg a) (hi : mr_rg i) (hj : mr_rg j) (hw : mr_rg what) (x1 : ¬ isA a → X 1 (M.1, M.2.1, M.2.2 + 1)) (k : isA a → K (strV (rdA M (ar M a)) i j what) M) : en_CI sc 108 [mm_r 0, mm_i a, mm_i i, mm_i j, mm_i what, mm_u] M K X := by
  refine vc108_0 ho hi hj hw (c9 ho ha (fun ga _ => ?_) (fun q => Or.inr ⟨1, rfl, by decide, x1 q⟩))
  have A := (OW_A hO ga).2
  have n1 := A.2.2.1
  replace k := k ga
  unfold strV at k
  have es : sn (rdA M (ar M a)) = M.1 (ar M a) 0 := rfl
  have e3 : ∀ z, sst (rdA M (ar M a)) z = M.1 (ar M a + 3) z := fun z => rfl
  rw [es, e3, e3] at k
  refine ⟨ga.1, ga.2, ar M a, (OW_A hO ga).1, A.1, fun q => Or.inl ⟨_, rfl, ?_⟩, fun q => ⟨fun q2 => Or.inl ⟨_, rfl, ?_⟩, fun q2 => ⟨fun q3 => Or.inl ⟨_, rfl, ?_⟩, fun q3 => c51 ho A.1 (by omega) (by omega) (fun _ => c50 ho A.1 (by omega) (by omega) (fun _ => ?_))⟩⟩⟩
  · rwa [if_neg (by omega)] at k
  · rwa [if_neg (by omega)] at k
  · rwa [if_neg (by omega)] at k
  · have s0 := AW_st A (show 0 ≤ i by omega) (show i ≤ M.1 (ar M a) 0 by omega)
    have s1 := AW_st A (show 0 ≤ i + 1 by omega) (show i + 1 ≤ M.1 (ar M a) 0 by omega)
    have eS : bSt M (ar M a) i = M.1 (ar M a + 3) i := if_neg (by omega)
    have eE : bEn M (ar M a) i = M.1 (ar M a + 3) (i + 1) := if_neg (by omega)
    rw [eS, eE]
    refine ⟨⟨by omega, by omega⟩, fun q4 => ⟨fun w0 => c50 ho A.1 (by omega) (by omega) (fun _ => ?_), fun w1 => c50 ho A.1 (by omega) (by omega) (fun _ => ?_), fun w0 w1 => Or.inl ⟨_, rfl, ?_⟩⟩, fun q4 => Or.inl ⟨_, rfl, ?_⟩⟩
    · rw [eS]
      refine ⟨by omega, by omega, Or.inl ⟨_, rfl, ?_⟩⟩
      rwa [if_pos (by omega), if_pos w0] at k
    · rw [eS]
      refine ⟨by omega, by omega, Or.inl ⟨_, rfl, ?_⟩⟩
      rwa [if_pos (by omega), if_neg (by omega), if_pos w1] at k
    · rwa [if_pos (by omega), if_neg w0, if_neg w1] at k
    · rwa [if_neg (by omega)] at k
/-- where a cell lies in the class's area -/
theorem c82x {K : Int → mm_M → Prop} {A : Nat} {x y : Int} (ho : mr_ok M) (h : AW M A) (hx : mr_rg x) (hy : mr_rg y) {Y : Nat → mm_M → Prop}
    (k0 : ¬ has (rdA M A) x y → K (-1) M) (k1 : ∀ i s, 0 ≤ i → i < sn (rdA M A) → slo (rdA M A) i ≤ y → y < shi (rdA M A) i → sst (rdA M A) i ≤ s → s < sst (rdA M A) (i + 1) → slf (rdA M A) s ≤ x → x < srt (rdA M A) s → K s M) :
    en_CI sc 49 [mm_r A, mm_i y, mm_u, mm_u, mm_u] M (fun x12 M13 => mr_ok M13 → en_CI sc 82 [mm_r A, mm_i x12, mm_i x, mm_u] M13 K X) Y := by
  refine c49 ho h hy (fun no _ => ?_) (fun i i0 i1 i2 i3 _ => ?_)
  · refine c82 ho h (Or.inl rfl) hx (fun _ => k0 ?_) (fun s s0 s1 _ _ => ?_)
    · rintro ⟨j, j0, j1, j2, j3, _⟩
      exact no j j0 j1 ⟨j2, j3⟩
    · unfold bSt at s0
      unfold bEn at s1
      rw [if_pos rfl] at s0 s1
      omega
  · have rr := rdA_row (rfl : rdA M A = rdA M A) i i0
    refine c82 ho h (Or.inr ⟨i0, i1⟩) hx (fun no => k0 ?_) (fun s s0 s1 s2 s3 => ?_)
    · rw [has_at h.2.1 i0 i1 i2 i3]
      rintro ⟨j, j0, j1, j2, j3⟩
      rw [rr.1, rr.2.1] at no
      exact no j j0 j1 ⟨j2, j3⟩
    · rw [rr.1] at s0
      rw [rr.2.1] at s1
      exact k1 i s i0 i1 i2 i3 s0 s1 s2 s3
/-- CellAreas.has -/
theorem c111 {K : Int → mm_M → Prop} {a x y : Int} (ho : mr_ok M) (hO : OW M) (ha : mr_rg a) (hx : mr_rg x) (hy : mr_rg y) (x1 : ¬ isA a → X 1 (M.1, M.2.1, M.2.2 + 1)) (k1 : isA a → has (rdA M (ar M a)) x y → K 1 M) (k0 : isA a → ¬ has (rdA M (ar M a)) x y → K 0 M) : en_CI sc 111 [mm_r 0, mm_i a, mm_i x, mm_i y] M K X := by
  refine vc111_0 ho (c9 ho ha (fun ga _ => ?_) (fun q => Or.inr ⟨1, rfl, by decide, x1 q⟩))
  have A := OW_A hO ga
  refine ⟨ga.1, ga.2, ar M a, A.1, A.2.1, ga.1, ga.2, ar M a, A.1, A.2.1, c82x ho A.2 hx hy (fun no _ => ⟨⟨by decide, by decide⟩, fun _ => Or.inl ⟨_, rfl, k0 ga no⟩, fun q => absurd rfl q⟩) (fun i s i0 i1 i2 i3 s0 s1 s2 s3 _ => ?_)⟩
  have e0 := AW_st A.2 i0 (show i ≤ M.1 (ar M a) 0 by show i ≤ sn (rdA M (ar M a)); omega)
  have e1 := AW_st A.2 (show 0 ≤ i + 1 by omega) (show i + 1 ≤ M.1 (ar M a) 0 by show i + 1 ≤ sn (rdA M (ar M a)); omega)
  have s0' : M.1 (ar M a + 3) i ≤ s := s0
  have s1' : s < M.1 (ar M a + 3) (i + 1) := s1
  exact ⟨⟨by omega, by omega⟩, fun q => absurd q (by omega), fun _ => Or.inl ⟨_, rfl, k1 ga ⟨i, i0, i1, i2, i3, s, s0, s1, s2, s3⟩⟩⟩
/-- CellAreasModel.bands -/
theorem c104 {K : Int → mm_M → Prop} {a : Int} (ho : mr_ok M) (ha : mr_rg a) (k1 : ¬ isA a → ∀ M1, fr thS M M1 → M1.1 72 0 = 1 → K 0 M1) (k : isA a → ∀ M1, fr thS M M1 → M1.1 72 0 = 0 → K (sn (rdB M a)) M1) : en_CI sc 104 [mm_r 72, mm_i a] M K X := by
  have r0 : mr_rg 0 := ⟨by decide, by decide⟩
  have r1 : mr_rg 1 := ⟨by decide, by decide⟩
  refine vc104_0 ho (c34 ho ha (fun ga _ => ⟨r1, fun z => absurd z (by decide), fun _ => ?_⟩) (fun ga _ => ⟨r0, fun _ => ?_, fun z => absurd rfl z⟩))
  · refine vc104_14 ho r0 ⟨fun _ => ⟨ga.1, by omega, Or.inl ⟨_, rfl, ?_⟩⟩, fun q => absurd (put_eq (M := M) (a := 72) (k := 0) (x := 0)) (fun e => by omega)⟩
    have e : (mm_putN M 72 0 0).1 77 a = sn (rdB M a) := put_a (by decide)
    rw [e]
    exact k ga _ (fr_put ⟨rfl, rfl⟩) put_eq
  · exact vc104_14 ho r1 ⟨fun q => absurd (put_eq (M := M) (a := 72) (k := 0) (x := 1)) (fun e => by omega), fun _ => Or.inl ⟨_, rfl, k1 ga _ (fr_put ⟨rfl, rfl⟩) put_eq⟩⟩
/-- CellAreasModel.band -/
theorem c107 {K : Int → mm_M → Prop} {a i what : Int} (ho : mr_ok M) (hW : ∀ j, 0 ≤ j → j < 8 → RWk M j) (ha : mr_rg a) (hi : mr_rg i) (hw : mr_rg what) (k1 : ¬ isA a → ∀ M1, fr thS M M1 → M1.1 72 0 = 1 → K 0 M1) (k : isA a → ∀ M1, fr thS M M1 → M1.1 72 0 = 0 → K (bandV (rdB M a) i what) M1) : en_CI sc 107 [mm_r 72, mm_i a, mm_i i, mm_i what, mm_u] M K X := by
  have r0 : mr_rg 0 := ⟨by decide, by decide⟩
  have r1 : mr_rg 1 := ⟨by decide, by decide⟩
  refine vc107_0 ho (c34 ho ha (fun ga _ => ⟨r1, fun z => absurd z (by decide), fun _ => ?_⟩) (fun ga _ => ⟨r0, fun _ => ?_, fun z => absurd rfl z⟩))
  · have W := hW a ga.1 ga.2
    have n0 : 0 ≤ M.1 77 a := W.1.1
    have n1 := W.2.2.1
    have hob : mr_ok (mm_putN M 72 0 0) := mr_ok_putI ho r0
    have fb : fr thS M (mm_putN M 72 0 0) := fr_put ⟨rfl, rfl⟩
    have tb : (mm_putN M 72 0 0).1 72 0 = 0 := put_eq
    refine vc107_14 ho r0 hw ?_
    generalize mm_putN M 72 0 0 = Mb at hob fb tb
    have kk := k ga Mb fb tb
    unfold bandV at kk
    have es : sn (rdB M a) = M.1 77 a := rfl
    rw [es] at kk
    have e77 : Mb.1 77 a = M.1 77 a := fb.2 _ _ (by omega)
    have bad : ¬ ((0 ≤ i ∧ i < M.1 77 a) ∧ 0 ≤ what ∧ what ≤ 2) → en_R sc 107 49 [mm_r 72, mm_i a, mm_i i, mm_i what, mm_u] [] Mb (QI K X) := by
      intro q
      refine vc107_49 hob ⟨fun _ => Or.inl ⟨_, rfl, ?_⟩, fun z => absurd (by omega) z⟩
      by_cases g : 0 ≤ i ∧ i < M.1 77 a
      · rwa [if_pos g, if_neg (fun z => q ⟨g, by omega⟩), if_neg (fun z => q ⟨g, by omega⟩), if_neg (fun z => q ⟨g, by omega⟩)] at kk
      · rwa [if_neg g] at kk
    refine ⟨fun z => absurd z (by omega), fun _ => ⟨ga.1, by have := ga.2; omega, ?_⟩⟩
    rw [e77]
    refine c33 hob hi r0 ⟨by omega, by omega⟩ (fun g1 _ => ⟨r1, fun z => absurd z (by decide), fun _ => ?_⟩) (fun g1 _ => ⟨r0, fun _ => bad (fun z => g1 (by omega)), fun z => absurd rfl z⟩)
    have a0 := ga.1
    have a1 := ga.2
    refine c33 hob hw r0 ⟨by decide, by decide⟩ (fun g2 _ => ⟨r1, fun _ => ⟨fun w0 => ⟨fun w1 => ⟨by omega, by omega, Or.inl ⟨_, rfl, ?_⟩⟩, fun w1 => ⟨by omega, by omega, Or.inl ⟨_, rfl, ?_⟩⟩⟩, fun w0 => ⟨by omega, by omega, Or.inl ⟨_, rfl, ?_⟩⟩⟩, fun z => absurd (by decide) z⟩) (fun g2 _ => ⟨r0, fun z => absurd rfl z, fun _ => bad (fun z => g2 (by omega))⟩)
    · rw [if_pos (by omega), if_neg w0, if_neg w1, if_pos (by omega)] at kk
      rw [fb.2 76 _ (by omega), W.2.1 i (by omega) (by omega)]
      exact kk
    · rw [if_pos (by omega), if_neg w0, if_pos (by omega)] at kk
      rw [fb.2 74 _ (by omega)]
      exact kk
    · rw [if_pos (by omega), if_pos (by omega)] at kk
      rw [fb.2 73 _ (by omega)]
      exact kk
  · refine vc107_14 ho r1 hw ⟨fun _ => vc107_49 (mr_ok_putI ho r1) ⟨fun q => absurd (put_eq (M := M) (a := 72) (k := 0) (x := 1)) (fun e => by omega), fun _ => Or.inl ⟨_, rfl, k1 ga _ (fr_put ⟨rfl, rfl⟩) put_eq⟩⟩, fun q => absurd (put_eq (M := M) (a := 72) (k := 0) (x := 1)) (fun e => by omega)⟩
/-- CellAreasModel.stretch -/
theorem c110 {K : Int → mm_M → Prop} {a i j what : Int} (ho : mr_ok M) (hW : ∀ j, 0 ≤ j → j < 8 → RWk M j) (ha : mr_rg a) (hi : mr_rg i) (hj : mr_rg j) (hw : mr_rg what) (k1 : ¬ isA a → ∀ M1, fr thS M M1 → M1.1 72 0 = 1 → K 0 M1) (k : isA a → ∀ M1, fr thS M M1 → M1.1 72 0 = 0 → K (strV (rdB M a) i j what) M1) : en_CI sc 110 [mm_r 72, mm_i a, mm_i i, mm_i j, mm_i what, mm_u] M K X := by
  have r0 : mr_rg 0 := ⟨by decide, by decide⟩
  have r1 : mr_rg 1 := ⟨by decide, by decide⟩
  refine vc110_0 ho (c34 ho ha (fun ga _ => ⟨r1, fun z => absurd z (by decide), fun _ => ?_⟩) (fun ga _ => ⟨r0, fun _ => ?_, fun z => absurd rfl z⟩))
  · have W := hW a ga.1 ga.2
    have n0 : 0 ≤ M.1 77 a := W.1.1
    have n1 := W.2.2.1
    have hob : mr_ok (mm_putN M 72 0 0) := mr_ok_putI ho r0
    have fb : fr thS M (mm_putN M 72 0 0) := fr_put ⟨rfl, rfl⟩
    have tb : (mm_putN M 72 0 0).1 72 0 = 0 := put_eq
    refine vc110_14 ho r0 hw ?_
    generalize mm_putN M 72 0 0 = Mb at hob fb tb
    have kk := k ga Mb fb tb
    unfold strV at kk
    have es : sn (rdB M a) = M.1 77 a := rfl
    rw [es] at kk
    have e77 : Mb.1 77 a = M.1 77 a := fb.2 _ _ (by omega)
    have bad : ¬ (((0 ≤ i ∧ i < M.1 77 a) ∧ 0 ≤ j ∧ j < sst (rdB M a) (i + 1) - sst (rdB M a) i) ∧ 0 ≤ what ∧ what ≤ 1) → en_R sc 110 71 [mm_r 72, mm_i a, mm_i i, mm_i j, mm_i what, mm_u] [] Mb (QI K X) := by
      intro q
      refine vc110_71 hob ⟨fun _ => Or.inl ⟨_, rfl, ?_⟩, fun z => absurd (by omega) z⟩
      by_cases g : (0 ≤ i ∧ i < M.1 77 a) ∧ 0 ≤ j ∧ j < sst (rdB M a) (i + 1) - sst (rdB M a) i
      · rwa [if_pos g, if_neg (fun z => q ⟨g, by omega⟩), if_neg (fun z => q ⟨g, by omega⟩)] at kk
      · rwa [if_neg g] at kk
    refine ⟨fun z => absurd z (by omega), fun _ => ⟨ga.1, by have := ga.2; omega, ?_⟩⟩
    rw [e77]
    have a0 := ga.1
    have a1 := ga.2
    refine c33 hob hi r0 ⟨by omega, by omega⟩ (fun g1 _ => ⟨r1, fun z => absurd z (by decide), fun _ => ⟨by omega, by omega, ?_⟩⟩) (fun g1 _ => ⟨r0, fun _ => bad (fun z => g1 (by omega)), fun z => absurd rfl z⟩)
    obtain ⟨q1, q2, q3, q4, q5, q6, q7, q8⟩ := RW_band W (show 0 ≤ i by omega) (show i < M.1 77 a by omega)
    rw [fb.2 76 _ (by omega)]
    refine c33 hob hj r0 ⟨by omega, by omega⟩ (fun g2 _ => ⟨r1, fun z => absurd z (by decide), fun _ => ?_⟩) (fun g2 _ => ⟨r0, fun _ => bad (fun z => g2 (by omega)), fun z => absurd rfl z⟩)
    refine c33 hob hw r0 ⟨by decide, by decide⟩ (fun g3 _ => ⟨r1, fun _ => ⟨by omega, by omega, ?_⟩, fun z => absurd (by decide) z⟩) (fun g3 _ => ⟨r0, fun z => absurd rfl z, fun _ => bad (fun z => g3 (by omega))⟩)
    rw [fb.2 75 _ (by omega), q1]
    have ix : 402 * a + sst (rdB M a) i + j = 402 * a + (sst (rdB M a) i + j) := by omega
    rw [ix, fb.2 78 _ (by omega), fb.2 79 _ (by omega)]
    refine ⟨fun w0 => ⟨by omega, by omega, Or.inl ⟨_, rfl, ?_⟩⟩, fun w0 => ⟨by omega, by omega, Or.inl ⟨_, rfl, ?_⟩⟩⟩
    · rw [if_pos (by omega), if_neg w0, if_pos (by omega)] at kk
      exact kk
    · rw [if_pos (by omega), if_pos (by omega)] at kk
      exact kk
  · refine vc110_14 ho r1 hw ⟨fun _ => vc110_71 (mr_ok_putI ho r1) ⟨fun q => absurd (put_eq (M := M) (a := 72) (k := 0) (x := 1)) (fun e => by omega), fun _ => Or.inl ⟨_, rfl, k1 ga _ (fr_put ⟨rfl, rfl⟩) put_eq⟩⟩, fun q => absurd (put_eq (M := M) (a := 72) (k := 0) (x := 1)) (fun e => by omega)⟩
/-- CellAreasModel.stretchAt -/
theorem c113 {K : Int → mm_M → Prop} {a x y : Int} (ho : mr_ok M) (ga : isA a) (W : RWk M a) (hx : mr_rg x) (hy : mr_rg y)
    (k0 : ¬ has (rdB M a) x y → K (-1) M) (k1 : ∀ i s, 0 ≤ i → i < sn (rdB M a) → slo (rdB M a) i ≤ y → y < shi (rdB M a) i → sst (rdB M a) i ≤ s → s < sst (rdB M a) (i + 1) → slf (rdB M a) s ≤ x → x < srt (rdB M a) s → K (402 * a + s) M) : en_CI sc 113 [mm_r 72, mm_i a, mm_i x, mm_i y, mm_u, mm_u, mm_u, mm_u] M K X := by
  have n0 : 0 ≤ M.1 77 a := W.1.1
  have n1 := W.2.2.1
  have a0 := ga.1
  have a1 := ga.2
  refine vc113_0 ho (c60 ho a0 (by omega) W hy (fun no _ => ?_) (fun i i0 i1 i2 i3 _ => ?_))
  · refine vc113_14 ho ⟨by decide, by decide⟩ ⟨by decide, by decide⟩ hx ⟨fun _ => Or.inl ⟨_, rfl, k0 ?_⟩, fun z => absurd (by decide) z⟩
    rintro ⟨j, j0, j1, j2, j3, _⟩
    exact no j j0 j1 ⟨j2, j3⟩
  · obtain ⟨q1, q2, q3, q4, q5, q6, q7, q8⟩ := RW_band W i0 i1
    have bk := W.1.2.2.1 i i0 i1
    have loop : ∀ (c : Nat) (e v : Int) (l7 : mm_V), c = (sst (rdB M a) (i + 1) - sst (rdB M a) i - e).toNat → 0 ≤ e → e ≤ sst (rdB M a) (i + 1) - sst (rdB M a) i → ((v = -1 ∧ ∀ f, 0 ≤ f → f < e → ¬ (slf (rdB M a) (sst (rdB M a) i + f) ≤ x ∧ x < srt (rdB M a) (sst (rdB M a) i + f))) ∨ K v M) → en_R sc 113 14 [mm_r 72, mm_i a, mm_i x, mm_i y, mm_i (102 * a + i), mm_i v, mm_i e, l7] [] M (QI K X) := by
      intro c
      induction c with
      | zero =>
        intro e v l7 hc e0 e1 hv
        refine vc113_14 ho ⟨by omega, by omega⟩ ⟨by omega, by omega⟩ hx ⟨fun z => absurd z (by omega), fun _ => ⟨by omega, by omega, fun _ => Or.inl ⟨_, rfl, ?_⟩, fun z => absurd (by omega) z⟩⟩
        rcases hv with ⟨g1, g2⟩ | g
        · rw [g1]
          refine k0 ?_
          rw [has_at W.1 i0 i1 i2 i3]
          rintro ⟨f, f0, f1, f2⟩
          refine g2 (f - sst (rdB M a) i) (by omega) (by omega) ?_
          have e5 : sst (rdB M a) i + (f - sst (rdB M a) i) = f := by omega
          rw [e5]
          exact f2
        · exact g
      | succ c ih =>
        intro e v l7 hc e0 e1 hv
        have ix : 402 * a + sst (rdB M a) i + e = 402 * a + (sst (rdB M a) i + e) := by omega
        have e78 : M.1 78 (402 * a + (sst (rdB M a) i + e)) = slf (rdB M a) (sst (rdB M a) i + e) := rfl
        have e79 : M.1 79 (402 * a + (sst (rdB M a) i + e)) = srt (rdB M a) (sst (rdB M a) i + e) := rfl
        have keep : ¬ (slf (rdB M a) (sst (rdB M a) i + e) ≤ x ∧ x < srt (rdB M a) (sst (rdB M a) i + e)) → ((v = -1 ∧ ∀ f, 0 ≤ f → f < e + 1 → ¬ (slf (rdB M a) (sst (rdB M a) i + f) ≤ x ∧ x < srt (rdB M a) (sst (rdB M a) i + f))) ∨ K v M) := by
          intro q
          rcases hv with ⟨g1, g2⟩ | g
          · refine Or.inl ⟨g1, fun f f0 f1 => ?_⟩
            by_cases z : f = e
            · rw [z]; exact q
            · exact g2 f f0 (by omega)
          · exact Or.inr g
        clear hv
        refine vc113_14 ho ⟨by omega, by omega⟩ ⟨by omega, by omega⟩ hx ?_
        rw [q1, ix, e78, e79]
        refine ⟨fun z => absurd z (by omega), fun _ => ⟨by omega, by omega, fun z => absurd z (by omega), fun _ => ⟨by omega, by omega, by omega, by omega, fun q => ?_, fun q => ⟨by omega, by omega, fun q2 => ?_, fun q2 => ?_⟩⟩⟩⟩
        · exact ih (e + 1) v _ (by omega) (by omega) (by omega) (keep (fun z => by omega))
        · exact ih (e + 1) v _ (by omega) (by omega) (by omega) (keep (fun z => by omega))
        · exact ih (e + 1) _ _ (by omega) (by omega) (by omega) (Or.inr (k1 i _ i0 i1 i2 i3 (by omega) (by omega) (by omega) (by omega)))
    exact loop _ 0 (-1) _ rfl (by decide) (by omega) (Or.inl ⟨rfl, fun f a b => absurd b (by omega)⟩)
/-- CellAreasModel.has -/
theorem c114 {K : Int → mm_M → Prop} {a x y : Int} (ho : mr_ok M) (hW : ∀ j, 0 ≤ j → j < 8 → RWk M j) (ha : mr_rg a) (hx : mr_rg x) (hy : mr_rg y) (k1 : ¬ isA a → ∀ M1, fr thS M M1 → M1.1 72 0 = 1 → K 0 M1) (ky : isA a → has (rdB M a) x y → ∀ M1, fr thS M M1 → M1.1 72 0 = 0 → K 1 M1) (kn : isA a → ¬ has (rdB M a) x y → ∀ M1, fr thS M M1 → M1.1 72 0 = 0 → K 0 M1) : en_CI sc 114 [mm_r 72, mm_i a, mm_i x, mm_i y] M K X := by
  have r0 : mr_rg 0 := ⟨by decide, by decide⟩
  have r1 : mr_rg 1 := ⟨by decide, by decide⟩
  refine vc114_0 ho (c34 ho ha (fun ga _ => ⟨r1, fun z => absurd z (by decide), fun _ => ?_⟩) (fun ga _ => ⟨r0, fun _ => ?_, fun z => absurd rfl z⟩))
  · have W := hW a ga.1 ga.2
    have hob : mr_ok (mm_putN M 72 0 0) := mr_ok_putI ho r0
    have fb : fr thS M (mm_putN M 72 0 0) := fr_put ⟨rfl, rfl⟩
    have tb : (mm_putN M 72 0 0).1 72 0 = 0 := put_eq
    refine vc114_14 ho r0 ?_
    generalize mm_putN M 72 0 0 = Mb at hob fb tb
    have vb : fr vT M Mb := fr_mono fb thS_vT
    have Wb := vT_keep vb ga.1 ga.2 W
    have hh := RD_has vb ga W x y
    refine ⟨fun z => absurd tb z, fun _ => c113 hob ga Wb.2 hx hy (fun no _ => ⟨⟨by decide, by decide⟩, fun _ => Or.inl ⟨_, rfl, kn ga (fun z => no (hh.mpr z)) Mb fb tb⟩, fun z => absurd (by decide) z⟩) (fun i s i0 i1 i2 i3 s0 s1 s2 s3 _ => ?_)⟩
    have z0 := sst_mono Wb.2.1 (Int.le_refl 0) i0 (show i ≤ sn (rdB Mb a) by omega)
    have z1 := sst_mono Wb.2.1 (show 0 ≤ i + 1 by omega) (show i + 1 ≤ sn (rdB Mb a) by omega) (Int.le_refl _)
    have sE : sst (rdB Mb a) (sn (rdB Mb a)) = Mb.1 80 a := rdB_end
    have := Wb.2.2.2.2
    rw [Wb.2.1.2.1] at z0
    have a0 := ga.1
    have a1 := ga.2
    exact ⟨⟨by omega, by omega⟩, fun z => absurd z (by omega), fun _ => Or.inl ⟨_, rfl, ky ga (hh.mp ⟨i, i0, i1, i2, i3, s, s0, s1, s2, s3⟩) Mb fb tb⟩⟩
  · exact vc114_14 ho r1 ⟨fun _ => Or.inl ⟨_, rfl, k1 ga _ (fr_put ⟨rfl, rfl⟩) put_eq⟩, fun z => absurd (by rw [put_eq]; decide) z⟩
end
