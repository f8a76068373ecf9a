/-! ===== grow, the reference's side ===== -/
theorem NRg_copy {M M1 : mm_M} {p q : Nat} {f : Int} (hN : NR M) (e : M1.1 72 f = M.1 72 17) (h : ∀ j, 0 ≤ j → j < M.1 72 17 → M1.1 p j = M.1 85 j ∧ M1.1 q j = M.1 86 j) : NRg M1 p q f ∧ ∀ x, rNg M1 p q f x ↔ rN M x := by
  unfold NRg rNg rN
  rw [e]
  refine ⟨⟨hN.1, ⟨fun k a b => ?_, fun k a b => ?_⟩, fun k a b => ?_⟩, fun x => ⟨?_, ?_⟩⟩
  · rw [(h k a b).1, (h k a b).2]
    exact hN.2.1.1 k a b
  · rw [(h k a (by omega)).2, (h (k + 1) (by omega) b).1]
    exact hN.2.1.2 k a b
  · rw [(h k a b).1, (h k a b).2]
    exact hN.2.2 k a b
  · rintro ⟨k, a, b, c, d⟩
    rw [(h k a b).1] at c
    rw [(h k a b).2] at d
    exact ⟨k, a, b, c, d⟩
  · rintro ⟨k, a, b, c, d⟩
    exact ⟨k, a, b, by rw [(h k a b).1]; exact c, by rw [(h k a b).2]; exact d⟩
theorem mp0 {p q : Prop} : mp 0 p q ↔ p ∨ q := by
  unfold mp
  constructor
  · rintro (z | z | z | z)
    · exact z.2
    · exact absurd z.1 (by decide)
    · exact absurd z.1 (by decide)
    · exact absurd z.1 (by decide)
  · exact fun z => Or.inl ⟨rfl, z⟩
theorem mp1 {p q : Prop} : mp 1 p q ↔ p ∧ q := by
  unfold mp
  constructor
  · rintro (z | z | z | z)
    · exact absurd z.1 (by decide)
    · exact z.2
    · exact absurd z.1 (by decide)
    · exact absurd z.1 (by decide)
  · exact fun z => Or.inr (Or.inl ⟨rfl, z⟩)
def gcut (s : sh) (d u w : Int) : Prop := ∃ i, 0 ≤ i ∧ i < sn s ∧ (w = clp (slo s i - d) ∨ w = clp (shi s i + u))
section
variable {sc : Nat × (Int → Int)} {M : mm_M} {X : Nat → mm_M → Prop}
theorem c93 {K : Int → mm_M → Prop} {l r d u : Int} (ho : mr_ok M) (hl : mr_rg l) (hr : mr_rg r) (hd : mr_rg d) (hu : mr_rg u) (k1 : reach l r d u → K 1 M) (k0 : ¬ reach l r d u → K 0 M) : en_CI sc 93 [mm_r 72, mm_i l, mm_i r, mm_i d, mm_i u] M K X := by
  have r0 : mr_rg 0 := ⟨by decide, by decide⟩
  have r1 : mr_rg 1 := ⟨by decide, by decide⟩
  have r2 : mr_rg 2000 := ⟨by decide, by decide⟩
  refine vc93_0 ho (c33 ho hl r0 r2 (fun g1 _ => ⟨r1, fun z => absurd z (by decide), fun _ => ?_⟩) (fun g _ => ⟨r0, fun _ => Or.inl ⟨_, rfl, k0 (fun z => g z.1)⟩, fun z => absurd rfl z⟩))
  refine c33 ho hr r0 r2 (fun g2 _ => ⟨r1, fun z => absurd z (by decide), fun _ => ?_⟩) (fun g _ => ⟨r0, fun _ => Or.inl ⟨_, rfl, k0 (fun z => g z.2.1)⟩, fun z => absurd rfl z⟩)
  refine c33 ho hd r0 r2 (fun g3 _ => ⟨r1, fun z => absurd z (by decide), fun _ => ?_⟩) (fun g _ => ⟨r0, fun _ => Or.inl ⟨_, rfl, k0 (fun z => g z.2.2.1)⟩, fun z => absurd rfl z⟩)
  exact c33 ho hu r0 r2 (fun g4 _ => ⟨r1, fun z => absurd z (by decide), fun _ => Or.inl ⟨_, rfl, k1 ⟨g1, g2, g3, g4⟩⟩⟩) (fun g _ => ⟨r0, fun _ => Or.inl ⟨_, rfl, k0 (fun z => g z.2.2.2)⟩, fun z => absurd rfl z⟩)
/-- CellAreasModel.grow -/
theorem c95 {K : Int → mm_M → Prop} {t a l r d u : Int} (ho : mr_ok M) (hW : ∀ j, 0 ≤ j → j < 8 → RWk M j) (ht : mr_rg t) (ha : mr_rg a) (hl : mr_rg l) (hr : mr_rg r) (hd : mr_rg d) (hu : mr_rg u)
    (k1 : ¬ (isA t ∧ isA a) → ∀ M1, fr thS M M1 → M1.1 72 0 = 1 → K 0 M1) (k2 : (isA t ∧ isA a) → ¬ reach l r d u → ∀ M1, fr thS M M1 → M1.1 72 0 = 2 → K 0 M1)
    (k : (isA t ∧ isA a) → reach l r d u → ∀ v M1, RB M M1 t (grT (rdB M a) l r d u) v → K v M1) : en_CI sc 95 [mm_r 72, mm_i t, mm_i a, mm_i l, mm_i r, mm_i d, mm_i u, mm_u, mm_u, mm_u] M K X := by
  have r0 : mr_rg 0 := ⟨by decide, by decide⟩
  have r1 : mr_rg 1 := ⟨by decide, by decide⟩
  have r2 : mr_rg 2 := ⟨by decide, by decide⟩
  have bad : ∀ s1 : Int, mr_rg s1 → 0 < s1 → K 0 (mm_putN M 72 0 s1) → en_R sc 95 40 [mm_r 72, mm_i t, mm_i a, mm_i l, mm_i r, mm_i d, mm_i u, mm_u, mm_u, mm_u] [mm_i s1, mm_r 72] M (QI K X) := fun s1 rs s0 hK => vc95_40 ho rs ⟨fun q => absurd (put_eq (M := M) (a := 72) (k := 0) (x := s1)) (fun e => by omega), fun _ => Or.inl ⟨_, rfl, hK⟩⟩
  have no : ¬ (isA t ∧ isA a) → en_R sc 95 17 [mm_r 72, mm_i t, mm_i a, mm_i l, mm_i r, mm_i d, mm_i u, mm_u, mm_u, mm_u] [mm_r 72] M (QI K X) := fun q => vc95_17 ho (bad 1 r1 (by decide) (k1 q _ (fr_put ⟨rfl, rfl⟩) put_eq))
  refine vc95_0 ho (c34 ho ht (fun gt _ => ⟨r1, fun z => absurd z (by decide), fun _ => ?_⟩) (fun gt _ => ⟨r0, fun _ => no (fun z => gt z.1), fun z => absurd rfl z⟩))
  refine c34 ho ha (fun ga _ => ⟨r1, fun _ => ?_, fun z => absurd (by decide) z⟩) (fun ga _ => ⟨r0, fun z => absurd rfl z, fun _ => no (fun z => ga z.2)⟩)
  refine c93 ho hl hr hd hu (fun gr _ => ⟨r1, fun _ => ?_, fun z => absurd (by decide) z⟩) (fun gr _ => ⟨r0, fun z => absurd rfl z, fun _ => bad 2 r2 (by decide) (k2 ⟨gt, ga⟩ gr _ (fr_put ⟨rfl, rfl⟩) put_eq)⟩)
  replace k := k ⟨gt, ga⟩ gr
  refine vc95_40 ho r0 ⟨fun _ => ?_, fun q => absurd (put_eq (M := M) (a := 72) (k := 0) (x := 0)) (fun e => by omega)⟩
  have ho0 : mr_ok (mm_putN M 72 0 0) := mr_ok_putI ho r0
  have t0 : (mm_putN M 72 0 0).1 72 0 = 0 := put_eq
  have f0 : fr vT M (mm_putN M 72 0 0) := fr_put (Or.inr ⟨rfl, rfl⟩)
  generalize mm_putN M 72 0 0 = Ma at ho0 t0 f0
  refine c35 ho0 (fun Mb fb cb Rb hob => ?_)
  have vb : fr vT M Mb := fr_trans f0 (fr_mono fb (fun a k z => Or.inl (bgS_vR a k z)))
  have tb : Mb.1 72 0 = 0 := by rw [fb.2 _ _ (by omega)]; exact t0
  have W := hW a ga.1 ga.2
  have w := W.1
  have n0 : 0 ≤ M.1 77 a := w.1
  have n1 := W.2.2.1
  have a0 := ga.1
  have a1 := ga.2
  have lo' : ∀ i, slo (rdB M a) i = M.1 73 (102 * a + i) := fun i => rfl
  have hi' : ∀ i, shi (rdB M a) i = M.1 74 (102 * a + i) := fun i => rfl
  have sn' : sn (rdB M a) = M.1 77 a := rfl
  -- the loop over the cuts
  have main : ∀ Md : mm_M, mr_ok Md → RD M Md (grT (rdB M a) l r d u) → RS Md (fun _ _ => False) → en_R sc 95 109 [mm_r 72, mm_i t, mm_i a, mm_i l, mm_i r, mm_i d, mm_i u, mm_i 0, mm_u, mm_u] [] Md (QI K X) := by
    intro Md hod D Rd
    have Cd := D.2.2.1
    have m0 := Cd.1
    have nn := D.2.2.2.1
    -- two := new, and join
    have copy : ∀ (c : Nat) (e i j : Int) (M0 M' : mm_M), c = (M0.1 72 17 - j).toNat → 0 ≤ j → j ≤ M0.1 72 17 → mr_ok M' → NR M0 → NRg M0 81 82 11 → fr (fun b k => b = 83 ∨ b = 84 ∨ (b = 72 ∧ k = 14)) M0 M' → M'.1 72 14 = M0.1 72 17 → (∀ f, 0 ≤ f → f < j → M'.1 83 f = M0.1 85 f ∧ M'.1 84 f = M0.1 86 f) →
        (∀ (M1 : mm_M) (l9 : mm_V), mr_ok M1 → fr wS M0 M1 → NR M1 → (∀ x, rN M1 x ↔ rNg M0 81 82 11 x ∨ rN M0 x) → en_R sc 95 131 [mm_r 72, mm_i t, mm_i a, mm_i l, mm_i r, mm_i d, mm_i u, mm_i e, mm_i (102 * a + i + 1), l9] [] M1 (QI K X)) →
        en_R sc 95 265 [mm_r 72, mm_i t, mm_i a, mm_i l, mm_i r, mm_i d, mm_i u, mm_i e, mm_i (102 * a + i), mm_i j] [] M' (QI K X) := by
      intro c
      induction c with
      | zero =>
        intro e i j M0 M' hc j0 j1 ho' hN h1 hf e14 hj g
        have e17 : M'.1 72 17 = M0.1 72 17 := hf.2 _ _ (by omega)
        have le := NR_le hN
        have N2 := NRg_copy hN e14 (fun f f0 f1 => hj f f0 (by omega))
        have N1 := NRg_fr hf (fun a k z => by omega) h1
        refine vc95_265 ho' ⟨by omega, by omega⟩ ?_
        rw [e17]
        refine ⟨fun _ => c65 ho' ⟨by decide, by decide⟩ N1.1 N2.1 (fun M1 f1 Na ra ho1 => ?_), fun q => absurd (by omega) q⟩
        refine g M1 _ ho1 (fr_trans (fr_mono hf (fun a k z => by unfold wS; omega)) (fr_mono f1 nS_wS)) Na (fun x => ?_)
        rw [ra, mp0, N1.2, N2.2]
      | succ c ih =>
        intro e i j M0 M' hc j0 j1 ho' hN h1 hf e14 hj g
        have e17 : M'.1 72 17 = M0.1 72 17 := hf.2 _ _ (by omega)
        have le := NR_le hN
        have e85 : M'.1 85 j = M0.1 85 j := hf.2 _ _ (by omega)
        have e86 : (mm_putN M' 83 j (M0.1 85 j)).1 86 j = M0.1 86 j := by rw [put_a (by decide)]; exact hf.2 _ _ (by omega)
        have b1 := hN.2.1.1 j j0 (by omega)
        have b2 := hN.2.2 j j0 (by omega)
        refine vc95_265 ho' ⟨by omega, by omega⟩ ?_
        rw [e17, e85, e86]
        refine ⟨fun q => absurd q (by omega), fun _ => ⟨by omega, by omega, by omega, by omega, by omega, by omega, by omega, by omega, ?_⟩⟩
        refine ih e i (j + 1) M0 _ (by omega) (by omega) (by omega) (mr_ok_putI (mr_ok_putI ho' ⟨by omega, by omega⟩) ⟨by omega, by omega⟩) hN h1 (fr_trans hf (fr_trans (fr_put (Or.inl rfl)) (fr_put (Or.inr (Or.inl rfl))))) (by rw [put_a (by decide), put_a (by decide)]; exact e14) (fun f f0 f1 => ?_) g
        by_cases z : f = j
        · rw [z, put_a (by decide), put_eq, put_eq]
          exact ⟨rfl, rfl⟩
        · rw [put_a (by decide), put_k z, put_k z, put_a (by decide)]
          exact hj f f0 (by omega)
    -- the stretches of a band, made wider
    have wide : ∀ (c : Nat) (e i j : Int) (M' : mm_M), c = (sst (rdB M a) (i + 1) - j).toNat → 0 ≤ i → i < M.1 77 a → sst (rdB M a) i ≤ j → j ≤ sst (rdB M a) (i + 1) → mr_ok M' → fr vS Md M' → NR M' → NRg M' 81 82 11 → (∀ x, rN M' x ↔ (-1000 ≤ x ∧ x < 1000) ∧ ∃ f, sst (rdB M a) i ≤ f ∧ f < j ∧ slf (rdB M a) f - l ≤ x ∧ x < srt (rdB M a) f + r) → (0 < M'.1 72 17 → sst (rdB M a) i < j ∧ M'.1 85 (M'.1 72 17 - 1) ≤ clp (slf (rdB M a) (j - 1) - l)) →
        (∀ (M1 : mm_M) (l9 : mm_V), mr_ok M1 → fr wS M' M1 → NR M1 → (∀ x, rN M1 x ↔ rNg M' 81 82 11 x ∨ ((-1000 ≤ x ∧ x < 1000) ∧ wid (rdB M a) l r i x)) → en_R sc 95 131 [mm_r 72, mm_i t, mm_i a, mm_i l, mm_i r, mm_i d, mm_i u, mm_i e, mm_i (102 * a + i + 1), l9] [] M1 (QI K X)) →
        en_R sc 95 199 [mm_r 72, mm_i t, mm_i a, mm_i l, mm_i r, mm_i d, mm_i u, mm_i e, mm_i (102 * a + i), mm_i (402 * a + j)] [] M' (QI K X) := by
      intro c
      induction c with
      | zero =>
        intro e i j M' hc i0 i1 j0 j1 ho' hf hN h1 hr' hl' g
        have vm := RD_keep D hf
        obtain ⟨v73, v74, v75, v76, v77, v80⟩ := vR_at vm ga.1 ga.2 i0 (by omega)
        obtain ⟨q1, q2, q3, q4, q5, q6, q7, q8⟩ := RW_band W i0 i1
        have le := NR_le hN
        have z0 := hN.1
        have ej : j = sst (rdB M a) (i + 1) := by omega
        refine vc95_199 ho' ⟨by omega, by omega⟩ ?_
        rw [v75, v76]
        refine ⟨by omega, by omega, by omega, by omega, ⟨by omega, by omega⟩, fun _ => ?_, fun q => absurd (by omega) q⟩
        refine copy _ e i 0 M' _ rfl (Int.le_refl _) z0 (mr_ok_putI ho' ⟨by omega, by omega⟩) hN h1 (fr_put (Or.inr (Or.inr ⟨rfl, rfl⟩))) put_eq (fun f f0 f1 => absurd f1 (by omega)) (fun M1 l9 o1 f1 N1 R1 => g M1 l9 o1 f1 N1 (fun x => ?_))
        rw [R1, hr', ej]
        exact Iff.rfl
      | succ c ih =>
        intro e i j M' hc i0 i1 j0 j1 ho' hf hN h1 hr' hl' g
        have vm := RD_keep D hf
        obtain ⟨v73, v74, v75, v76, v77, v80⟩ := vR_at vm ga.1 ga.2 i0 (by omega)
        obtain ⟨q1, q2, q3, q4, q5, q6, q7, q8⟩ := RW_band W i0 i1
        have ek := RW_k W i0 i1 j0 (show j < sst (rdB M a) (i + 1) by omega)
        have vk := vR_k vm (k := 402 * a + j) (by omega)
        have e78 : M'.1 78 (402 * a + j) = slf (rdB M a) j := vk.1
        have e79 : M'.1 79 (402 * a + j) = srt (rdB M a) j := vk.2
        have bk := w.2.2.1 i i0 i1
        have en : 402 * a + j + 1 = 402 * a + (j + 1) := by omega
        have ej : j + 1 - 1 = j := by omega
        have cl := clp_rg (slf (rdB M a) j - l)
        have cr := clp_rg (srt (rdB M a) j + r)
        have cc : ∀ x, (clp (slf (rdB M a) j - l) ≤ x ∧ x < clp (srt (rdB M a) j + r)) ↔ (-1000 ≤ x ∧ x < 1000) ∧ slf (rdB M a) j - l ≤ x ∧ x < srt (rdB M a) j + r := by
          intro x
          unfold clp
          split <;> split <;> (try split) <;> (try split) <;> omega
        refine vc95_199 ho' ⟨by omega, by omega⟩ ?_
        rw [v75, v76, e78, en]
        refine ⟨by omega, by omega, by omega, by omega, ⟨by omega, by omega⟩, fun q => absurd q (by omega), fun _ => ⟨by omega, by omega, c74 ho' ⟨by omega, by omega⟩ (fun _ => ?_)⟩⟩
        rw [e79]
        refine ⟨by omega, by omega, c74 ho' ⟨by omega, by omega⟩ (fun _ => ?_)⟩
        refine c36 ho' hN cl.1 cl.2 cr.2 cr.1 (fun z => ?_) (fun Mc fc Nc rc lc hoc => ?_)
        · have x := hl' z
          have y1 := ds_mono bk.2.2.2.2.1 (j := j - 1) (k := j) (by omega) (by omega) (by omega)
          have y2 := bk.2.2.2.2.1.1 (j - 1) (by omega) (by omega)
          have := clp_mono (show slf (rdB M a) (j - 1) - l ≤ slf (rdB M a) j - l by omega)
          omega
        · have N1 := NRg_fr fc (p := 81) (q := 82) (f := 11) (fun a k z => by omega) h1
          refine ih e i (j + 1) Mc (by omega) i0 i1 (by omega) (by omega) hoc (fr_trans hf (fr_mono fc nS_vS)) Nc N1.1 (fun x => ?_) (fun z => ⟨by omega, by rw [ej]; exact lc z⟩) (fun M1 l9 o1 f1 N1' R1 => g M1 l9 o1 (fr_trans (fr_mono fc nS_wS) f1) N1' (fun x => by rw [R1, N1.2]))
          rw [rc, hr', cc]
          constructor
          · rintro (⟨z, f, f0, f1, f2⟩ | ⟨z, f⟩)
            · exact ⟨z, f, f0, by omega, f2⟩
            · exact ⟨z, j, by omega, by omega, f⟩
          · rintro ⟨z, f, f0, f1, f2⟩
            by_cases y : f = j
            · rw [y] at f2
              exact Or.inr ⟨z, f2⟩
            · exact Or.inl ⟨z, f, f0, by omega, f2⟩
    -- one row
    have row : ∀ (c : Nat) (e i : Int) (l9 : mm_V) (M' : mm_M), c = (M.1 77 a - i).toNat → 0 ≤ i → i ≤ M.1 77 a → 0 ≤ e → e + 1 < Md.1 72 19 → mr_ok M' → fr vS Md M' → NR M' → (∀ x, rN M' x ↔ (-1000 ≤ x ∧ x < 1000) ∧ ∃ j, 0 ≤ j ∧ j < i ∧ slo (rdB M a) j - d ≤ Md.1 87 e ∧ Md.1 87 e < shi (rdB M a) j + u ∧ wid (rdB M a) l r j x) →
        (∀ (M1 : mm_M) (l8 : Int) (l9 : mm_V), mr_ok M1 → fr wS M' M1 → NR M1 → (∀ x, rN M1 x ↔ grT (rdB M a) l r d u x (Md.1 87 e)) → en_CV sc 38 [mm_r 72, mm_i (M1.1 87 e), mm_i (M1.1 87 (e + 1)), mm_u, mm_u] M1 (fun M10 => mr_ok M10 → en_R sc 95 109 [mm_r 72, mm_i t, mm_i a, mm_i l, mm_i r, mm_i d, mm_i u, mm_i (e + 1), mm_i l8, l9] [] M10 (QI K X)) (fun e M9 => QI K X (.inr e) M9)) →
        en_R sc 95 131 [mm_r 72, mm_i t, mm_i a, mm_i l, mm_i r, mm_i d, mm_i u, mm_i e, mm_i (102 * a + i), l9] [] M' (QI K X) := by
      intro c
      induction c with
      | zero =>
        intro e i l9 M' hc i0 i1 e0 e1 ho' hf hN hr' g
        have v77 := (vR_at (RD_keep D hf) ga.1 ga.2 (Int.le_refl 0) (by decide)).2.2.2.2.1
        have ei : i = sn (rdB M a) := by rw [sn']; omega
        have be := Cd.2.1 e e0 (by omega)
        have bf := Cd.2.1 (e + 1) (by omega) (by omega)
        have lt := Cd.2.2 e (e + 1) e0 (by omega) (by omega)
        refine vc95_131 ho' ⟨by omega, by omega⟩ (c45 ho' a0 (by omega) (fun _ => ?_))
        rw [v77]
        refine ⟨⟨by omega, by omega⟩, fun _ => ⟨e0, by omega, by omega, by omega, g M' _ l9 ho' fr_refl hN (fun x => ?_)⟩, fun q => absurd (by omega) q⟩
        rw [hr', ei]
        unfold grT
        exact ⟨fun z => ⟨⟨z.1.1, z.1.2, by omega, by omega⟩, z.2⟩, fun z => ⟨⟨z.1.1, z.1.2.1⟩, z.2⟩⟩
      | succ c ih =>
        intro e i l9 M' hc i0 i1 e0 e1 ho' hf hN hr' g
        have vm := RD_keep D hf
        obtain ⟨v73, v74, v75, v76, v77, v80⟩ := vR_at vm ga.1 ga.2 i0 (by omega)
        obtain ⟨e19, e87⟩ := vS_cut hf
        have bi := Cd.2.1 e e0 (by omega)
        obtain ⟨q1, q2, q3, q4, q5, q6, q7, q8⟩ := RW_band W i0 (show i < M.1 77 a by omega)
        have en : 102 * a + i + 1 = 102 * a + (i + 1) := by omega
        have skip : ¬ (slo (rdB M a) i - d ≤ Md.1 87 e ∧ Md.1 87 e < shi (rdB M a) i + u) → en_R sc 95 131 [mm_r 72, mm_i t, mm_i a, mm_i l, mm_i r, mm_i d, mm_i u, mm_i e, mm_i (102 * a + (i + 1)), l9] [] M' (QI K X) := by
          intro q
          refine ih e (i + 1) l9 M' (by omega) (by omega) (by omega) e0 e1 ho' hf hN (fun x => ?_) g
          rw [hr']
          constructor
          · rintro ⟨z, j, j0, j1, j2⟩
            exact ⟨z, j, j0, by omega, j2⟩
          · rintro ⟨z, j, j0, j1, j2, j3, j4⟩
            by_cases y : j = i
            · rw [y] at j2 j3
              exact absurd ⟨j2, j3⟩ q
            · exact ⟨z, j, j0, by omega, j2, j3, j4⟩
        rw [lo', hi'] at skip
        refine vc95_131 ho' ⟨by omega, by omega⟩ (c45 ho' a0 (by omega) (fun _ => ?_))
        rw [v77, v73, v74, e87, en]
        refine ⟨⟨by omega, by omega⟩, fun q => absurd q (by omega), fun _ => ⟨by omega, by omega, e0, by omega, ⟨by omega, by omega⟩, fun q => skip (by omega), fun q => ⟨e0, by omega, by omega, by omega, ⟨by omega, by omega⟩, fun q5 => skip (by omega), fun q5 => c94 ho' hN (fun Mo fo eo jo hoo => ⟨by omega, by omega, ?_⟩)⟩⟩⟩
        have N1 := NRg_copy hN eo jo
        have hop : mr_ok (mm_putN Mo 72 17 0) := mr_ok_putI hoo r0
        have fp : fr nS Mo (mm_putN Mo 72 17 0) := fr_put (Or.inr (Or.inr ⟨rfl, rfl⟩))
        have ep : (mm_putN Mo 72 17 0).1 72 17 = 0 := put_eq
        generalize mm_putN Mo 72 17 0 = Mp at hop fp ep
        have N2 := NRg_fr fp (p := 81) (q := 82) (f := 11) (fun a k z => by omega) N1.1
        have wp : fr wS M' Mp := fr_trans (fr_mono fo (fun a k z => by unfold wS; omega)) (fr_mono fp nS_wS)
        have vp : fr vS Md Mp := fr_trans hf (fr_mono wp wS_vS)
        have x75 := (vR_at (RD_keep D vp) ga.1 ga.2 i0 (by omega)).2.2.1
        rw [x75, q1]
        refine wide _ e i (sst (rdB M a) i) Mp rfl i0 (by omega) (Int.le_refl _) (by omega) hop vp (NR_0 ep) N2.1 (fun x => ⟨fun z => absurd z (rN_0 ep x), fun ⟨_, f, f0, f1, _⟩ => absurd f1 (by omega)⟩) (fun z => absurd z (by omega)) (fun M1 l9 o1 f1 Nq R1 => ?_)
        rw [en]
        refine ih e (i + 1) l9 M1 (by omega) (by omega) (by omega) e0 e1 o1 (fr_trans vp (fr_mono f1 wS_vS)) Nq (fun x => ?_) (fun M2 l8 l9 o2 f2 => g M2 l8 l9 o2 (fr_trans wp (fr_trans f1 f2)))
        rw [R1, N2.2, N1.2, hr']
        constructor
        · rintro (⟨z, j, j0, j1, j2⟩ | ⟨z1, z2⟩)
          · exact ⟨z, j, j0, by omega, j2⟩
          · exact ⟨z1, i, i0, by omega, by rw [lo']; omega, by rw [hi']; omega, z2⟩
        · rintro ⟨z, j, j0, j1, j2, j3, j4⟩
          by_cases y : j = i
          · rw [y] at j4
            exact Or.inr ⟨z, j4⟩
          · exact Or.inl ⟨z, j, j0, by omega, j2, j3, j4⟩
    have loop : ∀ (c : Nat) (i : Int) (l8 l9 : mm_V) (M' : mm_M), c = (Md.1 72 19 - i).toNat → 0 ≤ i → (i < Md.1 72 19 ∨ i = 0 ∧ Md.1 72 19 = 0) → RI Md M' (grT (rdB M a) l r d u) i → en_R sc 95 109 [mm_r 72, mm_i t, mm_i a, mm_i l, mm_i r, mm_i d, mm_i u, mm_i i, l8, l9] [] M' (QI K X) := by
      intro c
      induction c with
      | zero =>
        intro i l8 l9 M' hc i0 i1 hI
        obtain ⟨e19, e87⟩ := vS_cut hI.2.1
        refine vc95_109 hI.1 ?_
        rw [e19]
        exact ⟨⟨by omega, by omega⟩, fun q => c39z hW D hI (by omega) i1 gt (fun r M1 c => Or.inl ⟨r, rfl, k r M1 c⟩), fun q => absurd (by omega) q⟩
      | succ c ih =>
        intro i l8 l9 M' hc i0 i1 hI
        obtain ⟨e19, e87⟩ := vS_cut hI.2.1
        refine vc95_109 hI.1 ?_
        rw [e19]
        refine ⟨⟨by omega, by omega⟩, fun q => c39z hW D hI (by omega) i1 gt (fun r M1 c => Or.inl ⟨r, rfl, k r M1 c⟩), fun q => ?_⟩
        have hoe : mr_ok (mm_putN M' 72 17 0) := mr_ok_putI hI.1 r0
        have fe : fr nS M' (mm_putN M' 72 17 0) := fr_put (Or.inr (Or.inr ⟨rfl, rfl⟩))
        have ee : (mm_putN M' 72 17 0).1 72 17 = 0 := put_eq
        generalize mm_putN M' 72 17 0 = Me at hoe fe ee
        have z0 : 102 * a = 102 * a + 0 := by omega
        rw [z0]
        refine row _ i 0 l9 Me rfl (Int.le_refl _) n0 i0 (by omega) hoe (fr_trans hI.2.1 (fr_mono fe nS_vS)) (NR_0 ee) (fun x => ⟨fun z => absurd z (rN_0 ee x), fun ⟨_, f, f0, f1, _⟩ => absurd f1 (by omega)⟩) (fun M1 l8 l9 o1 f1 N1 R1 => ?_)
        exact c38y D hI o1 (fr_trans (fr_mono fe nS_wS) f1) N1 R1 i0 (by omega) (fun Mh Ih => ih (i + 1) _ _ Mh (by omega) (by omega) (Or.inl (by omega)) Ih)
    exact loop _ 0 _ _ Md rfl (by decide) (by omega) (RI_0 hod D Rd)
  -- the cuts
  have cuts : ∀ (c : Nat) (i : Int) (M' : mm_M), c = (M.1 77 a - i).toNat → 0 ≤ i → i ≤ M.1 77 a → mr_ok M' → fr uS Mb M' → CT M' → M'.1 72 19 ≤ 2 * i → (∀ v, cu M' v ↔ ∃ j, 0 ≤ j ∧ j < i ∧ (v = clp (slo (rdB M a) j - d) ∨ v = clp (shi (rdB M a) j + u))) → en_R sc 95 62 [mm_r 72, mm_i t, mm_i a, mm_i l, mm_i r, mm_i d, mm_i u, mm_i (102 * a + i), mm_u, mm_u] [] M' (QI K X) := by
    intro c
    induction c with
    | zero =>
      intro i M' hc i0 i1 ho' hf hC hn hv
      have vm : fr vT M M' := fr_trans vb (fr_mono hf (fun a k z => Or.inl (uS_vR a k z)))
      have v77 := (vR_at vm ga.1 ga.2 (Int.le_refl 0) (by decide)).2.2.2.2.1
      have ei : i = M.1 77 a := by omega
      rw [ei] at hv
      refine vc95_62 ho' ⟨by omega, by omega⟩ (c45 ho' a0 (by omega) (fun _ => ?_))
      rw [v77]
      refine ⟨⟨by omega, by omega⟩, fun _ => main M' ho' ⟨vm, by rw [hf.2 _ _ (by omega)]; exact tb, hC, by omega, fun y q x => ?_, fun x y z => ?_, fun x y z => ?_⟩ (RS_fr hf (fun a k z => by omega) Rb), fun q => absurd (by omega) q⟩
      · unfold grT
        constructor
        · rintro ⟨f, j, j0, j1, j2, j3, j4⟩
          have : y + 1 ≠ slo (rdB M a) j - d ∧ ¬ (slo (rdB M a) j - d ≤ -1000 ∧ y + 1 = -1000) := by
            constructor
            · exact fun z => q ((hv _).mpr ⟨j, j0, j1, Or.inl (by rw [← z, clp_in (by omega) (by omega)])⟩)
            · intro z
              refine q ((hv _).mpr ⟨j, j0, j1, Or.inl ?_⟩)
              unfold clp
              split
              · omega
              · split <;> omega
          exact ⟨⟨f.1, f.2.1, by omega, by omega⟩, j, j0, j1, by omega, by omega, j4⟩
        · rintro ⟨f, j, j0, j1, j2, j3, j4⟩
          have : y + 1 ≠ shi (rdB M a) j + u ∧ ¬ (1000 ≤ shi (rdB M a) j + u ∧ y + 1 = 1000) := by
            constructor
            · exact fun z => q ((hv _).mpr ⟨j, j0, j1, Or.inr (by rw [← z, clp_in (by omega) (by omega)])⟩)
            · intro z
              refine q ((hv _).mpr ⟨j, j0, j1, Or.inr ?_⟩)
              unfold clp
              split
              · omega
              · split <;> omega
          exact ⟨⟨f.1, f.2.1, by omega, by omega⟩, j, j0, j1, by omega, by omega, j4⟩
      · obtain ⟨f, j, j0, j1, j2, j3, j4⟩ := z
        refine ⟨_, (hv _).mpr ⟨j, j0, j1, Or.inl rfl⟩, ?_⟩
        unfold clp
        split
        · omega
        · split <;> omega
      · obtain ⟨f, j, j0, j1, j2, j3, j4⟩ := z
        refine ⟨_, (hv _).mpr ⟨j, j0, j1, Or.inr rfl⟩, ?_⟩
        unfold clp
        split
        · omega
        · split <;> omega
    | succ c ih =>
      intro i M' hc i0 i1 ho' hf hC hn hv
      have vm : fr vT M M' := fr_trans vb (fr_mono hf (fun a k z => Or.inl (uS_vR a k z)))
      obtain ⟨v73, v74, v75, v76, v77, v80⟩ := vR_at vm ga.1 ga.2 i0 (by omega)
      obtain ⟨q1, q2, q3, q4, q5, q6, q7, q8⟩ := RW_band W i0 (show i < M.1 77 a by omega)
      have en : 102 * a + i + 1 = 102 * a + (i + 1) := by omega
      refine vc95_62 ho' ⟨by omega, by omega⟩ (c45 ho' a0 (by omega) (fun _ => ?_))
      rw [v77, v73, en]
      refine ⟨⟨by omega, by omega⟩, fun q => absurd q (by omega), fun _ => ⟨by omega, by omega, c58 ho' hC (by omega) ⟨by omega, by omega⟩ (fun Mc fc Cc nc uc hoc => ⟨by omega, by omega, ?_⟩)⟩⟩
      rw [fc.2 74 _ (by omega), v74]
      refine c58 hoc Cc (by omega) ⟨by omega, by omega⟩ (fun Md fd Cd nd ud hod => ?_)
      refine ih (i + 1) Md (by omega) (by omega) (by omega) hod (fr_trans hf (fr_trans fc fd)) Cd (by omega) (fun v => ?_)
      rw [ud, uc, hv]
      constructor
      · rintro ((⟨j, j0, j1, j2⟩ | z) | z)
        · exact ⟨j, j0, by omega, j2⟩
        · exact ⟨i, i0, by omega, Or.inl z⟩
        · exact ⟨i, i0, by omega, Or.inr z⟩
      · rintro ⟨j, j0, j1, j2⟩
        by_cases y : j = i
        · rw [y] at j2
          rcases j2 with j2 | j2
          · exact Or.inl (Or.inr j2)
          · exact Or.inr j2
        · exact Or.inl (Or.inl ⟨j, j0, by omega, j2⟩)
  have z0 : 102 * a = 102 * a + 0 := by omega
  rw [z0]
  exact cuts _ 0 Mb rfl (Int.le_refl _) n0 hob fr_refl (CT_0 cb) (by omega) (fun v => ⟨fun z => absurd z (cu_0 cb v), fun ⟨j, j0, j1, _⟩ => absurd j1 (by omega)⟩)
end
