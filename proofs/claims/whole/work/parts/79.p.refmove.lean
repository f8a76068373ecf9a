/-! ===== move, the reference's side ===== -/
section
variable {sc : Nat × (Int → Int)} {M : mm_M} {X : Nat → mm_M → Prop}
theorem c75 {K : Int → mm_M → Prop} {t a r u : Int} (ho : mr_ok M) (hW : ∀ j, 0 ≤ j → j < 8 → RWk M j) (ht : mr_rg t) (ha : mr_rg a) (hr : mr_rg r) (hu : mr_rg u)
    (k1 : ¬ (isA t ∧ isA a) → ∀ M1, fr thS M M1 → M1.1 72 0 = 1 → K 0 M1) (k2 : (isA t ∧ isA a) → ¬ ((-2000 ≤ r ∧ r ≤ 2000) ∧ -2000 ≤ u ∧ u ≤ 2000) → ∀ M1, fr thS M M1 → M1.1 72 0 = 2 → K 0 M1)
    (k : (isA t ∧ isA a) → ((-2000 ≤ r ∧ r ≤ 2000) ∧ -2000 ≤ u ∧ u ≤ 2000) → ∀ v M1, RB M M1 t (mvd (rdB M a) r u) v → K v M1) : en_CI sc 75 [mm_r 72, mm_i t, mm_i a, mm_i r, mm_i u, mm_u, mm_u] M K X := by
  have r0 : mr_rg 0 := ⟨by decide, by decide⟩
  have r1 : mr_rg 1 := ⟨by decide, by decide⟩
  have r2 : mr_rg 2 := ⟨by decide, by decide⟩
  have bad : ∀ s1 : Int, mr_rg s1 → 0 < s1 → K 0 (mm_putN M 72 0 s1) → en_R sc 75 53 [mm_r 72, mm_i t, mm_i a, mm_i r, mm_i u, mm_u, mm_u] [mm_i s1, mm_r 72] M (QI K X) := fun s1 rs s0 hK => vc75_53 ho rs ⟨fun q => absurd (put_eq (M := M) (a := 72) (k := 0) (x := s1)) (fun e => by omega), fun _ => Or.inl ⟨_, rfl, hK⟩⟩
  have no : ¬ (isA t ∧ isA a) → en_R sc 75 17 [mm_r 72, mm_i t, mm_i a, mm_i r, mm_i u, mm_u, mm_u] [mm_r 72] M (QI K X) := fun q => vc75_17 ho (bad 1 r1 (by decide) (k1 q _ (fr_put ⟨rfl, rfl⟩) put_eq))
  refine vc75_0 ho (c34 ho ht (fun gt _ => ⟨r1, fun z => absurd z (by decide), fun _ => ?_⟩) (fun gt _ => ⟨r0, fun _ => no (fun z => gt z.1), fun z => absurd rfl z⟩))
  refine c34 ho ha (fun ga _ => ⟨r1, fun _ => ?_, fun z => absurd (by decide) z⟩) (fun ga _ => ⟨r0, fun z => absurd rfl z, fun _ => no (fun z => ga z.2)⟩)
  have no2 : ¬ ((-2000 ≤ r ∧ r ≤ 2000) ∧ -2000 ≤ u ∧ u ≤ 2000) → en_R sc 75 48 [mm_r 72, mm_i t, mm_i a, mm_i r, mm_i u, mm_u, mm_u] [mm_r 72] M (QI K X) := fun q => vc75_48 ho (bad 2 r2 (by decide) (k2 ⟨gt, ga⟩ q _ (fr_put ⟨rfl, rfl⟩) put_eq))
  refine c33 ho hr ⟨by decide, by decide⟩ ⟨by decide, by decide⟩ (fun gr _ => ⟨r1, fun z => absurd z (by decide), fun _ => ?_⟩) (fun gr _ => ⟨r0, fun _ => no2 (fun z => gr z.1), fun z => absurd rfl z⟩)
  refine c33 ho hu ⟨by decide, by decide⟩ ⟨by decide, by decide⟩ (fun gu _ => ⟨r1, fun _ => ?_, fun z => absurd (by decide) z⟩) (fun gu _ => ⟨r0, fun z => absurd rfl z, fun _ => no2 (fun z => gu z.2)⟩)
  replace k := k ⟨gt, ga⟩ ⟨gr, gu⟩
  refine vc75_53 ho r0 ⟨fun _ => ?_, fun q => absurd (put_eq (M := M) (a := 72) (k := 0) (x := 0)) (fun e => by omega)⟩
  have ho0 : mr_ok (mm_putN M 72 0 0) := mr_ok_putI ho r0
  have t0 : (mm_putN M 72 0 0).1 72 0 = 0 := put_eq
  have f0 : fr vT M (mm_putN M 72 0 0) := fr_put (Or.inr ⟨rfl, rfl⟩)
  generalize mm_putN M 72 0 0 = Ma at ho0 t0 f0
  refine c35 ho0 (fun Mb fb cb Rb hob => ?_)
  have vb : fr vT M Mb := fr_trans f0 (fr_mono fb (fun a k z => Or.inl (bgS_vR a k z)))
  have tb : Mb.1 72 0 = 0 := by rw [fb.2 _ _ (by omega)]; exact t0
  have W := hW a ga.1 ga.2
  have w := W.1
  have n0 : 0 ≤ M.1 77 a := w.1
  have n1 := W.2.2.1
  have row : ∀ (c : Nat) (i j : Int) (M' : mm_M), c = (sst (rdB M a) (i + 1) - j).toNat → 0 ≤ i → i < M.1 77 a → sst (rdB M a) i ≤ j → j ≤ sst (rdB M a) (i + 1) → mr_ok M' → fr vT M M' → NR M' → (∀ x, rN M' x ↔ (-1000 ≤ x ∧ x < 1000) ∧ ∃ e, sst (rdB M a) i ≤ e ∧ e < j ∧ slf (rdB M a) e + r ≤ x ∧ x < srt (rdB M a) e + r) → (0 < M'.1 72 17 → sst (rdB M a) i < j ∧ M'.1 85 (M'.1 72 17 - 1) ≤ clp (slf (rdB M a) (j - 1) + r)) →
      (∀ M1, mr_ok M1 → fr nS M' M1 → NR M1 → (∀ x, rN M1 x ↔ (-1000 ≤ x ∧ x < 1000) ∧ inb (rdB M a) i (x - r)) → en_CV sc 38 [mm_r 72, mm_i (clp (M.1 73 (102 * a + i) + u)), mm_i (clp (M.1 74 (102 * a + i) + u)), mm_u, mm_u] M1 (fun M17 => mr_ok M17 → ∀ l6, en_R sc 75 75 [mm_r 72, mm_i t, mm_i a, mm_i r, mm_i u, mm_i (102 * a + i + 1), l6] [] M17 (QI K X)) (fun e M9 => QI K X (.inr e) M9)) →
      en_R sc 75 99 [mm_r 72, mm_i t, mm_i a, mm_i r, mm_i u, mm_i (102 * a + i), mm_i (402 * a + j)] [] M' (QI K X) := by
    intro c
    induction c with
    | zero =>
      intro i j M' hc i0 i1 j0 j1 ho' hf hN hr' hl g
      obtain ⟨v73, v74, v75, v76, v77, v80⟩ := vR_at hf ga.1 ga.2 i0 (by omega)
      obtain ⟨q1, q2, q3, q4, q5, q6, q7, q8⟩ := RW_band W i0 i1
      refine vc75_99 ho' ⟨by omega, by omega⟩ ?_
      rw [v73, v75, v76]
      refine ⟨by omega, by omega, by omega, by omega, ⟨by omega, by omega⟩, fun _ => ⟨by omega, by omega, c74 ho' ⟨by omega, by omega⟩ (fun _ => ?_)⟩, fun q => absurd (by omega) q⟩
      rw [v74]
      refine ⟨by omega, by omega, c74 ho' ⟨by omega, by omega⟩ (fun _ => ?_)⟩
      refine en_CV_mono (g M' ho' fr_refl hN (fun x => ?_)) (fun M1 h ho1 => h ho1 _) (fun e M1 h => h)
      rw [hr']
      have ej : j = sst (rdB M a) (i + 1) := by omega
      rw [ej]
      constructor
      · rintro ⟨z, e, e0, e1, e2, e3⟩
        exact ⟨z, e, e0, e1, by omega, by omega⟩
      · rintro ⟨z, e, e0, e1, e2, e3⟩
        exact ⟨z, e, e0, e1, by omega, by omega⟩
    | succ c ih =>
      intro i j M' hc i0 i1 j0 j1 ho' hf hN hr' hl g
      obtain ⟨v73, v74, v75, v76, v77, v80⟩ := vR_at hf ga.1 ga.2 i0 (by omega)
      obtain ⟨q1, q2, q3, q4, q5, q6, q7, q8⟩ := RW_band W i0 i1
      have ek := RW_k W i0 i1 j0 (show j < sst (rdB M a) (i + 1) by omega)
      have vk := vR_k hf (k := 402 * a + j) (by have := ga.2; omega)
      have e78 : M'.1 78 (402 * a + j) = slf (rdB M a) j := vk.1
      have e79 : M'.1 79 (402 * a + j) = srt (rdB M a) j := vk.2
      have a0 := ga.1
      have a1 := ga.2
      have bl : ∀ e, sst (rdB M a) i ≤ e → e < j → slf (rdB M a) e < slf (rdB M a) j := by
        intro e e0 e1
        have bk := w.2.2.1 i i0 i1
        have := ds_mono bk.2.2.2.2.1 e0 e1 (by omega)
        have := bk.2.2.2.2.1.1 e e0 (by omega)
        omega
      have en : 402 * a + j + 1 = 402 * a + (j + 1) := by omega
      have ej : j + 1 - 1 = j := by omega
      refine vc75_99 ho' ⟨by omega, by omega⟩ ?_
      rw [v75, v76, e78, en]
      refine ⟨by omega, by omega, by omega, by omega, ⟨by omega, by omega⟩, fun q => absurd q (by omega), fun _ => ⟨by omega, by omega, c74 ho' ⟨by omega, by omega⟩ (fun _ => ?_)⟩⟩
      rw [e79]
      refine ⟨by omega, by omega, c74 ho' ⟨by omega, by omega⟩ (fun _ => ?_)⟩
      have cl := clp_rg (slf (rdB M a) j + r)
      have cr := clp_rg (srt (rdB M a) j + r)
      have cc : ∀ x, (clp (slf (rdB M a) j + r) ≤ x ∧ x < clp (srt (rdB M a) j + r)) ↔ (-1000 ≤ x ∧ x < 1000) ∧ slf (rdB M a) j + r ≤ x ∧ x < srt (rdB M a) j + r := by
        intro x
        unfold clp
        split <;> split <;> (try split) <;> (try split) <;> omega
      have hl' : 0 < M'.1 72 17 → M'.1 85 (M'.1 72 17 - 1) ≤ clp (slf (rdB M a) j + r) := fun z => by
        have x := hl z
        have := clp_mono (show slf (rdB M a) (j - 1) + r ≤ slf (rdB M a) j + r by have := bl (j - 1) (by omega) (by omega); omega)
        omega
      refine ⟨⟨by omega, by omega⟩, ⟨by omega, by omega⟩, fun q => ?_, fun q => ⟨by omega, by omega, c74 ho' ⟨by omega, by omega⟩ (fun _ => ?_)⟩⟩
      · refine ih i (j + 1) M' (by omega) i0 i1 (by omega) (by omega) ho' hf hN (fun x => ?_) (fun z => ⟨by omega, by rw [ej]; exact hl' z⟩) g
        rw [hr']
        have hx := cc x
        constructor
        · rintro ⟨z, e, e0, e1, e2, e3⟩
          exact ⟨z, e, e0, by omega, e2, e3⟩
        · rintro ⟨z, e, e0, e1, e2, e3⟩
          by_cases y : e = j
          · rw [y] at e2 e3
            have := hx.mpr ⟨z, e2, e3⟩
            omega
          · exact ⟨z, e, e0, by omega, e2, e3⟩
      · rw [e79]
        refine ⟨by omega, by omega, c74 ho' ⟨by omega, by omega⟩ (fun _ => ?_)⟩
        rw [e78]
        refine c36 ho' hN cl.1 cl.2 cr.2 cr.1 hl' (fun Mc fc Nc rc lc hoc => ?_)
        refine ih i (j + 1) Mc (by omega) i0 i1 (by omega) (by omega) hoc (fr_trans hf (fr_mono fc (fun a k z => vS_vT a k (nS_vS a k z)))) Nc (fun x => ?_) (fun z => ⟨by omega, by rw [ej]; exact lc z⟩) (fun M1 o1 f1 => g M1 o1 (fr_trans fc f1))
        rw [rc, hr', cc]
        constructor
        · rintro (⟨z, e, e0, e1, e2⟩ | ⟨z, e⟩)
          · exact ⟨z, e, e0, by omega, e2⟩
          · exact ⟨z, j, by omega, by omega, e⟩
        · rintro ⟨z, e, e0, e1, e2⟩
          by_cases y : e = j
          · rw [y] at e2
            exact Or.inr ⟨z, e2⟩
          · exact Or.inl ⟨z, e, e0, by omega, e2⟩
  have loop : ∀ (c : Nat) (i : Int) (l6 : mm_V) (M' : mm_M), c = (M.1 77 a - i).toNat → 0 ≤ i → i ≤ M.1 77 a → mr_ok M' → fr vT M M' → M'.1 72 0 = 0 → RS M' (mvT (rdB M a) r u i) → en_R sc 75 75 [mm_r 72, mm_i t, mm_i a, mm_i r, mm_i u, mm_i (102 * a + i), l6] [] M' (QI K X) := by
    intro c
    induction c with
    | zero =>
      intro i l6 M' hc i0 i1 ho' hf ht' hR
      have v77 := (vR_at hf ga.1 ga.2 (Int.le_refl 0) (by decide)).2.2.2.2.1
      have ei : i = sn (rdB M a) := by show i = M.1 77 a; omega
      rw [ei] at hR
      have a0 := ga.1
      have a1 := ga.2
      refine vc75_75 ho' ⟨by omega, by omega⟩ (c45 ho' ga.1 (by omega) (fun _ => ?_))
      rw [v77]
      exact ⟨⟨by omega, by omega⟩, fun _ => c39y ho' hW ht' hf hR gt.1 gt.2 (fun v M1 c _ => Or.inl ⟨v, rfl, k v M1 c⟩), fun q => absurd (by omega) q⟩
    | succ c ih =>
      intro i l6 M' hc i0 i1 ho' hf ht' hR
      have v77 := (vR_at hf ga.1 ga.2 (Int.le_refl 0) (by decide)).2.2.2.2.1
      have a0 := ga.1
      have a1 := ga.2
      refine vc75_75 ho' ⟨by omega, by omega⟩ (c45 ho' ga.1 (by omega) (fun _ => ?_))
      rw [v77]
      refine ⟨⟨by omega, by omega⟩, fun q => absurd q (by omega), fun _ => ⟨by omega, by omega, ?_⟩⟩
      have hoe : mr_ok (mm_putN M' 72 17 0) := mr_ok_putI ho' r0
      have fe : fr nS M' (mm_putN M' 72 17 0) := fr_put (Or.inr (Or.inr ⟨rfl, rfl⟩))
      have ee : (mm_putN M' 72 17 0).1 72 17 = 0 := put_eq
      generalize mm_putN M' 72 17 0 = Me at hoe fe ee
      have ve : fr vT M Me := fr_trans hf (fr_mono fe (fun a k z => vS_vT a k (nS_vS a k z)))
      obtain ⟨v73, v74, v75, v76, _, v80⟩ := vR_at ve ga.1 ga.2 i0 (by omega)
      obtain ⟨q1, q2, q3, q4, q5, q6, q7, q8⟩ := RW_band W i0 (show i < M.1 77 a by omega)
      rw [v75, q1]
      refine row _ i (sst (rdB M a) i) Me rfl i0 (by omega) (Int.le_refl _) (by omega) hoe ve (NR_0 ee) (fun x => ⟨fun z => absurd z (rN_0 ee x), ?_⟩) (fun z => absurd z (by omega)) (fun M1 o1 f1 N1 R1 => ?_)
      · rintro ⟨_, e, e0, e1, _⟩
        omega
      · have c1 := clp_rg (M.1 73 (102 * a + i) + u)
        have c2 := clp_rg (M.1 74 (102 * a + i) + u)
        have fb1 : fr nS M' M1 := fr_trans fe f1
        have RS1 : RS M1 (mvT (rdB M a) r u i) := RS_fr fb1 (fun a k z => by omega) hR
        refine c38 o1 N1 RS1 ⟨by omega, by omega⟩ ⟨by omega, by omega⟩ (fun _ => ⟨by omega, by omega⟩) (fun q x y z => ?_) (fun Mh fh Rh hoh l6 => ?_)
        · have y1 := mvT_lt w (show i < sn (rdB M a) by show i < M.1 77 a; omega) z
          have y2 : slo (rdB M a) i = M.1 73 (102 * a + i) := rfl
          have y3 := z.1
          unfold clp
          split
          · omega
          · split <;> omega
        · have e : 102 * a + i + 1 = 102 * a + (i + 1) := by omega
          rw [e]
          refine ih (i + 1) l6 Mh (by omega) (by omega) (by omega) hoh (fr_trans hf (fr_mono (fr_trans (fr_mono fb1 nS_vS) (fr_mono fh gS_vS)) vS_vT)) ?_ (RS_iff Rh (fun x y => mvT_step i0 R1 (fun y g1 g2 => ?_) (fun y g1 g2 => ?_) ⟨c1.1, c2.2⟩ x y))
          · rw [fh.2 _ _ (by unfold gS; omega), fb1.2 _ _ (by omega)]
            exact ht'
          · have y2 : slo (rdB M a) i = M.1 73 (102 * a + i) := rfl
            unfold clp
            split
            · omega
            · split <;> omega
          · have y2 : shi (rdB M a) i = M.1 74 (102 * a + i) := rfl
            unfold clp
            split
            · omega
            · split <;> omega
  have z0 : 102 * a = 102 * a + 0 := by omega
  rw [z0]
  refine loop _ 0 _ Mb rfl (Int.le_refl _) n0 hob vb tb (RS_iff Rb (fun x y => ⟨fun z => z.elim, fun z => ?_⟩))
  obtain ⟨_, i, i0, i1, _⟩ := z
  omega
end
