/-! ===== partOf and take, the reference's side ===== -/
theorem RB_pre {M M1 M2 : mm_M} {t r : Int} {T : Int → Int → Prop} (hW : ∀ j, 0 ≤ j → j < 8 → RWk M j) (h : fr vT M M1) (ht : isA t) (c : RB M1 M2 t T r) : RB M M2 t T r := by
  obtain ⟨c1, c2, c3, c4, c5⟩ := c
  refine ⟨rfr_trans (vT_rfr h) c1, c2, c3, fun j j0 j1 jt => eqv_trans (hW j j0 j1).1 (vT_keep h j0 j1 (hW j j0 j1)).1 (c4 j j0 j1 jt), ?_⟩
  rcases c5 with ⟨a, b, c⟩ | c5
  · exact Or.inl ⟨a, b, eqv_trans (hW t ht.1 ht.2).1 (vT_keep h ht.1 ht.2 (hW t ht.1 ht.2)).1 c⟩
  · exact Or.inr c5
section
variable {sc : Nat × (Int → Int)} {M : mm_M} {X : Nat → mm_M → Prop}
/-- CellAreasModel.partOf -/
theorem c169 {K : Int → mm_M → Prop} {a x y : Int} (ho : mr_ok M) (hW : ∀ j, 0 ≤ j → j < 8 → RWk M j) (ha : mr_rg a) (hx : mr_rg x) (hy : mr_rg y) (kt : ¬ isA a → ∀ M1, fr thS M M1 → M1.1 72 0 = 1 → K 0 M1) (k0 : isA a → ∀ M1, fr vT M M1 → M1.1 72 0 = 0 → ¬ has (rdB M1 a) x y → K (-1) M1)
    (k1 : isA a → ∀ i s M1 g c, fr vT M M1 → M1.1 72 0 = 0 → inP (rdB M1 a) i s → slo (rdB M1 a) i ≤ y → y < shi (rdB M1 a) i → slf (rdB M1 a) s ≤ x → x < srt (rdB M1 a) s → PN (rdB M1 a) g c → K (g s) M1) : en_CI sc 169 [mm_r 72, mm_i a, mm_i x, mm_i y, mm_u, mm_u] M K X := by
  have r0 : mr_rg 0 := ⟨by decide, by decide⟩
  have r1 : mr_rg 1 := ⟨by decide, by decide⟩
  refine vc169_0 ho (c34 ho ha (fun ga _ => ⟨r1, fun z => absurd z (by decide), fun _ => ?_⟩) (fun ga _ => ⟨r0, fun _ => ?_, fun z => absurd rfl z⟩))
  · have hob : mr_ok (mm_putN M 72 0 0) := mr_ok_putI ho r0
    have fb : fr thS M (mm_putN M 72 0 0) := fr_put ⟨rfl, rfl⟩
    have tb : (mm_putN M 72 0 0).1 72 0 = 0 := put_eq
    refine vc169_14 ho r0 ?_
    generalize mm_putN M 72 0 0 = Mb at hob fb tb
    have vb : fr vT M Mb := fr_mono fb thS_vT
    have Wb := (vT_keep vb ga.1 ga.2 (hW a ga.1 ga.2)).2
    have a0 := ga.1
    have a1 := ga.2
    refine ⟨fun _ => c113 hob ga Wb hx hy (fun no _ => ?_) (fun i s i0 i1 i2 i3 s0 s1 s2 s3 _ => ?_), fun z => absurd (by omega) z⟩
    · exact vc169_35 hob ⟨by decide, by decide⟩ ⟨fun z => absurd z (by decide), fun _ => ⟨fun _ => Or.inl ⟨_, rfl, k0 ga Mb vb tb no⟩, fun z => absurd (by omega) z⟩⟩
    · have z0 := sst_mono Wb.1 (Int.le_refl 0) i0 (show i ≤ sn (rdB Mb a) by omega)
      have z1 := sst_mono Wb.1 (show 0 ≤ i + 1 by omega) (show i + 1 ≤ sn (rdB Mb a) by omega) (Int.le_refl _)
      have sE : sst (rdB Mb a) (sn (rdB Mb a)) = Mb.1 80 a := rdB_end
      have n4 := Wb.2.2.2
      rw [Wb.1.2.1] at z0
      refine vc169_35 hob ⟨by omega, by omega⟩ ⟨fun _ => c144 hob ga Wb (fun c M1 f1 p1 _ _ _ => ?_), fun z => absurd (by omega) z⟩
      have es : 402 * a + s - 402 * a = s := by omega
      rw [es]
      have er : rdB M1 a = rdB Mb a := rdB_fr f1 (fun b k z => by have z' : b = 96 := z; omega) a
      refine ⟨by omega, by omega, Or.inl ⟨_, rfl, k1 ga i s M1 (M1.1 96) c (fr_trans vb (fr_mono f1 gS96_vT)) (by rw [f1.2 _ _ (by omega)]; exact tb) ?_ ?_ ?_ ?_ ?_ ?_⟩⟩
      · rw [er]; exact ⟨i0, i1, s0, s1⟩
      · rw [er]; exact i2
      · rw [er]; exact i3
      · rw [er]; exact s2
      · rw [er]; exact s3
      · rw [er]; exact p1
  · refine vc169_14 ho r1 ⟨fun q => absurd (put_eq (M := M) (a := 72) (k := 0) (x := 1)) (fun e => by omega), fun _ => ?_⟩
    exact vc169_35 (mr_ok_putI ho r1) ⟨by decide, by decide⟩ ⟨fun z => absurd z (by decide), fun _ => ⟨fun q => absurd (put_eq (M := M) (a := 72) (k := 0) (x := 1)) (fun e => by omega), fun _ => Or.inl ⟨_, rfl, kt ga _ (fr_put ⟨rfl, rfl⟩) put_eq⟩⟩⟩
/-- CellAreasModel.take -/
theorem c172 {K : Int → mm_M → Prop} {t a v : Int} (ho : mr_ok M) (hW : ∀ j, 0 ≤ j → j < 8 → RWk M j) (ht : mr_rg t) (ha : mr_rg a) (hv : mr_rg v)
    (k1 : ¬ (isA t ∧ isA a) → ∀ M1, fr thS M M1 → M1.1 72 0 = 1 → K 0 M1) (k2 : (isA t ∧ isA a) → ∀ M1 g c, fr vT M M1 → M1.1 72 0 = 2 → PN (rdB M a) g c → ¬ (0 ≤ v ∧ v < c) → K 0 M1)
    (k : (isA t ∧ isA a) → ∀ g c, PN (rdB M a) g c → (0 ≤ v ∧ v < c) → ∀ r M1, RB M M1 t (tkT (rdB M a) g v (sn (rdB M a))) r → K r M1) : en_CI sc 172 [mm_r 72, mm_i t, mm_i a, mm_i v, mm_u, mm_u] M K X := by
  have r0 : mr_rg 0 := ⟨by decide, by decide⟩
  have r1 : mr_rg 1 := ⟨by decide, by decide⟩
  have r2 : mr_rg 2 := ⟨by decide, by decide⟩
  refine vc172_0 ho (c70 ho ht ha (fun q M1 f1 e1 _ => ⟨r0, fun z => absurd rfl z, fun _ => Or.inl ⟨_, rfl, k1 q M1 f1 e1⟩⟩) (fun g Ma fa ta hoa => ⟨r1, fun _ => ?_, fun z => absurd (by decide) z⟩))
  replace k := k g
  replace k2 := k2 g
  obtain ⟨gt, ga⟩ := g
  have va : fr vT M Ma := fr_mono fa thS_vT
  have era : rdB Ma a = rdB M a := rdB_fr fa (fun b k z => by have z' : b = 72 ∧ k = 0 := z; omega) a
  have Wa := (vT_keep va ga.1 ga.2 (hW a ga.1 ga.2)).2
  have W := hW a ga.1 ga.2
  have w := W.1
  have a0 := ga.1
  have a1 := ga.2
  refine c144 hoa ga Wa (fun c Mb fb pb c0 c1 hob => ?_)
  rw [era] at pb
  have vb : fr vT M Mb := fr_trans va (fr_mono fb gS96_vT)
  refine c33 hob hv r0 ⟨by omega, by omega⟩ (fun gv _ => ⟨r1, fun z => absurd z (by decide), fun _ => ?_⟩) (fun gv _ => ⟨r0, fun _ => ?_, fun z => absurd rfl z⟩)
  · replace k := k _ _ pb (by omega)
    refine vc172_32 hob r0 ⟨fun _ => ?_, fun q => absurd (put_eq (M := Mb) (a := 72) (k := 0) (x := 0)) (fun e => by omega)⟩
    have hoc : mr_ok (mm_putN Mb 72 0 0) := mr_ok_putI hob r0
    have tc : (mm_putN Mb 72 0 0).1 72 0 = 0 := put_eq
    have fc : fr thS Mb (mm_putN Mb 72 0 0) := fr_put ⟨rfl, rfl⟩
    generalize mm_putN Mb 72 0 0 = Mc at hoc tc fc
    refine c35 hoc (fun Md fd cd Rd hod => ?_)
    have vd : fr vT M Md := fr_trans vb (fr_trans (fr_mono fc thS_vT) (fr_mono fd (fun a k z => Or.inl (bgS_vR a k z))))
    have td : Md.1 72 0 = 0 := by rw [fd.2 _ _ (by omega)]; exact tc
    have g96 : ∀ j, Md.1 96 j = Mb.1 96 j := fun j => by rw [fd.2 _ _ (by omega), fc.2 _ _ (by omega)]
    have n0 : 0 ≤ M.1 77 a := w.1
    have n1 := W.2.2.1
    have row : ∀ (c : Nat) (i j : Int) (M' : mm_M), c = (sst (rdB M a) (i + 1) - j).toNat → 0 ≤ i → i < M.1 77 a → sst (rdB M a) i ≤ j → j ≤ sst (rdB M a) (i + 1) → mr_ok M' → fr vT M M' → (∀ j, M'.1 96 j = Mb.1 96 j) → NR M' → (∀ x, rN M' x ↔ ∃ e, sst (rdB M a) i ≤ e ∧ e < j ∧ Mb.1 96 e = v ∧ slf (rdB M a) e ≤ x ∧ x < srt (rdB M a) e) → (0 < M'.1 72 17 → sst (rdB M a) i < j ∧ M'.1 85 (M'.1 72 17 - 1) ≤ slf (rdB M a) (j - 1)) →
        (∀ M1, mr_ok M1 → fr nS M' M1 → NR M1 → (∀ x, rN M1 x ↔ ∃ e, sst (rdB M a) i ≤ e ∧ e < sst (rdB M a) (i + 1) ∧ Mb.1 96 e = v ∧ slf (rdB M a) e ≤ x ∧ x < srt (rdB M a) e) → en_CV sc 38 [mm_r 72, mm_i (M.1 73 (102 * a + i)), mm_i (M.1 74 (102 * a + i)), mm_u, mm_u] M1 (fun M17 => mr_ok M17 → ∀ l5, en_R sc 172 54 [mm_r 72, mm_i t, mm_i a, mm_i v, mm_i (102 * a + i + 1), l5] [] M17 (QI K X)) (fun e M9 => QI K X (.inr e) M9)) →
        en_R sc 172 78 [mm_r 72, mm_i t, mm_i a, mm_i v, mm_i (102 * a + i), mm_i (402 * a + j)] [] M' (QI K X) := by
      intro c
      induction c with
      | zero =>
        intro i j M' hc i0 i1 j0 j1 ho' hf h96 hN hr' hl g
        obtain ⟨v73, v74, v75, v76, v77, v80⟩ := vR_at hf ga.1 ga.2 i0 (by omega)
        obtain ⟨q1, q2, q3, q4, q5, q6, q7, q8⟩ := RW_band W i0 i1
        have ej : j = sst (rdB M a) (i + 1) := by omega
        refine vc172_78 ho' ⟨by omega, by omega⟩ hv ?_
        rw [v73, v74, v75, v76]
        rw [ej] at hr'
        refine ⟨by omega, by omega, by omega, by omega, ⟨by omega, by omega⟩, fun _ => ⟨by omega, by omega, by omega, by omega, en_CV_mono (g M' ho' fr_refl hN hr') (fun M1 h ho1 => h ho1 _) (fun e M1 h => h)⟩, fun q => absurd (by omega) q⟩
      | succ c ih =>
        intro i j M' hc i0 i1 j0 j1 ho' hf h96 hN hr' hl g
        obtain ⟨v73, v74, v75, v76, v77, v80⟩ := vR_at hf ga.1 ga.2 i0 (by omega)
        obtain ⟨q1, q2, q3, q4, q5, q6, q7, q8⟩ := RW_band W i0 i1
        have ek := RW_k W i0 i1 j0 (show j < sst (rdB M a) (i + 1) by omega)
        have vk := vR_k hf (k := 402 * a + j) (by omega)
        have e78 : M'.1 78 (402 * a + j) = slf (rdB M a) j := vk.1
        have e79 : M'.1 79 (402 * a + j) = srt (rdB M a) j := vk.2
        have bk := w.2.2.1 i i0 i1
        have en : 402 * a + j + 1 = 402 * a + (j + 1) := by omega
        have es : 402 * a + j - 402 * a = j := by omega
        have ej : j + 1 - 1 = j := by omega
        have hl' : 0 < M'.1 72 17 → M'.1 85 (M'.1 72 17 - 1) ≤ slf (rdB M a) j := fun z => by
          have x := hl z
          have y1 := ds_mono bk.2.2.2.2.1 (j := j - 1) (k := j) (by omega) (by omega) (by omega)
          have y2 := bk.2.2.2.2.1.1 (j - 1) (by omega) (by omega)
          omega
        refine vc172_78 ho' ⟨by omega, by omega⟩ hv ?_
        rw [v75, v76, e78, e79, en, es, h96]
        refine ⟨by omega, by omega, by omega, by omega, ⟨by omega, by omega⟩, fun q => absurd q (by omega), fun _ => ⟨by omega, by omega, fun q => ?_, fun q => ⟨by omega, by omega, by omega, by omega, c36 ho' hN ek.1 (by omega) ek.2.2 (by omega) hl' (fun Me fe Ne re le hoe => ?_)⟩⟩⟩
        · refine ih i (j + 1) M' (by omega) i0 i1 (by omega) (by omega) ho' hf h96 hN (fun x => ?_) (fun z => ⟨by omega, by rw [ej]; exact hl' z⟩) g
          rw [hr']
          constructor
          · rintro ⟨e, e0, e1, e2⟩
            exact ⟨e, e0, by omega, e2⟩
          · rintro ⟨e, e0, e1, e2, e3⟩
            by_cases y : e = j
            · rw [y] at e2
              exact absurd e2 q
            · exact ⟨e, e0, by omega, e2, e3⟩
        · refine ih i (j + 1) Me (by omega) i0 i1 (by omega) (by omega) hoe (fr_trans hf (fr_mono fe (fun a k z => vS_vT a k (nS_vS a k z)))) (fun j => by rw [fe.2 _ _ (by omega)]; exact h96 j) Ne (fun x => ?_) (fun z => ⟨by omega, by rw [ej]; exact le z⟩) (fun M1 o1 f1 => g M1 o1 (fr_trans fe f1))
          rw [re, hr']
          constructor
          · rintro (⟨e, e0, e1, e2⟩ | z)
            · exact ⟨e, e0, by omega, e2⟩
            · exact ⟨j, j0, by omega, Classical.byContradiction q, z⟩
          · rintro ⟨e, e0, e1, e2, e3⟩
            by_cases y : e = j
            · rw [y] at e3
              exact Or.inr e3
            · exact Or.inl ⟨e, e0, by omega, e2, e3⟩
    have loop : ∀ (c : Nat) (i : Int) (l5 : mm_V) (M' : mm_M), c = (M.1 77 a - i).toNat → 0 ≤ i → i ≤ M.1 77 a → mr_ok M' → fr vT M M' → (∀ j, M'.1 96 j = Mb.1 96 j) → M'.1 72 0 = 0 → RS M' (tkT (rdB M a) (Mb.1 96) v i) → en_R sc 172 54 [mm_r 72, mm_i t, mm_i a, mm_i v, mm_i (102 * a + i), l5] [] M' (QI K X) := by
      intro c
      induction c with
      | zero =>
        intro i l5 M' hc i0 i1 ho' hf h96 ht' hR
        have v77 := (vR_at hf ga.1 ga.2 (Int.le_refl 0) (by decide)).2.2.2.2.1
        have ei : i = sn (rdB M a) := by show i = M.1 77 a; omega
        rw [ei] at hR
        refine vc172_54 ho' ⟨by omega, by omega⟩ (c45 ho' ga.1 (by omega) (fun _ => ?_))
        rw [v77]
        exact ⟨⟨by omega, by omega⟩, fun _ => c39y ho' hW ht' hf hR gt.1 gt.2 (fun v M1 c _ => Or.inl ⟨v, rfl, k v M1 c⟩), fun q => absurd (by omega) q⟩
      | succ c ih =>
        intro i l5 M' hc i0 i1 ho' hf h96 ht' hR
        have v77 := (vR_at hf ga.1 ga.2 (Int.le_refl 0) (by decide)).2.2.2.2.1
        refine vc172_54 ho' ⟨by omega, by omega⟩ (c45 ho' ga.1 (by omega) (fun _ => ?_))
        rw [v77]
        refine ⟨⟨by omega, by omega⟩, fun q => absurd q (by omega), fun _ => ⟨by omega, by omega, ?_⟩⟩
        have hoe : mr_ok (mm_putN M' 72 17 0) := mr_ok_putI ho' r0
        have fe : fr nS M' (mm_putN M' 72 17 0) := fr_put (Or.inr (Or.inr ⟨rfl, rfl⟩))
        have ee : (mm_putN M' 72 17 0).1 72 17 = 0 := put_eq
        generalize mm_putN M' 72 17 0 = Me at hoe fe ee
        have ve : fr vT M Me := fr_trans hf (fr_mono fe (fun a k z => vS_vT a k (nS_vS a k z)))
        have v75 := (vR_at ve ga.1 ga.2 i0 (by omega)).2.2.1
        obtain ⟨q1, q2, q3, q4, q5, q6, q7, q8⟩ := RW_band W i0 (show i < M.1 77 a by omega)
        rw [v75, q1]
        refine row _ i (sst (rdB M a) i) Me rfl i0 (by omega) (Int.le_refl _) (by omega) hoe ve (fun j => by rw [fe.2 _ _ (by omega)]; exact h96 j) (NR_0 ee) (fun x => ⟨fun z => absurd z (rN_0 ee x), fun ⟨e, e0, e1, _⟩ => absurd e1 (by omega)⟩) (fun z => absurd z (by omega)) (fun M1 o1 f1 N1 R1 => ?_)
        have fb1 : fr nS M' M1 := fr_trans fe f1
        refine c38 o1 N1 (RS_fr fb1 (fun a k z => by omega) hR) ⟨by omega, by omega⟩ ⟨by omega, by omega⟩ (fun _ => ⟨by omega, by omega⟩) (fun q x y z => ?_) (fun Mh fh Rh hoh l5 => ?_)
        · obtain ⟨j, j0, j1, j2, j3, _⟩ := z
          have := wf_hl w j0 j1 (show i < M.1 77 a by omega)
          have y2 : slo (rdB M a) i = M.1 73 (102 * a + i) := rfl
          omega
        · have e : 102 * a + i + 1 = 102 * a + (i + 1) := by omega
          rw [e]
          refine ih (i + 1) l5 Mh (by omega) (by omega) (by omega) hoh (fr_trans hf (fr_mono (fr_trans (fr_mono fb1 nS_vS) (fr_mono fh gS_vS)) vS_vT)) (fun j => by rw [fh.2 _ _ (by unfold gS; omega), fb1.2 _ _ (by omega)]; exact h96 j) ?_ (RS_iff Rh (fun x y => ?_))
          · rw [fh.2 _ _ (by unfold gS; omega), fb1.2 _ _ (by omega)]
            exact ht'
          · rw [R1]
            constructor
            · rintro (⟨j, j0, j1, j2⟩ | z)
              · exact ⟨j, j0, by omega, j2⟩
              · exact ⟨i, i0, by omega, z.1, z.2.1, z.2.2⟩
            · rintro ⟨j, j0, j1, j2, j3, j4⟩
              by_cases y : j = i
              · rw [y] at j2 j3 j4
                exact Or.inr ⟨j2, j3, j4⟩
              · exact Or.inl ⟨j, j0, by omega, j2, j3, j4⟩
    have z0 : 102 * a = 102 * a + 0 := by omega
    rw [z0]
    exact loop _ 0 _ Md rfl (Int.le_refl _) n0 hod vd g96 td (RS_iff Rd (fun x y => ⟨fun z => z.elim, fun ⟨i, i0, i1, _⟩ => absurd i1 (by omega)⟩))
  · refine vc172_32 hob r2 ⟨fun q => absurd (put_eq (M := Mb) (a := 72) (k := 0) (x := 2)) (fun e => by omega), fun _ => Or.inl ⟨_, rfl, k2 _ _ _ (fr_trans vb (fr_put (Or.inr ⟨rfl, rfl⟩))) put_eq pb (fun z => gv (by omega))⟩⟩
end
