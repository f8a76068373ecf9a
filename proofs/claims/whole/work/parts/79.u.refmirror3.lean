/-! ===== CellAreasModel.mirror, put together ===== -/
section
variable {sc : Nat × (Int → Int)} {M : mm_M} {X : Nat → mm_M → Prop}
theorem c89 {K : Int → mm_M → Prop} {t a way : Int} (ho : mr_ok M) (hW : ∀ j, 0 ≤ j → j < 8 → RWk M j) (ht : mr_rg t) (ha : mr_rg a) (hw : mr_rg way)
    (k1 : ¬ (isA t ∧ isA a) → ∀ M1, fr thS M M1 → M1.1 72 0 = 1 → K 0 M1) (k2 : (isA t ∧ isA a) → ¬ (0 ≤ way ∧ way ≤ 2) → ∀ M1, fr thS M M1 → M1.1 72 0 = 2 → K 0 M1)
    (k : (isA t ∧ isA a) → (0 ≤ way ∧ way ≤ 2) → ∀ v M1, RB M M1 t (mirT way (rdB M a)) v → K v M1) : en_CI sc 89 [mm_r 72, mm_i t, mm_i a, mm_i way, mm_u, mm_u, mm_u, mm_u] M K X := by
  have r0 : mr_rg 0 := ⟨by decide, by decide⟩
  have r1 : mr_rg 1 := ⟨by decide, by decide⟩
  have r2 : mr_rg 2 := ⟨by decide, by decide⟩
  have bad : ∀ s1 : Int, mr_rg s1 → 0 < s1 → K 0 (mm_putN M 72 0 s1) → en_R sc 89 35 [mm_r 72, mm_i t, mm_i a, mm_i way, mm_u, mm_u, mm_u, mm_u] [mm_i s1, mm_r 72] M (QI K X) := fun s1 rs s0 hK => vc89_35 ho rs hw ⟨fun q => absurd (put_eq (M := M) (a := 72) (k := 0) (x := s1)) (fun e => by omega), fun _ => Or.inl ⟨_, rfl, hK⟩⟩
  have no : ¬ (isA t ∧ isA a) → en_R sc 89 17 [mm_r 72, mm_i t, mm_i a, mm_i way, mm_u, mm_u, mm_u, mm_u] [mm_r 72] M (QI K X) := fun q => vc89_17 ho (bad 1 r1 (by decide) (k1 q _ (fr_put ⟨rfl, rfl⟩) put_eq))
  refine vc89_0 ho (c34 ho ht (fun gt _ => ⟨r1, fun z => absurd z (by decide), fun _ => ?_⟩) (fun gt _ => ⟨r0, fun _ => no (fun z => gt z.1), fun z => absurd rfl z⟩))
  refine c34 ho ha (fun ga _ => ⟨r1, fun _ => ?_, fun z => absurd (by decide) z⟩) (fun ga _ => ⟨r0, fun z => absurd rfl z, fun _ => no (fun z => ga z.2)⟩)
  refine c33 ho hw r0 r2 (fun gw _ => ⟨r1, fun _ => ?_, fun z => absurd (by decide) z⟩) (fun gw _ => ⟨r0, fun z => absurd rfl z, fun _ => bad 2 r2 (by decide) (k2 ⟨gt, ga⟩ gw _ (fr_put ⟨rfl, rfl⟩) put_eq)⟩)
  replace k := k ⟨gt, ga⟩ gw
  refine vc89_35 ho r0 hw ⟨fun _ => ?_, fun q => absurd (put_eq (M := M) (a := 72) (k := 0) (x := 0)) (fun e => by omega)⟩
  have ho0 : mr_ok (mm_putN M 72 0 0) := mr_ok_putI ho r0
  have t0 : (mm_putN M 72 0 0).1 72 0 = 0 := put_eq
  have f0 : fr vT M (mm_putN M 72 0 0) := fr_put (Or.inr ⟨rfl, rfl⟩)
  generalize mm_putN M 72 0 0 = Ma at ho0 t0 f0
  refine c35 ho0 (fun Mb fb cb Rb hob => ?_)
  have vb : fr vT M Mb := fr_trans f0 (fr_mono fb (fun a k z => Or.inl (bgS_vR a k z)))
  have tb : Mb.1 72 0 = 0 := by rw [fb.2 _ _ (by omega)]; exact t0
  have W := hW a ga.1 ga.2
  have w := W.1
  have n0 : 0 ≤ M.1 77 a := w.1
  have n1 := W.2.2.1
  have a0 := ga.1
  have a1 := ga.2
  refine ⟨fun q => ?_, fun q => ?_⟩
  · have w01 : way = 0 ∨ way = 1 := by omega
    have loop : ∀ (c : Nat) (i : Int) (l5 l6 l7 : mm_V) (M' : mm_M), c = (M.1 77 a - i).toNat → 0 ≤ i → i ≤ M.1 77 a → mr_ok M' → fr vT M M' → M'.1 72 0 = 0 → RS M' (miT way (rdB M a) i) → en_R sc 89 171 [mm_r 72, mm_i t, mm_i a, mm_i way, mm_i i, l5, l6, l7] [] M' (QI K X) := by
      intro c
      induction c with
      | zero =>
        intro i l5 l6 l7 M' hc i0 i1 ho' hf ht' hR
        have v77 := (vR_at hf ga.1 ga.2 (Int.le_refl 0) (by decide)).2.2.2.2.1
        have ei : i = sn (rdB M a) := by show i = M.1 77 a; omega
        rw [ei] at hR
        refine vc89_171 ho' ⟨by omega, by omega⟩ hw ?_
        rw [v77]
        exact ⟨a0, by omega, fun _ => c39y ho' hW ht' hf (RS_iff hR (fun x y => miT_end w01 x y)) gt.1 gt.2 (fun v M1 c _ => Or.inl ⟨v, rfl, k v M1 c⟩), fun q => absurd (by omega) q⟩
      | succ c ih =>
        intro i l5 l6 l7 M' hc i0 i1 ho' hf ht' hR
        have v77 := (vR_at hf ga.1 ga.2 (Int.le_refl 0) (by decide)).2.2.2.2.1
        have hoe : mr_ok (mm_putN M' 72 17 0) := mr_ok_putI ho' r0
        have fe : fr nS M' (mm_putN M' 72 17 0) := fr_put (Or.inr (Or.inr ⟨rfl, rfl⟩))
        have ee : (mm_putN M' 72 17 0).1 72 17 = 0 := put_eq
        have band : en_R sc 89 218 [mm_r 72, mm_i t, mm_i a, mm_i way, mm_i i, mm_i (102 * a + mib way (rdB M a) i), mm_i 0, l7] [] (mm_putN M' 72 17 0) (QI K X) := by
          generalize mm_putN M' 72 17 0 = Me at hoe fe ee
          have ve : fr vT M Me := fr_trans hf (fr_mono fe (fun a k z => vS_vT a k (nS_vS a k z)))
          have sn' : sn (rdB M a) = M.1 77 a := rfl
          have bi : 0 ≤ mib way (rdB M a) i ∧ mib way (rdB M a) i < M.1 77 a := by
            unfold mib
            rw [sn']
            split <;> omega
          obtain ⟨q1, q2, q3, q4, q5, q6, q7, q8⟩ := RW_band W bi.1 bi.2
          have y1 : slo (rdB M a) (mib way (rdB M a) i) = M.1 73 (102 * a + mib way (rdB M a) i) := rfl
          have y2 : shi (rdB M a) (mib way (rdB M a) i) = M.1 74 (102 * a + mib way (rdB M a) i) := rfl
          have lh : -1000 ≤ mlo way (rdB M a) (mib way (rdB M a) i) ∧ mlo way (rdB M a) (mib way (rdB M a) i) < mhi way (rdB M a) (mib way (rdB M a) i) ∧ mhi way (rdB M a) (mib way (rdB M a) i) ≤ 1000 := by
            unfold mlo mhi
            split <;> omega
          refine c89_row W ga w01 bi.1 bi.2 _ 0 l7 Me rfl (by decide) (by omega) hoe ve (NR_0 ee) (fun x => ⟨fun z => absurd z (rN_0 ee x), fun ⟨f, f0, f1, _⟩ => absurd f1 (by omega)⟩) (fun z => absurd z (by omega)) (fun M1 o1 f1 N1 R1 => ?_)
          have fb1 : fr nS M' M1 := fr_trans fe f1
          refine c38 o1 N1 (RS_fr fb1 (fun a k z => by omega) hR) ⟨by omega, by omega⟩ ⟨by omega, by omega⟩ (fun _ => ⟨by omega, by omega⟩) (fun _ x y z => ?_) (fun Mh fh Rh hoh l5 l6 l7 => ?_)
          · obtain ⟨f, g1, g2, g3, g4, _⟩ := z
            have : mhi way (rdB M a) (mib way (rdB M a) f) ≤ mlo way (rdB M a) (mib way (rdB M a) i) := by
              unfold mhi mlo mib
              rcases w01 with rfl | rfl
              · rw [if_neg (by decide), if_neg (by decide), if_neg (by decide), if_neg (by decide)]
                exact wf_hl w g1 g2 (show i < M.1 77 a by omega)
              · rw [if_pos rfl, if_pos rfl, if_pos rfl, if_pos rfl]
                have := wf_hl w (i := sn (rdB M a) - 1 - i) (j := sn (rdB M a) - 1 - f) (by rw [sn']; omega) (by omega) (by omega)
                omega
            omega
          · refine ih (i + 1) l5 l6 l7 Mh (by omega) (by omega) (by omega) hoh (fr_trans hf (fr_mono (fr_trans (fr_mono fb1 nS_vS) (fr_mono fh gS_vS)) vS_vT)) ?_ (RS_iff Rh (fun x y => ?_))
            · rw [fh.2 _ _ (by unfold gS; omega), fb1.2 _ _ (by omega)]
              exact ht'
            · rw [R1]
              constructor
              · rintro (⟨f, g1, g2, g3⟩ | z)
                · exact ⟨f, g1, by omega, g3⟩
                · exact ⟨i, i0, by omega, z⟩
              · rintro ⟨f, g1, g2, g3⟩
                by_cases y : f = i
                · rw [y] at g3
                  exact Or.inr g3
                · exact Or.inl ⟨f, g1, by omega, g3⟩
        refine vc89_171 ho' ⟨by omega, by omega⟩ hw ?_
        rw [v77]
        refine ⟨a0, by omega, fun q => absurd q (by omega), fun _ => ⟨fun q => ?_, fun q => ⟨a0, by omega, ?_⟩⟩⟩
        · have e : mib way (rdB M a) i = i := if_neg q
          rw [e] at band
          exact band
        · have e : mib way (rdB M a) i = M.1 77 a - 1 - i := if_pos (Classical.byContradiction q)
          rw [e] at band
          exact band
    refine loop _ 0 _ _ _ Mb rfl (Int.le_refl _) n0 hob vb tb (RS_iff Rb (fun x y => ⟨fun z => z.elim, fun z => ?_⟩))
    obtain ⟨i, i0, i1, _⟩ := z
    omega
  · have w2 : way = 2 := Classical.byContradiction q
    have wb := vT_keep vb ga.1 ga.2 W
    refine c87 hob ga.1 ga.2 wb.2 (CT_0 cb) (by omega) (fun Md fd Cd nd ud hod => ?_)
    have vd : fr vT M Md := fr_trans vb (fr_mono fd (fun a k z => Or.inl (uS_vR a k z)))
    have td : Md.1 72 0 = 0 := by rw [fd.2 _ _ (by omega)]; exact tb
    have U : ∀ v, cu Md v ↔ cols (rdB M a) v := by
      intro v
      rw [ud, ← cols_eqv w wb.1]
      exact ⟨fun z => z.elim (fun z => absurd z (cu_0 cb v)) id, Or.inr⟩
    have mt : ∀ x y, mirT way (rdB M a) x y ↔ has (rdB M a) y x := by
      intro x y
      unfold mirT
      rw [w2]
      exact ⟨fun z => by rcases z with z | z | z; exact absurd z.1 (by decide); exact absurd z.1 (by decide); exact z.2.2, fun z => Or.inr (Or.inr ⟨by decide, by decide, z⟩)⟩
    have Rd : RS Md (fun _ _ => False) := RS_fr fd (fun a k z => by omega) Rb
    have kin : ∀ i k', 0 ≤ i → i < sn (rdB M a) → sst (rdB M a) i ≤ k' → k' < sst (rdB M a) (i + 1) → 0 ≤ k' ∧ k' < sst (rdB M a) (sn (rdB M a)) := by
      intro i k' i0 i1 g1 g2
      have s0 := sst_mono w (Int.le_refl 0) i0 (show i ≤ sn (rdB M a) by omega)
      have s1 := sst_mono w (show 0 ≤ i + 1 by omega) (show i + 1 ≤ sn (rdB M a) by omega) (Int.le_refl _)
      rw [w.2.1] at s0
      omega
    have D : RD M Md (mirT way (rdB M a)) := by
      refine ⟨vd, td, Cd, by omega, fun y q x => ?_, fun x y z => ?_, fun x y z => ?_⟩
      · rw [mt, mt]
        exact col_const w (fun z => q ((U _).mpr z)) x
      · rw [mt] at z
        obtain ⟨i, i0, i1, _, _, k', g1, g2, g3, g4⟩ := z
        have := kin i k' i0 i1 g1 g2
        exact ⟨_, (U _).mpr ⟨k', this.1, this.2, Or.inl rfl⟩, g3⟩
      · rw [mt] at z
        obtain ⟨i, i0, i1, _, _, k', g1, g2, g3, g4⟩ := z
        have := kin i k' i0 i1 g1 g2
        exact ⟨_, (U _).mpr ⟨k', this.1, this.2, Or.inr rfl⟩, g4⟩
    have m0 := Cd.1
    have nn := D.2.2.2.1
    have row : ∀ (c : Nat) (e i : Int) (M' : mm_M), c = (M.1 77 a - i).toNat → 0 ≤ i → i ≤ M.1 77 a → 0 ≤ e → e + 1 < Md.1 72 19 → mr_ok M' → fr vS Md M' → NR M' → (∀ x, rN M' x ↔ hasN (rdB M a) i (Md.1 87 e) x) → (0 < M'.1 72 17 → 0 < i ∧ M'.1 85 (M'.1 72 17 - 1) ≤ slo (rdB M a) (i - 1)) →
        (∀ (M1 : mm_M) (l5 : Int), mr_ok M1 → fr nS M' M1 → NR M1 → (∀ x, rN M1 x ↔ has (rdB M a) (Md.1 87 e) x) → en_CV sc 38 [mm_r 72, mm_i (M1.1 87 e), mm_i (M1.1 87 (e + 1)), mm_u, mm_u] M1 (fun M10 => mr_ok M10 → en_R sc 89 64 [mm_r 72, mm_i t, mm_i a, mm_i way, mm_i (e + 1), mm_i l5, mm_u, mm_u] [] M10 (QI K X)) (fun e M9 => QI K X (.inr e) M9)) →
        en_R sc 89 86 [mm_r 72, mm_i t, mm_i a, mm_i way, mm_i e, mm_i (102 * a + i), mm_u, mm_u] [] M' (QI K X) := by
      intro c
      induction c with
      | zero =>
        intro e i M' hc i0 i1 e0 e1 ho' hf hN hr hl g
        have v77 := (vR_at (RD_keep D hf) ga.1 ga.2 (Int.le_refl 0) (by decide)).2.2.2.2.1
        have ei : i = sn (rdB M a) := by show i = M.1 77 a; omega
        refine vc89_86 ho' ⟨by omega, by omega⟩ (c45 ho' a0 (by omega) (fun _ => ?_))
        rw [v77]
        refine ⟨⟨by omega, by omega⟩, fun _ => ⟨e0, by omega, by omega, by omega, g M' _ ho' fr_refl hN (fun x => ?_)⟩, fun q => absurd (by omega) q⟩
        rw [hr, ei]
        exact Iff.rfl
      | succ c ih =>
        intro e i M' hc i0 i1 e0 e1 ho' hf hN hr hl g
        have vm := RD_keep D hf
        obtain ⟨v73, v74, v75, v76, v77, v80⟩ := vR_at vm ga.1 ga.2 i0 (by omega)
        have Wm := vT_keep vm a0 a1 W
        obtain ⟨e19, e87⟩ := vS_cut hf
        have bi := Cd.2.1 e e0 (by omega)
        obtain ⟨q1, q2, q3, q4, q5, q6, q7, q8⟩ := RW_band W i0 (show i < M.1 77 a by omega)
        have en : 102 * a + i + 1 = 102 * a + (i + 1) := by omega
        have ib := eqv_inb w Wm.1 i0 (show i < sn (rdB M a) by show i < M.1 77 a; omega) (Md.1 87 e)
        refine vc89_86 ho' ⟨by omega, by omega⟩ (c45 ho' a0 (by omega) (fun _ => ?_))
        rw [v77, e87, en]
        have lm : 0 < M'.1 72 17 → 0 < i + 1 ∧ M'.1 85 (M'.1 72 17 - 1) ≤ slo (rdB M a) i := fun z => by
          have x := hl z
          have x1 := wf_hl w (i := i - 1) (j := i) (by omega) (by omega) (show i < M.1 77 a by omega)
          have x2 := (w.2.2.1 (i - 1) (by omega) (show i - 1 < M.1 77 a by omega)).2.2.1
          omega
        have e5 : i + 1 - 1 = i := by omega
        refine ⟨⟨by omega, by omega⟩, fun q => absurd q (by omega), fun _ => ⟨e0, by omega, c88 ho' a0 a1 Wm.2 i0 (by rw [v77]; omega) ⟨by omega, by omega⟩ (fun yes _ => ?_) (fun noo _ => ?_)⟩⟩
        · rw [v73, v74]
          have y1 : slo (rdB M a) i = M.1 73 (102 * a + i) := rfl
          refine ⟨r1, fun q => absurd q (by decide), fun _ => ⟨by omega, by omega, by omega, by omega, c36 ho' hN (by omega) (by omega) (by omega) (by omega) (fun z => by have := lm z; omega) (fun Mc fc Nc rc lc hoc => ?_)⟩⟩
          refine ih e (i + 1) Mc (by omega) (by omega) (by omega) e0 e1 hoc (fr_trans hf (fr_mono fc nS_vS)) Nc (fun x => ?_) (fun z => ⟨by omega, by rw [e5]; exact lc z⟩) (fun M1 l5 o1 f1 => g M1 l5 o1 (fr_trans fc f1))
          rw [rc, hr]
          constructor
          · rintro (⟨f, f0, f1, f2⟩ | z)
            · exact ⟨f, f0, by omega, f2⟩
            · exact ⟨i, i0, by omega, z.1, z.2, ib.mpr yes⟩
          · rintro ⟨f, f0, f1, f2, f3, f4⟩
            by_cases y : f = i
            · rw [y] at f2 f3
              exact Or.inr ⟨f2, f3⟩
            · exact Or.inl ⟨f, f0, by omega, f2, f3, f4⟩
        · refine ⟨r0, fun _ => ih e (i + 1) M' (by omega) (by omega) (by omega) e0 e1 ho' hf hN (fun x => ?_) (fun z => by rw [e5]; exact lm z) g, fun q => absurd rfl q⟩
          rw [hr]
          constructor
          · rintro ⟨f, f0, f1, f2⟩
            exact ⟨f, f0, by omega, f2⟩
          · rintro ⟨f, f0, f1, f2, f3, f4⟩
            by_cases y : f = i
            · rw [y] at f4
              exact absurd (ib.mp f4) noo
            · exact ⟨f, f0, by omega, f2, f3, f4⟩
    have loop : ∀ (c : Nat) (i : Int) (l5 : mm_V) (M' : mm_M), c = (Md.1 72 19 - i).toNat → 0 ≤ i → (i < Md.1 72 19 ∨ i = 0 ∧ Md.1 72 19 = 0) → RI Md M' (mirT way (rdB M a)) i → en_R sc 89 64 [mm_r 72, mm_i t, mm_i a, mm_i way, mm_i i, l5, mm_u, mm_u] [] M' (QI K X) := by
      intro c
      induction c with
      | zero =>
        intro i l5 M' hc i0 i1 hI
        obtain ⟨e19, e87⟩ := vS_cut hI.2.1
        refine vc89_64 hI.1 ?_
        rw [e19]
        exact ⟨⟨by omega, by omega⟩, fun q => c39z hW D hI (by omega) i1 gt (fun r M1 c => Or.inl ⟨r, rfl, k r M1 c⟩), fun q => absurd (by omega) q⟩
      | succ c ih =>
        intro i l5 M' hc i0 i1 hI
        obtain ⟨e19, e87⟩ := vS_cut hI.2.1
        refine vc89_64 hI.1 ?_
        rw [e19]
        refine ⟨⟨by omega, by omega⟩, fun q => c39z hW D hI (by omega) i1 gt (fun r M1 c => Or.inl ⟨r, rfl, k r M1 c⟩), fun q => ?_⟩
        have hoe : mr_ok (mm_putN M' 72 17 0) := mr_ok_putI hI.1 r0
        have fe : fr nS M' (mm_putN M' 72 17 0) := fr_put (Or.inr (Or.inr ⟨rfl, rfl⟩))
        have ee : (mm_putN M' 72 17 0).1 72 17 = 0 := put_eq
        generalize mm_putN M' 72 17 0 = Me at hoe fe ee
        have z0 : 102 * a = 102 * a + 0 := by omega
        rw [z0]
        refine row _ i 0 Me rfl (Int.le_refl _) n0 i0 (by omega) hoe (fr_trans hI.2.1 (fr_mono fe nS_vS)) (NR_0 ee) (fun x => ⟨fun z => absurd z (rN_0 ee x), fun ⟨f, f0, f1, _⟩ => absurd f1 (by omega)⟩) (fun z => absurd z (by omega)) (fun M1 l5 o1 f1 N1 R1 => ?_)
        exact c38y D hI o1 (fr_mono (fr_trans fe f1) nS_wS) N1 (fun x => (R1 x).trans (mt x _).symm) i0 (by omega) (fun Mh Ih => ih (i + 1) _ Mh (by omega) (by omega) (Or.inl (by omega)) Ih)
    exact loop _ 0 _ Md rfl (by decide) (by omega) (RI_0 hod D Rd)
end
