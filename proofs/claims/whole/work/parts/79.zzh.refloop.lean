/-! ===== CellAreasModel.loop and corner ===== -/
theorem FLS_keep {s : sh} {M M1 : mm_M} (h : FLS s M) (kp : gKeep M M1) (e : M1.1 72 29 = M.1 72 29) (e3 : ∀ l, st3 M1 l = st3 M l) : FLS s M1 := by
  obtain ⟨h1, h2, h3, h4, h5, h6⟩ := h
  have C : Cg s M1 = Cg s M := Cg_keep kp
  have ew : gw M1 = gw M := kp.1
  have cl : ∀ i j, cel s M1 i j ↔ cel s M i j := fun i j => gKeep_cel kp i j
  refine ⟨gKeep_GRD kp h1, by omega, by omega, fun l l0 l1 => ?_, fun l l' l0 l1 l2 => ?_, fun q hq => ?_⟩
  · obtain ⟨a, b, c, d⟩ := h4 l l0 (by omega)
    rw [C, ew, e3]
    refine ⟨a, ?_, c, d⟩
    unfold STp at b ⊢
    rw [cl, cl]
    exact b
  · rw [ew, e3, e3]
    exact h5 l l' l0 l1 (by omega)
  · rw [C] at hq ⊢
    obtain ⟨l, l0, l1, o⟩ := h6 q hq
    exact ⟨l, l0, by omega, by rw [e3]; exact o⟩
theorem FLS_fr {s : sh} {M M1 : mm_M} {S : Nat → Int → Prop} (h : FLS s M) (f : fr S M M1) (hs : ∀ a k, S a k → a = 72 ∧ (k = 0 ∨ (31 ≤ k ∧ k ≤ 38))) : FLS s M1 := by
  have n : ∀ a k, ¬ (a = 72 ∧ (k = 0 ∨ (31 ≤ k ∧ k ≤ 38))) → M1.1 a k = M.1 a k := fun a k z => f.2 a k (fun y => z (hs a k y))
  refine FLS_keep h (gKeep_fr f (fun a k z => by have := hs a k z; omega)) (n 72 29 (by omega)) (fun l => ?_)
  unfold st3
  rw [n 91 l (by omega), n 92 l (by omega), n 93 l (by omega)]
section
variable {sc : Nat × (Int → Int)} {M : mm_M} {X : Nat → mm_M → Prop}
/-- findLoops and what a loop's measuring needs -/
theorem FLS_per {s : sh} {Mf : mm_M} (F : FLS s Mf) {l : Int} (l0 : 0 ≤ l) (l1 : l < Mf.1 72 29) : isS (Cg s Mf) (st3 Mf l) ∧ ∃ m, 0 < m ∧ sti (Cg s Mf) m (st3 Mf l) = st3 Mf l ∧ ∀ u, 0 < u → u < m → sti (Cg s Mf) u (st3 Mf l) ≠ st3 Mf l := by
  obtain ⟨a, b, c, d⟩ := F.2.2.2.1 l l0 l1
  exact ⟨a, per_min c⟩
theorem c159 {K : Int → mm_M → Prop} {a i what : Int} (ho : mr_ok M) (hW : ∀ j, 0 ≤ j → j < 8 → RWk M j) (ha : mr_rg a) (hi : mr_rg i) (hw : mr_rg what) (k1 : ¬ isA a → ∀ M1, fr thS M M1 → M1.1 72 0 = 1 → K 0 M1)
    (k2 : isA a → ∀ Mf M1, fr vT M Mf → FLS (rdB M a) Mf → ¬ ((0 ≤ i ∧ i ≤ Mf.1 72 29 - 1) ∧ 0 ≤ what ∧ what ≤ 2) → fr vT M M1 → M1.1 72 0 = 2 → K 0 M1)
    (k : isA a → ∀ Mf M1 m, mr_ok Mf → fr vT M Mf → FLS (rdB M a) Mf → 0 ≤ i → i < Mf.1 72 29 → 0 ≤ what → what ≤ 2 → 0 < m → sti (Cg (rdB M a) Mf) m (st3 Mf i) = st3 Mf i → (∀ u, 0 < u → u < m → sti (Cg (rdB M a) Mf) u (st3 Mf i) ≠ st3 Mf i) → fr vT M M1 → MEA (Cg (rdB M a) Mf) Mf (st3 Mf i) m 0 M1 → M1.1 72 0 = 0 → K (if what = 0 then M1.1 72 34 else if what = 1 then M1.1 72 35 else mr_ldiv (M1.1 72 36) 2) M1) : en_CI sc 159 [mm_r 72, mm_i a, mm_i i, mm_i what] M K X := by
  have r0 : mr_rg 0 := ⟨by decide, by decide⟩
  have r1 : mr_rg 1 := ⟨by decide, by decide⟩
  have r2 : mr_rg 2 := ⟨by decide, by decide⟩
  refine vc159_0 ho (c34 ho ha (fun ga _ => ⟨r1, fun z => absurd z (by decide), fun _ => ?_⟩) (fun ga _ => ⟨r0, fun _ => ?_, fun z => absurd rfl z⟩))
  · have W := hW a ga.1 ga.2
    have hob : mr_ok (mm_putN M 72 0 0) := mr_ok_putI ho r0
    have fb : fr thS M (mm_putN M 72 0 0) := fr_put ⟨rfl, rfl⟩
    have tb : (mm_putN M 72 0 0).1 72 0 = 0 := put_eq
    refine vc159_14 ho r0 ?_
    generalize mm_putN M 72 0 0 = Mb at hob fb tb
    have vb : fr vT M Mb := fr_mono fb thS_vT
    have Wb := vT_keep vb ga.1 ga.2 W
    have erb : rdB Mb a = rdB M a := rdB_fr fb (fun b k z => by have z' : b = 72 ∧ k = 0 := z; omega) a
    refine ⟨fun _ => c153 hob ga Wb.2 (fun Mc fc Fc hoc => ?_), fun z => absurd (by omega) z⟩
    rw [erb] at Fc
    have vc : fr vT M Mc := fr_trans vb (fr_mono fc vR_vT)
    have n0 := Fc.2.1
    have n1 := Fc.2.2.1
    have bad : ¬ ((0 ≤ i ∧ i ≤ Mc.1 72 29 - 1) ∧ 0 ≤ what ∧ what ≤ 2) → en_R sc 159 59 [mm_r 72, mm_i a, mm_i i, mm_i what] [mm_r 72] Mc (QI K X) := fun q => by
      refine vc159_59 hoc (vc159_60 hoc r2 hw ?_)
      rw [put_eq]
      refine ⟨fun z => absurd z (by decide), fun _ => Or.inl ⟨_, rfl, k2 ga Mc _ vc Fc q (fr_trans vc (fr_put (Or.inr ⟨rfl, rfl⟩))) put_eq⟩⟩
    refine c33 hoc hi r0 ⟨by omega, by omega⟩ (fun gi _ => ⟨r1, fun y => absurd y (by decide), fun _ => ?_⟩) (fun gi _ => ⟨r0, fun _ => bad (fun y => gi y.1), fun y => absurd rfl y⟩)
    refine c33 hoc hw r0 r2 (fun gw' _ => ⟨r1, fun y => absurd y (by decide), fun _ => ?_⟩) (fun gw' _ => ⟨r0, fun _ => bad (fun y => gw' y.2), fun y => absurd rfl y⟩)
    have hod : mr_ok (mm_putN Mc 72 0 0) := mr_ok_putI hoc r0
    have fd : fr thS Mc (mm_putN Mc 72 0 0) := fr_put ⟨rfl, rfl⟩
    have td : (mm_putN Mc 72 0 0).1 72 0 = 0 := put_eq
    refine vc159_60 hoc r0 hw ?_
    generalize mm_putN Mc 72 0 0 = Md at hod fd td
    have Fd : FLS (rdB M a) Md := FLS_fr Fc fd (fun a k z => ⟨z.1, Or.inl z.2⟩)
    have vd : fr vT M Md := fr_trans vc (fr_mono fd thS_vT)
    have e29 : Md.1 72 29 = Mc.1 72 29 := fd.2 72 29 (by omega)
    obtain ⟨hp, m, m0, hm, nr⟩ := FLS_per Fd gi.1 (show i < Md.1 72 29 by omega)
    refine ⟨fun _ => c154 hod W.1 Fd.1 gi.1 (by omega) r0 hp m0 hm nr (fun Me fe Ee hoe => ?_), fun z => absurd (by omega) z⟩
    have ve : fr vT M Me := fr_trans vd (fr_mono fe (fun a k z => by
      have z' : a = 72 ∧ 31 ≤ k ∧ k ≤ 38 := z
      unfold vT vR
      omega))
    have te : Me.1 72 0 = 0 := by rw [fe.2 72 0 (by omega)]; exact td
    have fin := k ga Md Me m hod vd Fd gi.1 (by omega) gw'.1 gw'.2 m0 hm nr ve Ee te
    refine ⟨fun z => ⟨fun z2 => ?_, fun z2 => ?_⟩, fun z => ?_⟩
    · rw [if_neg z, if_neg z2] at fin
      exact Or.inl ⟨_, rfl, fin⟩
    · rw [if_neg z, if_pos (Classical.byContradiction z2)] at fin
      exact Or.inl ⟨_, rfl, fin⟩
    · rw [if_pos (Classical.byContradiction z)] at fin
      exact Or.inl ⟨_, rfl, fin⟩
  · refine vc159_14 ho r1 ?_
    rw [put_eq]
    exact ⟨fun z => absurd z (by decide), fun _ => Or.inl ⟨_, rfl, k1 ga _ (fr_put ⟨rfl, rfl⟩) put_eq⟩⟩
theorem c162 {K : Int → mm_M → Prop} {a i c what : Int} (ho : mr_ok M) (hW : ∀ j, 0 ≤ j → j < 8 → RWk M j) (ha : mr_rg a) (hi : mr_rg i) (hc : mr_rg c) (hw : mr_rg what) (k1 : ¬ isA a → ∀ M1, fr thS M M1 → M1.1 72 0 = 1 → K 0 M1)
    (k2 : isA a → ∀ Mf M1, fr vT M Mf → FLS (rdB M a) Mf → ¬ ((0 ≤ i ∧ i ≤ Mf.1 72 29 - 1) ∧ 0 ≤ c ∧ 0 ≤ what ∧ what ≤ 1) → fr vT M M1 → M1.1 72 0 = 2 → K 0 M1)
    (k : isA a → ∀ Mf M1 M2 m, mr_ok Mf → fr vT M Mf → FLS (rdB M a) Mf → 0 ≤ i → i < Mf.1 72 29 → 0 ≤ c → 0 ≤ what → what ≤ 1 → 0 < m → sti (Cg (rdB M a) Mf) m (st3 Mf i) = st3 Mf i → (∀ u, 0 < u → u < m → sti (Cg (rdB M a) Mf) u (st3 Mf i) ≠ st3 Mf i) → MEA (Cg (rdB M a) Mf) Mf (st3 Mf i) m c M1 → fr vT M M2 → (M1.1 72 34 ≤ c → M2.1 72 0 = 2 → K 0 M2) ∧ (c < M1.1 72 34 → M2.1 72 0 = 0 → K (if what = 0 then M1.1 72 37 else M1.1 72 38) M2)) : en_CI sc 162 [mm_r 72, mm_i a, mm_i i, mm_i c, mm_i what] M K X := by
  have r0 : mr_rg 0 := ⟨by decide, by decide⟩
  have r1 : mr_rg 1 := ⟨by decide, by decide⟩
  have r2 : mr_rg 2 := ⟨by decide, by decide⟩
  refine vc162_0 ho (c34 ho ha (fun ga _ => ⟨r1, fun z => absurd z (by decide), fun _ => ?_⟩) (fun ga _ => ⟨r0, fun _ => ?_, fun z => absurd rfl z⟩))
  · have W := hW a ga.1 ga.2
    have hob : mr_ok (mm_putN M 72 0 0) := mr_ok_putI ho r0
    have fb : fr thS M (mm_putN M 72 0 0) := fr_put ⟨rfl, rfl⟩
    have tb : (mm_putN M 72 0 0).1 72 0 = 0 := put_eq
    refine vc162_14 ho r0 hc ?_
    generalize mm_putN M 72 0 0 = Mb at hob fb tb
    have vb : fr vT M Mb := fr_mono fb thS_vT
    have Wb := vT_keep vb ga.1 ga.2 W
    have erb : rdB Mb a = rdB M a := rdB_fr fb (fun b k z => by have z' : b = 72 ∧ k = 0 := z; omega) a
    refine ⟨fun _ => c153 hob ga Wb.2 (fun Mc fc Fc hoc => ?_), fun z => absurd (by omega) z⟩
    rw [erb] at Fc
    have vc : fr vT M Mc := fr_trans vb (fr_mono fc vR_vT)
    have n0 := Fc.2.1
    have n1 := Fc.2.2.1
    have bad : ¬ ((0 ≤ i ∧ i ≤ Mc.1 72 29 - 1) ∧ 0 ≤ c ∧ 0 ≤ what ∧ what ≤ 1) → en_R sc 162 64 [mm_r 72, mm_i a, mm_i i, mm_i c, mm_i what] [mm_r 72] Mc (QI K X) := fun q => by
      refine vc162_64 hoc (vc162_65 hoc r2 hc ?_)
      rw [put_eq]
      refine ⟨fun z => absurd z (by decide), fun _ => Or.inl ⟨_, rfl, k2 ga Mc _ vc Fc q (fr_trans vc (fr_put (Or.inr ⟨rfl, rfl⟩))) put_eq⟩⟩
    refine c33 hoc hi r0 ⟨by omega, by omega⟩ (fun gi _ => ⟨r1, fun y => absurd y (by decide), fun _ => ⟨fun cn => bad (fun y => by omega), fun cn => ?_⟩⟩) (fun gi _ => ⟨r0, fun _ => bad (fun y => gi y.1), fun y => absurd rfl y⟩)
    refine c33 hoc hw r0 r1 (fun gw' _ => ⟨r1, fun y => absurd y (by decide), fun _ => ?_⟩) (fun gw' _ => ⟨r0, fun _ => bad (fun y => gw' y.2.2), fun y => absurd rfl y⟩)
    have hod : mr_ok (mm_putN Mc 72 0 0) := mr_ok_putI hoc r0
    have fd : fr thS Mc (mm_putN Mc 72 0 0) := fr_put ⟨rfl, rfl⟩
    have td : (mm_putN Mc 72 0 0).1 72 0 = 0 := put_eq
    refine vc162_65 hoc r0 hc ?_
    generalize mm_putN Mc 72 0 0 = Md at hod fd td
    have Fd : FLS (rdB M a) Md := FLS_fr Fc fd (fun a k z => ⟨z.1, Or.inl z.2⟩)
    have vd : fr vT M Md := fr_trans vc (fr_mono fd thS_vT)
    have e29 : Md.1 72 29 = Mc.1 72 29 := fd.2 72 29 (by omega)
    obtain ⟨hp, m, m0, hm, nr⟩ := FLS_per Fd gi.1 (show i < Md.1 72 29 by omega)
    refine ⟨fun _ => c154 hod W.1 Fd.1 gi.1 (by omega) hc hp m0 hm nr (fun Me fe Ee hoe => ?_), fun z => absurd (by omega) z⟩
    have ve : fr vT M Me := fr_trans vd (fr_mono fe (fun a k z => by
      have z' : a = 72 ∧ 31 ≤ k ∧ k ≤ 38 := z
      unfold vT vR
      omega))
    have fin := fun v => k ga Md Me (mm_putN Me 72 0 v) m hod vd Fd gi.1 (by omega) (by omega) gw'.1 gw'.2 m0 hm nr Ee (fr_trans ve (fr_put (Or.inr ⟨rfl, rfl⟩)))
    refine ⟨fun z => ?_, fun z => ?_⟩
    · refine vc162_97 hoe r2 hw ?_
      have f2 := (fin 2).1 z put_eq
      rw [put_eq]
      exact ⟨fun z => absurd z (by decide), fun _ => Or.inl ⟨_, rfl, f2⟩⟩
    · refine vc162_97 hoe r0 hw ?_
      have f0 := (fin 0).2 (by omega) put_eq
      rw [put_eq, put_k (show (38 : Int) ≠ 0 by decide), put_k (show (37 : Int) ≠ 0 by decide)]
      refine ⟨fun _ => ⟨fun y => ?_, fun y => ?_⟩, fun z => absurd (by decide) z⟩
      · rw [if_neg y] at f0
        exact Or.inl ⟨_, rfl, f0⟩
      · rw [if_pos (Classical.byContradiction y)] at f0
        exact Or.inl ⟨_, rfl, f0⟩
  · refine vc162_14 ho r1 hc ?_
    rw [put_eq]
    exact ⟨fun z => absurd z (by decide), fun _ => Or.inl ⟨_, rfl, k1 ga _ (fr_put ⟨rfl, rfl⟩) put_eq⟩⟩
end
