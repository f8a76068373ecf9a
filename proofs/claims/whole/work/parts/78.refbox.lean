/-! ===== the reference's areas; box ===== -/
def RWk (M : mm_M) (j : Int) : Prop := wf (rdB M j) ∧ am M j ∧ M.1 77 j ≤ 100 ∧ M.1 80 j ≤ 400
/-- all but the reference stays -/
def rfr (M M1 : mm_M) : Prop := M1.2 = M.2 ∧ ∀ a k, (a < 72 ∨ a = 98) → M1.1 a k = M.1 a k
theorem rfr_fr {M M1 : mm_M} {S : Nat → Int → Prop} (h : fr S M M1) (hs : ∀ a k, S a k → 72 ≤ a ∧ a ≠ 98) : rfr M M1 := ⟨h.1, fun a k q => h.2 a k (fun z => by have := hs a k z; omega)⟩
theorem rfr_trans {M M1 M2 : mm_M} (h : rfr M M1) (g : rfr M1 M2) : rfr M M2 := ⟨g.1.trans h.1, fun a k q => (g.2 a k q).trans (h.2 a k q)⟩
theorem eqv_trans {s t u : sh} (h : wf s) (e : eqv s t) (f : eqv t u) : eqv s u := by
  have n0 := h.1
  refine ⟨e.1.trans f.1, fun i a b => ?_, fun i a b => (e.2.2.1 i a b).trans (f.2.2.1 i a (by rw [← e.1]; exact b)), fun k a b => ?_⟩
  · have x := e.2.1 i a b
    have y := f.2.1 i a (by rw [← e.1]; exact b)
    exact ⟨x.1.trans y.1, x.2.trans y.2⟩
  · have x := e.2.2.2 k a b
    have z : sst s (sn s) = sst t (sn t) := by
      rw [e.2.2.1 (sn s) n0 (Int.le_refl _), e.1]
    have y := f.2.2.2 k a (by rw [← z]; exact b)
    exact ⟨x.1.trans y.1, x.2.trans y.2⟩
theorem rdB_same {M M1 : mm_M} {j : Int} (h : RWk M j) (e : ∀ a k, hS j a k → M1.1 a k = M.1 a k) : eqv (rdB M j) (rdB M1 j) ∧ RWk M1 j := by
  obtain ⟨w, ham, hn, hs⟩ := h
  have n0 : 0 ≤ M.1 77 j := w.1
  have e77 : M1.1 77 j = M.1 77 j := e _ _ (by unfold hS; omega)
  have e80 : M1.1 80 j = M.1 80 j := e _ _ (by unfold hS; omega)
  have stn : sst (rdB M j) (sn (rdB M j)) = M.1 80 j := rdB_end
  have sI : ∀ i, 0 ≤ i → i ≤ M.1 77 j → sst (rdB M j) i = sst (rdB M1 j) i := by
    intro i a b
    show (if i < M.1 77 j then M.1 75 (102 * j + i) - 402 * j else M.1 80 j) = (if i < M1.1 77 j then M1.1 75 (102 * j + i) - 402 * j else M1.1 80 j)
    rw [e77, e80, e 75 (102 * j + i) (by unfold hS; omega)]
  have E : eqv (rdB M j) (rdB M1 j) := by
    refine ⟨e77.symm, fun i a b => ⟨(e 73 _ ?_).symm, (e 74 _ ?_).symm⟩, sI, fun k a b => ⟨(e 78 _ ?_).symm, (e 79 _ ?_).symm⟩⟩
    · have b' : i < M.1 77 j := b
      unfold hS
      omega
    · have b' : i < M.1 77 j := b
      unfold hS
      omega
    · rw [stn] at b
      unfold hS
      omega
    · rw [stn] at b
      unfold hS
      omega
  refine ⟨E, eqv_wf w E, fun i a b => ?_, by rw [e77]; exact hn, by rw [e80]; exact hs⟩
  rw [e77] at b
  rw [e 76 _ (by unfold hS; omega), ← sI i a (by omega), ← sI (i + 1) (by omega) (by omega)]
  exact ham i a b
section
variable {sc : Nat × (Int → Int)} {M : mm_M} {X : Nat → mm_M → Prop}
theorem c33 {K : Int → mm_M → Prop} {v l h : Int} (ho : mr_ok M) (hv : mr_rg v) (hl : mr_rg l) (hh : mr_rg h) (k1 : l ≤ v ∧ v ≤ h → K 1 M) (k0 : ¬ (l ≤ v ∧ v ≤ h) → K 0 M) : en_CI sc 33 [mm_i v, mm_i l, mm_i h] M K X :=
  vc33_0 ho hv hl hh ⟨fun q => Or.inl ⟨_, rfl, k0 (by omega)⟩, fun q => ⟨fun q2 => Or.inl ⟨_, rfl, k0 (by omega)⟩, fun q2 => Or.inl ⟨_, rfl, k1 (by omega)⟩⟩⟩
theorem c34 {K : Int → mm_M → Prop} {v : Int} (ho : mr_ok M) (hv : mr_rg v) (k1 : 0 ≤ v ∧ v < 8 → K 1 M) (k0 : ¬ (0 ≤ v ∧ v < 8) → K 0 M) : en_CI sc 34 [mm_r 72, mm_i v] M K X :=
  vc34_0 ho hv ⟨fun q => Or.inl ⟨_, rfl, k0 (by omega)⟩, fun q => ⟨fun q2 => Or.inl ⟨_, rfl, k0 (by omega)⟩, fun q2 => Or.inl ⟨_, rfl, k1 (by omega)⟩⟩⟩
/-- CellAreasModel.box -/
theorem c40 {K : mm_M → Prop} {t l lo r hi : Int} (ho : mr_ok M) (hW : ∀ j, 0 ≤ j → j < 8 → RWk M j) (ht : mr_rg t) (hl : mr_rg l) (hlo : mr_rg lo) (hr : mr_rg r) (hhi : mr_rg hi)
    (k1 : ¬ (0 ≤ t ∧ t < 8) → ∀ M1, fr (fun a k => a = 72 ∧ k = 0) M M1 → M1.1 72 0 = 1 → K M1) (k2 : (0 ≤ t ∧ t < 8) → ¬ boxOk l lo r hi → ∀ M1, fr (fun a k => a = 72 ∧ k = 0) M M1 → M1.1 72 0 = 2 → K M1)
    (k : (0 ≤ t ∧ t < 8) → boxOk l lo r hi → ∀ M1, rfr M M1 → M1.1 72 0 = 0 → (∀ j, 0 ≤ j → j < 8 → RWk M1 j) → (∀ j, 0 ≤ j → j < 8 → j ≠ t → eqv (rdB M j) (rdB M1 j)) → fits (rdB M1 t) (fun x y => lo ≤ y ∧ y < hi ∧ l ≤ x ∧ x < r) → K M1) :
    en_CV sc 40 [mm_r 72, mm_i t, mm_i l, mm_i lo, mm_i r, mm_i hi, mm_u, mm_u] M K X := by
  have c1000 : mr_rg (-1000) := ⟨by decide, by decide⟩
  have d1000 : mr_rg 1000 := ⟨by decide, by decide⟩
  have last : ∀ s0 : Int, mr_rg s0 → (s0 ≠ 0 ↔ boxOk l lo r hi) → en_R sc 40 71 [mm_r 72, mm_i t, mm_i l, mm_i lo, mm_i r, mm_i hi, mm_u, mm_u] [mm_i s0] M (fun r M1 => (r = .inl none ∧ K M1) ∨ ∃ e, r = .inr e ∧ e < 100 ∧ X e M1) := by
    intro s0 hs0 hs
    refine vc40_71 ho hs0 (c34 ho ht (fun gt _ => ⟨⟨by decide, by decide⟩, fun _ => ⟨fun q => ?_, fun q => ?_⟩, fun z => absurd (by decide) z⟩) (fun gt _ => ⟨⟨by decide, by decide⟩, fun z => absurd rfl z, fun _ => ?_⟩))
    · have ok := hs.mp q
      have ok' := ok
      unfold boxOk at ok'
      have ho0 : mr_ok (mm_putN M 72 0 0) := mr_ok_putI ho ⟨by decide, by decide⟩
      have e0 : (mm_putN M 72 0 0).1 72 0 = 0 := put_eq
      have f0 : fr (fun a k => a = 72 ∧ k = 0) M (mm_putN M 72 0 0) := fr_put ⟨rfl, rfl⟩
      refine vc40_96 ho ⟨by decide, by decide⟩ ⟨fun z => absurd e0 z, fun _ => ?_⟩
      generalize mm_putN M 72 0 0 = Ma at ho0 e0 f0
      refine c35 ho0 (fun Mb fb cb Rb hob => ?_)
      have hoc : mr_ok (mm_putN Mb 72 17 0) := mr_ok_putI hob ⟨by decide, by decide⟩
      have fc : fr (fun a k => a = 72 ∧ k = 17) Mb (mm_putN Mb 72 17 0) := fr_put ⟨rfl, rfl⟩
      have ec : (mm_putN Mb 72 17 0).1 72 17 = 0 := put_eq
      generalize mm_putN Mb 72 17 0 = Mc at hoc fc ec
      refine c36 hoc (NR_0 ec) (by omega) (by omega) (by omega) (by omega) (fun z => absurd z (by omega)) (fun Md fd Nd rd _ hod => ?_)
      have same8 : ∀ a k, a ≠ 72 → a ≠ 85 → a ≠ 86 → Md.1 a k = Mb.1 a k := fun a k z1 z2 z3 => by rw [fd.2 _ _ (by omega), fc.2 _ _ (by omega)]
      have Rd : RS Md (fun _ _ => False) := by
        have er : rdB Md 8 = rdB Mb 8 := by
          unfold rdB
          have e : ∀ a, a ≠ 72 → a ≠ 85 → a ≠ 86 → Md.1 a = Mb.1 a := fun a z1 z2 z3 => by funext j; exact same8 a j z1 z2 z3
          rw [e 73 (by decide) (by decide) (by decide), e 74 (by decide) (by decide) (by decide), e 75 (by decide) (by decide) (by decide), e 77 (by decide) (by decide) (by decide), e 78 (by decide) (by decide) (by decide), e 79 (by decide) (by decide) (by decide), e 80 (by decide) (by decide) (by decide)]
        have e20 : Md.1 72 20 = Mb.1 72 20 := by rw [fd.2 _ _ (by omega), fc.2 _ _ (by omega)]
        rcases Rb with ⟨a, b, c, d, g, i⟩ | ⟨a, g⟩
        · refine Or.inl ⟨by rw [e20]; exact a, by rw [er]; exact b, fun i a b => ?_, by rw [same8 77 8 (by decide) (by decide) (by decide)]; exact d, by rw [same8 80 8 (by decide) (by decide) (by decide)]; exact g, fun x y => by rw [er]; exact i x y⟩
          rw [er, same8 76 _ (by decide) (by decide) (by decide)]
          exact c i a (by rw [← same8 77 8 (by decide) (by decide) (by decide)]; exact b)
        · exact Or.inr ⟨by rw [e20]; exact a, g⟩
      refine c38 hod Nd Rd hlo hhi (fun _ => ⟨by omega, by omega⟩) (fun _ x y z => z.elim) (fun Me fe Re hoe => ?_)
      have Rf : RS Me (fun x y => lo ≤ y ∧ y < hi ∧ l ≤ x ∧ x < r) := RS_iff Re (fun x y => by
        rw [rd]
        exact ⟨fun z => z.elim (fun z => z.elim) (fun z => ⟨z.1, z.2.1, z.2.2.elim (fun q => absurd q (rN_0 ec x)) id⟩), fun z => Or.inr ⟨z.1, z.2.1, Or.inr z.2.2⟩⟩)
      have Bf := box_fits (l := l) (lo := lo) (r := r) (hi := hi) ⟨by omega, by omega, by omega, by omega, by omega, by omega⟩
      have R0 : Me.1 72 20 = 0 ∧ wf (rdB Me 8) ∧ am Me 8 ∧ Me.1 77 8 ≤ 100 ∧ Me.1 80 8 ≤ 400 ∧ ∀ x y, has (rdB Me 8) x y ↔ lo ≤ y ∧ y < hi ∧ l ≤ x ∧ x < r := by
        rcases Rf with g | ⟨_, g⟩
        · exact g
        · exact (not_both Bf g).elim
      refine c39 hoe gt.1 gt.2 (fun _ => ⟨R0.2.1, R0.2.2.1, R0.2.2.2.1, R0.2.2.2.2.1⟩) (fun z => absurd R0.1 z) (fun _ Mf ff Ef af _ => Or.inl ⟨rfl, ?_⟩)
      have keepE : ∀ a k, (a < 72 ∨ a = 98) ∨ (a = 72 ∧ k = 0) ∨ (∃ j, 0 ≤ j ∧ j < 8 ∧ hS j a k) → Me.1 a k = Ma.1 a k := by
        intro a k z
        have z1 : ¬ gS a k := by
          unfold gS
          rcases z with z | z | ⟨j, j0, j1, z⟩
          · omega
          · omega
          · unfold hS at z
            omega
        have z2 : (a < 72 ∨ a = 98) ∨ (a = 72 ∧ k = 0) ∨ (a ≠ 72 ∧ a ≠ 85 ∧ a ≠ 86 ∧ ¬ (a = 77 ∧ k = 8) ∧ ¬ (a = 80 ∧ k = 8)) := by
          rcases z with z | z | ⟨j, j0, j1, z⟩
          · exact Or.inl z
          · exact Or.inr (Or.inl z)
          · unfold hS at z
            omega
        rw [fe.2 _ _ z1, fd.2 _ _ (by omega), fc.2 _ _ (by omega), fb.2 _ _ (by omega)]
      have wk : ∀ j, 0 ≤ j → j < 8 → eqv (rdB M j) (rdB Me j) ∧ RWk Me j := fun j j0 j1 => rdB_same (hW j j0 j1) (fun a k z => by
        rw [keepE a k (Or.inr (Or.inr ⟨j, j0, j1, z⟩)), f0.2 _ _ (by unfold hS at z; omega)])
      have wt : RWk Mf t := by
        refine ⟨eqv_wf R0.2.1 Ef, af, ?_, ?_⟩
        · have := Ef.1
          have h8 := R0.2.2.2.1
          have e1 : Me.1 77 8 = Mf.1 77 t := this
          omega
        · have e2 : sst (rdB Me 8) (sn (rdB Me 8)) = Me.1 80 8 := rdB_end
          have e3 := Ef.2.2.1 (sn (rdB Me 8)) R0.2.1.1 (Int.le_refl _)
          have e4 : sst (rdB Mf t) (sn (rdB Mf t)) = Mf.1 80 t := rdB_end
          rw [Ef.1, e4] at e3
          have h8 := R0.2.2.2.2.1
          rw [Ef.1] at e2
          omega
      have other : ∀ j, 0 ≤ j → j < 8 → j ≠ t → eqv (rdB Me j) (rdB Mf j) ∧ RWk Mf j := fun j j0 j1 jt => rdB_same (wk j j0 j1).2 (fun a k z => ff.2 _ _ (fun y => by
        unfold hS at z y
        omega))
      refine k gt ok Mf ⟨?_, fun a k z => ?_⟩ ?_ (fun j j0 j1 => ?_) (fun j j0 j1 jt => eqv_trans (hW j j0 j1).1 (wk j j0 j1).1 (other j j0 j1 jt).1) ⟨wt.1, wt.2.2.1, ?_, fun x y => ?_⟩
      · rw [ff.1, fe.1, fd.1, fc.1, fb.1, f0.1]
      · rw [ff.2 _ _ (by unfold hS; omega), keepE a k (Or.inl z), f0.2 _ _ (by omega)]
      · rw [ff.2 _ _ (by unfold hS; omega), keepE 72 0 (Or.inr (Or.inl ⟨rfl, rfl⟩)), e0]
      · by_cases jt : j = t
        · rw [jt]
          exact wt
        · exact (other j j0 j1 jt).2
      · have e4 : sst (rdB Mf t) (sn (rdB Mf t)) = Mf.1 80 t := rdB_end
        rw [e4]
        exact wt.2.2.2
      · rw [← eqv_has R0.2.1 Ef]
        exact R0.2.2.2.2.2 x y
    · refine vc40_96 ho ⟨by decide, by decide⟩ ⟨fun _ => Or.inl ⟨rfl, k2 gt (fun z => q (hs.mpr z)) _ (fr_put ⟨rfl, rfl⟩) put_eq⟩, fun z => absurd put_eq (fun e => z (by rw [e]; decide))⟩
    · refine vc40_96 ho ⟨by decide, by decide⟩ ⟨fun _ => Or.inl ⟨rfl, k1 gt _ (fr_put ⟨rfl, rfl⟩) put_eq⟩, fun z => absurd put_eq (fun e => z (by rw [e]; decide))⟩
  have no : ¬ boxOk l lo r hi → en_R sc 40 70 [mm_r 72, mm_i t, mm_i l, mm_i lo, mm_i r, mm_i hi, mm_u, mm_u] [] M (fun r M1 => (r = .inl none ∧ K M1) ∨ ∃ e, r = .inr e ∧ e < 100 ∧ X e M1) := fun q => vc40_70 ho (last 0 ⟨by decide, by decide⟩ ⟨fun z => absurd rfl z, fun z => absurd z q⟩)
  have r0 : mr_rg 0 := ⟨by decide, by decide⟩
  have r1 : mr_rg 1 := ⟨by decide, by decide⟩
  refine vc40_0 ho hl hr hlo hhi (c33 ho hl c1000 d1000 (fun g1 _ => ⟨r1, fun z => absurd z (by decide), fun _ => ?_⟩) (fun g1 _ => ⟨r0, fun _ => no (fun z => g1 ⟨z.1, z.2.1⟩), fun z => absurd rfl z⟩))
  refine c33 ho hr c1000 d1000 (fun g2 _ => ⟨r1, fun z => absurd z (by decide), fun _ => ?_⟩) (fun g2 _ => ⟨r0, fun _ => no (fun z => by unfold boxOk at z; omega), fun z => absurd rfl z⟩)
  refine c33 ho hlo c1000 d1000 (fun g3 _ => ⟨r1, fun z => absurd z (by decide), fun _ => ?_⟩) (fun g3 _ => ⟨r0, fun _ => no (fun z => by unfold boxOk at z; omega), fun z => absurd rfl z⟩)
  refine c33 ho hhi c1000 d1000 (fun g4 _ => ⟨r1, fun z => absurd z (by decide), fun _ => ⟨fun q => no (fun z => by unfold boxOk at z; omega), fun q => ⟨fun q2 => no (fun z => by unfold boxOk at z; omega), fun q2 => ?_⟩⟩⟩) (fun g4 _ => ⟨r0, fun _ => no (fun z => by unfold boxOk at z; omega), fun z => absurd rfl z⟩)
  refine last 1 r1 ⟨fun _ => ?_, fun _ => by decide⟩
  unfold boxOk
  omega
end
