/-! ===== shrink, the reference's side ===== -/
section
variable {sc : Nat × (Int → Int)} {M : mm_M} {X : Nat → mm_M → Prop}
abbrev bS2 : Nat → Int → Prop := fun b k => b = 83 ∨ b = 84 ∨ (b = 72 ∧ k = 14)
/-- CellAreasModel.shrinkRow -/
theorem c100 {K : mm_M → Prop} {a y l r d u : Int} (ho : mr_ok M) (ga : isA a) (W : RWk M a) (hy : -1000 ≤ y ∧ y ≤ 1000) (gr : reach l r d u)
    (k : ∀ M1, fr wS M M1 → NR M1 → (∀ x, rN M1 x ↔ srT (rdB M a) l r d u x y) → K M1) : en_CV sc 100 [mm_r 72, mm_i a, mm_i y, mm_i l, mm_i r, mm_i d, mm_i u, mm_u, mm_u, mm_u, mm_u, mm_u] M K X := by
  have w := W.1
  have n0 : 0 ≤ M.1 77 a := w.1
  have n1 := W.2.2.1
  have a0 := ga.1
  have a1 := ga.2
  have r0 : mr_rg 0 := ⟨by decide, by decide⟩
  have keep : ∀ M' : mm_M, fr wS M M' → fr vT M M' := fun M' f => fr_mono f (fun a k z => vS_vT a k (wS_vS a k z))
  -- the stretches of one band, made narrower
  have inner : ∀ (c : Nat) (i e p : Int) (l10 l11 : mm_V) (M0 M' : mm_M), c = (sst (rdB M a) (i + 1) - sst (rdB M a) i - e).toNat → 0 ≤ i → i < M.1 77 a → 0 ≤ e → e ≤ sst (rdB M a) (i + 1) - sst (rdB M a) i → fr wS M M0 → mr_ok M' → fr bS2 M0 M' → NRg M' 83 84 14 → M'.1 72 14 ≤ e → (∀ x, rNg M' 83 84 14 x ↔ ∃ f, 0 ≤ f ∧ f < e ∧ slf (rdB M a) (sst (rdB M a) i + f) + l ≤ x ∧ x < srt (rdB M a) (sst (rdB M a) i + f) - r) → (0 < M'.1 72 14 → 0 < e ∧ M'.1 84 (M'.1 72 14 - 1) ≤ srt (rdB M a) (sst (rdB M a) i + (e - 1)) - r) →
      (∀ (e : Int) (l10 l11 : mm_V) (M1 : mm_M), mr_ok M1 → fr bS2 M0 M1 → NRg M1 83 84 14 → (∀ x, rNg M1 83 84 14 x ↔ nar (rdB M a) l r i x) → en_R sc 100 160 [mm_r 72, mm_i a, mm_i y, mm_i l, mm_i r, mm_i d, mm_i u, mm_i p, mm_i (102 * a + i), mm_i e, l10, l11] [] M1 (QV K X)) →
      en_R sc 100 59 [mm_r 72, mm_i a, mm_i y, mm_i l, mm_i r, mm_i d, mm_i u, mm_i p, mm_i (102 * a + i), mm_i e, l10, l11] [] M' (QV K X) := by
    intro c
    induction c with
    | zero =>
      intro i e p l10 l11 M0 M' hc i0 i1 e0 e1 h0 ho' hf hN hm hr hl g
      have vm := keep M' (fr_trans h0 (fr_mono hf (fun a k z => by unfold wS; omega)))
      obtain ⟨v73, v74, v75, v76, v77, v80⟩ := vR_at vm a0 a1 i0 (by omega)
      obtain ⟨q1, q2, q3, q4, q5, q6, q7, q8⟩ := RW_band W i0 i1
      have ee : e = sst (rdB M a) (i + 1) - sst (rdB M a) i := by omega
      refine vc100_59 ho' ⟨by omega, by omega⟩ ⟨by omega, by omega⟩ ?_
      rw [v76]
      refine ⟨fun q => absurd q (by omega), fun _ => ⟨by omega, by omega, fun _ => g e l10 l11 M' ho' hf hN (fun x => ?_), fun q => absurd (by omega) q⟩⟩
      rw [hr, ee]
      constructor
      · rintro ⟨f, f0, f1, f2, f3⟩
        exact ⟨sst (rdB M a) i + f, by omega, by omega, by omega, by omega⟩
      · rintro ⟨f, f0, f1, f2, f3⟩
        have e5 : sst (rdB M a) i + (f - sst (rdB M a) i) = f := by omega
        exact ⟨f - sst (rdB M a) i, by omega, by omega, by rw [e5]; omega, by rw [e5]; omega⟩
    | succ c ih =>
      intro i e p l10 l11 M0 M' hc i0 i1 e0 e1 h0 ho' hf hN hm hr hl g
      have vm := keep M' (fr_trans h0 (fr_mono hf (fun a k z => by unfold wS; omega)))
      obtain ⟨v73, v74, v75, v76, v77, v80⟩ := vR_at vm a0 a1 i0 (by omega)
      obtain ⟨q1, q2, q3, q4, q5, q6, q7, q8⟩ := RW_band W i0 i1
      have ek := RW_k W i0 i1 (show sst (rdB M a) i ≤ sst (rdB M a) i + e by omega) (show sst (rdB M a) i + e < sst (rdB M a) (i + 1) by omega)
      have vk := vR_k vm (k := 402 * a + (sst (rdB M a) i + e)) (by omega)
      have e78 : M'.1 78 (402 * a + (sst (rdB M a) i + e)) = slf (rdB M a) (sst (rdB M a) i + e) := vk.1
      have e79 : M'.1 79 (402 * a + (sst (rdB M a) i + e)) = srt (rdB M a) (sst (rdB M a) i + e) := vk.2
      have bk := w.2.2.1 i i0 i1
      have m0 := hN.1
      have ix : 402 * a + sst (rdB M a) i + e = 402 * a + (sst (rdB M a) i + e) := by omega
      have e5 : e + 1 - 1 = e := by omega
      refine vc100_59 ho' ⟨by omega, by omega⟩ ⟨by omega, by omega⟩ ?_
      rw [v76, v75, q1, ix, e78, e79]
      have p14 : ∀ v, (mm_putN M' 83 (M'.1 72 14) v).1 72 14 = M'.1 72 14 := fun v => put_a (by decide)
      rw [p14]
      have p14' : ∀ v v', (mm_putN (mm_putN M' 83 (M'.1 72 14) v) 84 (M'.1 72 14) v').1 72 14 = M'.1 72 14 := fun v v' => by rw [put_a (by decide)]; exact p14 v
      rw [p14']
      refine ⟨fun q => absurd q (by omega), fun _ => ⟨by omega, by omega, fun q => absurd q (by omega), fun _ => ⟨by omega, by omega, by omega, by omega, by omega, by omega, by omega, by omega, ⟨by omega, by omega⟩, ⟨by omega, by omega⟩, fun q => ?_, fun q => ⟨by omega, by omega, by omega, by omega, ⟨by omega, by omega⟩, ?_⟩⟩⟩⟩
      · refine ih i (e + 1) p _ _ M0 M' (by omega) i0 i1 (by omega) (by omega) h0 ho' hf hN (by omega) (fun x => ?_) (fun z => ⟨by omega, ?_⟩) g
        · rw [hr]
          constructor
          · rintro ⟨f, f0, f1, f2⟩
            exact ⟨f, f0, by omega, f2⟩
          · rintro ⟨f, f0, f1, f2, f3⟩
            by_cases z : f = e
            · rw [z] at f2 f3
              omega
            · exact ⟨f, f0, by omega, f2, f3⟩
        · have x := hl z
          have y1 := ds_mono bk.2.2.2.2.1 (j := sst (rdB M a) i + (e - 1)) (k := sst (rdB M a) i + e) (by omega) (by omega) (by omega)
          rw [e5]
          omega
      · have fC : fr bS2 M' (mm_putN (mm_putN (mm_putN M' 83 (M'.1 72 14) (slf (rdB M a) (sst (rdB M a) i + e) + l)) 84 (M'.1 72 14) (srt (rdB M a) (sst (rdB M a) i + e) - r)) 72 14 (M'.1 72 14 + 1)) := fr_trans (fr_put (Or.inl rfl)) (fr_trans (fr_put (Or.inr (Or.inl rfl))) (fr_put (Or.inr (Or.inr ⟨rfl, rfl⟩))))
        have oC : mr_ok (mm_putN (mm_putN (mm_putN M' 83 (M'.1 72 14) (slf (rdB M a) (sst (rdB M a) i + e) + l)) 84 (M'.1 72 14) (srt (rdB M a) (sst (rdB M a) i + e) - r)) 72 14 (M'.1 72 14 + 1)) := mr_ok_putI (mr_ok_putI (mr_ok_putI ho' ⟨by omega, by omega⟩) ⟨by omega, by omega⟩) ⟨by omega, by omega⟩
        have eC : (mm_putN (mm_putN (mm_putN M' 83 (M'.1 72 14) (slf (rdB M a) (sst (rdB M a) i + e) + l)) 84 (M'.1 72 14) (srt (rdB M a) (sst (rdB M a) i + e) - r)) 72 14 (M'.1 72 14 + 1)).1 72 14 = M'.1 72 14 + 1 := put_eq
        have lC : ∀ j, (mm_putN (mm_putN (mm_putN M' 83 (M'.1 72 14) (slf (rdB M a) (sst (rdB M a) i + e) + l)) 84 (M'.1 72 14) (srt (rdB M a) (sst (rdB M a) i + e) - r)) 72 14 (M'.1 72 14 + 1)).1 83 j = if j = M'.1 72 14 then slf (rdB M a) (sst (rdB M a) i + e) + l else M'.1 83 j := by
          intro j
          rw [put_a (by decide), put_a (by decide)]
          by_cases z : j = M'.1 72 14
          · rw [if_pos z, z, put_eq]
          · rw [if_neg z, put_k z]
        have rC : ∀ j, (mm_putN (mm_putN (mm_putN M' 83 (M'.1 72 14) (slf (rdB M a) (sst (rdB M a) i + e) + l)) 84 (M'.1 72 14) (srt (rdB M a) (sst (rdB M a) i + e) - r)) 72 14 (M'.1 72 14 + 1)).1 84 j = if j = M'.1 72 14 then srt (rdB M a) (sst (rdB M a) i + e) - r else M'.1 84 j := by
          intro j
          rw [put_a (by decide)]
          by_cases z : j = M'.1 72 14
          · rw [if_pos z, z, put_eq]
          · rw [if_neg z, put_k z, put_a (by decide)]
        generalize mm_putN (mm_putN (mm_putN M' 83 (M'.1 72 14) (slf (rdB M a) (sst (rdB M a) i + e) + l)) 84 (M'.1 72 14) (srt (rdB M a) (sst (rdB M a) i + e) - r)) 72 14 (M'.1 72 14 + 1) = Mc at fC oC eC lC rC
        have lo : ∀ j, j ≠ M'.1 72 14 → Mc.1 83 j = M'.1 83 j ∧ Mc.1 84 j = M'.1 84 j := fun j z => ⟨by rw [lC, if_neg z], by rw [rC, if_neg z]⟩
        have la : Mc.1 83 (M'.1 72 14) = slf (rdB M a) (sst (rdB M a) i + e) + l ∧ Mc.1 84 (M'.1 72 14) = srt (rdB M a) (sst (rdB M a) i + e) - r := ⟨by rw [lC, if_pos rfl], by rw [rC, if_pos rfl]⟩
        have gap : 0 < M'.1 72 14 → M'.1 84 (M'.1 72 14 - 1) < slf (rdB M a) (sst (rdB M a) i + e) + l := fun z => by
          have x := hl z
          have y1 := ds_mono bk.2.2.2.2.1 (j := sst (rdB M a) i + (e - 1)) (k := sst (rdB M a) i + e) (by omega) (by omega) (by omega)
          omega
        refine ih i (e + 1) p _ _ M0 Mc (by omega) i0 i1 (by omega) (by omega) h0 oC (fr_trans hf fC) ⟨by omega, ?_, ?_⟩ (by omega) (fun x => ?_) (fun z => ⟨by omega, ?_⟩) g
        · rw [eC]
          refine ⟨fun j j0 j1 => ?_, fun j j0 j1 => ?_⟩
          · by_cases z : j = M'.1 72 14
            · rw [z, la.1, la.2]; omega
            · rw [(lo j z).1, (lo j z).2]; exact hN.2.1.1 j j0 (by omega)
          · rw [(lo j (by omega)).2]
            by_cases z : j + 1 = M'.1 72 14
            · rw [z, la.1]
              have e6 : M'.1 72 14 - 1 = j := by omega
              rw [e6] at gap
              exact gap (by omega)
            · rw [(lo (j + 1) z).1]; exact hN.2.1.2 j j0 (by omega)
        · rw [eC]
          intro j j0 j1
          by_cases z : j = M'.1 72 14
          · rw [z, la.1, la.2]; omega
          · rw [(lo j z).1, (lo j z).2]; exact hN.2.2 j j0 (by omega)
        · have old := hr x
          unfold rNg at old ⊢
          rw [eC]
          constructor
          · rintro ⟨j, j0, j1, j2, j3⟩
            by_cases z : j = M'.1 72 14
            · rw [z, la.1] at j2
              rw [z, la.2] at j3
              exact ⟨e, e0, by omega, j2, j3⟩
            · rw [(lo j z).1] at j2
              rw [(lo j z).2] at j3
              obtain ⟨f, f0, f1, f2⟩ := old.mp ⟨j, j0, by omega, j2, j3⟩
              exact ⟨f, f0, by omega, f2⟩
          · rintro ⟨f, f0, f1, f2, f3⟩
            by_cases z : f = e
            · rw [z] at f2 f3
              exact ⟨M'.1 72 14, m0, by omega, by rw [la.1]; exact f2, by rw [la.2]; exact f3⟩
            · obtain ⟨j, j0, j1, j2, j3⟩ := old.mpr ⟨f, f0, by omega, f2, f3⟩
              exact ⟨j, j0, by omega, by rw [(lo j (by omega)).1]; exact j2, by rw [(lo j (by omega)).2]; exact j3⟩
        · rw [eC, e5]
          have e6 : M'.1 72 14 + 1 - 1 = M'.1 72 14 := by omega
          rw [e6, la.2]
          exact Int.le_refl _
  -- from row to row
  have outer : ∀ (c : Nat) (p : Int) (l8 l9 l10 l11 : mm_V) (M' : mm_M), (y + u + 1 - p).toNat ≤ c → y - d ≤ p → p ≤ 10000 → mr_ok M' → fr wS M M' → NR M' → (∀ x, rN M' x ↔ (-1000 ≤ x ∧ x < 1000) ∧ ∀ y', y - d ≤ y' → y' < p → y' ≤ y + u → hasS (rdB M a) l r x y') → en_R sc 100 29 [mm_r 72, mm_i a, mm_i y, mm_i l, mm_i r, mm_i d, mm_i u, mm_i p, l8, l9, l10, l11] [] M' (QV K X) := by
    have fin : ∀ (p : Int) (M' : mm_M), y + u < p → fr wS M M' → NR M' → (∀ x, rN M' x ↔ (-1000 ≤ x ∧ x < 1000) ∧ ∀ y', y - d ≤ y' → y' < p → y' ≤ y + u → hasS (rdB M a) l r x y') → K M' := by
      intro p M' hp hf hN hr
      refine k M' hf hN (fun x => ?_)
      rw [hr]
      constructor
      · exact fun z y' b1 b2 => z.2 y' b1 (by omega) b2
      · intro z
        have := srT_fld w gr z
        exact ⟨⟨this.1, this.2.1⟩, fun y' b1 _ b2 => z y' b1 b2⟩
    intro c
    induction c with
    | zero =>
      intro p l8 l9 l10 l11 M' hc p0 p1 ho' hf hN hr
      exact vc100_29 ho' ⟨by omega, by omega⟩ ⟨⟨by omega, by omega⟩, fun q => Or.inl ⟨rfl, fin p M' q hf hN hr⟩, fun q => absurd (by omega) q⟩
    | succ c ih =>
      intro p l8 l9 l10 l11 M' hc p0 p1 ho' hf hN hr
      have vm := keep M' hf
      have W' := (vT_keep vm a0 a1 W).2
      have v77 := (vR_at vm a0 a1 (Int.le_refl 0) (by decide)).2.2.2.2.1
      refine vc100_29 ho' ⟨by omega, by omega⟩ ⟨⟨by omega, by omega⟩, fun q => Or.inl ⟨rfl, fin p M' q hf hN hr⟩, fun q => c60 ho' a0 (by omega) W' ⟨by omega, by omega⟩ (fun no _ => ?_) (fun i i0 i1 i2 i3 _ => ?_)⟩
      · refine c94 ho' hN (fun Mo fo eo jo hoo => ?_)
        have N1 := NRg_copy hN eo jo
        have hop : mr_ok (mm_putN Mo 72 14 0) := mr_ok_putI hoo r0
        have fp : fr bS2 Mo (mm_putN Mo 72 14 0) := fr_put (Or.inr (Or.inr ⟨rfl, rfl⟩))
        have ep : (mm_putN Mo 72 14 0).1 72 14 = 0 := put_eq
        generalize mm_putN Mo 72 14 0 = Mp at hop fp ep
        have N2 := NRg_fr fp (p := 81) (q := 82) (f := 11) (fun a k z => by omega) N1.1
        have wp : fr wS M Mp := fr_trans hf (fr_trans (fr_mono fo (fun a k z => by unfold wS; omega)) (fr_mono fp (fun a k z => by unfold wS; omega)))
        have N3 : NRg Mp 83 84 14 := by
          unfold NRg
          rw [ep]
          exact ⟨by decide, ⟨fun k a b => absurd b (by omega), fun k a b => absurd b (by omega)⟩, fun k a b => absurd b (by omega)⟩
        refine vc100_59 hop ⟨by decide, by decide⟩ r0 ⟨fun _ => ?_, fun z => absurd (by decide) z⟩
        refine vc100_160 hop ⟨by decide, by decide⟩ (c65 hop ⟨by decide, by decide⟩ N2.1 N3 (fun Mq fq Nq rq hoq => ⟨fun z => absurd z (by decide), fun _ => ?_⟩))
        refine ih (y + u + 1) _ _ _ _ Mq (by omega) (by omega) (by omega) hoq (fr_trans wp (fr_mono fq nS_wS)) Nq (fun x => ?_)
        rw [rq, mp1]
        constructor
        · rintro ⟨_, j, j0, j1, _⟩
          omega
        · rintro ⟨_, z⟩
          obtain ⟨j, j0, j1, j2, j3, _⟩ := z p (by omega) (by omega) (by omega)
          have vj := vR_at vm a0 a1 j0 (show j < 102 by have : j < M.1 77 a := j1; omega)
          refine absurd ?_ (no j j0 (by rw [v77]; exact j1))
          rw [vj.1, vj.2.1]
          exact ⟨j2, j3⟩
      · rw [v77] at i1
        obtain ⟨v73, v74, v75, v76, _, v80⟩ := vR_at vm a0 a1 i0 (by omega)
        obtain ⟨q1, q2, q3, q4, q5, q6, q7, q8⟩ := RW_band W i0 i1
        rw [v73] at i2
        rw [v74] at i3
        refine c94 ho' hN (fun Mo fo eo jo hoo => ?_)
        have N1 := NRg_copy hN eo jo
        have hop : mr_ok (mm_putN Mo 72 14 0) := mr_ok_putI hoo r0
        have fp : fr bS2 Mo (mm_putN Mo 72 14 0) := fr_put (Or.inr (Or.inr ⟨rfl, rfl⟩))
        have ep : (mm_putN Mo 72 14 0).1 72 14 = 0 := put_eq
        generalize mm_putN Mo 72 14 0 = Mp at hop fp ep
        have N2 := NRg_fr fp (p := 81) (q := 82) (f := 11) (fun a k z => by omega) N1.1
        have wp : fr wS M Mp := fr_trans hf (fr_trans (fr_mono fo (fun a k z => by unfold wS; omega)) (fr_mono fp (fun a k z => by unfold wS; omega)))
        have N3 : NRg Mp 83 84 14 := by
          unfold NRg
          rw [ep]
          exact ⟨by decide, ⟨fun k a b => absurd b (by omega), fun k a b => absurd b (by omega)⟩, fun k a b => absurd b (by omega)⟩
        refine inner _ i 0 p _ _ Mp Mp rfl i0 i1 (by decide) (by omega) wp hop fr_refl N3 (by omega) (fun x => ⟨?_, fun ⟨f, f0, f1, _⟩ => absurd f1 (by omega)⟩) (fun z => absurd z (by omega)) (fun e l10 l11 Mq hoq fq Nq rq => ?_)
        · rintro ⟨j, j0, j1, _⟩
          omega
        · have N4 := NRg_fr fq (p := 81) (q := 82) (f := 11) (fun a k z => by omega) N2.1
          refine vc100_160 hoq ⟨by omega, by omega⟩ (c65 hoq ⟨by decide, by decide⟩ N4.1 Nq (fun Ms fs Ns rs hos => ⟨fun _ => ⟨by omega, by omega, ?_⟩, fun z => absurd (by omega) z⟩))
          have ws : fr wS M Ms := fr_trans wp (fr_trans (fr_mono fq (fun a k z => by unfold wS; omega)) (fr_mono fs nS_wS))
          have x74 := (vR_at (keep Ms ws) a0 a1 i0 (by omega)).2.1
          rw [x74]
          refine ih (M.1 74 (102 * a + i)) _ _ _ _ Ms (by omega) (by omega) (by omega) hos ws Ns (fun x => ?_)
          rw [rs, mp1, N4.2, N2.2, N1.2, rq, hr]
          constructor
          · rintro ⟨⟨z1, z2⟩, z3⟩
            refine ⟨z1, fun y' b1 b2 b3 => ?_⟩
            by_cases z : y' < p
            · exact z2 y' b1 z b3
            · exact ⟨i, i0, i1, by show M.1 73 (102 * a + i) ≤ y'; omega, b2, z3⟩
          · rintro ⟨z1, z2⟩
            exact ⟨⟨z1, fun y' b1 b2 b3 => z2 y' b1 (by omega) b3⟩, (hasS_at w i0 i1 i2 i3 x).mp (z2 p (by omega) (by omega) (by omega))⟩
  refine vc100_0 ho ?_
  have hoe : mr_ok (mm_putN (mm_putN (mm_putN M 72 17 1) 85 0 (-1000)) 86 0 1000) := mr_ok_putI (mr_ok_putI (mr_ok_putI ho ⟨by decide, by decide⟩) ⟨by decide, by decide⟩) ⟨by decide, by decide⟩
  have fe : fr nS M (mm_putN (mm_putN (mm_putN M 72 17 1) 85 0 (-1000)) 86 0 1000) := fr_trans (fr_put (Or.inr (Or.inr ⟨rfl, rfl⟩))) (fr_trans (fr_put (Or.inl rfl)) (fr_put (Or.inr (Or.inl rfl))))
  have e17 : (mm_putN (mm_putN (mm_putN M 72 17 1) 85 0 (-1000)) 86 0 1000).1 72 17 = 1 := by rw [put_a (by decide), put_a (by decide), put_eq]
  have e85 : (mm_putN (mm_putN (mm_putN M 72 17 1) 85 0 (-1000)) 86 0 1000).1 85 0 = -1000 := by rw [put_a (by decide), put_eq]
  have e86 : (mm_putN (mm_putN (mm_putN M 72 17 1) 85 0 (-1000)) 86 0 1000).1 86 0 = 1000 := put_eq
  generalize mm_putN (mm_putN (mm_putN M 72 17 1) 85 0 (-1000)) 86 0 1000 = Me at hoe fe e17 e85 e86
  refine outer _ (y - d) _ _ _ _ Me (Nat.le_refl _) (Int.le_refl _) (by omega) hoe (fr_mono fe nS_wS) ⟨by omega, ?_, ?_⟩ (fun x => ?_)
  · rw [e17]
    refine ⟨fun j b1 b2 => ?_, fun j b1 b2 => absurd b2 (by omega)⟩
    have : j = 0 := by omega
    rw [this, e85, e86]
    decide
  · rw [e17]
    intro j b1 b2
    have : j = 0 := by omega
    rw [this, e85, e86]
    decide
  · unfold rN
    rw [e17]
    constructor
    · rintro ⟨j, b1, b2, b3, b4⟩
      have : j = 0 := by omega
      rw [this, e85] at b3
      rw [this, e86] at b4
      exact ⟨⟨b3, b4⟩, fun y' z1 z2 => absurd z2 (by omega)⟩
    · rintro ⟨z, _⟩
      exact ⟨0, by decide, by decide, by rw [e85]; exact z.1, by rw [e86]; exact z.2⟩
/-- CellAreasModel.shrink -/
theorem c101 {K : Int → mm_M → Prop} {t a l r d u : Int} (ho : mr_ok M) (hW : ∀ j, 0 ≤ j → j < 8 → RWk M j) (ht : mr_rg t) (ha : mr_rg a) (hl : mr_rg l) (hr : mr_rg r) (hd : mr_rg d) (hu : mr_rg u)
    (k1 : ¬ (isA t ∧ isA a) → ∀ M1, fr thS M M1 → M1.1 72 0 = 1 → K 0 M1) (k2 : (isA t ∧ isA a) → ¬ reach l r d u → ∀ M1, fr thS M M1 → M1.1 72 0 = 2 → K 0 M1)
    (k : (isA t ∧ isA a) → reach l r d u → ∀ v M1, RB M M1 t (srT (rdB M a) l r d u) v → K v M1) : en_CI sc 101 [mm_r 72, mm_i t, mm_i a, mm_i l, mm_i r, mm_i d, mm_i u, mm_u] M K X := by
  have r0 : mr_rg 0 := ⟨by decide, by decide⟩
  have r1 : mr_rg 1 := ⟨by decide, by decide⟩
  have r2 : mr_rg 2 := ⟨by decide, by decide⟩
  have bad : ∀ s1 : Int, mr_rg s1 → 0 < s1 → K 0 (mm_putN M 72 0 s1) → en_R sc 101 40 [mm_r 72, mm_i t, mm_i a, mm_i l, mm_i r, mm_i d, mm_i u, mm_u] [mm_i s1, mm_r 72] M (QI K X) := fun s1 rs s0 hK => vc101_40 ho rs ⟨fun q => absurd (put_eq (M := M) (a := 72) (k := 0) (x := s1)) (fun e => by omega), fun _ => Or.inl ⟨_, rfl, hK⟩⟩
  have no : ¬ (isA t ∧ isA a) → en_R sc 101 17 [mm_r 72, mm_i t, mm_i a, mm_i l, mm_i r, mm_i d, mm_i u, mm_u] [mm_r 72] M (QI K X) := fun q => vc101_17 ho (bad 1 r1 (by decide) (k1 q _ (fr_put ⟨rfl, rfl⟩) put_eq))
  refine vc101_0 ho (c34 ho ht (fun gt _ => ⟨r1, fun z => absurd z (by decide), fun _ => ?_⟩) (fun gt _ => ⟨r0, fun _ => no (fun z => gt z.1), fun z => absurd rfl z⟩))
  refine c34 ho ha (fun ga _ => ⟨r1, fun _ => ?_, fun z => absurd (by decide) z⟩) (fun ga _ => ⟨r0, fun z => absurd rfl z, fun _ => no (fun z => ga z.2)⟩)
  refine c93 ho hl hr hd hu (fun gr _ => ⟨r1, fun _ => ?_, fun z => absurd (by decide) z⟩) (fun gr _ => ⟨r0, fun z => absurd rfl z, fun _ => bad 2 r2 (by decide) (k2 ⟨gt, ga⟩ gr _ (fr_put ⟨rfl, rfl⟩) put_eq)⟩)
  replace k := k ⟨gt, ga⟩ gr
  refine vc101_40 ho r0 ⟨fun _ => ?_, fun q => absurd (put_eq (M := M) (a := 72) (k := 0) (x := 0)) (fun e => by omega)⟩
  have ho0 : mr_ok (mm_putN M 72 0 0) := mr_ok_putI ho r0
  have t0 : (mm_putN M 72 0 0).1 72 0 = 0 := put_eq
  have f0 : fr vT M (mm_putN M 72 0 0) := fr_put (Or.inr ⟨rfl, rfl⟩)
  generalize mm_putN M 72 0 0 = Ma at ho0 t0 f0
  refine c35 ho0 (fun Mb fb cb Rb hob => ?_)
  have vb : fr vT M Mb := fr_trans f0 (fr_mono fb (fun a k z => Or.inl (bgS_vR a k z)))
  have tb : Mb.1 72 0 = 0 := by rw [fb.2 _ _ (by omega)]; exact t0
  have W := hW a ga.1 ga.2
  have w := W.1
  have n0 : 0 ≤ M.1 77 a := w.1
  have n1 := W.2.2.1
  have a0 := ga.1
  have a1 := ga.2
  have main : ∀ Md : mm_M, mr_ok Md → RD M Md (srT (rdB M a) l r d u) → RS Md (fun _ _ => False) → en_R sc 101 137 [mm_r 72, mm_i t, mm_i a, mm_i l, mm_i r, mm_i d, mm_i u, mm_i 0] [] Md (QI K X) := by
    intro Md hod D Rd
    have Cd := D.2.2.1
    have m0 := Cd.1
    have nn := D.2.2.2.1
    have loop : ∀ (c : Nat) (i : Int) (M' : mm_M), c = (Md.1 72 19 - i).toNat → 0 ≤ i → (i < Md.1 72 19 ∨ i = 0 ∧ Md.1 72 19 = 0) → RI Md M' (srT (rdB M a) l r d u) i → en_R sc 101 137 [mm_r 72, mm_i t, mm_i a, mm_i l, mm_i r, mm_i d, mm_i u, mm_i i] [] M' (QI K X) := by
      intro c
      induction c with
      | zero =>
        intro i M' hc i0 i1 hI
        obtain ⟨e19, e87⟩ := vS_cut hI.2.1
        refine vc101_137 hI.1 ?_
        rw [e19]
        exact ⟨⟨by omega, by omega⟩, fun q => c39z hW D hI (by omega) i1 gt (fun r M1 c => Or.inl ⟨r, rfl, k r M1 c⟩), fun q => absurd (by omega) q⟩
      | succ c ih =>
        intro i M' hc i0 i1 hI
        obtain ⟨e19, e87⟩ := vS_cut hI.2.1
        refine vc101_137 hI.1 ?_
        rw [e19, e87]
        refine ⟨⟨by omega, by omega⟩, fun q => c39z hW D hI (by omega) i1 gt (fun r M1 c => Or.inl ⟨r, rfl, k r M1 c⟩), fun q => ⟨i0, by omega, ?_⟩⟩
        have bi := Cd.2.1 i i0 (by omega)
        have vm := RD_keep D hI.2.1
        have W' := vT_keep vm a0 a1 W
        refine c100 hI.1 ga W'.2 bi gr (fun Mg fg Ng rg hog => ⟨i0, by omega, by omega, by omega, ?_⟩)
        exact c38y D hI hog fg Ng (fun x => (rg x).trans (srT_iff w W'.1 l r d u x _).symm) i0 (by omega) (fun Mh Ih => ih (i + 1) Mh (by omega) (by omega) (Or.inl (by omega)) Ih)
    exact loop _ 0 Md rfl (by decide) (by omega) (RI_0 hod D Rd)
  have cuts : ∀ (c : Nat) (i : Int) (M' : mm_M), c = (M.1 77 a - i).toNat → 0 ≤ i → i ≤ M.1 77 a → mr_ok M' → fr uS Mb M' → CT M' → M'.1 72 19 ≤ 4 * i → (∀ v, cu M' v ↔ ∃ j, 0 ≤ j ∧ j < i ∧ (v = clp (slo (rdB M a) j + d) ∨ v = clp (shi (rdB M a) j + d) ∨ v = clp (slo (rdB M a) j - u) ∨ v = clp (shi (rdB M a) j - u))) → en_R sc 101 62 [mm_r 72, mm_i t, mm_i a, mm_i l, mm_i r, mm_i d, mm_i u, mm_i (102 * a + i)] [] M' (QI K X) := by
    intro c
    induction c with
    | zero =>
      intro i M' hc i0 i1 ho' hf hC hn hv
      have vm : fr vT M M' := fr_trans vb (fr_mono hf (fun a k z => Or.inl (uS_vR a k z)))
      have v77 := (vR_at vm ga.1 ga.2 (Int.le_refl 0) (by decide)).2.2.2.2.1
      have ei : i = M.1 77 a := by omega
      rw [ei] at hv
      refine vc101_62 ho' ⟨by omega, by omega⟩ (c45 ho' a0 (by omega) (fun _ => ?_))
      rw [v77]
      refine ⟨⟨by omega, by omega⟩, fun _ => main M' ho' ⟨vm, by rw [hf.2 _ _ (by omega)]; exact tb, hC, by omega, fun y q x => ?_, fun x y z => ?_, fun x y z => ?_⟩ (RS_fr hf (fun a k z => by omega) Rb), fun q => absurd (by omega) q⟩
      · constructor
        · intro z y' b1 b2
          have fz := srT_fld w gr z
          by_cases e : y' = y - d
          · obtain ⟨j, j0, j1, j2, j3, j4⟩ := z (y + 1 - d) (by omega) (by omega)
            have bk := w.2.2.1 j j0 j1
            have b5 := bk.2.1
            have : y + 1 - d ≠ slo (rdB M a) j := fun e2 => q ((hv _).mpr ⟨j, j0, j1, Or.inl (by rw [clp_in (by omega) (by omega)]; omega)⟩)
            exact ⟨j, j0, j1, by omega, by omega, j4⟩
          · exact z y' (by omega) (by omega)
        · intro z y' b1 b2
          have fz := srT_fld w gr z
          by_cases e : y' = y + 1 + u
          · obtain ⟨j, j0, j1, j2, j3, j4⟩ := z (y + u) (by omega) (by omega)
            have bk := w.2.2.1 j j0 j1
            have b5 := bk.2.2.2.1
            have : y + 1 + u ≠ shi (rdB M a) j := fun e2 => q ((hv _).mpr ⟨j, j0, j1, Or.inr (Or.inr (Or.inr (by rw [clp_in (by omega) (by omega)]; omega)))⟩)
            exact ⟨j, j0, j1, by omega, by omega, j4⟩
          · exact z y' (by omega) (by omega)
      · have fz := srT_fld w gr z
        obtain ⟨j, j0, j1, j2, j3, j4⟩ := z (y - d) (by omega) (by omega)
        have b5 := (w.2.2.1 j j0 j1).2.1
        exact ⟨_, (hv _).mpr ⟨j, j0, j1, Or.inl rfl⟩, by rw [clp_in (by omega) (by omega)]; omega⟩
      · have fz := srT_fld w gr z
        obtain ⟨j, j0, j1, j2, j3, j4⟩ := z (y + u) (by omega) (by omega)
        have b5 := (w.2.2.1 j j0 j1).2.2.2.1
        exact ⟨_, (hv _).mpr ⟨j, j0, j1, Or.inr (Or.inr (Or.inr rfl))⟩, by rw [clp_in (by omega) (by omega)]; omega⟩
    | succ c ih =>
      intro i M' hc i0 i1 ho' hf hC hn hv
      have vm : fr vT M M' := fr_trans vb (fr_mono hf (fun a k z => Or.inl (uS_vR a k z)))
      obtain ⟨v73, v74, v75, v76, v77, v80⟩ := vR_at vm ga.1 ga.2 i0 (by omega)
      obtain ⟨q1, q2, q3, q4, q5, q6, q7, q8⟩ := RW_band W i0 (show i < M.1 77 a by omega)
      have en : 102 * a + i + 1 = 102 * a + (i + 1) := by omega
      refine vc101_62 ho' ⟨by omega, by omega⟩ (c45 ho' a0 (by omega) (fun _ => ?_))
      rw [v77, v73, en]
      refine ⟨⟨by omega, by omega⟩, fun q => absurd q (by omega), fun _ => ⟨by omega, by omega, c58 ho' hC (by omega) ⟨by omega, by omega⟩ (fun Mc fc Cc nc uc hoc => ⟨by omega, by omega, ?_⟩)⟩⟩
      rw [fc.2 74 _ (by omega), v74]
      refine c58 hoc Cc (by omega) ⟨by omega, by omega⟩ (fun Md fd Cd nd ud hod => ⟨by omega, by omega, ?_⟩)
      rw [fd.2 73 _ (by omega), fc.2 73 _ (by omega), v73]
      refine c58 hod Cd (by omega) ⟨by omega, by omega⟩ (fun Me fe Ce ne ue hoe => ⟨by omega, by omega, ?_⟩)
      rw [fe.2 74 _ (by omega), fd.2 74 _ (by omega), fc.2 74 _ (by omega), v74]
      refine c58 hoe Ce (by omega) ⟨by omega, by omega⟩ (fun Mf ff Cf nf uf hof => ?_)
      refine ih (i + 1) Mf (by omega) (by omega) (by omega) hof (fr_trans hf (fr_trans fc (fr_trans fd (fr_trans fe ff)))) Cf (by omega) (fun v => ?_)
      rw [uf, ue, ud, uc, hv]
      constructor
      · rintro ((((⟨j, j0, j1, j2⟩ | z) | z) | z) | z)
        · exact ⟨j, j0, by omega, j2⟩
        · exact ⟨i, i0, by omega, Or.inl z⟩
        · exact ⟨i, i0, by omega, Or.inr (Or.inl z)⟩
        · exact ⟨i, i0, by omega, Or.inr (Or.inr (Or.inl z))⟩
        · exact ⟨i, i0, by omega, Or.inr (Or.inr (Or.inr z))⟩
      · rintro ⟨j, j0, j1, j2⟩
        by_cases y : j = i
        · rw [y] at j2
          rcases j2 with j2 | j2 | j2 | j2
          · exact Or.inl (Or.inl (Or.inl (Or.inr j2)))
          · exact Or.inl (Or.inl (Or.inr j2))
          · exact Or.inl (Or.inr j2)
          · exact Or.inr j2
        · exact Or.inl (Or.inl (Or.inl (Or.inl ⟨j, j0, by omega, j2⟩)))
  have z0 : 102 * a = 102 * a + 0 := by omega
  rw [z0]
  exact cuts _ 0 Mb rfl (Int.le_refl _) n0 hob fr_refl (CT_0 cb) (by omega) (fun v => ⟨fun z => absurd z (cu_0 cb v), fun ⟨j, j0, j1, _⟩ => absurd j1 (by omega)⟩)
end
