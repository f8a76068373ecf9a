/-! ===== CellAreasModel.addRow ===== -/
def gS : Nat → Int → Prop := fun a k => ((a = 73 ∨ a = 74 ∨ a = 75 ∨ a = 76) ∧ 816 ≤ k) ∨ ((a = 78 ∨ a = 79) ∧ 3216 ≤ k) ∨ (a = 77 ∧ k = 8) ∨ (a = 80 ∧ k = 8) ∨ (a = 72 ∧ k = 20)
section
variable {sc : Nat × (Int → Int)} {M : mm_M} {X : Nat → mm_M → Prop}
theorem c38 {K : mm_M → Prop} {T : Int → Int → Prop} {low high : Int} (ho : mr_ok M) (hN : NR M) (hB : RS M T) (hl : mr_rg low) (hh : mr_rg high) (h0 : low < high → -1000 ≤ low ∧ high ≤ 1000) (hT : low < high → ∀ x y, T x y → y < low)
    (k : ∀ M1, fr gS M M1 → RS M1 (fun x y => T x y ∨ (low ≤ y ∧ y < high ∧ rN M x)) → K M1) : en_CV sc 38 [mm_r 72, mm_i low, mm_i high, mm_u, mm_u] M K X := by
  have hle := NR_le hN
  have z0 := hN.1
  have hR : ∀ x, rN M x → -1000 ≤ x ∧ x < 1000 := fun x g => rN_rg hN g
  have same : (high ≤ low ∨ ∀ x, ¬ rN M x) → ∀ x y, T x y ↔ (T x y ∨ (low ≤ y ∧ y < high ∧ rN M x)) := by
    intro q x y
    constructor
    · exact Or.inl
    · rintro (g | ⟨g0, g1, g2⟩)
      · exact g
      · rcases q with q | q
        · omega
        · exact absurd g2 (q x)
  refine vc38_0 ho hl hh ⟨fun q => ?_, fun q => ⟨fun q2 => ?_, fun q2 => ⟨fun q3 => ?_, fun q3 => ?_⟩⟩⟩
  · exact Or.inl ⟨rfl, k M fr_refl (RS_iff hB (same (Or.inr (rN_0 q))))⟩
  · exact Or.inl ⟨rfl, k M fr_refl (RS_iff hB (same (Or.inl q2)))⟩
  · have lh : low < high := by omega
    obtain ⟨l0, l1⟩ := h0 lh
    have nem : ∃ x, rN M x := ⟨M.1 85 0, 0, Int.le_refl _, by omega, Int.le_refl _, hN.2.1.1 0 (Int.le_refl _) (by omega)⟩
    have hS : wf (rdB M 8) ∧ am M 8 ∧ M.1 77 8 ≤ 100 ∧ M.1 80 8 ≤ 400 ∧ (∀ x y, has (rdB M 8) x y ↔ T x y) := by
      rcases hB with g | g
      · exact g.2
      · omega
    obtain ⟨w1, w2, w3, w4, w5⟩ := hS
    have below : ∀ x y, has (rdB M 8) x y → y < low := fun x y z => hT lh x y ((w5 x y).mp z)
    have n0 : 0 ≤ M.1 77 8 := w1.1
    have st0 : 0 ≤ M.1 80 8 := by
      have a := sst_mono w1 (Int.le_refl 0) w1.1 (Int.le_refl _)
      have b : sst (rdB M 8) (sn (rdB M 8)) = M.1 80 8 := rdB_end
      rw [w1.2.1, b] at a
      exact a
    have stn : sst (rdB M 8) (sn (rdB M 8)) = M.1 80 8 := rdB_end
    have go : (0 < sn (rdB M 8) → shi (rdB M 8) (sn (rdB M 8) - 1) = low → ∃ x, ¬ (inb (rdB M 8) (sn (rdB M 8) - 1) x ↔ rN M x)) → en_R sc 38 71 [mm_r 72, mm_i low, mm_i high, mm_i (816 + M.1 77 8), mm_u] [] M (fun r M1 => (r = .inl none ∧ K M1) ∨ ∃ e, r = .inr e ∧ e < 100 ∧ X e M1) := by
      intro hM
      refine vc38_71 ho hl hh ⟨fun z => ?_, fun z => ⟨⟨by omega, by omega⟩, fun z2 => ?_, fun z2 => ?_⟩⟩
      · obtain ⟨t, t1, t2, t3, t4⟩ := ext_new w1 l0 lh l1 hR nem below hM
        refine Or.inl ⟨rfl, k _ (fr_put (by unfold gS; omega)) (Or.inr ⟨put_eq, t, t1, fun x y => ?_, Or.inl ?_⟩)⟩
        · rw [t2, w5]
        · rw [t3]
          show 100 < M.1 77 8 + 1
          omega
      · -- a new band
        have e80 : (mm_putN (mm_putN M 73 (816 + M.1 77 8) low) 74 (816 + M.1 77 8) high).1 80 8 = M.1 80 8 := by rw [put_a (by decide), put_a (by decide)]
        have e17 : (mm_putN (mm_putN (mm_putN M 73 (816 + M.1 77 8) low) 74 (816 + M.1 77 8) high) 75 (816 + M.1 77 8) (3216 + M.1 80 8)).1 72 17 = M.1 72 17 := by rw [put_a (by decide), put_a (by decide), put_a (by decide)]
        rw [e80, e17]
        refine ⟨by omega, by omega, by omega, by omega, by omega, by omega, ⟨by omega, by omega⟩, by omega, by omega, ?_⟩
        have r3 : mr_rg (3216 + M.1 80 8) := ⟨by omega, by omega⟩
        have r4 : mr_rg (M.1 72 17) := ⟨by omega, by omega⟩
        have ho2 : mr_ok (mm_putN (mm_putN (mm_putN (mm_putN M 73 (816 + M.1 77 8) low) 74 (816 + M.1 77 8) high) 75 (816 + M.1 77 8) (3216 + M.1 80 8)) 76 (816 + M.1 77 8) (M.1 72 17)) := mr_ok_putI (mr_ok_putI (mr_ok_putI (mr_ok_putI ho hl) hh) r3) r4
        have f2 : fr (fun a k => (a = 73 ∨ a = 74 ∨ a = 75 ∨ a = 76) ∧ k = 816 + M.1 77 8) M (mm_putN (mm_putN (mm_putN (mm_putN M 73 (816 + M.1 77 8) low) 74 (816 + M.1 77 8) high) 75 (816 + M.1 77 8) (3216 + M.1 80 8)) 76 (816 + M.1 77 8) (M.1 72 17)) :=
          fr_trans (fr_put ⟨Or.inl rfl, rfl⟩) (fr_trans (fr_put ⟨Or.inr (Or.inl rfl), rfl⟩) (fr_trans (fr_put ⟨Or.inr (Or.inr (Or.inl rfl)), rfl⟩) (fr_put ⟨Or.inr (Or.inr (Or.inr rfl)), rfl⟩)))
        have v73 : (mm_putN (mm_putN (mm_putN (mm_putN M 73 (816 + M.1 77 8) low) 74 (816 + M.1 77 8) high) 75 (816 + M.1 77 8) (3216 + M.1 80 8)) 76 (816 + M.1 77 8) (M.1 72 17)).1 73 (816 + M.1 77 8) = low := by rw [put_a (by decide), put_a (by decide), put_a (by decide), put_eq]
        have v74 : (mm_putN (mm_putN (mm_putN (mm_putN M 73 (816 + M.1 77 8) low) 74 (816 + M.1 77 8) high) 75 (816 + M.1 77 8) (3216 + M.1 80 8)) 76 (816 + M.1 77 8) (M.1 72 17)).1 74 (816 + M.1 77 8) = high := by rw [put_a (by decide), put_a (by decide), put_eq]
        have v75 : (mm_putN (mm_putN (mm_putN (mm_putN M 73 (816 + M.1 77 8) low) 74 (816 + M.1 77 8) high) 75 (816 + M.1 77 8) (3216 + M.1 80 8)) 76 (816 + M.1 77 8) (M.1 72 17)).1 75 (816 + M.1 77 8) = 3216 + M.1 80 8 := by rw [put_a (by decide), put_eq]
        have v76 : (mm_putN (mm_putN (mm_putN (mm_putN M 73 (816 + M.1 77 8) low) 74 (816 + M.1 77 8) high) 75 (816 + M.1 77 8) (3216 + M.1 80 8)) 76 (816 + M.1 77 8) (M.1 72 17)).1 76 (816 + M.1 77 8) = M.1 72 17 := put_eq
        generalize mm_putN (mm_putN (mm_putN (mm_putN M 73 (816 + M.1 77 8) low) 74 (816 + M.1 77 8) high) 75 (816 + M.1 77 8) (3216 + M.1 80 8)) 76 (816 + M.1 77 8) (M.1 72 17) = M2 at ho2 f2 v73 v74 v75 v76
        have loop : ∀ (c : Nat) (i : Int) (M' : mm_M), c = (M.1 72 17 - i).toNat → 0 ≤ i → i ≤ M.1 72 17 → mr_ok M' → fr (fun a k => (a = 78 ∨ a = 79) ∧ 3216 + M.1 80 8 ≤ k) M2 M' → (∀ j, 0 ≤ j → j < i → M'.1 78 (3216 + M.1 80 8 + j) = M.1 85 j ∧ M'.1 79 (3216 + M.1 80 8 + j) = M.1 86 j) →
            en_R sc 38 151 [mm_r 72, mm_i low, mm_i high, mm_i (816 + M.1 77 8), mm_i i] [] M' (fun r M1 => (r = .inl none ∧ K M1) ∨ ∃ e, r = .inr e ∧ e < 100 ∧ X e M1) := by
          intro c
          induction c with
          | zero =>
            intro i M' hc i0 i1 ho' hf hj
            have ei : i = M.1 72 17 := by omega
            subst ei
            have g17 : M'.1 72 17 = M.1 72 17 := by rw [hf.2 _ _ (by omega), f2.2 _ _ (by omega)]
            have g80 : M'.1 80 8 = M.1 80 8 := by rw [hf.2 _ _ (by omega), f2.2 _ _ (by omega)]
            have g77 : (mm_putN M' 80 8 (M.1 80 8 + M.1 72 17)).1 77 8 = M.1 77 8 := by rw [put_a (by decide), hf.2 _ _ (by omega), f2.2 _ _ (by omega)]
            refine vc38_151 ho' ⟨by omega, by omega⟩ ⟨fun q => ?_, fun q => absurd q (by omega)⟩
            rw [g17, g80, g77]
            refine ⟨⟨by omega, by omega⟩, ⟨by omega, by omega⟩, Or.inl ⟨rfl, ?_⟩⟩
            have hfin : fr (fun a k => (a = 80 ∧ k = 8) ∨ (a = 77 ∧ k = 8)) M' (mm_putN (mm_putN M' 80 8 (M.1 80 8 + M.1 72 17)) 77 8 (M.1 77 8 + 1)) := fr_trans (fr_put (Or.inl ⟨rfl, rfl⟩)) (fr_put (Or.inr ⟨rfl, rfl⟩))
            have u77 : (mm_putN (mm_putN M' 80 8 (M.1 80 8 + M.1 72 17)) 77 8 (M.1 77 8 + 1)).1 77 8 = M.1 77 8 + 1 := put_eq
            have u80 : (mm_putN (mm_putN M' 80 8 (M.1 80 8 + M.1 72 17)) 77 8 (M.1 77 8 + 1)).1 80 8 = M.1 80 8 + M.1 72 17 := by rw [put_a (by decide), put_eq]
            generalize mm_putN (mm_putN M' 80 8 (M.1 80 8 + M.1 72 17)) 77 8 (M.1 77 8 + 1) = M1 at hfin u77 u80
            have rd : ∀ a j, a ≠ 80 → a ≠ 77 → a ≠ 78 → a ≠ 79 → M1.1 a j = M2.1 a j := fun a j q1 q2 q3 q4 => by rw [hfin.2 _ _ (by omega), hf.2 _ _ (by omega)]
            have frT : fr gS M M1 := by
              refine fr_trans (fr_mono f2 (fun a k q => ?_)) (fr_trans (fr_mono hf (fun a k q => ?_)) (fr_mono hfin (fun a k q => ?_))) <;> unfold gS <;> omega
            -- the starts
            have sI : ∀ j, 0 ≤ j → j ≤ M.1 77 8 → sst (rdB M1 8) j = sst (rdB M 8) j := by
              intro j j0 j1
              rw [rdB_sst (by omega), rd _ _ (by decide) (by decide) (by decide) (by decide)]
              by_cases q : j = M.1 77 8
              · have e : sst (rdB M 8) j = M.1 80 8 := by rw [q]; exact rdB_end
                have e2 : 102 * 8 + j = 816 + M.1 77 8 := by omega
                rw [e, e2, v75]
                omega
              · rw [rdB_sst (by omega), f2.2 _ _ (by omega)]
            have sE : sst (rdB M1 8) (M.1 77 8 + 1) = M.1 80 8 + M.1 72 17 := by
              rw [← u77, ← u80]
              exact rdB_end
            have lfO : ∀ j, 0 ≤ j → j < M.1 80 8 → slf (rdB M1 8) j = slf (rdB M 8) j ∧ srt (rdB M1 8) j = srt (rdB M 8) j := by
              intro j j0 j1
              constructor
              · show M1.1 78 (402 * 8 + j) = M.1 78 (402 * 8 + j)
                rw [hfin.2 _ _ (by omega), hf.2 _ _ (by omega), f2.2 _ _ (by omega)]
              · show M1.1 79 (402 * 8 + j) = M.1 79 (402 * 8 + j)
                rw [hfin.2 _ _ (by omega), hf.2 _ _ (by omega), f2.2 _ _ (by omega)]
            have lfN : ∀ j, M.1 80 8 ≤ j → j < M.1 80 8 + M.1 72 17 → slf (rdB M1 8) j = M.1 85 (j - M.1 80 8) ∧ srt (rdB M1 8) j = M.1 86 (j - M.1 80 8) := by
              intro j j0 j1
              have q := hj (j - M.1 80 8) (by omega) (by omega)
              have e : 3216 + M.1 80 8 + (j - M.1 80 8) = 402 * 8 + j := by omega
              rw [e] at q
              constructor
              · show M1.1 78 (402 * 8 + j) = _
                rw [hfin.2 _ _ (by omega), q.1]
              · show M1.1 79 (402 * 8 + j) = _
                rw [hfin.2 _ _ (by omega), q.2]
            have dd : ds (sst (rdB M 8) (sn (rdB M 8))) (M.1 80 8 + M.1 72 17) (slf (rdB M1 8)) (srt (rdB M1 8)) := by
              rw [stn]
              refine ⟨fun j a b => ?_, fun j a b => ?_⟩
              · rw [(lfN j a b).1, (lfN j a b).2]
                exact hN.2.1.1 _ (by omega) (by omega)
              · rw [(lfN j a (by omega)).2, (lfN (j + 1) (by omega) b).1]
                have q := hN.2.1.2 (j - M.1 80 8) (by omega) (by omega)
                have e : j + 1 - M.1 80 8 = j - M.1 80 8 + 1 := by omega
                rw [e]
                exact q
            have bb : ∀ j, sst (rdB M 8) (sn (rdB M 8)) ≤ j → j < M.1 80 8 + M.1 72 17 → -1000 ≤ slf (rdB M1 8) j ∧ srt (rdB M1 8) j ≤ 1000 := by
              rw [stn]
              intro j a b
              rw [(lfN j a b).1, (lfN j a b).2]
              exact hN.2.2 _ (by omega) (by omega)
            have rr : ∀ x, rN M x ↔ din (sst (rdB M 8) (sn (rdB M 8))) (M.1 80 8 + M.1 72 17) (slf (rdB M1 8)) (srt (rdB M1 8)) x := by
              rw [stn]
              intro x
              constructor
              · rintro ⟨j, a, b, c, d⟩
                have q := lfN (M.1 80 8 + j) (by omega) (by omega)
                have e : M.1 80 8 + j - M.1 80 8 = j := by omega
                rw [e] at q
                exact ⟨M.1 80 8 + j, by omega, by omega, by rw [q.1]; exact c, by rw [q.2]; exact d⟩
              · rintro ⟨j, a, b, c, d⟩
                rw [(lfN j a b).1] at c
                rw [(lfN j a b).2] at d
                exact ⟨j - M.1 80 8, by omega, by omega, c, d⟩
            have R := new_ok (R := rN M) w1 l0 lh l1 (by rw [stn]; omega) dd (fun j a b => lfO j a (by rw [stn] at b; exact b)) bb rr (below_hi w1 below) hM
            have E : eqv (sNew (rdB M 8) low high (M.1 80 8 + M.1 72 17) (slf (rdB M1 8)) (srt (rdB M1 8))) (rdB M1 8) := by
              have nn : sn (sNew (rdB M 8) low high (M.1 80 8 + M.1 72 17) (slf (rdB M1 8)) (srt (rdB M1 8))) = M.1 77 8 + 1 := rfl
              refine ⟨by rw [nn]; exact u77.symm, fun j a b => ?_, fun j a b => ?_, fun j a b => ⟨rfl, rfl⟩⟩
              · rw [nn] at b
                show fu (slo (rdB M 8)) (M.1 77 8) low j = M1.1 73 (102 * 8 + j) ∧ fu (shi (rdB M 8)) (M.1 77 8) high j = M1.1 74 (102 * 8 + j)
                rw [rd _ _ (by decide) (by decide) (by decide) (by decide), rd _ _ (by decide) (by decide) (by decide) (by decide)]
                by_cases q : j = M.1 77 8
                · have e2 : 102 * 8 + j = 816 + M.1 77 8 := by omega
                  rw [e2, v73, v74, q]
                  exact ⟨fu_eq, fu_eq⟩
                · rw [fu_ne q, fu_ne q, f2.2 _ _ (by omega), f2.2 _ _ (by omega)]
                  exact ⟨rfl, rfl⟩
              · rw [nn] at b
                show fu (sst (rdB M 8)) (M.1 77 8 + 1) (M.1 80 8 + M.1 72 17) j = sst (rdB M1 8) j
                by_cases q : j = M.1 77 8 + 1
                · rw [q, fu_eq, sE]
                · rw [fu_ne q, sI j a (by omega)]
            refine k M1 frT (Or.inl ⟨?_, eqv_wf R.1 E, fun j a b => ?_, by omega, by omega, fun x y => ?_⟩)
            · rw [hfin.2 _ _ (by omega), hf.2 _ _ (by omega), f2.2 _ _ (by omega)]
              exact q3
            · rw [u77] at b
              rw [rd _ _ (by decide) (by decide) (by decide) (by decide)]
              by_cases q : j = M.1 77 8
              · have e2 : 102 * 8 + j = 816 + M.1 77 8 := by omega
                rw [e2, v76, q, sE, sI _ n0 (Int.le_refl _)]
                have := stn
                have e : sst (rdB M 8) (M.1 77 8) = M.1 80 8 := rdB_end
                omega
              · rw [f2.2 _ _ (by omega), sI j a (by omega), sI (j + 1) (by omega) (by omega)]
                exact w2 j a (by omega)
            · rw [← eqv_has R.1 E, R.2, w5]
          | succ c ih =>
            intro i M' hc i0 i1 ho' hf hj
            have g17 : M'.1 72 17 = M.1 72 17 := by rw [hf.2 _ _ (by omega), f2.2 _ _ (by omega)]
            have g75 : M'.1 75 (816 + M.1 77 8) = 3216 + M.1 80 8 := by rw [hf.2 _ _ (by omega), v75]
            have g85 : M'.1 85 i = M.1 85 i := by rw [hf.2 _ _ (by omega), f2.2 _ _ (by omega)]
            have g86 : M'.1 86 i = M.1 86 i := by rw [hf.2 _ _ (by omega), f2.2 _ _ (by omega)]
            refine vc38_151 ho' ⟨by omega, by omega⟩ ⟨fun q => absurd q (by omega), fun q => ?_⟩
            have h75 : (mm_putN M' 78 (3216 + M.1 80 8 + i) (M.1 85 i)).1 75 (816 + M.1 77 8) = 3216 + M.1 80 8 := by rw [put_a (by decide)]; exact g75
            have h86 : (mm_putN M' 78 (3216 + M.1 80 8 + i) (M.1 85 i)).1 86 i = M.1 86 i := by rw [put_a (by decide)]; exact g86
            rw [g75, g85, h75, h86]
            refine ⟨by omega, by omega, by omega, by omega, by omega, by omega, by omega, by omega, by omega, by omega, by omega, by omega, ?_⟩
            have b1 : mr_rg (M.1 85 i) := ho.2.1 _ _ (by unfold mr_lg; omega)
            have b2 : mr_rg (M.1 86 i) := ho.2.1 _ _ (by unfold mr_lg; omega)
            refine ih _ _ (by omega) (by omega) (by omega) (mr_ok_putI (mr_ok_putI ho' b1) b2) (fr_trans hf (fr_trans (fr_put ⟨Or.inl rfl, by omega⟩) (fr_put ⟨Or.inr rfl, by omega⟩))) (fun j a b => ?_)
            by_cases q : j = i
            · rw [q, put_a (by decide), put_eq, put_eq]
              exact ⟨rfl, rfl⟩
            · rw [put_a (by decide), put_k (by omega), put_k (by omega), put_a (by decide)]
              exact hj j a (by omega)
        exact loop _ 0 M2 rfl (by omega) z0 ho2 fr_refl (fun j a b => absurd b (by omega))
      · -- too many stretches
        have R := new_ok (R := rN M) (m := M.1 80 8 + M.1 72 17) (lf := fun j => if j < M.1 80 8 then slf (rdB M 8) j else M.1 85 (j - M.1 80 8)) (rt := fun j => if j < M.1 80 8 then srt (rdB M 8) j else M.1 86 (j - M.1 80 8)) w1 l0 lh l1 (by rw [stn]; omega) ?_ ?_ ?_ ?_ (below_hi w1 below) hM
        · refine Or.inl ⟨rfl, k _ (fr_put (by unfold gS; omega)) (Or.inr ⟨put_eq, _, R.1, fun x y => ?_, Or.inr ?_⟩)⟩
          · rw [R.2, w5]
          · have e : sst (sNew (rdB M 8) low high (M.1 80 8 + M.1 72 17) (fun j => if j < M.1 80 8 then slf (rdB M 8) j else M.1 85 (j - M.1 80 8)) (fun j => if j < M.1 80 8 then srt (rdB M 8) j else M.1 86 (j - M.1 80 8))) (sn (rdB M 8) + 1) = M.1 80 8 + M.1 72 17 := fu_eq
            show 400 < sst _ (sn (rdB M 8) + 1)
            rw [e]
            omega
        · rw [stn]
          refine ⟨fun j a b => ?_, fun j a b => ?_⟩
          · show (if j < M.1 80 8 then _ else _) < (if j < M.1 80 8 then _ else _)
            rw [if_neg (by omega), if_neg (by omega)]
            exact hN.2.1.1 _ (by omega) (by omega)
          · show (if j < M.1 80 8 then _ else _) < (if j + 1 < M.1 80 8 then _ else _)
            rw [if_neg (by omega), if_neg (by omega)]
            have q := hN.2.1.2 (j - M.1 80 8) (by omega) (by omega)
            have e : j + 1 - M.1 80 8 = j - M.1 80 8 + 1 := by omega
            rw [e]
            exact q
        · rw [stn]
          intro j a b
          exact ⟨if_pos b, if_pos b⟩
        · rw [stn]
          intro j a b
          show -1000 ≤ (if j < M.1 80 8 then _ else _) ∧ (if j < M.1 80 8 then _ else _) ≤ 1000
          rw [if_neg (by omega), if_neg (by omega)]
          exact hN.2.2 _ (by omega) (by omega)
        · rw [stn]
          intro x
          constructor
          · rintro ⟨j, a, b, c, d⟩
            refine ⟨M.1 80 8 + j, by omega, by omega, ?_, ?_⟩
            · show (if M.1 80 8 + j < M.1 80 8 then _ else _) ≤ x
              have e : M.1 80 8 + j - M.1 80 8 = j := by omega
              rw [if_neg (by omega), e]
              exact c
            · show x < (if M.1 80 8 + j < M.1 80 8 then _ else _)
              have e : M.1 80 8 + j - M.1 80 8 = j := by omega
              rw [if_neg (by omega), e]
              exact d
          · rintro ⟨j, a, b, c, d⟩
            have c' : (if j < M.1 80 8 then slf (rdB M 8) j else M.1 85 (j - M.1 80 8)) ≤ x := c
            have d' : x < (if j < M.1 80 8 then srt (rdB M 8) j else M.1 86 (j - M.1 80 8)) := d
            rw [if_neg (by omega)] at c' d'
            exact ⟨j - M.1 80 8, by omega, by omega, c', d'⟩
    have hi8 : shi (rdB M 8) (sn (rdB M 8) - 1) = M.1 74 (816 + M.1 77 8 - 1) := by
      show M.1 74 (102 * 8 + (M.1 77 8 - 1)) = _
      have e : 102 * 8 + (M.1 77 8 - 1) = 816 + M.1 77 8 - 1 := by omega
      rw [e]
    refine ⟨fun z => go (fun g _ => ?_), fun z => ⟨by omega, by omega, fun z2 => go (fun _ g => absurd (hi8.symm.trans g) z2), fun z2 => ?_⟩⟩
    · have : 0 < M.1 77 8 := g
      omega
    · have z2' : M.1 74 (816 + M.1 77 8 - 1) = low := Classical.byContradiction z2
      refine c37 ho hN w1 w2 (by omega) w3 w4 (fun eq _ => ⟨⟨by decide, by decide⟩, fun g => absurd g (by decide), fun _ => ⟨by omega, by omega, ?_⟩⟩) (fun neq _ => ⟨⟨by decide, by decide⟩, fun _ => go (fun _ _ => neq), fun g => absurd rfl g⟩)
      have R := merge_ok (R := rN M) w1 (show 0 < M.1 77 8 by omega) (hi8.trans z2') lh l1 eq
      have f1 : fr (fun a k => a = 74 ∧ k = 816 + M.1 77 8 - 1) M (mm_putN M 74 (816 + M.1 77 8 - 1) high) := fr_put ⟨rfl, rfl⟩
      have v : (mm_putN M 74 (816 + M.1 77 8 - 1) high).1 74 (816 + M.1 77 8 - 1) = high := put_eq
      generalize mm_putN M 74 (816 + M.1 77 8 - 1) high = M1 at f1 v
      have rd : ∀ a j, a ≠ 74 → M1.1 a j = M.1 a j := fun a j q => f1.2 _ _ (by omega)
      have E : eqv (sMerge (rdB M 8) high) (rdB M1 8) := by
        refine ⟨(rd _ _ (by decide)).symm, fun j a b => ⟨(rd _ _ (by decide)).symm, ?_⟩, fun j a b => ?_, fun j a b => ⟨(rd _ _ (by decide)).symm, (rd _ _ (by decide)).symm⟩⟩
        · show fu (shi (rdB M 8)) (M.1 77 8 - 1) high j = M1.1 74 (102 * 8 + j)
          by_cases q : j = M.1 77 8 - 1
          · have e : 102 * 8 + j = 816 + M.1 77 8 - 1 := by omega
            rw [e, v, q]
            exact fu_eq
          · rw [fu_ne q, f1.2 _ _ (by omega)]
            rfl
        · show (if j < M.1 77 8 then M.1 75 (102 * 8 + j) - 402 * 8 else M.1 80 8) = (if j < M1.1 77 8 then M1.1 75 (102 * 8 + j) - 402 * 8 else M1.1 80 8)
          rw [rd 77 _ (by decide), rd 75 _ (by decide), rd 80 _ (by decide)]
      have sI : ∀ j, sst (rdB M1 8) j = sst (rdB M 8) j := by
        intro j
        show (if j < M1.1 77 8 then M1.1 75 (102 * 8 + j) - 402 * 8 else M1.1 80 8) = (if j < M.1 77 8 then M.1 75 (102 * 8 + j) - 402 * 8 else M.1 80 8)
        rw [rd 77 _ (by decide), rd 75 _ (by decide), rd 80 _ (by decide)]
      refine Or.inl ⟨rfl, k M1 (fr_mono f1 (fun a k q => by unfold gS; omega)) (Or.inl ⟨by rw [rd 72 _ (by decide)]; exact q3, eqv_wf R.1 E, fun j a b => ?_, by rw [rd 77 _ (by decide)]; exact w3, by rw [rd 80 _ (by decide)]; exact w4, fun x y => ?_⟩)⟩
      · rw [rd 76 _ (by decide), sI, sI]
        exact w2 j a (by rw [rd 77 _ (by decide)] at b; exact b)
      · rw [← eqv_has R.1 E, R.2, w5]
  · refine Or.inl ⟨rfl, k M fr_refl ?_⟩
    have lh : low < high := by omega
    have nem : ∃ x, rN M x := ⟨M.1 85 0, 0, Int.le_refl _, by omega, Int.le_refl _, hN.2.1.1 0 (Int.le_refl _) (by omega)⟩
    rcases hB with g | ⟨a, s, g1, g2, g3⟩
    · exact absurd g.1 q3
    · obtain ⟨t, t1, t2, t3, t4⟩ := ext g1 (h0 lh).1 lh (h0 lh).2 hR nem (fun x y z => hT lh x y ((g2 x y).mp z))
      refine Or.inr ⟨a, t, t1, fun x y => ?_, by omega⟩
      rw [t2, g2]
end
