/-! ===== CellAreasModel.finish ===== -/
def hS (t : Int) : Nat → Int → Prop := fun a k => ((a = 73 ∨ a = 74 ∨ a = 75 ∨ a = 76) ∧ 102 * t ≤ k ∧ k < 102 * t + 102) ∨ ((a = 78 ∨ a = 79) ∧ 402 * t ≤ k ∧ k < 402 * t + 402) ∨ (a = 77 ∧ k = t) ∨ (a = 80 ∧ k = t)
section
variable {sc : Nat × (Int → Int)} {M : mm_M} {X : Nat → mm_M → Prop}
theorem c39 {K : Int → mm_M → Prop} {t : Int} (ho : mr_ok M) (h0 : 0 ≤ t) (h1 : t < 8)
    (hS1 : M.1 72 20 = 0 → wf (rdB M 8) ∧ am M 8 ∧ M.1 77 8 ≤ 100 ∧ M.1 80 8 ≤ 400)
    (kf : M.1 72 20 ≠ 0 → K (-2) M) (k : M.1 72 20 = 0 → ∀ M1, fr (hS t) M M1 → eqv (rdB M 8) (rdB M1 t) → am M1 t → K (M.1 77 8) M1) : en_CI sc 39 [mm_r 72, mm_i t, mm_u] M K X := by
  refine vc39_0 ho ⟨fun q => ⟨h0, by omega, h0, by omega, ?_⟩, fun q => Or.inl ⟨_, rfl, kf q⟩⟩
  obtain ⟨w1, w2, w3, w4⟩ := hS1 q
  have n0 : 0 ≤ M.1 77 8 := w1.1
  have stn : sst (rdB M 8) (sn (rdB M 8)) = M.1 80 8 := rdB_end
  have st0 : 0 ≤ M.1 80 8 := by
    have a := sst_mono w1 (Int.le_refl 0) w1.1 (Int.le_refl _)
    rw [w1.2.1, stn] at a
    exact a
  have first : ∀ j, 0 ≤ j → j < M.1 77 8 → 0 ≤ M.1 75 (816 + j) - 3216 ∧ M.1 75 (816 + j) - 3216 ≤ 400 := by
    intro j a b
    have x1 := sst_mono w1 (Int.le_refl 0) a (show j ≤ M.1 77 8 by omega)
    have x2 := sst_mono w1 a (show j ≤ M.1 77 8 by omega) (Int.le_refl _)
    have e : sst (rdB M 8) j = M.1 75 (816 + j) - 3216 := rdB_sst b
    have e2 : sst (rdB M 8) (M.1 77 8) = M.1 80 8 := rdB_end
    rw [w1.2.1] at x1
    omega
  have e80 : (mm_putN M 77 t (M.1 77 8)).1 80 8 = M.1 80 8 := put_a (by decide)
  rw [e80]
  have hoA : mr_ok (mm_putN (mm_putN M 77 t (M.1 77 8)) 80 t (M.1 80 8)) := mr_ok_putI (mr_ok_putI ho ⟨by omega, by omega⟩) ⟨by omega, by omega⟩
  have fA : fr (hS t) M (mm_putN (mm_putN M 77 t (M.1 77 8)) 80 t (M.1 80 8)) := fr_trans (fr_put (Or.inr (Or.inr (Or.inl ⟨rfl, rfl⟩)))) (fr_put (Or.inr (Or.inr (Or.inr ⟨rfl, rfl⟩))))
  have v77 : (mm_putN (mm_putN M 77 t (M.1 77 8)) 80 t (M.1 80 8)).1 77 t = M.1 77 8 := by rw [put_a (by decide), put_eq]
  have v80 : (mm_putN (mm_putN M 77 t (M.1 77 8)) 80 t (M.1 80 8)).1 80 t = M.1 80 8 := put_eq
  generalize mm_putN (mm_putN M 77 t (M.1 77 8)) 80 t (M.1 80 8) = MA at hoA fA v77 v80
  have loop2 : ∀ (c : Nat) (i : Int) (M' : mm_M), c = (M.1 80 8 - i).toNat → 0 ≤ i → i ≤ M.1 80 8 → mr_ok M' → fr (hS t) M M' → M'.1 77 t = M.1 77 8 → M'.1 80 t = M.1 80 8 →
      (∀ j, 0 ≤ j → j < M.1 77 8 → M'.1 73 (102 * t + j) = M.1 73 (816 + j) ∧ M'.1 74 (102 * t + j) = M.1 74 (816 + j) ∧ M'.1 76 (102 * t + j) = M.1 76 (816 + j) ∧ M'.1 75 (102 * t + j) = M.1 75 (816 + j) - 3216 + 402 * t) →
      (∀ j, 0 ≤ j → j < i → M'.1 78 (402 * t + j) = M.1 78 (3216 + j) ∧ M'.1 79 (402 * t + j) = M.1 79 (3216 + j)) →
      en_R sc 39 150 [mm_r 72, mm_i t, mm_i i] [] M' (fun r M1 => (∃ x, r = .inl (some (mm_i x)) ∧ K x M1) ∨ ∃ e, r = .inr e ∧ e < 100 ∧ X e M1) := by
    intro c
    induction c with
    | zero =>
      intro i M' hc i0 i1 ho' hf g77 g80 hb hj
      refine vc39_150 ho' ⟨by omega, by omega⟩ ⟨h0, by omega, fun q2 => ⟨h0, by omega, Or.inl ⟨_, rfl, ?_⟩⟩, fun q2 => absurd q2 (by omega)⟩
      rw [g77]
      have sJ : ∀ j, 0 ≤ j → j ≤ M.1 77 8 → sst (rdB M 8) j = sst (rdB M' t) j := by
        intro j a b
        by_cases z : j < M.1 77 8
        · rw [rdB_sst z, rdB_sst (by omega), (hb j a z).2.2.2]
          have e : 102 * 8 + j = 816 + j := by omega
          rw [e]
          omega
        · have e : j = M.1 77 8 := by omega
          have e1 : sst (rdB M 8) j = M.1 80 8 := by rw [e]; exact rdB_end
          have e2 : sst (rdB M' t) j = M'.1 80 t := by rw [e, ← g77]; exact rdB_end
          rw [e1, e2, g80]
      refine k q M' hf ⟨g77.symm, fun j a b => ?_, sJ, fun j a b => ?_⟩ (fun j a b => ?_)
      · have x := hb j a b
        constructor
        · show M.1 73 (102 * 8 + j) = M'.1 73 (102 * t + j)
          rw [x.1]
          rfl
        · show M.1 74 (102 * 8 + j) = M'.1 74 (102 * t + j)
          rw [x.2.1]
          rfl
      · rw [stn] at b
        have x := hj j a (by omega)
        constructor
        · show M.1 78 (402 * 8 + j) = M'.1 78 (402 * t + j)
          rw [x.1]
          rfl
        · show M.1 79 (402 * 8 + j) = M'.1 79 (402 * t + j)
          rw [x.2]
          rfl
      · rw [g77] at b
        rw [(hb j a b).2.2.1, ← sJ j a (by omega), ← sJ (j + 1) (by omega) (by omega)]
        exact w2 j a b
    | succ c ih =>
      intro i M' hc i0 i1 ho' hf g77 g80 hb hj
      have s78 : M'.1 78 (3216 + i) = M.1 78 (3216 + i) := hf.2 _ _ (by unfold hS; omega)
      have s79 : (mm_putN M' 78 (402 * t + i) (M.1 78 (3216 + i))).1 79 (3216 + i) = M.1 79 (3216 + i) := by
        rw [put_a (by decide)]
        exact hf.2 _ _ (by unfold hS; omega)
      have b1 : mr_rg (M.1 78 (3216 + i)) := ho.2.1 _ _ (by unfold mr_lg; omega)
      have b2 : mr_rg (M.1 79 (3216 + i)) := ho.2.1 _ _ (by unfold mr_lg; omega)
      refine vc39_150 ho' ⟨by omega, by omega⟩ ⟨h0, by omega, fun q2 => absurd q2 (by omega), fun q2 => ⟨by omega, by omega, by omega, by omega, by omega, by omega, by omega, by omega, ?_⟩⟩
      rw [s78, s79]
      refine ih _ _ (by omega) (by omega) (by omega) (mr_ok_putI (mr_ok_putI ho' b1) b2) (fr_trans hf (fr_trans (fr_put (Or.inr (Or.inl ⟨Or.inl rfl, by omega, by omega⟩))) (fr_put (Or.inr (Or.inl ⟨Or.inr rfl, by omega, by omega⟩))))) (by rw [put_a (by decide), put_a (by decide)]; exact g77) (by rw [put_a (by decide), put_a (by decide)]; exact g80) (fun j a b => ?_) (fun j a b => ?_)
      · rw [put_a (by decide), put_a (by decide), put_a (by decide), put_a (by decide), put_a (by decide), put_a (by decide), put_a (by decide), put_a (by decide)]
        exact hb j a b
      · by_cases z : j = i
        · rw [z, put_a (by decide), put_eq, put_eq]
          exact ⟨rfl, rfl⟩
        · rw [put_a (by decide), put_k (by omega), put_k (by omega), put_a (by decide)]
          exact hj j a (by omega)
  have loop1 : ∀ (c : Nat) (i : Int) (M' : mm_M), c = (M.1 77 8 - i).toNat → 0 ≤ i → i ≤ M.1 77 8 → mr_ok M' → fr (hS t) M M' → M'.1 77 t = M.1 77 8 → M'.1 80 t = M.1 80 8 →
      (∀ j, 0 ≤ j → j < i → M'.1 73 (102 * t + j) = M.1 73 (816 + j) ∧ M'.1 74 (102 * t + j) = M.1 74 (816 + j) ∧ M'.1 76 (102 * t + j) = M.1 76 (816 + j) ∧ M'.1 75 (102 * t + j) = M.1 75 (816 + j) - 3216 + 402 * t) →
      en_R sc 39 38 [mm_r 72, mm_i t, mm_i i] [] M' (fun r M1 => (∃ x, r = .inl (some (mm_i x)) ∧ K x M1) ∨ ∃ e, r = .inr e ∧ e < 100 ∧ X e M1) := by
    intro c
    induction c with
    | zero =>
      intro i M' hc i0 i1 ho' hf g77 g80 hb
      refine vc39_38 ho' ⟨by omega, by omega⟩ ⟨h0, by omega, fun q2 => ?_, fun q2 => absurd q2 (by omega)⟩
      exact loop2 _ 0 M' rfl (by omega) st0 ho' hf g77 g80 (fun j a b => hb j a (by omega)) (fun j a b => absurd b (by omega))
    | succ c ih =>
      intro i M' hc i0 i1 ho' hf g77 g80 hb
      have f1 := first i i0 (by omega)
      have s73 : M'.1 73 (816 + i) = M.1 73 (816 + i) := hf.2 _ _ (by unfold hS; omega)
      have s74 : (mm_putN M' 73 (102 * t + i) (M.1 73 (816 + i))).1 74 (816 + i) = M.1 74 (816 + i) := by
        rw [put_a (by decide)]
        exact hf.2 _ _ (by unfold hS; omega)
      have s76 : (mm_putN (mm_putN M' 73 (102 * t + i) (M.1 73 (816 + i))) 74 (102 * t + i) (M.1 74 (816 + i))).1 76 (816 + i) = M.1 76 (816 + i) := by
        rw [put_a (by decide), put_a (by decide)]
        exact hf.2 _ _ (by unfold hS; omega)
      have s75 : (mm_putN (mm_putN (mm_putN M' 73 (102 * t + i) (M.1 73 (816 + i))) 74 (102 * t + i) (M.1 74 (816 + i))) 76 (102 * t + i) (M.1 76 (816 + i))).1 75 (816 + i) = M.1 75 (816 + i) := by
        rw [put_a (by decide), put_a (by decide), put_a (by decide)]
        exact hf.2 _ _ (by unfold hS; omega)
      have b1 : mr_rg (M.1 73 (816 + i)) := ho.2.1 _ _ (by unfold mr_lg; omega)
      have b2 : mr_rg (M.1 74 (816 + i)) := ho.2.1 _ _ (by unfold mr_lg; omega)
      have b3 : mr_rg (M.1 76 (816 + i)) := ho.2.1 _ _ (by unfold mr_lg; omega)
      have b4 : mr_rg (M.1 75 (816 + i) - 3216 + 402 * t) := ⟨by omega, by omega⟩
      refine vc39_38 ho' ⟨by omega, by omega⟩ ⟨h0, by omega, fun q2 => absurd q2 (by omega), fun q2 => ?_⟩
      rw [s73, s74, s76, s75]
      refine ⟨by omega, by omega, by omega, by omega, by omega, by omega, by omega, by omega, by omega, by omega, by omega, by omega, by omega, by omega, by omega, by omega, b4, ?_⟩
      have ho2 : mr_ok (mm_putN (mm_putN (mm_putN (mm_putN M' 73 (102 * t + i) (M.1 73 (816 + i))) 74 (102 * t + i) (M.1 74 (816 + i))) 76 (102 * t + i) (M.1 76 (816 + i))) 75 (102 * t + i) (M.1 75 (816 + i) - 3216 + 402 * t)) := mr_ok_putI (mr_ok_putI (mr_ok_putI (mr_ok_putI ho' b1) b2) b3) b4
      have f2 : fr (fun a k => (a = 73 ∨ a = 74 ∨ a = 75 ∨ a = 76) ∧ k = 102 * t + i) M' (mm_putN (mm_putN (mm_putN (mm_putN M' 73 (102 * t + i) (M.1 73 (816 + i))) 74 (102 * t + i) (M.1 74 (816 + i))) 76 (102 * t + i) (M.1 76 (816 + i))) 75 (102 * t + i) (M.1 75 (816 + i) - 3216 + 402 * t)) :=
        fr_trans (fr_put ⟨by omega, rfl⟩) (fr_trans (fr_put ⟨by omega, rfl⟩) (fr_trans (fr_put ⟨by omega, rfl⟩) (fr_put ⟨by omega, rfl⟩)))
      have v73 : (mm_putN (mm_putN (mm_putN (mm_putN M' 73 (102 * t + i) (M.1 73 (816 + i))) 74 (102 * t + i) (M.1 74 (816 + i))) 76 (102 * t + i) (M.1 76 (816 + i))) 75 (102 * t + i) (M.1 75 (816 + i) - 3216 + 402 * t)).1 73 (102 * t + i) = M.1 73 (816 + i) := by rw [put_a (by decide), put_a (by decide), put_a (by decide), put_eq]
      have v74 : (mm_putN (mm_putN (mm_putN (mm_putN M' 73 (102 * t + i) (M.1 73 (816 + i))) 74 (102 * t + i) (M.1 74 (816 + i))) 76 (102 * t + i) (M.1 76 (816 + i))) 75 (102 * t + i) (M.1 75 (816 + i) - 3216 + 402 * t)).1 74 (102 * t + i) = M.1 74 (816 + i) := by rw [put_a (by decide), put_a (by decide), put_eq]
      have v76 : (mm_putN (mm_putN (mm_putN (mm_putN M' 73 (102 * t + i) (M.1 73 (816 + i))) 74 (102 * t + i) (M.1 74 (816 + i))) 76 (102 * t + i) (M.1 76 (816 + i))) 75 (102 * t + i) (M.1 75 (816 + i) - 3216 + 402 * t)).1 76 (102 * t + i) = M.1 76 (816 + i) := by rw [put_a (by decide), put_eq]
      have v75 : (mm_putN (mm_putN (mm_putN (mm_putN M' 73 (102 * t + i) (M.1 73 (816 + i))) 74 (102 * t + i) (M.1 74 (816 + i))) 76 (102 * t + i) (M.1 76 (816 + i))) 75 (102 * t + i) (M.1 75 (816 + i) - 3216 + 402 * t)).1 75 (102 * t + i) = M.1 75 (816 + i) - 3216 + 402 * t := put_eq
      generalize mm_putN (mm_putN (mm_putN (mm_putN M' 73 (102 * t + i) (M.1 73 (816 + i))) 74 (102 * t + i) (M.1 74 (816 + i))) 76 (102 * t + i) (M.1 76 (816 + i))) 75 (102 * t + i) (M.1 75 (816 + i) - 3216 + 402 * t) = M2 at ho2 f2 v73 v74 v75 v76
      refine ih _ M2 (by omega) (by omega) (by omega) ho2 (fr_trans hf (fr_mono f2 (fun a k q => by unfold hS; omega))) (by rw [f2.2 _ _ (by omega)]; exact g77) (by rw [f2.2 _ _ (by omega)]; exact g80) (fun j a b => ?_)
      by_cases z : j = i
      · rw [z]
        exact ⟨v73, v74, v76, v75⟩
      · rw [f2.2 _ _ (by omega), f2.2 _ _ (by omega), f2.2 _ _ (by omega), f2.2 _ _ (by omega)]
        exact hb j a (by omega)
  exact loop1 _ 0 MA rfl (by omega) n0 hoA fA v77 v80 (fun j a b => absurd b (by omega))
end
