/-! ===== small ones: stretches, below, above, newToOne ===== -/
section
variable {sc : Nat × (Int → Int)} {M : mm_M} {X : Nat → mm_M → Prop}
/-- Area.stretches -/
theorem c79 {K : Int → mm_M → Prop} {a : Nat} (ho : mr_ok M) (h : AW M a) (k : K (M.1 (a + 3) (M.1 a 0)) M) : en_CI sc 79 [mm_r a] M K X := by
  have n0 : 0 ≤ M.1 a 0 := h.2.1.1
  have n1 := h.2.2.1
  exact vc79_0 ho h.1 ⟨n0, by omega, Or.inl ⟨_, rfl, k⟩⟩
/-- Area.below -/
theorem c96 {K : Int → mm_M → Prop} {a : Nat} {i : Int} (ho : mr_ok M) (hA : mr_A a) (hi : mr_rg i) (hi1 : i < 100) (k1 : ¬ (0 < i ∧ M.1 (a + 2) (i - 1) = M.1 (a + 1) i) → K (-1) M) (k2 : 0 < i → M.1 (a + 2) (i - 1) = M.1 (a + 1) i → K (i - 1) M) : en_CI sc 96 [mm_r a, mm_i i] M K X :=
  vc96_0 ho hi hA ⟨fun q => Or.inl ⟨_, rfl, k1 (fun z => by omega)⟩, fun q => ⟨by omega, by omega, by omega, by omega, fun q2 => Or.inl ⟨_, rfl, k1 (fun z => q2 z.2)⟩, fun q2 => Or.inl ⟨_, rfl, k2 (by omega) (Classical.byContradiction q2)⟩⟩⟩
/-- Area.above -/
theorem c119 {K : Int → mm_M → Prop} {a : Nat} {i : Int} (ho : mr_ok M) (h : AW M a) (hi : 0 ≤ i) (hi1 : i < 100) (k1 : ¬ (i + 1 < M.1 a 0 ∧ M.1 (a + 1) (i + 1) = M.1 (a + 2) i) → K (-1) M) (k2 : i + 1 < M.1 a 0 → M.1 (a + 1) (i + 1) = M.1 (a + 2) i → K (i + 1) M) : en_CI sc 119 [mm_r a, mm_i i] M K X := by
  have n1 := h.2.2.1
  exact vc119_0 ho h.1 ⟨⟨by omega, by omega⟩, fun q => Or.inl ⟨_, rfl, k1 (fun z => by omega)⟩, fun q => ⟨by omega, by omega, by omega, by omega, fun q2 => Or.inl ⟨_, rfl, k1 (fun z => q2 z.2)⟩, fun q2 => Or.inl ⟨_, rfl, k2 (by omega) (Classical.byContradiction q2)⟩⟩⟩
/-- CellAreasModel.newToOne -/
theorem c94 {K : mm_M → Prop} (ho : mr_ok M) (hN : NR M) (k : ∀ M1, fr (fun b k => b = 81 ∨ b = 82 ∨ (b = 72 ∧ k = 11)) M M1 → M1.1 72 11 = M.1 72 17 → (∀ j, 0 ≤ j → j < M.1 72 17 → M1.1 81 j = M.1 85 j ∧ M1.1 82 j = M.1 86 j) → K M1) : en_CV sc 94 [mm_r 72, mm_u] M K X := by
  have hle := NR_le hN
  have h0 := hN.1
  refine vc94_0 ho ?_
  have loop : ∀ (c : Nat) (i : Int) (M' : mm_M), c = (M.1 72 17 - i).toNat → 0 ≤ i → i ≤ M.1 72 17 → mr_ok M' → fr (fun b k => b = 81 ∨ b = 82 ∨ (b = 72 ∧ k = 11)) M M' → M'.1 72 11 = M.1 72 17 → (∀ j, 0 ≤ j → j < i → M'.1 81 j = M.1 85 j ∧ M'.1 82 j = M.1 86 j) →
      en_R sc 94 10 [mm_r 72, mm_i i] [] M' (fun r M1 => (r = .inl none ∧ K M1) ∨ ∃ e, r = .inr e ∧ e < 100 ∧ X e M1) := by
    intro c
    induction c with
    | zero =>
      intro i M' hc i0 i1 ho' hf hs hj
      have e : M'.1 72 17 = M.1 72 17 := hf.2 _ _ (by omega)
      exact vc94_10 ho' ⟨by omega, by omega⟩ ⟨fun q => Or.inl ⟨rfl, k M' hf hs (fun j a b => hj j a (by omega))⟩, fun q => absurd q (by omega)⟩
    | succ c ih =>
      intro i M' hc i0 i1 ho' hf hs hj
      have e : M'.1 72 17 = M.1 72 17 := hf.2 _ _ (by omega)
      have e85 : M'.1 85 i = M.1 85 i := hf.2 _ _ (by omega)
      have e86 : (mm_putN M' 81 i (M.1 85 i)).1 86 i = M.1 86 i := by rw [put_a (by decide)]; exact hf.2 _ _ (by omega)
      have r1 : mr_rg (M.1 85 i) := ho.2.1 _ _ (by unfold mr_lg; omega)
      have r2 : mr_rg (M.1 86 i) := ho.2.1 _ _ (by unfold mr_lg; omega)
      refine vc94_10 ho' ⟨by omega, by omega⟩ ⟨fun q => absurd q (by omega), fun q => ?_⟩
      rw [e85, e86]
      refine ⟨by omega, by omega, by omega, by omega, by omega, by omega, by omega, by omega, ?_⟩
      refine ih _ _ (by omega) (by omega) (by omega) (mr_ok_putI (mr_ok_putI ho' r1) r2) (fr_trans hf (fr_trans (fr_put (Or.inl rfl)) (fr_put (Or.inr (Or.inl rfl))))) (by rw [put_a (by decide), put_a (by decide)]; exact hs) (fun j a b => ?_)
      by_cases z : j = i
      · rw [z, put_a (by decide), put_eq, put_eq]
        exact ⟨rfl, rfl⟩
      · rw [put_a (by decide), put_k z, put_k z, put_a (by decide)]
        exact hj j a (by omega)
  exact loop _ 0 _ rfl (by omega) h0 (mr_ok_putI ho ⟨by omega, by omega⟩) (fr_put (Or.inr (Or.inr ⟨rfl, rfl⟩))) put_eq (fun j a b => absurd b (by omega))
end
