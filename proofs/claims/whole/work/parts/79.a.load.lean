/-! ===== the reference: bandAt, loadOne, loadTwo ===== -/
/-- a row that is held in the arrays p and q, its size in field f -/
def NRg (M : mm_M) (p q : Nat) (f : Int) : Prop := 0 ≤ M.1 72 f ∧ ds 0 (M.1 72 f) (M.1 p) (M.1 q) ∧ dbd 0 (M.1 72 f) (M.1 p) (M.1 q)
def rNg (M : mm_M) (p q : Nat) (f : Int) (x : Int) : Prop := din 0 (M.1 72 f) (M.1 p) (M.1 q) x
section
variable {sc : Nat × (Int → Int)} {M : mm_M} {X : Nat → mm_M → Prop}
def bvI (M : mm_M) (a y i v : Int) : Prop := v = -1 ∧ (∀ j, 0 ≤ j → j < i → ¬ (M.1 73 (102 * a + j) ≤ y ∧ y < M.1 74 (102 * a + j))) ∨ ∃ j, 0 ≤ j ∧ j < i ∧ v = 102 * a + j ∧ M.1 73 (102 * a + j) ≤ y ∧ y < M.1 74 (102 * a + j)
theorem c45 {K : Int → mm_M → Prop} {a : Int} (ho : mr_ok M) (h0 : 0 ≤ a) (h1 : a < 9) (k : K (102 * a + M.1 77 a) M) : en_CI sc 45 [mm_r 72, mm_i a] M K X := vc45_0 ho ⟨h0, h1, Or.inl ⟨_, rfl, k⟩⟩
/-- CellAreasModel.bandAt -/
theorem c60 {K : Int → mm_M → Prop} {a y : Int} (ho : mr_ok M) (h0 : 0 ≤ a) (h1 : a < 9) (hW : RWk M a) (hy : mr_rg y)
    (k1 : (∀ i, 0 ≤ i → i < M.1 77 a → ¬ (M.1 73 (102 * a + i) ≤ y ∧ y < M.1 74 (102 * a + i))) → K (-1) M) (k2 : ∀ i, 0 ≤ i → i < M.1 77 a → M.1 73 (102 * a + i) ≤ y → y < M.1 74 (102 * a + i) → K (102 * a + i) M) : en_CI sc 60 [mm_r 72, mm_i a, mm_i y, mm_u, mm_u] M K X := by
  have n0 : 0 ≤ M.1 77 a := hW.1.1
  have n1 := hW.2.2.1
  refine vc60_0 ho ?_
  have loop : ∀ (c : Nat) (i v : Int), c = (M.1 77 a - i).toNat → 0 ≤ i → i ≤ M.1 77 a → bvI M a y i v →
      en_R sc 60 8 [mm_r 72, mm_i a, mm_i y, mm_i v, mm_i (102 * a + i)] [] M (fun r M1 => (∃ x, r = .inl (some (mm_i x)) ∧ K x M1) ∨ ∃ e, r = .inr e ∧ e < 100 ∧ X e M1) := by
    intro c
    induction c with
    | zero =>
      intro i v hc i0 i1 hv
      refine vc60_8 ho ⟨by omega, by omega⟩ hy (c45 ho h0 h1 (fun _ => ⟨⟨by omega, by omega⟩, fun q => Or.inl ⟨_, rfl, ?_⟩, fun q => absurd q (by omega)⟩))
      unfold bvI at hv
      rcases hv with ⟨g1, g2⟩ | ⟨j, j0, j1, j2, j3, j4⟩
      · rw [g1]
        exact k1 (fun j a b => g2 j a (by omega))
      · rw [j2]
        exact k2 j j0 (by omega) j3 j4
    | succ c ih =>
      intro i v hc i0 i1 hv
      have e : 102 * a + i + 1 = 102 * a + (i + 1) := by omega
      have keep : ¬ (M.1 73 (102 * a + i) ≤ y ∧ y < M.1 74 (102 * a + i)) → en_R sc 60 8 [mm_r 72, mm_i a, mm_i y, mm_i v, mm_i (102 * a + i + 1)] [] M (fun r M1 => (∃ x, r = .inl (some (mm_i x)) ∧ K x M1) ∨ ∃ e, r = .inr e ∧ e < 100 ∧ X e M1) := by
        intro q
        rw [e]
        refine ih _ _ (by omega) (by omega) (by omega) ?_
        unfold bvI at hv
        rcases hv with ⟨g1, g2⟩ | ⟨j, j0, j1, j2⟩
        · refine Or.inl ⟨g1, fun j a b => ?_⟩
          by_cases z : j = i
          · rw [z]; exact q
          · exact g2 j a (by omega)
        · exact Or.inr ⟨j, j0, by omega, j2⟩
      refine vc60_8 ho ⟨by omega, by omega⟩ hy (c45 ho h0 h1 (fun _ => ⟨⟨by omega, by omega⟩, fun q => absurd q (by omega), fun q => ⟨by omega, by omega, fun q2 => keep (by omega), fun q2 => ⟨by omega, by omega, fun q3 => keep (by omega), fun q3 => ?_⟩⟩⟩))
      rw [e]
      exact ih _ _ (by omega) (by omega) (by omega) (Or.inr ⟨i, i0, by omega, rfl, by omega, by omega⟩)
  have := loop _ 0 (-1) rfl (by omega) n0 (Or.inl ⟨rfl, fun j a b => absurd b (by omega)⟩)
  have e : 102 * a + 0 = 102 * a := by omega
  rw [e] at this
  exact this
/-- CellAreasModel.loadOne -/
theorem c61 {K : mm_M → Prop} {a y : Int} (ho : mr_ok M) (h0 : 0 ≤ a) (h1 : a < 9) (hW : RWk M a) (hy : mr_rg y)
    (k : ∀ M1, fr (fun b k => b = 81 ∨ b = 82 ∨ (b = 72 ∧ k = 11)) M M1 → NRg M1 81 82 11 → M1.1 72 11 ≤ 400 → (∀ x, rNg M1 81 82 11 x ↔ has (rdB M a) x y) → K M1) : en_CV sc 61 [mm_r 72, mm_i a, mm_i y, mm_u, mm_u] M K X := by
  have n0 : 0 ≤ M.1 77 a := hW.1.1
  have n1 := hW.2.2.1
  refine vc61_0 ho (c60 ho h0 h1 hW hy (fun no _ => ⟨⟨by decide, by decide⟩, fun z => absurd z (by decide), fun _ => ?_⟩) (fun i i0 i1 i2 i3 _ => ⟨⟨by omega, by omega⟩, fun _ => ⟨by omega, by omega, ?_⟩, fun z => absurd (by omega) z⟩))
  · have hob : mr_ok (mm_putN M 72 11 0) := mr_ok_putI ho ⟨by decide, by decide⟩
    have fb : fr (fun b k => b = 81 ∨ b = 82 ∨ (b = 72 ∧ k = 11)) M (mm_putN M 72 11 0) := fr_put (Or.inr (Or.inr ⟨rfl, rfl⟩))
    have eb : (mm_putN M 72 11 0).1 72 11 = 0 := put_eq
    generalize mm_putN M 72 11 0 = Mb at hob fb eb
    refine vc61_28 hob ⟨by decide, by decide⟩ ⟨fun q => Or.inl ⟨rfl, k Mb fb ?_ (by omega) (fun x => ⟨?_, ?_⟩)⟩, fun q => absurd q (by omega)⟩
    · unfold NRg
      rw [eb]
      exact ⟨by decide, ⟨fun k a b => absurd b (by omega), fun k a b => absurd b (by omega)⟩, fun k a b => absurd b (by omega)⟩
    · unfold rNg
      rw [eb]
      rintro ⟨k, a, b, _⟩
      omega
    · rintro ⟨i, i0, i1, i2, i3, _⟩
      exact absurd ⟨i2, i3⟩ (no i i0 i1)
  · have bk := hW.1.2.2.1 i i0 i1
    have est : sst (rdB M a) i = M.1 75 (102 * a + i) - 402 * a := rdB_sst i1
    have ea := hW.2.1 i i0 i1
    have s0 := sst_mono hW.1 (Int.le_refl 0) i0 (show i ≤ M.1 77 a by omega)
    have s1 := sst_mono hW.1 (by omega : 0 ≤ i + 1) (show i + 1 ≤ M.1 77 a by omega) (Int.le_refl _)
    have sE : sst (rdB M a) (M.1 77 a) = M.1 80 a := rdB_end
    rw [hW.1.2.1] at s0
    rw [sE] at s1
    have w4 := hW.2.2.2
    have b1 := bk.1
    have rgA : mr_rg (M.1 76 (102 * a + i)) := ⟨by omega, by omega⟩
    have hob : mr_ok (mm_putN M 72 11 (M.1 76 (102 * a + i))) := mr_ok_putI ho rgA
    have fb : fr (fun b k => b = 81 ∨ b = 82 ∨ (b = 72 ∧ k = 11)) M (mm_putN M 72 11 (M.1 76 (102 * a + i))) := fr_put (Or.inr (Or.inr ⟨rfl, rfl⟩))
    have eb : (mm_putN M 72 11 (M.1 76 (102 * a + i))).1 72 11 = M.1 76 (102 * a + i) := put_eq
    generalize mm_putN M 72 11 (M.1 76 (102 * a + i)) = Mb at hob fb eb
    have loop : ∀ (c : Nat) (j : Int) (M' : mm_M), c = (M.1 76 (102 * a + i) - j).toNat → 0 ≤ j → j ≤ M.1 76 (102 * a + i) → mr_ok M' → fr (fun b k => b = 81 ∨ b = 82 ∨ (b = 72 ∧ k = 11)) M M' → M'.1 72 11 = M.1 76 (102 * a + i) → (∀ k, 0 ≤ k → k < j → M'.1 81 k = M.1 78 (M.1 75 (102 * a + i) + k) ∧ M'.1 82 k = M.1 79 (M.1 75 (102 * a + i) + k)) →
        en_R sc 61 28 [mm_r 72, mm_i a, mm_i y, mm_i (102 * a + i), mm_i j] [] M' (fun r M1 => (r = .inl none ∧ K M1) ∨ ∃ e, r = .inr e ∧ e < 100 ∧ X e M1) := by
      intro c
      induction c with
      | zero =>
        intro j M' hc j0 j1 ho' hf hs hj
        have ej : j = M.1 76 (102 * a + i) := by omega
        have L : ∀ k, 0 ≤ k → k < M.1 76 (102 * a + i) → M'.1 81 k = slf (rdB M a) (sst (rdB M a) i + k) ∧ M'.1 82 k = srt (rdB M a) (sst (rdB M a) i + k) := by
          intro k k0 k1
          have x := hj k k0 (by omega)
          have e : 402 * a + (sst (rdB M a) i + k) = M.1 75 (102 * a + i) + k := by omega
          constructor
          · show M'.1 81 k = M.1 78 (402 * a + (sst (rdB M a) i + k))
            rw [e]; exact x.1
          · show M'.1 82 k = M.1 79 (402 * a + (sst (rdB M a) i + k))
            rw [e]; exact x.2
        refine vc61_28 ho' ⟨by omega, by omega⟩ ⟨fun q => Or.inl ⟨rfl, k M' hf ?_ (by omega) (fun x => ?_)⟩, fun q => absurd q (by omega)⟩
        · unfold NRg
          rw [hs]
          refine ⟨by omega, ⟨fun k k0 k1 => ?_, fun k k0 k1 => ?_⟩, fun k k0 k1 => ?_⟩
          · rw [(L k k0 k1).1, (L k k0 k1).2]
            exact bk.2.2.2.2.1.1 _ (by omega) (by omega)
          · rw [(L k k0 (by omega)).2, (L (k + 1) (by omega) k1).1]
            have q2 := bk.2.2.2.2.1.2 (sst (rdB M a) i + k) (by omega) (by omega)
            have e : sst (rdB M a) i + (k + 1) = sst (rdB M a) i + k + 1 := by omega
            rw [e]
            exact q2
          · rw [(L k k0 k1).1, (L k k0 k1).2]
            exact bk.2.2.2.2.2 _ (by omega) (by omega)
        · rw [has_at hW.1 i0 i1 i2 i3]
          unfold rNg inb
          rw [hs]
          constructor
          · rintro ⟨k, k0, k1, k2, k3⟩
            rw [(L k k0 k1).1] at k2
            rw [(L k k0 k1).2] at k3
            exact ⟨sst (rdB M a) i + k, by omega, by omega, k2, k3⟩
          · rintro ⟨k, k0, k1, k2, k3⟩
            have x := L (k - sst (rdB M a) i) (by omega) (by omega)
            have e : sst (rdB M a) i + (k - sst (rdB M a) i) = k := by omega
            rw [e] at x
            exact ⟨k - sst (rdB M a) i, by omega, by omega, by rw [x.1]; exact k2, by rw [x.2]; exact k3⟩
      | succ c ih =>
        intro j M' hc j0 j1 ho' hf hs hj
        have e75 : M'.1 75 (102 * a + i) = M.1 75 (102 * a + i) := hf.2 _ _ (by omega)
        have e78 : M'.1 78 (M.1 75 (102 * a + i) + j) = M.1 78 (M.1 75 (102 * a + i) + j) := hf.2 _ _ (by omega)
        have g75 : (mm_putN M' 81 j (M.1 78 (M.1 75 (102 * a + i) + j))).1 75 (102 * a + i) = M.1 75 (102 * a + i) := by rw [put_a (by decide)]; exact e75
        have g79 : (mm_putN M' 81 j (M.1 78 (M.1 75 (102 * a + i) + j))).1 79 (M.1 75 (102 * a + i) + j) = M.1 79 (M.1 75 (102 * a + i) + j) := by rw [put_a (by decide)]; exact hf.2 _ _ (by omega)
        have r1 : mr_rg (M.1 78 (M.1 75 (102 * a + i) + j)) := ho.2.1 _ _ (by unfold mr_lg; omega)
        have r2 : mr_rg (M.1 79 (M.1 75 (102 * a + i) + j)) := ho.2.1 _ _ (by unfold mr_lg; omega)
        refine vc61_28 ho' ⟨by omega, by omega⟩ ⟨fun q => absurd q (by omega), fun q => ?_⟩
        rw [e75, e78, g75, g79]
        refine ⟨by omega, by omega, by omega, by omega, by omega, by omega, by omega, by omega, by omega, by omega, by omega, by omega, ?_⟩
        refine ih _ _ (by omega) (by omega) (by omega) (mr_ok_putI (mr_ok_putI ho' r1) r2) (fr_trans hf (fr_trans (fr_put (Or.inl rfl)) (fr_put (Or.inr (Or.inl rfl))))) (by rw [put_a (by decide), put_a (by decide)]; exact hs) (fun k k0 k1 => ?_)
        by_cases z : k = j
        · rw [z, put_a (by decide), put_eq, put_eq]
          exact ⟨rfl, rfl⟩
        · rw [put_a (by decide), put_k z, put_k z, put_a (by decide)]
          exact hj k k0 (by omega)
    exact loop _ 0 Mb rfl (by omega) (by omega) hob fb eb (fun k a b => absurd b (by omega))
/-- CellAreasModel.loadTwo -/
theorem c62 {K : mm_M → Prop} {a y : Int} (ho : mr_ok M) (h0 : 0 ≤ a) (h1 : a < 9) (hW : RWk M a) (hy : mr_rg y)
    (k : ∀ M1, fr (fun b k => b = 83 ∨ b = 84 ∨ (b = 72 ∧ k = 14)) M M1 → NRg M1 83 84 14 → M1.1 72 14 ≤ 400 → (∀ x, rNg M1 83 84 14 x ↔ has (rdB M a) x y) → K M1) : en_CV sc 62 [mm_r 72, mm_i a, mm_i y, mm_u, mm_u] M K X := by
  have n0 : 0 ≤ M.1 77 a := hW.1.1
  have n1 := hW.2.2.1
  refine vc62_0 ho (c60 ho h0 h1 hW hy (fun no _ => ⟨⟨by decide, by decide⟩, fun z => absurd z (by decide), fun _ => ?_⟩) (fun i i0 i1 i2 i3 _ => ⟨⟨by omega, by omega⟩, fun _ => ⟨by omega, by omega, ?_⟩, fun z => absurd (by omega) z⟩))
  · have hob : mr_ok (mm_putN M 72 14 0) := mr_ok_putI ho ⟨by decide, by decide⟩
    have fb : fr (fun b k => b = 83 ∨ b = 84 ∨ (b = 72 ∧ k = 14)) M (mm_putN M 72 14 0) := fr_put (Or.inr (Or.inr ⟨rfl, rfl⟩))
    have eb : (mm_putN M 72 14 0).1 72 14 = 0 := put_eq
    generalize mm_putN M 72 14 0 = Mb at hob fb eb
    refine vc62_28 hob ⟨by decide, by decide⟩ ⟨fun q => Or.inl ⟨rfl, k Mb fb ?_ (by omega) (fun x => ⟨?_, ?_⟩)⟩, fun q => absurd q (by omega)⟩
    · unfold NRg
      rw [eb]
      exact ⟨by decide, ⟨fun k a b => absurd b (by omega), fun k a b => absurd b (by omega)⟩, fun k a b => absurd b (by omega)⟩
    · unfold rNg
      rw [eb]
      rintro ⟨k, a, b, _⟩
      omega
    · rintro ⟨i, i0, i1, i2, i3, _⟩
      exact absurd ⟨i2, i3⟩ (no i i0 i1)
  · have bk := hW.1.2.2.1 i i0 i1
    have est : sst (rdB M a) i = M.1 75 (102 * a + i) - 402 * a := rdB_sst i1
    have ea := hW.2.1 i i0 i1
    have s0 := sst_mono hW.1 (Int.le_refl 0) i0 (show i ≤ M.1 77 a by omega)
    have s1 := sst_mono hW.1 (by omega : 0 ≤ i + 1) (show i + 1 ≤ M.1 77 a by omega) (Int.le_refl _)
    have sE : sst (rdB M a) (M.1 77 a) = M.1 80 a := rdB_end
    rw [hW.1.2.1] at s0
    rw [sE] at s1
    have w4 := hW.2.2.2
    have b1 := bk.1
    have rgA : mr_rg (M.1 76 (102 * a + i)) := ⟨by omega, by omega⟩
    have hob : mr_ok (mm_putN M 72 14 (M.1 76 (102 * a + i))) := mr_ok_putI ho rgA
    have fb : fr (fun b k => b = 83 ∨ b = 84 ∨ (b = 72 ∧ k = 14)) M (mm_putN M 72 14 (M.1 76 (102 * a + i))) := fr_put (Or.inr (Or.inr ⟨rfl, rfl⟩))
    have eb : (mm_putN M 72 14 (M.1 76 (102 * a + i))).1 72 14 = M.1 76 (102 * a + i) := put_eq
    generalize mm_putN M 72 14 (M.1 76 (102 * a + i)) = Mb at hob fb eb
    have loop : ∀ (c : Nat) (j : Int) (M' : mm_M), c = (M.1 76 (102 * a + i) - j).toNat → 0 ≤ j → j ≤ M.1 76 (102 * a + i) → mr_ok M' → fr (fun b k => b = 83 ∨ b = 84 ∨ (b = 72 ∧ k = 14)) M M' → M'.1 72 14 = M.1 76 (102 * a + i) → (∀ k, 0 ≤ k → k < j → M'.1 83 k = M.1 78 (M.1 75 (102 * a + i) + k) ∧ M'.1 84 k = M.1 79 (M.1 75 (102 * a + i) + k)) →
        en_R sc 62 28 [mm_r 72, mm_i a, mm_i y, mm_i (102 * a + i), mm_i j] [] M' (fun r M1 => (r = .inl none ∧ K M1) ∨ ∃ e, r = .inr e ∧ e < 100 ∧ X e M1) := by
      intro c
      induction c with
      | zero =>
        intro j M' hc j0 j1 ho' hf hs hj
        have ej : j = M.1 76 (102 * a + i) := by omega
        have L : ∀ k, 0 ≤ k → k < M.1 76 (102 * a + i) → M'.1 83 k = slf (rdB M a) (sst (rdB M a) i + k) ∧ M'.1 84 k = srt (rdB M a) (sst (rdB M a) i + k) := by
          intro k k0 k1
          have x := hj k k0 (by omega)
          have e : 402 * a + (sst (rdB M a) i + k) = M.1 75 (102 * a + i) + k := by omega
          constructor
          · show M'.1 83 k = M.1 78 (402 * a + (sst (rdB M a) i + k))
            rw [e]; exact x.1
          · show M'.1 84 k = M.1 79 (402 * a + (sst (rdB M a) i + k))
            rw [e]; exact x.2
        refine vc62_28 ho' ⟨by omega, by omega⟩ ⟨fun q => Or.inl ⟨rfl, k M' hf ?_ (by omega) (fun x => ?_)⟩, fun q => absurd q (by omega)⟩
        · unfold NRg
          rw [hs]
          refine ⟨by omega, ⟨fun k k0 k1 => ?_, fun k k0 k1 => ?_⟩, fun k k0 k1 => ?_⟩
          · rw [(L k k0 k1).1, (L k k0 k1).2]
            exact bk.2.2.2.2.1.1 _ (by omega) (by omega)
          · rw [(L k k0 (by omega)).2, (L (k + 1) (by omega) k1).1]
            have q2 := bk.2.2.2.2.1.2 (sst (rdB M a) i + k) (by omega) (by omega)
            have e : sst (rdB M a) i + (k + 1) = sst (rdB M a) i + k + 1 := by omega
            rw [e]
            exact q2
          · rw [(L k k0 k1).1, (L k k0 k1).2]
            exact bk.2.2.2.2.2 _ (by omega) (by omega)
        · rw [has_at hW.1 i0 i1 i2 i3]
          unfold rNg inb
          rw [hs]
          constructor
          · rintro ⟨k, k0, k1, k2, k3⟩
            rw [(L k k0 k1).1] at k2
            rw [(L k k0 k1).2] at k3
            exact ⟨sst (rdB M a) i + k, by omega, by omega, k2, k3⟩
          · rintro ⟨k, k0, k1, k2, k3⟩
            have x := L (k - sst (rdB M a) i) (by omega) (by omega)
            have e : sst (rdB M a) i + (k - sst (rdB M a) i) = k := by omega
            rw [e] at x
            exact ⟨k - sst (rdB M a) i, by omega, by omega, by rw [x.1]; exact k2, by rw [x.2]; exact k3⟩
      | succ c ih =>
        intro j M' hc j0 j1 ho' hf hs hj
        have e75 : M'.1 75 (102 * a + i) = M.1 75 (102 * a + i) := hf.2 _ _ (by omega)
        have e78 : M'.1 78 (M.1 75 (102 * a + i) + j) = M.1 78 (M.1 75 (102 * a + i) + j) := hf.2 _ _ (by omega)
        have g75 : (mm_putN M' 83 j (M.1 78 (M.1 75 (102 * a + i) + j))).1 75 (102 * a + i) = M.1 75 (102 * a + i) := by rw [put_a (by decide)]; exact e75
        have g79 : (mm_putN M' 83 j (M.1 78 (M.1 75 (102 * a + i) + j))).1 79 (M.1 75 (102 * a + i) + j) = M.1 79 (M.1 75 (102 * a + i) + j) := by rw [put_a (by decide)]; exact hf.2 _ _ (by omega)
        have r1 : mr_rg (M.1 78 (M.1 75 (102 * a + i) + j)) := ho.2.1 _ _ (by unfold mr_lg; omega)
        have r2 : mr_rg (M.1 79 (M.1 75 (102 * a + i) + j)) := ho.2.1 _ _ (by unfold mr_lg; omega)
        refine vc62_28 ho' ⟨by omega, by omega⟩ ⟨fun q => absurd q (by omega), fun q => ?_⟩
        rw [e75, e78, g75, g79]
        refine ⟨by omega, by omega, by omega, by omega, by omega, by omega, by omega, by omega, by omega, by omega, by omega, by omega, ?_⟩
        refine ih _ _ (by omega) (by omega) (by omega) (mr_ok_putI (mr_ok_putI ho' r1) r2) (fr_trans hf (fr_trans (fr_put (Or.inl rfl)) (fr_put (Or.inr (Or.inl rfl))))) (by rw [put_a (by decide), put_a (by decide)]; exact hs) (fun k k0 k1 => ?_)
        by_cases z : k = j
        · rw [z, put_a (by decide), put_eq, put_eq]
          exact ⟨rfl, rfl⟩
        · rw [put_a (by decide), put_k z, put_k z, put_a (by decide)]
          exact hj k k0 (by omega)
    exact loop _ 0 Mb rfl (by omega) (by omega) hob fb eb (fun k a b => absurd b (by omega))
end
