/-! ===== the reference's areas; isLikeLast, addRow ===== -/
def rdB (M : mm_M) (k : Int) : sh := (M.1 77 k, fun i => M.1 73 (102 * k + i), fun i => M.1 74 (102 * k + i), fun i => if i < M.1 77 k then M.1 75 (102 * k + i) - 402 * k else M.1 80 k, fun j => M.1 78 (402 * k + j), fun j => M.1 79 (402 * k + j))
/-- the amounts are what the starts say -/
def am (M : mm_M) (k : Int) : Prop := ∀ i, 0 ≤ i → i < M.1 77 k → M.1 76 (102 * k + i) = sst (rdB M k) (i + 1) - sst (rdB M k) i
def RS (M : mm_M) (T : Int → Int → Prop) : Prop :=
  (M.1 72 20 = 0 ∧ wf (rdB M 8) ∧ am M 8 ∧ M.1 77 8 ≤ 100 ∧ M.1 80 8 ≤ 400 ∧ (∀ x y, has (rdB M 8) x y ↔ T x y)) ∨
  (M.1 72 20 = 1 ∧ ∃ s, wf s ∧ (∀ x y, has s x y ↔ T x y) ∧ (100 < sn s ∨ 400 < sst s (sn s)))
theorem RS_iff {M : mm_M} {T U : Int → Int → Prop} (h : RS M T) (e : ∀ x y, T x y ↔ U x y) : RS M U := by
  rcases h with ⟨a, b, c, d, g, i⟩ | ⟨a, s, b, c, d⟩
  · exact Or.inl ⟨a, b, c, d, g, fun x y => (i x y).trans (e x y)⟩
  · exact Or.inr ⟨a, s, b, fun x y => (c x y).trans (e x y), d⟩
theorem rdB_sst {M : mm_M} {k i : Int} (h : i < M.1 77 k) : sst (rdB M k) i = M.1 75 (102 * k + i) - 402 * k := if_pos h
theorem rdB_end {M : mm_M} {k : Int} : sst (rdB M k) (M.1 77 k) = M.1 80 k := if_neg (by omega)
section
variable {sc : Nat × (Int → Int)} {M : mm_M} {X : Nat → mm_M → Prop}
/-- CellAreasModel.begin -/
theorem c35 {K : mm_M → Prop} (ho : mr_ok M) (k : ∀ M1, fr (fun a j => (a = 77 ∧ j = 8) ∨ (a = 80 ∧ j = 8) ∨ (a = 72 ∧ j = 20) ∨ (a = 72 ∧ j = 19)) M M1 → M1.1 72 19 = 0 → RS M1 (fun _ _ => False) → K M1) : en_CV sc 35 [mm_r 72] M K X := by
  refine vc35_0 ho (Or.inl ⟨rfl, k _ ?_ put_eq (Or.inl ?_)⟩)
  · exact fr_trans (fr_put (Or.inl ⟨rfl, rfl⟩)) (fr_trans (fr_put (Or.inr (Or.inl ⟨rfl, rfl⟩))) (fr_trans (fr_put (Or.inr (Or.inr (Or.inl ⟨rfl, rfl⟩)))) (fr_put (Or.inr (Or.inr (Or.inr ⟨rfl, rfl⟩))))))
  · have e1 : (mm_putN (mm_putN (mm_putN (mm_putN M 77 8 0) 80 8 0) 72 20 0) 72 19 0).1 72 20 = 0 := by rw [put_k (by decide), put_eq]
    have e2 : (mm_putN (mm_putN (mm_putN (mm_putN M 77 8 0) 80 8 0) 72 20 0) 72 19 0).1 77 8 = 0 := by rw [put_a (by decide), put_a (by decide), put_a (by decide), put_eq]
    have e3 : (mm_putN (mm_putN (mm_putN (mm_putN M 77 8 0) 80 8 0) 72 20 0) 72 19 0).1 80 8 = 0 := by rw [put_a (by decide), put_a (by decide), put_eq]
    generalize mm_putN (mm_putN (mm_putN (mm_putN M 77 8 0) 80 8 0) 72 20 0) 72 19 0 = M1 at e1 e2 e3
    have n0 : sn (rdB M1 8) = 0 := e2
    refine ⟨e1, ⟨by omega, ?_, fun i a b => absurd b (by omega), fun i a b => absurd b (by omega)⟩, fun i a b => absurd b (by omega), by omega, by omega, fun x y => ⟨?_, fun z => z.elim⟩⟩
    · have := rdB_end (M := M1) (k := 8)
      rw [e2, e3] at this
      exact this
    · rintro ⟨i, a, b, _⟩
      omega
/-- CellAreasModel.isLikeLast -/
theorem c37 {K : Int → mm_M → Prop} (ho : mr_ok M) (hN : NR M) (hw : wf (rdB M 8)) (ha : am M 8) (hn : 0 < M.1 77 8) (hn1 : M.1 77 8 ≤ 100) (hs : M.1 80 8 ≤ 400)
    (k1 : (∀ x, inb (rdB M 8) (M.1 77 8 - 1) x ↔ rN M x) → K 1 M) (k0 : (∃ x, ¬ (inb (rdB M 8) (M.1 77 8 - 1) x ↔ rN M x)) → K 0 M) : en_CI sc 37 [mm_r 72, mm_u, mm_u, mm_u] M K X := by
  have hle := NR_le hN
  have h0 := hN.1
  have bk := hw.2.2.1 (M.1 77 8 - 1) (by omega) (show M.1 77 8 - 1 < M.1 77 8 by omega)
  have hst : sst (rdB M 8) (M.1 77 8 - 1) = M.1 75 (816 + M.1 77 8 - 1) - 3216 := by
    rw [rdB_sst (by omega)]
    have e : 102 * 8 + (M.1 77 8 - 1) = 816 + M.1 77 8 - 1 := by omega
    rw [e]
    omega
  have hen : sst (rdB M 8) (M.1 77 8 - 1 + 1) = M.1 80 8 := by
    have e : M.1 77 8 - 1 + 1 = M.1 77 8 := by omega
    rw [e]
    exact rdB_end
  have ham : M.1 76 (816 + M.1 77 8 - 1) = M.1 80 8 - (M.1 75 (816 + M.1 77 8 - 1) - 3216) := by
    have := ha (M.1 77 8 - 1) (by omega) (by omega)
    rw [hen, hst] at this
    have e : 102 * 8 + (M.1 77 8 - 1) = 816 + M.1 77 8 - 1 := by omega
    rw [e] at this
    exact this
  have m0 := sst_mono hw (Int.le_refl 0) (by omega : 0 ≤ M.1 77 8 - 1) (show M.1 77 8 - 1 ≤ M.1 77 8 by omega)
  rw [hw.2.1, hst] at m0
  have b1 := bk.1
  rw [hst, hen] at b1
  have B := bk.2.2.2.2.1
  rw [hst, hen] at B
  have inbE : ∀ x, inb (rdB M 8) (M.1 77 8 - 1) x ↔ din (M.1 75 (816 + M.1 77 8 - 1) - 3216) (M.1 80 8) (slf (rdB M 8)) (srt (rdB M 8)) x := by
    intro x
    unfold inb
    rw [hst, hen]
  have yes : M.1 76 (816 + M.1 77 8 - 1) = M.1 72 17 → (∀ j, 0 ≤ j → j < M.1 72 17 → M.1 78 (M.1 75 (816 + M.1 77 8 - 1) + j) = M.1 85 j ∧ M.1 79 (M.1 75 (816 + M.1 77 8 - 1) + j) = M.1 86 j) → ∀ x, inb (rdB M 8) (M.1 77 8 - 1) x ↔ rN M x := by
    intro e1 e2 x
    rw [inbE]
    have conv : ∀ j, 402 * 8 + (M.1 75 (816 + M.1 77 8 - 1) - 3216 + j) = M.1 75 (816 + M.1 77 8 - 1) + j := fun j => by omega
    constructor
    · rintro ⟨j, a, b, c, d⟩
      have q := e2 (j - (M.1 75 (816 + M.1 77 8 - 1) - 3216)) (by omega) (by omega)
      have e : M.1 75 (816 + M.1 77 8 - 1) + (j - (M.1 75 (816 + M.1 77 8 - 1) - 3216)) = 402 * 8 + j := by omega
      rw [e] at q
      have c' : M.1 78 (402 * 8 + j) ≤ x := c
      have d' : x < M.1 79 (402 * 8 + j) := d
      exact ⟨j - (M.1 75 (816 + M.1 77 8 - 1) - 3216), by omega, by omega, by omega, by omega⟩
    · rintro ⟨j, a, b, c, d⟩
      have q := e2 j a b
      refine ⟨M.1 75 (816 + M.1 77 8 - 1) - 3216 + j, by omega, by omega, ?_, ?_⟩
      · show M.1 78 (402 * 8 + (M.1 75 (816 + M.1 77 8 - 1) - 3216 + j)) ≤ x
        rw [conv]
        omega
      · show x < M.1 79 (402 * 8 + (M.1 75 (816 + M.1 77 8 - 1) - 3216 + j))
        rw [conv]
        omega
  have back : (∀ x, inb (rdB M 8) (M.1 77 8 - 1) x ↔ rN M x) → M.1 76 (816 + M.1 77 8 - 1) = M.1 72 17 ∧ (∀ j, 0 ≤ j → j < M.1 72 17 → M.1 78 (M.1 75 (816 + M.1 77 8 - 1) + j) = M.1 85 j ∧ M.1 79 (M.1 75 (816 + M.1 77 8 - 1) + j) = M.1 86 j) := by
    intro e
    have d := du B hN.2.1 (fun x => (inbE x).symm.trans (e x))
    have c : M.1 76 (816 + M.1 77 8 - 1) = M.1 72 17 := by
      have x1 := (d (M.1 72 17) h0).1
      have x2 := (d (M.1 80 8 - (M.1 75 (816 + M.1 77 8 - 1) - 3216)) (by omega)).1
      omega
    refine ⟨c, fun j a b => ?_⟩
    have x := (d j a).2 (by omega)
    have e1 : slf (rdB M 8) (M.1 75 (816 + M.1 77 8 - 1) - 3216 + j) = M.1 78 (M.1 75 (816 + M.1 77 8 - 1) + j) := by
      show M.1 78 (402 * 8 + (M.1 75 (816 + M.1 77 8 - 1) - 3216 + j)) = _
      have : 402 * 8 + (M.1 75 (816 + M.1 77 8 - 1) - 3216 + j) = M.1 75 (816 + M.1 77 8 - 1) + j := by omega
      rw [this]
    have e2 : srt (rdB M 8) (M.1 75 (816 + M.1 77 8 - 1) - 3216 + j) = M.1 79 (M.1 75 (816 + M.1 77 8 - 1) + j) := by
      show M.1 79 (402 * 8 + (M.1 75 (816 + M.1 77 8 - 1) - 3216 + j)) = _
      have : 402 * 8 + (M.1 75 (816 + M.1 77 8 - 1) - 3216 + j) = M.1 75 (816 + M.1 77 8 - 1) + j := by omega
      rw [this]
    have e3 : (0 : Int) + j = j := by omega
    rw [e1, e2, e3] at x
    exact x
  have no : ∀ P : Prop, ((∀ x, inb (rdB M 8) (M.1 77 8 - 1) x ↔ rN M x) → P) → ¬ P → K 0 M := fun P f g => k0 (Classical.byContradiction fun z => g (f (fun x => Classical.byContradiction fun z2 => z ⟨x, z2⟩)))
  have loop : ∀ (c : Nat) (i v : Int), c = (M.1 72 17 + 1 - i).toNat → 0 ≤ i → i ≤ M.1 72 17 + 1 → (v = 0 ∧ K 0 M ∨ v = 1 ∧ i ≤ M.1 72 17 ∧ M.1 76 (816 + M.1 77 8 - 1) = M.1 72 17 ∧ ∀ j, 0 ≤ j → j < i → M.1 78 (M.1 75 (816 + M.1 77 8 - 1) + j) = M.1 85 j ∧ M.1 79 (M.1 75 (816 + M.1 77 8 - 1) + j) = M.1 86 j) →
      en_R sc 37 35 [mm_r 72, mm_i (816 + M.1 77 8 - 1), mm_i v, mm_i i] [] M (fun r M1 => (∃ x, r = .inl (some (mm_i x)) ∧ K x M1) ∨ ∃ e, r = .inr e ∧ e < 100 ∧ X e M1) := by
    intro c
    induction c with
    | zero =>
      intro i v hc i0 i1 hv
      have hv2 : v = 0 ∧ K 0 M := by
        rcases hv with g | g
        · exact g
        · omega
      refine vc37_35 ho ⟨by omega, by omega⟩ ⟨by omega, by omega⟩ ⟨fun q => ⟨by omega, Or.inl ⟨_, rfl, by rw [hv2.1]; exact hv2.2⟩⟩, fun q => absurd q (by omega)⟩
    | succ c ih =>
      intro i v hc i0 i1 hv
      refine vc37_35 ho ⟨by omega, by omega⟩ ⟨by omega, by omega⟩ ⟨fun q => ⟨by omega, Or.inl ⟨_, rfl, ?_⟩⟩, fun q => ⟨fun q2 => ⟨by omega, Or.inl ⟨_, rfl, ?_⟩⟩, fun q2 => ?_⟩⟩
      · rcases hv with g | g
        · rw [g.1]; exact g.2
        · rw [g.1]
          exact k1 (yes g.2.2.1 (fun j a b => g.2.2.2 j a (by omega)))
      · rcases hv with g | g
        · rw [g.1]; exact g.2
        · omega
      · have g : v = 1 ∧ i ≤ M.1 72 17 ∧ M.1 76 (816 + M.1 77 8 - 1) = M.1 72 17 ∧ ∀ j, 0 ≤ j → j < i → M.1 78 (M.1 75 (816 + M.1 77 8 - 1) + j) = M.1 85 j ∧ M.1 79 (M.1 75 (816 + M.1 77 8 - 1) + j) = M.1 86 j := by
          rcases hv with g | g
          · exact absurd g.1 q2
          · exact g
        obtain ⟨g1, g2, g3, g4⟩ := g
        refine ⟨by omega, by omega, by omega, by omega, by omega, by omega, fun q3 => ?_, fun q3 => ⟨by omega, by omega, by omega, by omega, by omega, by omega, fun q4 => ?_, fun q4 => ?_⟩⟩
        · exact ih _ _ (by omega) (by omega) (by omega) (Or.inl ⟨rfl, no _ back (fun z => q3 (z.2 i i0 (by omega)).1)⟩)
        · exact ih _ _ (by omega) (by omega) (by omega) (Or.inl ⟨rfl, no _ back (fun z => q4 (z.2 i i0 (by omega)).2)⟩)
        · refine ih _ _ (by omega) (by omega) (by omega) (Or.inr ⟨rfl, by omega, g3, fun j a b => ?_⟩)
          by_cases z : j = i
          · rw [z]
            exact ⟨Classical.byContradiction q3, Classical.byContradiction q4⟩
          · exact g4 j a (by omega)
  refine vc37_0 ho ⟨by omega, by omega, fun q => ?_, fun q => ?_⟩
  · exact loop _ 0 0 rfl (by omega) (by omega) (Or.inl ⟨rfl, no _ back (fun z => q z.1)⟩)
  · exact loop _ 0 1 rfl (by omega) (by omega) (Or.inr ⟨rfl, h0, Classical.byContradiction q, fun j a b => absurd b (by omega)⟩)
end
