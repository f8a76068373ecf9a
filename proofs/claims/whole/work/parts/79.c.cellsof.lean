/-! ===== the number of cells, the reference's ===== -/
section
variable {sc : Nat × (Int → Int)} {M : mm_M} {X : Nat → mm_M → Prop}
/-- CellAreasModel.cellsOf -/
theorem c46 {K : Int → mm_M → Prop} {a : Int} (ho : mr_ok M) (h0 : 0 ≤ a) (h1 : a < 9) (hW : RWk M a) (k : K (cells (rdB M a)) M) : en_CI sc 46 [mm_r 72, mm_i a, mm_u, mm_u, mm_u] M K X := by
  have n0 : 0 ≤ M.1 77 a := hW.1.1
  have n1 := hW.2.2.1
  have w4 := hW.2.2.2
  refine vc46_0 ho ?_
  have outer : ∀ (c n : Nat) (l3 : mm_V), c = (M.1 77 a - n).toNat → (n : Int) ≤ M.1 77 a → en_R sc 46 7 [mm_r 72, mm_i a, mm_i (cB (rdB M a) n), mm_i (102 * a + n), l3] [] M (fun r M1 => (∃ x, r = .inl (some (mm_i x)) ∧ K x M1) ∨ ∃ e, r = .inr e ∧ e < 100 ∧ X e M1) := by
    intro c
    induction c with
    | zero =>
      intro n l3 hc hn
      refine vc46_7 ho ⟨by omega, by omega⟩ (c45 ho h0 h1 (fun _ => ⟨⟨by omega, by omega⟩, fun q => Or.inl ⟨_, rfl, ?_⟩, fun q => absurd q (by omega)⟩))
      have e : n = (sn (rdB M a)).toNat := by
        show n = (M.1 77 a).toNat
        omega
      rw [e]
      exact k
    | succ c ih =>
      intro n l3 hc hn
      have i1 : (n : Int) < M.1 77 a := by omega
      have bk := hW.1.2.2.1 n (by omega) i1
      have est : sst (rdB M a) n = M.1 75 (102 * a + n) - 402 * a := rdB_sst i1
      have ea := hW.2.1 n (by omega) i1
      have s0 := sst_mono hW.1 (Int.le_refl 0) (by omega : (0 : Int) ≤ n) (show (n : Int) ≤ M.1 77 a by omega)
      have s1 := sst_mono hW.1 (by omega : (0 : Int) ≤ n + 1) (show (n : Int) + 1 ≤ M.1 77 a by omega) (Int.le_refl _)
      have sE : sst (rdB M a) (M.1 77 a) = M.1 80 a := rdB_end
      rw [hW.1.2.1] at s0
      rw [sE] at s1
      have b1 := bk.1
      refine vc46_7 ho ⟨by omega, by omega⟩ (c45 ho h0 h1 (fun _ => ⟨⟨by omega, by omega⟩, fun q => absurd q (by omega), fun q => ⟨by omega, by omega, ?_⟩⟩))
      have inner : ∀ (d m : Nat), d = (M.1 76 (102 * a + n) - m).toNat → (m : Int) ≤ M.1 76 (102 * a + n) → en_R sc 46 24 [mm_r 72, mm_i a, mm_i (cB (rdB M a) n + cS (rdB M a) n m), mm_i (102 * a + n), mm_i (M.1 75 (102 * a + n) + m)] [] M (fun r M1 => (∃ x, r = .inl (some (mm_i x)) ∧ K x M1) ∨ ∃ e, r = .inr e ∧ e < 100 ∧ X e M1) := by
        intro d
        induction d with
        | zero =>
          intro m hd hm
          refine vc46_24 ho ⟨by omega, by omega⟩ ⟨by omega, by omega, by omega, by omega, ⟨by omega, by omega⟩, fun q2 => ?_, fun q2 => absurd q2 (by omega)⟩
          have e : m = (sst (rdB M a) (n + 1) - sst (rdB M a) n).toNat := by omega
          have := ih (n + 1) (mm_i (M.1 75 (102 * a + n) + m)) (by omega) (by omega)
          have e2 : 102 * a + (n : Int) + 1 = 102 * a + ((n + 1 : Nat) : Int) := by omega
          have e3 : cB (rdB M a) n + cS (rdB M a) n m = cB (rdB M a) (n + 1) := by
            rw [e]
            rfl
          rw [e2, e3]
          exact this
        | succ d ih2 =>
          intro m hd hm
          refine vc46_24 ho ⟨by omega, by omega⟩ ⟨by omega, by omega, by omega, by omega, ⟨by omega, by omega⟩, fun q2 => absurd q2 (by omega), fun q2 => ⟨by omega, by omega, by omega, by omega, by omega, by omega, by omega, by omega, ?_⟩⟩
          have := ih2 (m + 1) (by omega) (by omega)
          have e1 : M.1 75 (102 * a + n) + m + 1 = M.1 75 (102 * a + n) + ((m + 1 : Nat) : Int) := by omega
          have ep : M.1 75 (102 * a + n) + (m : Int) = 402 * a + (sst (rdB M a) n + m) := by omega
          have e2 : cB (rdB M a) n + cS (rdB M a) n m + (M.1 79 (M.1 75 (102 * a + n) + m) - M.1 78 (M.1 75 (102 * a + n) + m)) * (M.1 74 (102 * a + n) - M.1 73 (102 * a + n)) = cB (rdB M a) n + cS (rdB M a) n (m + 1) := by
            rw [Int.add_assoc, ep, Int.mul_comm]
            rfl
          rw [e1, e2]
          exact this
      have := inner _ 0 rfl (by omega)
      have e1 : M.1 75 (102 * a + n) + ((0 : Nat) : Int) = M.1 75 (102 * a + n) := by omega
      have e2 : cB (rdB M a) n + cS (rdB M a) n 0 = cB (rdB M a) n := Int.add_zero _
      rw [e1, e2] at this
      exact this
  have := outer _ 0 mm_u rfl (by omega)
  have e : 102 * a + ((0 : Nat) : Int) = 102 * a := by omega
  rw [e] at this
  exact this
end
