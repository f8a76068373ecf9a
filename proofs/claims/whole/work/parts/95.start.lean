/-! ===== where the law begins ===== -/
theorem ct_M_0 {a : Nat} {k : Int} (h : a ≠ 0) : ct_M.1 a k = 0 := ct_M_z a k (fun z => h z.1)
theorem ct_ar {k : Int} (h : isA k) : ct_M.2.1 1 k = some (24 + 6 * k.toNat) ∧ ar ct_M k = 24 + 6 * k.toNat := by
  have e := ct_M_ar k.toNat (by have := h.2; have := h.1; omega)
  have q : ((k.toNat : Nat) : Int) = k := by have := h.1; omega
  rw [q] at e
  refine ⟨e, ?_⟩
  unfold ar
  rw [e]
  rfl
theorem ct_br : br ct_M = 3 := by
  unfold br
  rw [ct_M_b]
  rfl
theorem ct_AW {a : Nat} (h : mr_A a) : AW ct_M a ∧ sn (rdA ct_M a) = 0 := by
  have a0 : a ≠ 0 := by unfold mr_A at h; omega
  have e0 : sn (rdA ct_M a) = 0 := ct_M_0 a0
  have e3 : ∀ k, ct_M.1 (a + 3) k = 0 := fun k => ct_M_0 (by omega)
  refine ⟨⟨h, ⟨by omega, e3 0, fun i i0 i1 => absurd i1 (by omega), fun i i0 i1 => absurd i1 (by omega)⟩, ?_, ?_⟩, e0⟩
  · rw [ct_M_0 a0]; decide
  · rw [e3]; decide
theorem ct_RW (j : Int) : RWk ct_M j ∧ sn (rdB ct_M j) = 0 := by
  have e77 : ct_M.1 77 j = 0 := ct_M_0 (by decide)
  have e0 : sn (rdB ct_M j) = 0 := e77
  have e80 : ct_M.1 80 j = 0 := ct_M_0 (by decide)
  have s0 : sst (rdB ct_M j) 0 = 0 := by
    have x := rdB_end (M := ct_M) (k := j)
    rw [e77, e80] at x
    exact x
  exact ⟨⟨⟨by omega, s0, fun i i0 i1 => absurd i1 (by omega), fun i i0 i1 => absurd i1 (by omega)⟩, fun i i0 i1 => absurd i1 (by omega), by omega, by omega⟩, e0⟩
theorem ct_INV (L : sh → mm_M → Prop) : INV L ct_M 0 := by
  have A : ∀ k : Int, isA k → mr_A (24 + 6 * k.toNat) := fun k h => by
    have := h.1
    have := h.2
    unfold mr_A
    omega
  refine ⟨⟨fun k k0 k1 => ?_, fun k j k0 k1 j0 j1 e => ?_, by rw [ct_br]; exact ct_M_b, by rw [ct_br]; exact Or.inl rfl, fun a ha => ?_⟩, fun j j0 j1 => ?_, ⟨ct_M_0 (by decide), Or.inl ct_M_06⟩, by rw [ct_M_k]; exact Nat.le_refl _⟩
  · obtain ⟨x, y⟩ := ct_ar ⟨k0, k1⟩
    rw [y]
    exact ⟨x, (ct_AW (A k ⟨k0, k1⟩)).1, by rw [ct_br]; omega⟩
  · rw [(ct_ar ⟨k0, k1⟩).2, (ct_ar ⟨j0, j1⟩).2] at e
    omega
  · exact ct_M_0 (by unfold mr_A at ha; omega)
  · obtain ⟨x, y⟩ := ct_ar ⟨j0, j1⟩
    have a := ct_AW (A j ⟨j0, j1⟩)
    have b := ct_RW j
    refine ⟨b.1, ?_⟩
    rw [y]
    exact uniq a.1.2.1 b.1.1 (fun x y => ⟨fun ⟨i, i0, i1, _⟩ => absurd i1 (by omega), fun ⟨i, i0, i1, _⟩ => absurd i1 (by omega)⟩)
/-- all that is owed now: a meaning L of the loops that are kept, and the five calls that look at loops -/
theorem law_runs (L : sh → mm_M → Prop) (hL : Lst L)
    (pc : ∀ (sc : Nat × (Int → Int)) (a b : Int), mr_rg a → mr_rg b → PR L sc 141 [mm_r 0, mm_i a, mm_i b, mm_r 98, mm_u] 155 [mm_r 72, mm_i a, mm_i b, mm_u, mm_u])
    (pl : ∀ (sc : Nat × (Int → Int)) (a b c : Int), mr_rg a → mr_rg b → mr_rg c → PR L sc 158 [mm_r 0, mm_i a, mm_i b, mm_i c, mm_r 98, mm_u] 159 [mm_r 72, mm_i a, mm_i b, mm_i c])
    (pk : ∀ (sc : Nat × (Int → Int)) (a b c d : Int), mr_rg a → mr_rg b → mr_rg c → mr_rg d → PR L sc 161 [mm_r 0, mm_i a, mm_i b, mm_i c, mm_i d, mm_r 98, mm_u] 162 [mm_r 72, mm_i a, mm_i b, mm_i c, mm_i d])
    (pi : ∀ (sc : Nat × (Int → Int)) (a b c : Int), mr_rg a → mr_rg b → mr_rg c → PR L sc 165 [mm_r 0, mm_i a, mm_i b, mm_i c, mm_r 98, mm_u] 166 [mm_r 72, mm_i a, mm_i b, mm_i c, mm_u, mm_u, mm_u, mm_u, mm_u])
    (ph : ∀ (sc : Nat × (Int → Int)) (a : Int), mr_rg a → PR L sc 197 [mm_r 0, mm_i a, mm_r 98, mm_u] 198 [mm_r 72, mm_i a]) : gl_runs :=
  ct_runs (fun Lc xs h hx => law_all (sc := (Lc, xs)) hL h hx (pc _) (pl _) (pk _) (pi _) (ph _) _ 0 0 _ _ ct_M (Nat.le_refl _) rfl (by show (0 : Int) ≤ (Lc : Int); omega) ct_M_ok (ct_INV L))
