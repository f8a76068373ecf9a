/-! ===== mirror, the reference's side ===== -/
def cols (s : sh) (w : Int) : Prop := ∃ k, 0 ≤ k ∧ k < sst s (sn s) ∧ (w = slf s k ∨ w = srt s k)
theorem cols_eqv {s t : sh} (h : wf s) (e : eqv s t) (w : Int) : cols s w ↔ cols t w := by
  have z : sst s (sn s) = sst t (sn t) := by
    rw [e.2.2.1 (sn s) h.1 (Int.le_refl _), e.1]
  constructor
  · rintro ⟨k, a, b, c⟩
    have x := e.2.2.2 k a b
    exact ⟨k, a, by rw [← z]; exact b, by rw [← x.1, ← x.2]; exact c⟩
  · rintro ⟨k, a, b, c⟩
    have b' : k < sst s (sn s) := by rw [z]; exact b
    have x := e.2.2.2 k a b'
    exact ⟨k, a, b', by rw [x.1, x.2]; exact c⟩
/-- what holds() knows behind the stretches before j -/
def hvI (s : sh) (i j x v : Int) : Prop := (v = 0 ∧ ∀ e, sst s i ≤ e → e < j → ¬ (slf s e ≤ x ∧ x < srt s e)) ∨ (v = 1 ∧ inb s i x)
section
variable {sc : Nat × (Int → Int)} {M : mm_M} {X : Nat → mm_M → Prop}
/-- CellAreasModel.cutStretches -/
theorem c87 {K : mm_M → Prop} {a : Int} (ho : mr_ok M) (h0 : 0 ≤ a) (h1 : a < 8) (hW : RWk M a) (hC : CT M) (hn : M.1 72 19 ≤ 800)
    (k : ∀ M1, fr uS M M1 → CT M1 → M1.1 72 19 ≤ M.1 72 19 + 800 → (∀ w, cu M1 w ↔ cu M w ∨ cols (rdB M a) w) → K M1) : en_CV sc 87 [mm_r 72, mm_i a, mm_u] M K X := by
  have e0 : sst (rdB M a) (sn (rdB M a)) = M.1 80 a := rdB_end
  have e1 := sst_mono hW.1 (Int.le_refl 0) hW.1.1 (Int.le_refl _)
  rw [hW.1.2.1, e0] at e1
  have n1 := hW.2.2.2
  refine vc87_0 ho ?_
  have loop : ∀ (c : Nat) (i : Int) (M' : mm_M), c = (M.1 80 a - i).toNat → 0 ≤ i → i ≤ M.1 80 a → mr_ok M' → fr uS M M' → CT M' → M'.1 72 19 ≤ M.1 72 19 + 2 * i → (∀ w, cu M' w ↔ cu M w ∨ ∃ j, 0 ≤ j ∧ j < i ∧ (w = slf (rdB M a) j ∨ w = srt (rdB M a) j)) →
      en_R sc 87 6 [mm_r 72, mm_i a, mm_i (402 * a + i)] [] M' (QV K X) := by
    intro c
    induction c with
    | zero =>
      intro i M' hc i0 i1 ho' hf hC' hn' hw'
      have e80 : M'.1 80 a = M.1 80 a := hf.2 _ _ (by omega)
      have ei : i = M.1 80 a := by omega
      refine vc87_6 ho' ⟨by omega, by omega⟩ ?_
      rw [e80]
      refine ⟨h0, by omega, ⟨by omega, by omega⟩, fun q => Or.inl ⟨rfl, k M' hf hC' (by omega) (fun w => ?_)⟩, fun q => absurd (by omega) q⟩
      rw [hw', ei, ← e0]
      exact Iff.rfl
    | succ c ih =>
      intro i M' hc i0 i1 ho' hf hC' hn' hw'
      have e80 : M'.1 80 a = M.1 80 a := hf.2 _ _ (by omega)
      obtain ⟨b, b0, b1, b2, b3⟩ := k_band hW.1 i0 (show i < sst (rdB M a) (sn (rdB M a)) by rw [e0]; omega)
      have bk := hW.1.2.2.1 b b0 b1
      have bb := bk.2.2.2.2.2 i b2 b3
      have bd := bk.2.2.2.2.1.1 i b2 b3
      refine vc87_6 ho' ⟨by omega, by omega⟩ ?_
      rw [e80]
      refine ⟨h0, by omega, ⟨by omega, by omega⟩, fun q => absurd q (by omega), fun q => ⟨by omega, by omega, ?_⟩⟩
      have e78 : M'.1 78 (402 * a + i) = slf (rdB M a) i := hf.2 _ _ (by omega)
      rw [e78]
      refine c58 ho' hC' (by omega) ⟨by omega, by omega⟩ (fun Ma fa Ca na wa hoa => ⟨by omega, by omega, ?_⟩)
      have e79 : Ma.1 79 (402 * a + i) = srt (rdB M a) i := by rw [fa.2 _ _ (by omega), hf.2 _ _ (by omega)]; rfl
      rw [e79]
      refine c58 hoa Ca (by omega) ⟨by omega, by omega⟩ (fun Mb fb Cb nb wb hob => ?_)
      have e : 402 * a + i + 1 = 402 * a + (i + 1) := by omega
      rw [e]
      rw [clp_in (by omega) (by omega)] at wa wb
      refine ih (i + 1) Mb (by omega) (by omega) (by omega) hob (fr_trans hf (fr_trans fa fb)) Cb (by omega) (fun w => ?_)
      rw [wb, wa, hw']
      constructor
      · rintro ((((z | ⟨j, j0, j1, j2⟩)) | z) | z)
        · exact Or.inl z
        · exact Or.inr ⟨j, j0, by omega, j2⟩
        · exact Or.inr ⟨i, i0, by omega, Or.inl z⟩
        · exact Or.inr ⟨i, i0, by omega, Or.inr z⟩
      · rintro (z | ⟨j, j0, j1, j2⟩)
        · exact Or.inl (Or.inl (Or.inl z))
        · by_cases z : j = i
          · rw [z] at j2
            rcases j2 with j2 | j2
            · exact Or.inl (Or.inr j2)
            · exact Or.inr j2
          · exact Or.inl (Or.inl (Or.inr ⟨j, j0, by omega, j2⟩))
  have := loop _ 0 M rfl (Int.le_refl _) e1 ho fr_refl hC (by omega) (fun w => ⟨Or.inl, fun z => z.elim id (fun ⟨j, a, b, _⟩ => absurd b (by omega))⟩)
  have e : 402 * a + 0 = 402 * a := by omega
  rw [e] at this
  exact this
/-- CellAreasModel.holds -/
theorem c88 {K : Int → mm_M → Prop} {a i x : Int} (ho : mr_ok M) (h0 : 0 ≤ a) (h1 : a < 8) (hW : RWk M a) (i0 : 0 ≤ i) (i1 : i < M.1 77 a) (hx : mr_rg x) (k1 : inb (rdB M a) i x → K 1 M) (k0 : ¬ inb (rdB M a) i x → K 0 M) : en_CI sc 88 [mm_r 72, mm_i (102 * a + i), mm_i x, mm_u, mm_u] M K X := by
  have n1 := hW.2.2.1
  obtain ⟨q1, q2, q3, q4, q5, q6, q7, q8⟩ := RW_band hW i0 i1
  have r0 : mr_rg 0 := ⟨by decide, by decide⟩
  have r1 : mr_rg 1 := ⟨by decide, by decide⟩
  refine vc88_0 ho ⟨by omega, by omega, ?_⟩
  rw [q1]
  have loop : ∀ (c : Nat) (j v : Int), c = (sst (rdB M a) (i + 1) - j).toNat → sst (rdB M a) i ≤ j → j ≤ sst (rdB M a) (i + 1) → hvI (rdB M a) i j x v → en_R sc 88 10 [mm_r 72, mm_i (102 * a + i), mm_i x, mm_i v, mm_i (402 * a + j)] [] M (QI K X) := by
    intro c
    induction c with
    | zero =>
      intro j v hc j0 j1 hv
      have rv : v = 0 ∨ v = 1 := by
        unfold hvI at hv
        rcases hv with g | g
        · exact Or.inl g.1
        · exact Or.inr g.1
      refine vc88_10 ho ⟨by omega, by omega⟩ ⟨by omega, by omega⟩ hx ⟨by omega, by omega, by omega, by omega, ⟨by omega, by omega⟩, fun _ => ⟨rv, Or.inl ⟨_, rfl, ?_⟩⟩, fun q => absurd (by omega) q⟩
      unfold hvI at hv
      rcases hv with ⟨g1, g2⟩ | ⟨g1, g2⟩
      · rw [g1]
        exact k0 (fun ⟨e, e0, e1, e2⟩ => g2 e e0 (by omega) e2)
      · rw [g1]
        exact k1 g2
    | succ c ih =>
      intro j v hc j0 j1 hv
      have rv : v = 0 ∨ v = 1 := by
        unfold hvI at hv
        rcases hv with g | g
        · exact Or.inl g.1
        · exact Or.inr g.1
      have en : 402 * a + j + 1 = 402 * a + (j + 1) := by omega
      have e78 : M.1 78 (402 * a + j) = slf (rdB M a) j := rfl
      have e79 : M.1 79 (402 * a + j) = srt (rdB M a) j := rfl
      have keep : ¬ (slf (rdB M a) j ≤ x ∧ x < srt (rdB M a) j) → v = 0 → hvI (rdB M a) i (j + 1) x 0 := by
        intro g gv
        unfold hvI at hv ⊢
        rcases hv with ⟨g1, g2⟩ | ⟨g1, g2⟩
        · refine Or.inl ⟨rfl, fun e e0 e1 => ?_⟩
          by_cases z : e = j
          · rw [z]; exact g
          · exact g2 e e0 (by omega)
        · omega
      refine vc88_10 ho ⟨by omega, by omega⟩ ⟨by omega, by omega⟩ hx ?_
      rw [en, e78, e79]
      refine ⟨by omega, by omega, by omega, by omega, ⟨by omega, by omega⟩, fun q => absurd q (by omega), fun _ => ⟨fun q => ?_, fun q => ⟨by omega, by omega, fun q3 => ?_, fun q3 => ⟨by omega, by omega, fun q4 => ?_, fun q4 => ?_⟩⟩⟩⟩
      · refine ih (j + 1) 1 (by omega) (by omega) (by omega) ?_
        unfold hvI at hv ⊢
        rcases hv with ⟨g1, g2⟩ | ⟨g1, g2⟩
        · omega
        · exact Or.inr ⟨rfl, g2⟩
      · exact ih (j + 1) 0 (by omega) (by omega) (by omega) (keep (by omega) (by omega))
      · exact ih (j + 1) 0 (by omega) (by omega) (by omega) (keep (by omega) (by omega))
      · exact ih (j + 1) 1 (by omega) (by omega) (by omega) (Or.inr ⟨rfl, j, j0, by omega, by omega, by omega⟩)
  exact loop _ (sst (rdB M a) i) 0 rfl (Int.le_refl _) (by omega) (Or.inl ⟨rfl, fun e a b => absurd b (by omega)⟩)
end
