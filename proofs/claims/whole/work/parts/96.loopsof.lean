/-! ===== CellAreas.loopsOf; loop and corner on both sides ===== -/
abbrev loS : Nat → Int → Prop := fun a k => a = 17 ∨ a = 18 ∨ a = 19 ∨ a = 20 ∨ (a = 0 ∧ k = 6)
theorem GL_eqv {s s' : sh} {M : mm_M} (w : wf s) (q : eqv s s') (g : GL s' M) : GL s M := by
  have w' := eqv_wf w q
  have q' := eqv_symm w q
  have n := q.1
  obtain ⟨g1, g2, g3, g4, g5, g6, g7⟩ := g
  refine ⟨g1, g2, g3, g4, g5, g6, ?_⟩
  rcases g7 with ⟨z1, z2, z3⟩ | ⟨z1, z2, z3, z4, z5⟩
  · exact Or.inl ⟨by omega, z2, z3⟩
  · refine Or.inr ⟨by omega, z2, z3, fun v => ?_, fun v => ?_⟩
    · rw [← z4]
      exact ⟨eqv_cols w q v, eqv_cols w' q' v⟩
    · rw [← z5]
      exact ⟨eqv_ends q v, eqv_ends q' v⟩
section
variable {sc : Nat × (Int → Int)} {M : mm_M} {X : Nat → mm_M → Prop} {n : Nat}
/-- there is a grid for every area -/
theorem INV_grid (sc : Nat × (Int → Int)) {L : sh → mm_M → Prop} (ho : mr_ok M) (h : INV L M n) {a : Int} (ga : isA a) : ∃ Mg, GL (rdA M (ar M a)) Mg := by
  have e := h.2.1 a ga.1 ga.2
  have w := (h.1.1 a ga.1 ga.2).2.1.2.1
  have x := c145 (sc := sc) (K := fun M1 => GRD (rdB M a) M1) (X := fun _ _ => False) ho ga e.1 (fun M1 _ g => g)
  obtain ⟨f, r, M', _, q⟩ := x
  rcases q with ⟨_, g⟩ | ⟨_, _, _, g⟩
  · exact ⟨M', GL_eqv w e.2 g.1⟩
  · exact g.elim
theorem INV_l {M M1 : mm_M} {a : Int} (h : INV LL M n) (ga : isA a) (f : fr loS M M1) (e6 : M1.1 0 6 = a) (l : LL (rdA M (ar M a)) M1) (e19 : M1.1 19 0 = 0) : INV LL M1 n ∧ rdA M1 (ar M1 a) = rdA M (ar M a) := by
  obtain ⟨hO, hE, hC, hn⟩ := h
  have o := OW_fr hO f (fun a ha _ b k h0 h1 y => by
    have y' : b = 17 ∨ b = 18 ∨ b = 19 ∨ b = 20 ∨ (b = 0 ∧ k = 6) := y
    unfold mr_A at ha
    omega) (fun y => by
    have y' : br M + 3 = 17 ∨ br M + 3 = 18 ∨ br M + 3 = 19 ∨ br M + 3 = 20 ∨ (br M + 3 = 0 ∧ (0 : Int) = 6) := y
    have hA := hO.2.2.2.1
    unfold mr_A at hA
    omega)
  have ea : rdA M1 (ar M1 a) = rdA M (ar M a) := by rw [o.2.1]; exact o.2.2.2 a ga.1 ga.2
  refine ⟨⟨o.1, fun j j0 j1 => ?_, ⟨e19, Or.inr ⟨by rw [e6]; exact ga, by rw [e6, ea]; exact l⟩⟩, by rw [f.1]; exact hn⟩, ea⟩
  obtain ⟨w, e⟩ := hE j j0 j1
  have k := rdB_same w (M1 := M1) (fun a k y => f.2 _ _ (fun u => by
    have u' : a = 17 ∨ a = 18 ∨ a = 19 ∨ a = 20 ∨ (a = 0 ∧ k = 6) := u
    unfold hS at y
    omega))
  rw [o.2.1, o.2.2.2 j j0 j1]
  exact ⟨k.2, eqv_trans (hO.1 j j0 j1).2.1.2.1 e k.1⟩
theorem c126 {K : Nat → mm_M → Prop} {a : Int} (ho : mr_ok M) (h : INV LL M n) (ga : isA a) (k : ∀ M1, mr_ok M1 → INV LL M1 n → fr loS M M1 → LL (rdA M1 (ar M1 a)) M1 → rdA M1 (ar M1 a) = rdA M (ar M a) → K 17 M1) : en_CR sc 126 [mm_r 0, mm_i a] M K X := by
  have A := OW_A h.1 ga
  obtain ⟨Mg, g⟩ := INV_grid sc ho h ga
  have ga0 := ga.1
  have ga1 := ga.2
  refine vc126_0 ho ⟨by omega, by omega⟩ ⟨fun z => ?_, fun z => ⟨ga.1, ga.2, ar M a, A.1, A.2.1, c125 ho A.2 rfl g h.2.2.1.1 (fun M1 f1 l1 ho1 => ?_)⟩⟩
  · have l : LL (rdA M (ar M a)) M := by
      rcases h.2.2.1.2 with c | ⟨c, d⟩
      · omega
      · rw [z] at d; exact d
    exact Or.inl ⟨17, rfl, k M ho h ⟨rfl, fun _ _ _ => rfl⟩ l rfl⟩
  · have e6 : (mm_putN M1 0 6 a).1 0 6 = a := put_eq
    have f2 : fr loS M (mm_putN M1 0 6 a) := fr_trans (fr_mono f1 (fun a k z => by
      have z' : a = 17 ∨ a = 18 ∨ a = 19 ∨ a = 20 := z
      show a = 17 ∨ a = 18 ∨ a = 19 ∨ a = 20 ∨ (a = 0 ∧ k = 6)
      omega)) (fr_put (Or.inr (Or.inr (Or.inr (Or.inr ⟨rfl, rfl⟩)))))
    have l2 : LL (rdA M (ar M a)) (mm_putN M1 0 6 a) := LL_st _ M1 _ (fun b k b0 b1 => put_a (by omega)) ⟨Mg, g, l1⟩
    have e19 : (mm_putN M1 0 6 a).1 19 0 = 0 := by
      rw [put_a (by decide)]
      obtain ⟨st, h1, h2, h3, h4, _⟩ := l1
      exact h4
    have I := INV_l h ga f2 e6 l2 e19
    exact Or.inl ⟨17, rfl, k _ (mr_ok_putI ho1 ⟨by omega, by omega⟩) I.1 f2 (by rw [I.2]; exact l2) I.2⟩
/-- the reference has found the loops that the class keeps -/
theorem mtc_of {s s' : sh} {M1 Mf : mm_M} (w : wf s) (q : eqv s s') (l : LL s M1) (e : ∀ a k, 17 ≤ a → a ≤ 20 → Mf.1 a k = M1.1 a k) (F : FLS s' Mf) : MTC s' Mf Mf := by
  obtain ⟨Mg, g, l'⟩ := LL_st s M1 Mf e l
  exact LLg_match (eqv_wf w q) F (LLg_same w q g F.1.1 l')
theorem clen_same {M M' : mm_M} (e : ∀ a k, 17 ≤ a → a ≤ 20 → M'.1 a k = M.1 a k) (l : Int) : clenF M' l = clenF M l ∧ crndF M' l = crndF M l ∧ (∀ c, cX M' c = cX M c) ∧ ∀ c, cY M' c = cY M c := by
  have e19 : ∀ k, M'.1 19 k = M.1 19 k := fun k => e 19 k (by decide) (by decide)
  have e20 : ∀ k, M'.1 20 k = M.1 20 k := fun k => e 20 k (by decide) (by decide)
  refine ⟨?_, ?_, fun c => ?_, fun c => ?_⟩
  · simp only [clenF, dLen, cX, cY, nxt, e19, e20]
  · simp only [crndF, dRnd, cX, cY, nxt, e19, e20]
  · simp only [cX, e20]
  · simp only [cY, e20]
theorem c157 {K : Int → mm_M → Prop} {a i what : Int} (ho : mr_ok M) (h : INV LL M n) (ha : mr_rg a) (hi : mr_rg i) (hw : mr_rg what) (k1 : ¬ isA a → X 1 (M.1, M.2.1, M.2.2 + 1)) (k2 : isA a → ¬ (0 ≤ what ∧ what ≤ 2) → X 2 (M.1, M.2.1, M.2.2 + 1))
    (k3 : isA a → 0 ≤ what ∧ what ≤ 2 → ∀ M1, INV LL M1 n → LL (rdA M1 (ar M1 a)) M1 → ¬ (0 ≤ i ∧ i ≤ M1.1 17 0 - 1) → X 2 (M1.1, M1.2.1, M1.2.2 + 1))
    (k : isA a → 0 ≤ what ∧ what ≤ 2 → ∀ M1, INV LL M1 n → LL (rdA M1 (ar M1 a)) M1 → (0 ≤ i ∧ i ≤ M1.1 17 0 - 1) → K (if what = 0 then M1.1 19 (i + 1) - M1.1 19 i else if what = 1 then clenF M1 i else mr_ldiv (crndF M1 i) 2) M1) : en_CI sc 157 [mm_r 0, mm_i a, mm_i i, mm_i what, mm_u] M K X := by
  have r0 : mr_rg 0 := ⟨by decide, by decide⟩
  have r2 : mr_rg 2 := ⟨by decide, by decide⟩
  refine vc157_0 ho hw (c9 ho ha (fun ga _ => c10 ho hw r0 r2 (fun gw' _ => c126 ho h ga (fun M1 ho1 I1 f1 l1 e1 => ⟨rfl, fun _ => ?_⟩)) (fun q => Or.inr ⟨2, rfl, by decide, k2 ga q⟩)) (fun q => Or.inr ⟨1, rfl, by decide, k1 q⟩))
  have w := (I1.1.1 a ga.1 ga.2).2.1.2.1
  obtain ⟨n0, n1, _, _, _, cl⟩ := LL_clp w l1
  refine c10 ho1 hi r0 ⟨by omega, by omega⟩ (fun gi _ => ?_) (fun q => Or.inr ⟨2, rfl, by decide, k3 ga gw' M1 I1 l1 q⟩)
  have fin := k ga gw' M1 I1 l1 gi
  obtain ⟨Mg, p, m, C, _⟩ := cl i gi.1 (by omega)
  refine ⟨fun z => c156 ho1 gi.1 (by omega) (fun _ => ?_), fun z => c131F ho1 C (fun _ => ?_), fun z z2 => c138F ho1 C (fun _ => ?_)⟩
  · rw [if_pos z] at fin
    exact Or.inl ⟨_, rfl, fin⟩
  · rw [if_neg (by omega), if_pos z] at fin
    exact Or.inl ⟨_, rfl, fin⟩
  · rw [if_neg z, if_neg z2] at fin
    exact Or.inl ⟨_, rfl, fin⟩
theorem c160 {K : Int → mm_M → Prop} {a i c what : Int} (ho : mr_ok M) (h : INV LL M n) (ha : mr_rg a) (hi : mr_rg i) (hc : mr_rg c) (hw : mr_rg what) (k1 : ¬ isA a → X 1 (M.1, M.2.1, M.2.2 + 1)) (k2 : isA a → ¬ (0 ≤ what ∧ what ≤ 1) → X 2 (M.1, M.2.1, M.2.2 + 1))
    (k3 : isA a → 0 ≤ what ∧ what ≤ 1 → ∀ M1, INV LL M1 n → LL (rdA M1 (ar M1 a)) M1 → ¬ ((0 ≤ i ∧ i ≤ M1.1 17 0 - 1) ∧ 0 ≤ c ∧ c ≤ M1.1 19 (i + 1) - M1.1 19 i - 1) → X 2 (M1.1, M1.2.1, M1.2.2 + 1))
    (k : isA a → 0 ≤ what ∧ what ≤ 1 → ∀ M1, INV LL M1 n → LL (rdA M1 (ar M1 a)) M1 → (0 ≤ i ∧ i ≤ M1.1 17 0 - 1) → (0 ≤ c ∧ c ≤ M1.1 19 (i + 1) - M1.1 19 i - 1) → K (if what = 0 then cX M1 (M1.1 19 i + c) else cY M1 (M1.1 19 i + c)) M1) : en_CI sc 160 [mm_r 0, mm_i a, mm_i i, mm_i c, mm_i what, mm_u, mm_u] M K X := by
  have r0 : mr_rg 0 := ⟨by decide, by decide⟩
  have r1 : mr_rg 1 := ⟨by decide, by decide⟩
  refine vc160_0 ho hw (c9 ho ha (fun ga _ => c10 ho hw r0 r1 (fun gw' _ => c126 ho h ga (fun M1 ho1 I1 f1 l1 e1 => ⟨rfl, fun _ => ?_⟩)) (fun q => Or.inr ⟨2, rfl, by decide, k2 ga q⟩)) (fun q => Or.inr ⟨1, rfl, by decide, k1 q⟩))
  have w := (I1.1.1 a ga.1 ga.2).2.1.2.1
  obtain ⟨n0, n1, _, _, _, cl⟩ := LL_clp w l1
  refine c10 ho1 hi r0 ⟨by omega, by omega⟩ (fun gi _ => c156 ho1 gi.1 (by omega) (fun _ => ?_)) (fun q => Or.inr ⟨2, rfl, by decide, k3 ga gw' M1 I1 l1 (fun z => q z.1)⟩)
  obtain ⟨Mg, p, m, C, _⟩ := cl i gi.1 (by omega)
  obtain ⟨_, g, l0, l1', b0, b1, hp, tl, L⟩ := id C
  have tg := tcn_ge (C := Cg (rdA M1 (ar M1 a)) Mg) (p := p) m
  have e4 := L.2.2.2.1
  refine c10 ho1 hc r0 ⟨by omega, by omega⟩ (fun gc _ => ⟨gi.1, by omega, ?_⟩) (fun q => Or.inr ⟨2, rfl, by decide, k3 ga gw' M1 I1 l1 (fun z => q z.2)⟩)
  have fin := k ga gw' M1 I1 l1 gi gc
  have ec : ((c.toNat : Nat) : Int) = c := by omega
  obtain ⟨t, t1, t2, t3, t4, t5, _, _⟩ := CLP_times C c.toNat (by omega)
  rw [ec] at t4
  have D := cor_xy (M := M1) w g hp (t4 (by omega))
  refine ⟨fun z => c130 ho1 (by omega) (by omega) D.1 (fun _ => ?_), fun z => c128 ho1 (by omega) (by omega) D.1 (fun _ => ?_)⟩
  · rw [if_neg z] at fin
    exact Or.inl ⟨_, rfl, fin⟩
  · rw [if_pos (Classical.byContradiction z)] at fin
    exact Or.inl ⟨_, rfl, fin⟩
end
