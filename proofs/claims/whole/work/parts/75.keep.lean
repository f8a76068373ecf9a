/-! ===== markRows; the object and keep ===== -/
def ar (M : mm_M) (k : Int) : Nat := (M.2.1 1 k).getD 0
def br (M : mm_M) : Nat := (M.2.1 2 0).getD 0
/-- the object: eight areas and the builder's, all different, all in form -/
def OW (M : mm_M) : Prop := (∀ k, 0 ≤ k → k < 8 → M.2.1 1 k = some (ar M k) ∧ AW M (ar M k) ∧ ar M k ≠ br M) ∧ (∀ k j, 0 ≤ k → k < 8 → 0 ≤ j → j < 8 → ar M k = ar M j → k = j) ∧ M.2.1 2 0 = some (br M) ∧ mr_A (br M) ∧ ∀ a, mr_A a → M.1 (a + 3) 0 = 0
theorem A_apart {a b : Nat} (ha : mr_A a) (hb : mr_A b) (h : a ≠ b) : a + 5 < b ∨ b + 5 < a := by
  unfold mr_A at ha hb
  omega
theorem AW_same {M M1 : mm_M} {a : Nat} (h : ∀ b k, a ≤ b → b ≤ a + 5 → M1.1 b k = M.1 b k) (g : AW M a) : AW M1 a ∧ rdA M1 a = rdA M a := by
  have e : ∀ b, a ≤ b → b ≤ a + 5 → M1.1 b = M.1 b := fun b h0 h1 => by
    funext j
    exact h b j h0 h1
  have er : rdA M1 a = rdA M a := by
    unfold rdA
    rw [e a (by omega) (by omega), e (a + 1) (by omega) (by omega), e (a + 2) (by omega) (by omega), e (a + 3) (by omega) (by omega), e (a + 4) (by omega) (by omega), e (a + 5) (by omega) (by omega)]
  obtain ⟨g1, g2, g3, g4⟩ := g
  refine ⟨⟨g1, by rw [er]; exact g2, ?_, ?_⟩, er⟩
  · rw [e a (by omega) (by omega)]
    exact g3
  · rw [e a (by omega) (by omega), e (a + 3) (by omega) (by omega)]
    exact g4
section
variable {sc : Nat × (Int → Int)} {M : mm_M} {X : Nat → mm_M → Prop}
/-- Area.markRows -/
theorem c48 {K : mm_M → Prop} {a w : Nat} {d : Int} (ho : mr_ok M) (h : AW M a) (hw : mr_Rw w) (hd : -100000 ≤ d ∧ d ≤ 100000)
    (k : ∀ M1, fr (rS w) M M1 → (∀ x, ri M1 w x ↔ ri M w x ∨ (-1000 ≤ x ∧ x < 1000 ∧ ∃ i, 0 ≤ i ∧ i < M.1 a 0 ∧ (x = M.1 (a + 1) i + d ∨ x = M.1 (a + 2) i + d))) → K M1) : en_CV sc 48 [mm_r a, mm_r w, mm_i d, mm_u] M K X := by
  have hA := h.1
  have hn := h.2.2.1
  have n0 : 0 ≤ M.1 a 0 := h.2.1.1
  refine vc48_0 ho ?_
  have loop : ∀ (c : Nat) (s : Int) (M' : mm_M), c = (M.1 a 0 - s).toNat → 0 ≤ s → s ≤ M.1 a 0 → mr_ok M' → fr (rS w) M M' → (∀ x, ri M' w x ↔ ri M w x ∨ (-1000 ≤ x ∧ x < 1000 ∧ ∃ i, 0 ≤ i ∧ i < s ∧ (x = M.1 (a + 1) i + d ∨ x = M.1 (a + 2) i + d))) →
      en_R sc 48 2 [mm_r a, mm_r w, mm_i d, mm_i s] [] M' (fun r M1 => (r = .inl none ∧ K M1) ∨ ∃ e, r = .inr e ∧ e < 100 ∧ X e M1) := by
    intro c
    induction c with
    | zero =>
      intro s M' hc s0 s1 ho' hf hr
      have e0 : M'.1 a 0 = M.1 a 0 := hf.2 _ _ (rS_A hw hA _ _ (by omega) (by omega))
      refine vc48_2 ho' hA ⟨by omega, by omega⟩ hw ⟨fun q => Or.inl ⟨rfl, k M' hf (fun x => ?_)⟩, fun q => absurd q (by omega)⟩
      have es : s = M.1 a 0 := by omega
      rw [hr x, es]
    | succ c ih =>
      intro s M' hc s0 s1 ho' hf hr
      have e0 : M'.1 a 0 = M.1 a 0 := hf.2 _ _ (rS_A hw hA _ _ (by omega) (by omega))
      have e1 : M'.1 (a + 1) s = M.1 (a + 1) s := hf.2 _ _ (rS_A hw hA _ _ (by omega) (by omega))
      have b := h.2.1.2.2.1 s s0 (show s < M.1 a 0 by omega)
      have b1 : -1000 ≤ M.1 (a + 1) s := b.2.1
      have b2 : M.1 (a + 1) s < M.1 (a + 2) s := b.2.2.1
      have b3 : M.1 (a + 2) s ≤ 1000 := b.2.2.2.1
      refine vc48_2 ho' hA ⟨by omega, by omega⟩ hw ⟨fun q => absurd q (by omega), fun q => ⟨by omega, by omega, by omega, by omega, ?_⟩⟩
      rw [e1]
      refine c17 ho' hw ⟨by omega, by omega⟩ ⟨by omega, by omega⟩ (by omega) (fun M2 f2 r2 ho2 => ⟨by omega, by omega, by omega, by omega, ?_⟩)
      have f3 := fr_trans hf f2
      have e2 : M2.1 (a + 2) s = M.1 (a + 2) s := f3.2 _ _ (rS_A hw hA _ _ (by omega) (by omega))
      rw [e2]
      refine c17 ho2 hw ⟨by omega, by omega⟩ ⟨by omega, by omega⟩ (by omega) (fun M3 f4 r3 ho3 => ?_)
      refine ih _ _ (by omega) (by omega) (by omega) ho3 (fr_trans f3 f4) (fun x => ?_)
      rw [r3, r2, hr]
      constructor
      · rintro (((g | ⟨g0, g1, i, i0, i1, i2⟩) | ⟨g0, g1, g2, g3⟩) | ⟨g0, g1, g2, g3⟩)
        · exact Or.inl g
        · exact Or.inr ⟨g0, g1, i, i0, by omega, i2⟩
        · exact Or.inr ⟨g0, g1, s, s0, by omega, Or.inl (by omega)⟩
        · exact Or.inr ⟨g0, g1, s, s0, by omega, Or.inr (by omega)⟩
      · rintro (g | ⟨g0, g1, i, i0, i1, i2⟩)
        · exact Or.inl (Or.inl (Or.inl g))
        · by_cases z : i = s
          · rw [z] at i2
            rcases i2 with i2 | i2
            · exact Or.inl (Or.inr ⟨g0, g1, by omega, by omega⟩)
            · exact Or.inr ⟨g0, g1, by omega, by omega⟩
          · exact Or.inl (Or.inl (Or.inr ⟨g0, g1, i, i0, by omega, i2⟩))
  exact loop _ 0 M rfl (by omega) n0 ho fr_refl (fun x => ⟨Or.inl, fun z => z.elim id (fun ⟨_, _, i, i0, i1, _⟩ => absurd i1 (by omega))⟩)
theorem OW_swap {t : Int} (hO : OW M) (h0 : 0 ≤ t) (h1 : t < 8) (hB : AW M (br M)) : ∀ M1 : mm_M, M1.2.1 = (mm_putR (mm_putR M 1 t (some (br M))) 2 0 (some (ar M t))).2.1 → (∀ a k, a ≠ 0 → M1.1 a k = M.1 a k) → OW M1 ∧ (∀ j, 0 ≤ j → j < 8 → rdA M1 (ar M1 j) = if j = t then rdA M (br M) else rdA M (ar M j)) ∧ ar M1 t = br M := by
  intro M1 hr hn
  obtain ⟨o1, o2, o3, o4, o5⟩ := hO
  have rt : M1.2.1 1 t = some (br M) := by
    rw [hr]
    show (if (1 : Nat) = 2 ∧ t = 0 then some (ar M t) else if (1 : Nat) = 1 ∧ t = t then some (br M) else M.2.1 1 t) = _
    rw [if_neg (by omega), if_pos ⟨rfl, rfl⟩]
  have rj : ∀ j, j ≠ t → M1.2.1 1 j = M.2.1 1 j := by
    intro j z
    rw [hr]
    show (if (1 : Nat) = 2 ∧ j = 0 then some (ar M t) else if (1 : Nat) = 1 ∧ j = t then some (br M) else M.2.1 1 j) = _
    rw [if_neg (by omega), if_neg (by omega)]
  have rb2 : M1.2.1 2 0 = some (ar M t) := by
    rw [hr]
    show (if (2 : Nat) = 2 ∧ (0 : Int) = 0 then some (ar M t) else (mm_putR M 1 t (some (br M))).2.1 2 0) = _
    rw [if_pos ⟨rfl, rfl⟩]
  have at' : ar M1 t = br M := by unfold ar; rw [rt]; rfl
  have aj : ∀ j, j ≠ t → ar M1 j = ar M j := fun j z => by unfold ar; rw [rj j z]
  have b' : br M1 = ar M t := by unfold br; rw [rb2]; rfl
  have keep : ∀ a, AW M a → AW M1 a ∧ rdA M1 a = rdA M a := fun a g => AW_same (fun b k g0 g1 => hn b k (by have := g.1; unfold mr_A at this; omega)) g
  refine ⟨⟨fun j j0 j1 => ?_, fun i j i0 i1 j0 j1 e => ?_, by rw [rb2, b'], by rw [b']; exact (o1 t h0 h1).2.1.1, fun a ha => by rw [hn _ _ (by omega)]; exact o5 a ha⟩, fun j j0 j1 => ?_, at'⟩
  · by_cases z : j = t
    · rw [z, at', b']
      exact ⟨rt, (keep _ hB).1, fun e => (o1 t h0 h1).2.2 e.symm⟩
    · rw [aj j z, b', rj j z]
      exact ⟨(o1 j j0 j1).1, (keep _ (o1 j j0 j1).2.1).1, fun e => z (o2 j t j0 j1 h0 h1 e)⟩
  · by_cases z : i = t
    · by_cases z2 : j = t
      · rw [z, z2]
      · rw [z, at', aj j z2] at e
        exact absurd e.symm (o1 j j0 j1).2.2
    · by_cases z2 : j = t
      · rw [z2, at', aj i z] at e
        exact absurd e (o1 i i0 i1).2.2
      · rw [aj i z, aj j z2] at e
        exact o2 i j i0 i1 j0 j1 e
  · by_cases z : j = t
    · rw [if_pos z, z, at']
      exact (keep _ hB).2
    · rw [if_neg z, aj j z]
      exact (keep _ (o1 j j0 j1).2.1).2
/-- CellAreas.keep -/
theorem c30 {K : Int → mm_M → Prop} {t : Int} (ho : mr_ok M) (hO : OW M) (h0 : 0 ≤ t) (h1 : t < 8) (hB : M.1 2 2 = 0 → AW M (br M)) (kf : M.1 2 2 ≠ 0 → K (-2) M)
    (k : M.1 2 2 = 0 → ∀ M1, M1.2.2 = M.2.2 → OW M1 → (∀ j, 0 ≤ j → j < 8 → rdA M1 (ar M1 j) = if j = t then rdA M (br M) else rdA M (ar M j)) → M1.1 0 6 = (if M.1 0 6 = t then -1 else M.1 0 6) → (∀ a k, a ≠ 0 → M1.1 a k = M.1 a k) → K (M.1 (br M) 0) M1) : en_CI sc 30 [mm_r 0, mm_i t, mm_u] M K X := by
  refine vc30_0 ho ⟨by omega, by omega⟩ ⟨fun q => ⟨h0, h1, ar M t, (hO.1 t h0 h1).1, (hO.1 t h0 h1).2.1.1, br M, hO.2.2.1, hO.2.2.2.1, h0, h1, fun q2 => ⟨h0, h1, ?_⟩, fun q2 => ⟨h0, h1, ?_⟩⟩, fun q => Or.inl ⟨_, rfl, kf q⟩⟩
  · have S := OW_swap hO h0 h1 (hB q) (mm_putR (mm_putR M 1 t (some (br M))) 2 0 (some (ar M t))) rfl (fun a k _ => rfl)
    have e : (mm_putR (mm_putR M 1 t (some (br M))) 2 0 (some (ar M t))).2.1 1 t = some (br M) := by rw [(S.1.1 t h0 h1).1, S.2.2]
    have q2' : M.1 0 6 ≠ t := q2
    refine ⟨br M, e, hO.2.2.2.1, Or.inl ⟨_, rfl, k q _ rfl S.1 S.2.1 ?_ (fun a k _ => rfl)⟩⟩
    rw [if_neg q2']
    rfl
  · have S := OW_swap hO h0 h1 (hB q) (mm_putN (mm_putR (mm_putR M 1 t (some (br M))) 2 0 (some (ar M t))) 0 6 (-1)) rfl (fun a k z => put_a z)
    have e : (mm_putN (mm_putR (mm_putR M 1 t (some (br M))) 2 0 (some (ar M t))) 0 6 (-1)).2.1 1 t = some (br M) := by rw [(S.1.1 t h0 h1).1, S.2.2]
    have q2' : M.1 0 6 = t := Classical.byContradiction q2
    have eb : (mm_putN (mm_putR (mm_putR M 1 t (some (br M))) 2 0 (some (ar M t))) 0 6 (-1)).1 (br M) 0 = M.1 (br M) 0 := put_a (by have := hO.2.2.2.1; unfold mr_A at this; omega)
    refine ⟨br M, e, hO.2.2.2.1, Or.inl ⟨_, rfl, ?_⟩⟩
    rw [eb]
    refine k q _ rfl S.1 S.2.1 ?_ (fun a k z => put_a z)
    rw [if_pos q2']
    exact put_eq
end
