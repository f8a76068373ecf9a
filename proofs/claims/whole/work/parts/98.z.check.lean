/-! ===== CellAreas.check answers 1 ===== -/
theorem CRN_same {M M' : mm_M} (e : ∀ a k, 17 ≤ a → a ≤ 20 → M'.1 a k = M.1 a k) (h : CRN M) : CRN M' := by
  have e17 : ∀ k, M'.1 17 k = M.1 17 k := fun k => e 17 k (by decide) (by decide)
  have e19 : ∀ k, M'.1 19 k = M.1 19 k := fun k => e 19 k (by decide) (by decide)
  have e20 : ∀ k, M'.1 20 k = M.1 20 k := fun k => e 20 k (by decide) (by decide)
  unfold CRN at h ⊢
  unfold cX cY at h ⊢
  simp only [e17, e19, e20]
  exact h
theorem FT_same {M M' : mm_M} (e : ∀ a k, 17 ≤ a → a ≤ 20 → M'.1 a k = M.1 a k) (y x : Int) : FT M' y x = FT M y x := by
  have e17 : ∀ k, M'.1 17 k = M.1 17 k := fun k => e 17 k (by decide) (by decide)
  have e19 : ∀ k, M'.1 19 k = M.1 19 k := fun k => e 19 k (by decide) (by decide)
  have e20 : ∀ k, M'.1 20 k = M.1 20 k := fun k => e 20 k (by decide) (by decide)
  have cx : ∀ c, cX M' c = cX M c := fun c => by
    unfold cX
    rw [e20]
  have cy : ∀ c, cY M' c = cY M c := fun c => by
    unfold cY
    rw [e20]
  have nx : ∀ l c, nxt M' l c = nxt M l c := fun l c => by
    unfold nxt
    rw [e19, e19]
  have e1 : ∀ l c, fl M' l y x c = fl M l y x c := fun l c => by
    unfold fl
    rw [nx, cx, cx, cy, cy]
  unfold FT
  rw [e17]
  refine sumN_eq (fun l _ _ => ?_)
  show flF M' l y x = flF M l y x
  unfold flF
  rw [e19, e19]
  exact sumU_cong _ (fun k _ => e1 _ _)
theorem FT_const {M : mm_M} (H : CRN M) {y : Int} (n : ¬ ∃ c, 0 ≤ c ∧ c < M.1 17 1 ∧ cY M c = y + 1) (x : Int) : FT M (y + 1) x = FT M y x := by
  obtain ⟨h1, h2, h3, h4, h5⟩ := H
  unfold FT
  refine sumN_eq (fun l l0 l1 => ?_)
  have b5 := h5 l l0 (by omega)
  unfold flF
  refine sumU_cong _ (fun k hk => ?_)
  have N := nxt_in (M := M) (l := l) (c := M.1 19 l + k) (by omega) (by omega)
  have q1 : cY M (M.1 19 l + k) ≠ y + 1 := fun z => n ⟨_, by omega, by omega, z⟩
  have q2 : cY M (nxt M l (M.1 19 l + k)) ≠ y + 1 := fun z => n ⟨_, by omega, by omega, z⟩
  unfold fl
  generalize cY M (M.1 19 l + k) = a at *
  generalize cY M (nxt M l (M.1 19 l + k)) = b at *
  by_cases z : cX M (M.1 19 l + k) = cX M (nxt M l (M.1 19 l + k)) ∧ min a b ≤ y ∧ y < max a b ∧ cX M (M.1 19 l + k) ≤ x
  · rw [if_pos z, if_pos (by omega)]
  · rw [if_neg z, if_neg (by omega)]
section
variable {sc : Nat × (Int → Int)} {M : mm_M} {X : Nat → mm_M → Prop} {n : Nat}
theorem INV_k {M1 : mm_M} (h : INV LL M n) (f : fr (kS (br M)) M M1) : INV LL M1 n := by
  obtain ⟨hO, hE, ⟨h19, hC⟩, hn⟩ := h
  obtain ⟨o1, o2, o3, o4, o5, o6, o7⟩ := kS_keep hO f
  refine ⟨o1, fun j j0 j1 => ?_, ⟨(o5 19 0 (Or.inl ⟨by decide, by decide⟩)).trans h19, ?_⟩, by rw [o7]; exact hn⟩
  · obtain ⟨w, e⟩ := hE j j0 j1
    have k := rdB_same w (M1 := M1) (fun a k y => o5 a k (Or.inr (by unfold hS at y; omega)))
    rw [o2, o4 j j0 j1]
    exact ⟨k.2, eqv_trans (hO.1 j j0 j1).2.1.2.1 e k.1⟩
  · rw [o6]
    rcases hC with c | ⟨c, d⟩
    · exact Or.inl c
    · refine Or.inr ⟨c, ?_⟩
      rw [o2, o4 _ c.1 c.2]
      exact LL_st _ M M1 (fun a k h0 h1 => o5 a k (Or.inl ⟨h0, h1⟩)) d
def mkc2 (M : mm_M) (x : Int) : Prop := -1000 ≤ x ∧ x < 1000 ∧ ∃ c, 0 ≤ c ∧ c < M.1 17 1 ∧ cY M c = x
/-- from the last row on -/
theorem m196_fin {K : Int → mm_M → Prop} {a low : Int} {s : sh} {l3 : mm_V} {M' : mm_M} (I : INV LL M n) (ga : isA a) (hs : rdA M (ar M a) = s) (l : LL s M) (l0 : -1000 ≤ low) (hL : LI M M' (mkc2 M) (has s) low) (h1 : 1000 ≤ low ∨ M'.1 2 2 ≠ 0) (hl3 : l3 = mm_u ∨ ∃ x, l3 = mm_i x) (k : ∀ M1, INV LL M1 n → K 1 M1) : en_R sc 196 111 [mm_r 0, mm_i a, mm_r 17, l3, mm_i low] [] M' (QI K X) := by
  have hO := I.1
  have Aa := OW_A hO ga
  have AW2 := Aa.2.2
  rw [hs] at AW2
  have w := AW2.1
  have hT : inF (has s) := fun x y z => has_rg w z
  obtain ⟨ho', hf, hm, hB⟩ := hL
  obtain ⟨o1, o2, o3, o4, o5, o6, o7⟩ := kS_keep hO hf
  have B := BS_end hT l0 h1 hB
  have n1 : sn s ≤ 100 := by
    rw [← hs]
    exact AW2.2.1
  have n2 : nS_ s ≤ 400 := by
    rw [← hs]
    exact AW2.2.2
  have fs : fits s (has s) := ⟨w, n1, n2, fun _ _ => Iff.rfl⟩
  have A' := OW_A o1 ga
  rw [o2] at A'
  have s' : rdA M' (ar M a) = s := (o4 a ga.1 ga.2).trans hs
  have r1 : mr_rg 1 := ⟨by decide, by decide⟩
  rcases BS_or B with ⟨b1, b2, b3⟩ | ⟨b1, b2⟩
  · have e : eqv (rdA M' (br M)) (rdA M' (ar M a)) := by
      rw [s']
      exact uniq b3.1 w b3.2.2.2
    have c0 := cells_rg w
    have rc : mr_rg (cells s) := ⟨by omega, by omega⟩
    refine vc196_111 ho' ⟨fun q => absurd b1 q, fun _ => ⟨br M, B.1, B.2.1, ga.1, ga.2, ar M a, A'.1, A'.2.1, c194 ho' b2 A'.2 e (fun _ => ⟨r1, fun z => absurd z (by decide), fun _ => ?_⟩)⟩⟩
    refine vc196_145 ho' hl3 r1 ⟨fun z => absurd z (by decide), fun _ => c195 ho' w n2 (LL_st _ M M' (fun a k h0 h1 => o5 a k (Or.inl ⟨h0, h1⟩)) l) (fun _ => ⟨ga.1, ga.2, ar M a, A'.1, A'.2.1, c42 ho' A'.2 (fun _ => ?_)⟩)⟩
    rw [s']
    exact ⟨rc, rc, fun z => absurd rfl z, fun _ => Or.inl ⟨_, rfl, k M' (INV_k I hf)⟩⟩
  · exact (not_both fs b2).elim
theorem c196 {K : Int → mm_M → Prop} {a : Int} (ho : mr_ok M) (h : INV LL M n) (ha : mr_rg a) (x1 : ¬ isA a → X 1 (M.1, M.2.1, M.2.2 + 1)) (k : isA a → ∀ M1, INV LL M1 n → K 1 M1) : en_CI sc 196 [mm_r 0, mm_i a, mm_u, mm_u, mm_u] M K X := by
  refine vc196_0 ho (c9 ho ha (fun ga _ => c126 ho h ga (fun M1 ho1 I1 f1 l1 e1 => ⟨rfl, fun _ => ?_⟩)) (fun q => Or.inr ⟨1, rfl, by decide, x1 q⟩))
  clear f1 e1 h ho x1
  have hO := I1.1
  have Aa := OW_A hO ga
  have w := Aa.2.2.1
  generalize hs : rdA M1 (ar M1 a) = s at *
  have H1 := LL_crn w l1
  have hT : inF (has s) := fun x y z => has_rg w z
  have H : cst (mkc2 M1) (has s) := fun y y0 y1 q x => by
    rw [← FT_has w l1, ← FT_has w l1, FT_const H1 (fun ⟨c, c0, c1, c2⟩ => q ⟨by omega, by omega, c, c0, c1, c2⟩)]
  have e17 : ∀ M', fr (kS (br M1)) M1 M' → ∀ b i, 17 ≤ b → b ≤ 20 → M'.1 b i = M1.1 b i := fun M' f b i h0 h1 => (kS_keep hO f).2.2.2.2.1 b i (Or.inl ⟨h0, h1⟩)
  refine c12 ho1 w15 (fun Ma fa ra hoa => ?_)
  have ka : fr (kS (br M1)) M1 Ma := fr_mono fa (kS_row (by decide))
  refine c192 hoa (CRN_same (e17 Ma ka) H1) (fun Mb fb rb' hob => ?_)
  have kb : fr (kS (br M1)) M1 Mb := fr_trans ka (fr_mono fb (kS_row (by decide)))
  have mk : ∀ x, ri Mb 15 x ↔ mkc2 M1 x := fun x => by
    rw [rb']
    have e1 : Ma.1 17 1 = M1.1 17 1 := e17 Ma ka 17 1 (by decide) (by decide)
    have e2 : ∀ c, cY Ma c = cY M1 c := fun c => by
      unfold cY
      rw [e17 Ma ka 20 c (by decide) (by decide)]
    rw [e1]
    simp only [e2]
    exact ⟨fun z => z.elim (fun z => absurd z (ra x)) id, Or.inr⟩
  refine c18y hob hO kb mk hT (fun Md Ld => ?_)
  have fin : ∀ (low : Int) (l3 : mm_V) (M' : mm_M), -1000 ≤ low → LI M1 M' (mkc2 M1) (has s) low → (1000 ≤ low ∨ M'.1 2 2 ≠ 0) → (l3 = mm_u ∨ ∃ x, l3 = mm_i x) → en_R sc 196 111 [mm_r 0, mm_i a, mm_r 17, l3, mm_i low] [] M' (QI K X) := fun low l3 M' l0 hL h1 hl3 => m196_fin I1 ga hs l1 l0 hL h1 hl3 (fun M2 I2 => k ga M2 I2)
  have loop : ∀ (c : Nat) (low : Int) (l3 : mm_V) (M' : mm_M), (1000 - low).toNat ≤ c → -1000 ≤ low → low ≤ 1000 → (l3 = mm_u ∨ ∃ x, l3 = mm_i x) → LI M1 M' (mkc2 M1) (has s) low → en_R sc 196 37 [mm_r 0, mm_i a, mm_r 17, l3, mm_i low] [] M' (QI K X) := by
    intro c
    induction c with
    | zero =>
      intro low l3 M' hc l0 l1' hl3 hL
      exact vc196_37 hL.1 ⟨by omega, by omega⟩ ⟨fun q => fin low l3 M' l0 hL (Or.inl q) hl3, fun q => absurd (by omega) q⟩
    | succ c ih =>
      intro low l3 M' hc l0 l1' hl3 hL
      have ho' := hL.1
      refine vc196_37 ho' ⟨by omega, by omega⟩ ⟨fun q => fin low l3 M' l0 hL (Or.inl q) hl3, fun q => ⟨fun q2 => fin low l3 M' l0 hL (Or.inr q2) hl3, fun _ => ?_⟩⟩
      refine c22 ho' w15 ⟨by omega, by omega⟩ (by omega) (fun r r0 r1 r2 r3 _ => ⟨⟨by omega, by omega⟩, ⟨by omega, by omega⟩, c12 ho' w11 (fun Me fe re hoe => ?_)⟩)
      have ke : fr (kS (br M1)) M1 Me := fr_trans hL.2.1 (fr_mono fe (kS_row (by decide)))
      refine c193 hoe (CRN_same (e17 Me ke) H1) ⟨by omega, by omega⟩ re (fun Mg fg rg hog => ?_)
      refine c29y hO hT H hL hog (fr_trans (fr_mono fe (fun a k z => Or.inl z)) (fr_mono fg (fun a k z => Or.inl z))) (fun x => ?_) l0 (by omega) r1 r2 (fun Mh Lh => ih _ _ Mh (by omega) (by omega) (by omega) (Or.inr ⟨_, rfl⟩) Lh)
      rw [rg, FT_same (e17 Me ke), FT_has w l1]
      exact ⟨fun z => z.2.2, fun z => ⟨(hT x low z).1, (hT x low z).2.1, z⟩⟩
  exact loop _ (-1000) mm_u Md (Nat.le_refl _) (by decide) (by decide) (Or.inl rfl) Ld
theorem p_check {a : Int} (ha : mr_rg a) : PR LL sc 197 [mm_r 0, mm_i a, mm_r 98, mm_u] 198 [mm_r 72, mm_i a] := by
  intro M n ho h
  have r0 : mr_rg 0 := ⟨by decide, by decide⟩
  have r1 : mr_rg 1 := ⟨by decide, by decide⟩
  refine vc197_0 ho (c196 ho h ha (fun q ho2 => Or.inl ⟨rfl, Or.inl ⟨1, rfl, fun ho3 => ?_⟩⟩) (fun g M1 I1 ho1 => ⟨r1, rj_of r1, Or.inl ⟨0, rfl, fun ho2 => ?_⟩⟩))
  · refine vc198_0 ho3 (c34 ho3 ha (fun g => absurd g q) (fun _ _ => ⟨r0, fun _ => vc198_14 ho3 r1 ?_, fun z => absurd rfl z⟩))
    rw [put_eq]
    refine ⟨fun z => absurd z (by decide), fun _ => Or.inl ⟨_, rfl, fun _ => ?_⟩⟩
    exact ⟨put_eq, ⟨by decide, by decide⟩, fun z => absurd z (by decide), INV_t LL_st h (fr_put ⟨rfl, rfl⟩)⟩
  · refine vc198_0 ho2 (c34 ho2 ha (fun _ _ => ⟨r1, fun z => absurd z (by decide), fun _ => vc198_14 ho2 r0 ?_⟩) (fun q => absurd g q))
    rw [put_eq]
    refine ⟨fun _ => Or.inl ⟨_, rfl, fun _ => ?_⟩, fun z => absurd (by decide) z⟩
    exact p_read LL_st I1 zfr_refl rfl (fr_put (Or.inr ⟨rfl, rfl⟩)) put_eq r1 rfl
end
