/-! ===== CellAreas.inner, and both sides ===== -/
/-- what it makes, of the bands before n -/
def inT (s : sh) (M : mm_M) (l n x y : Int) : Prop := ∃ b, 0 ≤ b ∧ b < n ∧ slo s b ≤ y ∧ y < shi s b ∧ -1000 ≤ x ∧ x < 1000 ∧ onb s M l b x
theorem onb_same {s : sh} {M M' : mm_M} (e : ∀ k, M'.1 18 k = M.1 18 k) (l b x : Int) : onb s M' l b x ↔ onb s M l b x := by
  unfold onb
  have z : evn s M' l b x = evn s M l b x := by
    funext k
    unfold evn
    rw [e]
  rw [z]
section
variable {sc : Nat × (Int → Int)} {M : mm_M} {X : Nat → mm_M → Prop} {n : Nat}
/-- from loopsOf on -/
theorem m164 {K : Int → mm_M → Prop} {t a i : Int} {s : sh} (ho : mr_ok M) (hO : OW M) (gt : isA t) (ga : isA a) (hi : mr_rg i) (hs : rdA M (ar M a) = s)
    (k : ∀ r M1, CB M M1 t (inT s M i (sn s)) r → K r M1) : 0 ≤ a ∧ (a < 8 ∧ (∃ b15, M.2.1 1 a = some b15 ∧ mr_A b15 ∧ (en_CV sc 18 [mm_r 2] M (fun M18 => mr_ok M18 → en_R sc 164 45 [mm_r 0, mm_i t, mm_i a, mm_i i, mm_r 17, mm_r b15, mm_i 0] [] M18 (QI K X)) (fun e M9 => QI K X (.inr e) M9)))) := by
  have Aa := OW_A hO ga
  have w : wf s := by rw [← hs]; exact Aa.2.2.1
  have n0 := w.1
  have n1 : sn s ≤ 100 := by rw [← hs]; exact Aa.2.2.2.1
  have hA := hO.2.2.2.1
  have kA0 : ∀ M' : mm_M, fr (kS (br M)) M M' → M'.2.1 1 a = some (ar M a) ∧ AW M' (ar M a) ∧ rdA M' (ar M a) = s := fun M' f => by
    have x := kA hO f ga
    rw [hs] at x
    exact x
  have g18 : ∀ M' : mm_M, fr (kS (br M)) M M' → ∀ j, M'.1 18 j = M.1 18 j := fun M' f j => f.2 _ _ (fun z => by unfold kS bS at z; unfold mr_A at hA; omega)
  refine ⟨ga.1, ga.2, ar M a, Aa.1, Aa.2.1, c18 ho hO.2.2.1 hA (hO.2.2.2.2 _ hA) (fun Md fd Bd hod => ?_)⟩
  have loop : ∀ (c : Nat) (b : Int) (M' : mm_M), c = (sn s - b).toNat → 0 ≤ b → b ≤ sn s → mr_ok M' → fr (kS (br M)) M M' → BS M' (br M) (inT s M i b) → en_R sc 164 45 [mm_r 0, mm_i t, mm_i a, mm_i i, mm_r 17, mm_r (ar M a), mm_i b] [] M' (QI K X) := by
    intro c
    induction c with
    | zero =>
      intro b M' hc b0 b1 ho' hf hB
      obtain ⟨_, A', s'⟩ := kA0 M' hf
      have rr := rdA_row s' b b0
      have eb : b = sn s := by omega
      rw [eb] at hB
      refine vc164_45 ho' Aa.2.1 ⟨by omega, by omega⟩ ?_
      rw [rr.2.2.2.2.2.2.1]
      exact ⟨fun _ => c30y ho' hO hf hB gt.1 gt.2 (fun r M1 c _ => Or.inl ⟨r, rfl, k r M1 c⟩), fun q => absurd (by omega) q⟩
    | succ c ih =>
      intro b M' hc b0 b1 ho' hf hB
      obtain ⟨_, A', s'⟩ := kA0 M' hf
      have rr := rdA_row s' b b0
      have bk := w.2.2.1 b b0 (by omega)
      have b2 := bk.2.1
      have b3 := bk.2.2.1
      have b4 := bk.2.2.2.1
      refine vc164_45 ho' Aa.2.1 ⟨by omega, by omega⟩ ?_
      rw [rr.2.2.2.2.2.2.1]
      refine ⟨fun q => absurd q (by omega), fun _ => c12 ho' w11 (fun Me fe re hoe => ?_)⟩
      have fE : fr (kS (br M)) M Me := fr_trans hf (fr_mono fe (kS_row (by decide)))
      obtain ⟨_, Ae, se⟩ := kA0 Me fE
      refine c163 hoe Ae se b0 (by omega) hi re (fun M1 f1 R1 o1 => ?_)
      have F1 : fr (kS (br M)) M M1 := fr_trans fE (fr_mono f1 (kS_row (by decide)))
      obtain ⟨_, A1, s1⟩ := kA0 M1 F1
      have r1 := rdA_row s1 b b0
      rw [r1.2.2.2.2.1, r1.2.2.2.2.2.1]
      refine ⟨b0, by omega, b0, by omega, ?_⟩
      refine c29 o1 (BS_fr (fr_trans fe f1) (fun a k z => by have z' : a = 11 + 1 := z; omega) hB) w11 (by decide) (fun x g => ?_) ⟨by omega, by omega⟩ ⟨by omega, by omega⟩ (fun _ => ⟨b2, b4⟩) (fun _ x y z => ?_) (fun Mc fc Bc hoc => ?_)
      · have := (R1 x).mp g
        omega
      · obtain ⟨j, j0, j1, j2, j3, _⟩ := z
        have := wf_hl w j0 j1 (show b < sn s by omega)
        omega
      · refine ih (b + 1) Mc (by omega) (by omega) (by omega) hoc (fr_trans F1 (fr_mono fc kS_b)) (BS_iff Bc (fun x y => ?_))
        rw [R1, onb_same (g18 Me fE)]
        constructor
        · rintro (⟨j, j0, j1, j2⟩ | z)
          · exact ⟨j, j0, by omega, j2⟩
          · exact ⟨b, b0, by omega, z⟩
        · rintro ⟨j, j0, j1, j2, j3, j4⟩
          by_cases z : j = b
          · rw [z] at j2 j3 j4
            exact Or.inr ⟨j2, j3, j4⟩
          · exact Or.inl ⟨j, j0, by omega, j2, j3, j4⟩
  exact loop _ 0 Md rfl (Int.le_refl _) n0 hod (fr_mono fd kS_b) (BS_iff Bd (fun x y => ⟨fun z => z.elim, fun ⟨i, i0, i1, _⟩ => absurd i1 (by omega)⟩))
theorem c164 {K : Int → mm_M → Prop} {t a i : Int} (ho : mr_ok M) (h : INV LL M n) (ht : mr_rg t) (ha : mr_rg a) (hi : mr_rg i) (x1 : ¬ (isA t ∧ isA a) → X 1 (M.1, M.2.1, M.2.2 + 1))
    (x2 : isA t ∧ isA a → ∀ M1, INV LL M1 n → LL (rdA M1 (ar M1 a)) M1 → ¬ (0 ≤ i ∧ i ≤ M1.1 17 0 - 1) → X 2 (M1.1, M1.2.1, M1.2.2 + 1))
    (k : isA t ∧ isA a → ∀ M1, INV LL M1 n → LL (rdA M1 (ar M1 a)) M1 → (0 ≤ i ∧ i ≤ M1.1 17 0 - 1) → ∀ r M2, CB M1 M2 t (inT (rdA M1 (ar M1 a)) M1 i (sn (rdA M1 (ar M1 a)))) r → K r M2) : en_CI sc 164 [mm_r 0, mm_i t, mm_i a, mm_i i, mm_u, mm_u, mm_u] M K X := by
  have r0 : mr_rg 0 := ⟨by decide, by decide⟩
  refine vc164_0 ho (c9 ho ht (fun gt _ => ?_) (fun q => Or.inr ⟨1, rfl, by decide, x1 (fun z => q z.1)⟩))
  refine c9 ho ha (fun ga _ => ?_) (fun q => Or.inr ⟨1, rfl, by decide, x1 (fun z => q z.2)⟩)
  refine c126 ho h ga (fun M1 ho1 I1 f1 l1 e1 => ⟨rfl, fun _ => ?_⟩)
  have w := (I1.1.1 a ga.1 ga.2).2.1.2.1
  obtain ⟨n0, n1, _, _, _, cl⟩ := LL_clp w l1
  refine c10 ho1 hi r0 ⟨by omega, by omega⟩ (fun gi _ => ?_) (fun q => Or.inr ⟨2, rfl, by decide, x2 ⟨gt, ga⟩ M1 I1 l1 q⟩)
  exact m164 ho1 I1.1 gt ga hi rfl (fun r M2 c => k ⟨gt, ga⟩ M1 I1 l1 gi r M2 c)
end
/-- both sides make the same cells -/
theorem in_same {s : sh} {Mf : mm_M} {i : Int} (w : wf s) (F : FLS s Mf) (T : MTC s Mf Mf) (i0 : 0 ≤ i) (i1 : i < Mf.1 72 29) (x y : Int) : inT s Mf i (sn s) x y ↔ inTr s Mf (st3 Mf i) (gh Mf) x y := by
  obtain ⟨hp, m, m0, hm, nr⟩ := FLS_per F i0 i1
  have g := F.1.1
  have B := GL_GB w g (isS_sn hp g)
  have W0 := g.1
  have t1 := T.1
  have t8 := T.2.2.2.2.2.2.2
  have row : ∀ b j, 0 ≤ b → b < sn s → 0 ≤ j → j < gh Mf → RBd s Mf b j → ∀ x, sumN (cvn s Mf (st3 Mf i) j x) (gw Mf + 1).toNat = sumN (evn s Mf i b x) (2 * nS_ s).toNat := fun b j b0 b1 j0 j1 r x => by
    rw [row_eq w g hp b0 b1 j0 j1 r x]
    refine sumN_eq (fun e e0 e1 => ?_)
    obtain ⟨q, v⟩ := VS_ex w g e0 (show e < 2 * nS_ s by omega)
    have mk := (t8 e q v).2.2 i i0 (by omega)
    have iff : (∃ q, VS s Mf e q ∧ orb (Cg s Mf) (st3 Mf i) q) ↔ Mf.1 18 e = i := by
      constructor
      · rintro ⟨q', v', o'⟩
        rw [VS_fun w g v' v] at o'
        exact mk.mpr o'
      · exact fun z => ⟨q, v, mk.mp z⟩
    unfold evn
    by_cases z : Mf.1 18 e = i ∧ sst s b ≤ e / 2 ∧ e / 2 < sst s (b + 1) ∧ epos s e ≤ x
    · rw [if_pos z, if_pos ⟨iff.mpr z.1, ⟨b0, b1, z.2.1, z.2.2.1⟩, z.2.2.2⟩]
    · rw [if_neg z, if_neg (fun u => z ⟨iff.mp u.1, u.2.1.2.2.1, u.2.1.2.2.2, u.2.2⟩)]
  constructor
  · rintro ⟨b, b0, b1, y0, y1, x0, x1, o⟩
    obtain ⟨j, j0, j1, e1, e2⟩ := band_row w g b0 b1
    refine ⟨j, j0, j1, by rw [e1]; exact y0, by rw [e2]; exact y1, ?_⟩
    rw [row b j b0 b1 j0 j1 ⟨e1, e2⟩]
    exact o
  · rintro ⟨j, j0, j1, y0, y1, o⟩
    have x0 : -1000 ≤ x := Classical.byContradiction (fun z => by
      have e : sumN (cvn s Mf (st3 Mf i) j x) (gw Mf + 1).toNat = 0 := sumN_z (fun c c0 c1 => if_neg (fun u => by
        have := (B.1 c c0 (by omega)).1
        have := u.2
        omega))
      rw [e] at o
      omega)
    have x1 : x < 1000 := Classical.byContradiction (fun z => by
      have e := cv_tot (s := s) (p := st3 Mf i) (j := j) (x := x) (c := (gw Mf + 1).toNat) B (by omega) (fun c c0 c1 v => by
        have := (B.1 c c0 (by omega)).2
        omega)
      have tt := row_tot w g hp m0 hm nr j0 j1
      rw [e] at o
      omega)
    have ex : ∃ c, vcol (Cg s Mf) (st3 Mf i) j c := Classical.byContradiction (fun z => by
      have e : sumN (cvn s Mf (st3 Mf i) j x) (gw Mf + 1).toNat = 0 := sumN_z (fun c c0 c1 => if_neg (fun u => z ⟨c, u.1⟩))
      rw [e] at o
      omega)
    obtain ⟨c, v⟩ := ex
    obtain ⟨e, q, _, _, ed, _⟩ := vcol_VS w g hp v
    obtain ⟨b, k, r, a, _⟩ := ed
    refine ⟨b, a.1, a.2.1, by rw [← r.1]; exact y0, by rw [← r.2]; exact y1, x0, x1, ?_⟩
    unfold onb
    rw [← row b j a.1 a.2.1 j0 j1 r]
    exact o
theorem inT_eqv {s s' : sh} {M : mm_M} (w : wf s) (q : eqv s s') (l x y : Int) : inT s M l (sn s) x y ↔ inT s' M l (sn s') x y := by
  have nS : nS_ s' = nS_ s := by
    show sst s' (sn s') = sst s (sn s)
    rw [← q.1]
    exact (q.2.2.1 (sn s) w.1 (Int.le_refl _)).symm
  have ev : ∀ b, 0 ≤ b → b < sn s → (onb s M l b x ↔ onb s' M l b x) := fun b b0 b1 => by
    unfold onb
    rw [nS]
    have e : sumN (evn s M l b x) (2 * nS_ s).toNat = sumN (evn s' M l b x) (2 * nS_ s).toNat := sumN_eq (fun e e0 e1 => by
      have k := q.2.2.2 (e / 2) (by omega) (show e / 2 < nS_ s by omega)
      have s0 := q.2.2.1 b b0 (by omega)
      have s1 := q.2.2.1 (b + 1) (by omega) (by omega)
      unfold evn epos
      rw [k.1, k.2, s0, s1])
    rw [e]
  constructor
  · rintro ⟨b, b0, b1, y0, y1, x0, x1, o⟩
    have k := q.2.1 b b0 b1
    exact ⟨b, b0, by rw [← q.1]; exact b1, by rw [← k.1]; exact y0, by rw [← k.2]; exact y1, x0, x1, (ev b b0 b1).mp o⟩
  · rintro ⟨b, b0, b1, y0, y1, x0, x1, o⟩
    rw [← q.1] at b1
    have k := q.2.1 b b0 b1
    exact ⟨b, b0, b1, by rw [k.1]; exact y0, by rw [k.2]; exact y1, x0, x1, (ev b b0 b1).mpr o⟩
section
variable {sc : Nat × (Int → Int)} {n : Nat}
theorem p_inner {t a i : Int} (ht : mr_rg t) (ha : mr_rg a) (hi : mr_rg i) : PR LL sc 165 [mm_r 0, mm_i t, mm_i a, mm_i i, mm_r 98, mm_u] 166 [mm_r 72, mm_i t, mm_i a, mm_i i, mm_u, mm_u, mm_u, mm_u, mm_u] := by
  intro M n ho h
  refine vc165_0 ho (c164 ho h ht ha hi (fun q ho2 => Or.inl ⟨rfl, Or.inl ⟨1, rfl, fun ho3 => ?_⟩⟩) (fun g M1 I1 l1 q ho2 => Or.inr ⟨rfl, Or.inl ⟨2, rfl, fun ho3 => ?_⟩⟩) (fun g M1 I1 l1 gi r M2 c ho1 => ⟨CB_rg c, rj_of (CB_rg c), Or.inl ⟨0, rfl, fun ho2 => ?_⟩⟩))
  · exact c166 ho3 (INV_W h) ht ha hi (fun _ M2 f e _ => ⟨e, ⟨by decide, by decide⟩, fun z => absurd z (by decide), INV_t LL_st h f⟩) (fun g => absurd g q) (fun g => absurd g q)
  · have e1 := I1.2.1 a g.2.1 g.2.2
    have w := (I1.1.1 a g.2.1 g.2.2).2.1.2.1
    refine c166 ho3 (INV_W I1) ht ha hi (fun q2 => absurd g q2) (fun _ Mf M2 _ _ _ v2 e _ => ⟨e, ⟨by decide, by decide⟩, fun z => absurd z (by decide), INV_t2 I1 v2⟩) (fun _ Mf r M2 _ vf F i0 i1 => ?_)
    have kv : ∀ b k, 17 ≤ b → b ≤ 20 → Mf.1 b k = M1.1 b k := fun b k b0 b1 => keep17 vf b k b0 b1
    have T := mtc_of w e1.2 l1 kv F
    have e17 : Mf.1 17 0 = M1.1 17 0 := kv 17 0 (by decide) (by decide)
    have := T.1
    exact absurd ⟨i0, by omega⟩ q
  · have ea := INV_e I1 c g.2 r
    have k0 : ∀ Mf, fr vT (mm_putN M2 98 0 r) Mf → ∀ b k, 17 ≤ b → b ≤ 20 → Mf.1 b k = M1.1 b k := fun Mf vf b k b0 b1 => by
      rw [keep17 vf b k b0 b1, put_a (by omega)]
      exact c.2.2.1 b k (Or.inl ⟨b0, b1⟩)
    refine c166 ho2 (fun j j0 j1 => (CB_W I1 c r j j0 j1).2) ht ha hi (fun q => absurd g q) (fun _ Mf M3 vf F q v2 e _ => ?_) (fun _ Mf r' M3 of vf F i0 i1 b _ => ?_)
    · have T := mtc_of ea.1 ea.2 l1 (k0 Mf vf) F
      have e17 : Mf.1 17 0 = M1.1 17 0 := k0 Mf vf 17 0 (by decide) (by decide)
      have := T.1
      exact absurd ⟨gi.1, by omega⟩ q
    · have T := mtc_of ea.1 ea.2 l1 (k0 Mf vf) F
      have w' := eqv_wf ea.1 ea.2
      have same : ∀ x y, inT (rdA M1 (ar M1 a)) M1 i (sn (rdA M1 (ar M1 a))) x y ↔ inTr (rdB (mm_putN M2 98 0 r) a) Mf (st3 Mf i) (gh Mf) x y := fun x y => by
        rw [← in_same w' F T i0 i1 x y, ← inT_eqv ea.1 ea.2]
        have e18 : ∀ k, Mf.1 18 k = M1.1 18 k := fun k => k0 Mf vf 18 k (by decide) (by decide)
        unfold inT
        simp only [onb_same e18]
      have D := INV_b LL_st I1 g.1 c b same
      exact ⟨D.2.2.2.1, ⟨by decide, by decide⟩, fun _ => ⟨D.2.1, D.2.2.1.trans D.1⟩, D.2.2.2.2⟩
end
