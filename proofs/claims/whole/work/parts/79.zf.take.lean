/-! ===== partOf and take, the class's side ===== -/
theorem pS_keep {M M1 : mm_M} (hO : OW M) (h : fr pS M M1) : OW M1 ∧ (∀ j, ar M1 j = ar M j) ∧ br M1 = br M ∧ (∀ j, 0 ≤ j → j < 8 → rdA M1 (ar M j) = rdA M (ar M j)) ∧ cfr M M1 ∧ M1.1 0 6 = M.1 0 6 ∧ M1.2.2 = M.2.2 := by
  have hA := hO.2.2.2.1
  have o := OW_fr hO h (fun a ha _ b k h0 h1 => pS_A ha b k h0 h1) (fun z => by
    have z' : br M + 3 = 22 ∨ (br M + 3 = 21 ∧ (0 : Int) = 0) := z
    unfold mr_A at hA
    omega)
  refine ⟨o.1, o.2.1, o.2.2.1, o.2.2.2, fun a k q => h.2 _ _ (by omega), h.2 _ _ (by omega), by rw [h.1]⟩
theorem CB_pre {M M1 M2 : mm_M} {t r : Int} {T : Int → Int → Prop} (hO : OW M) (h : fr pS M M1) (ht : isA t) (c : CB M1 M2 t T r) : CB M M2 t T r := by
  obtain ⟨o1, o2, o3, o4, o5, o6, o7⟩ := pS_keep hO h
  obtain ⟨c1, c2, c3, c4, c5⟩ := c
  refine ⟨c1.trans o7, c2, cfr_trans o5 c3, fun j j0 j1 jt => ?_, ?_⟩
  · rw [c4 j j0 j1 jt, o2]
    exact o4 j j0 j1
  · rw [o6] at c5
    rcases c5 with ⟨a, b, c, d⟩ | c5
    · refine Or.inl ⟨a, b, ?_, d⟩
      rw [c, o2]
      exact o4 t ht.1 ht.2
    · exact Or.inr c5
/-- the cells of the part v in the bands before n -/
def tkT (s : sh) (g : Int → Int) (v n x y : Int) : Prop := ∃ i, 0 ≤ i ∧ i < n ∧ slo s i ≤ y ∧ y < shi s i ∧ ∃ k, sst s i ≤ k ∧ k < sst s (i + 1) ∧ g k = v ∧ slf s k ≤ x ∧ x < srt s k
theorem tkT_eqv {s t : sh} (h : wf s) (e : eqv s t) {g g' : Int → Int} (hg : ∀ k, 0 ≤ k → k < nS_ s → g k = g' k) {v x y : Int} : tkT s g v (sn s) x y ↔ tkT t g' v (sn t) x y := by
  have key : ∀ i k, 0 ≤ i → i < sn s → sst s i ≤ k → k < sst s (i + 1) → 0 ≤ k ∧ k < sst s (sn s) := by
    intro i k i0 i1 k0 k1
    have z0 := sst_mono h (Int.le_refl 0) i0 (show i ≤ sn s by omega)
    have z1 := sst_mono h (show 0 ≤ i + 1 by omega) (show i + 1 ≤ sn s by omega) (Int.le_refl _)
    rw [h.2.1] at z0
    omega
  constructor
  · rintro ⟨i, i0, i1, i2, i3, k, k0, k1, k2, k3, k4⟩
    have q := key i k i0 i1 k0 k1
    have x1 := e.2.1 i i0 i1
    have x2 := e.2.2.2 k q.1 q.2
    exact ⟨i, i0, by rw [← e.1]; exact i1, by rw [← x1.1]; exact i2, by rw [← x1.2]; exact i3, k, by rw [← e.2.2.1 i i0 (by omega)]; exact k0, by rw [← e.2.2.1 (i + 1) (by omega) (by omega)]; exact k1, by rw [← hg k q.1 q.2]; exact k2, by rw [← x2.1]; exact k3, by rw [← x2.2]; exact k4⟩
  · rintro ⟨i, i0, i1, i2, i3, k, k0, k1, k2, k3, k4⟩
    have i1' : i < sn s := by rw [e.1]; exact i1
    rw [← e.2.2.1 i i0 (by omega)] at k0
    rw [← e.2.2.1 (i + 1) (by omega) (by omega)] at k1
    have q := key i k i0 i1' k0 k1
    have x1 := e.2.1 i i0 i1'
    have x2 := e.2.2.2 k q.1 q.2
    exact ⟨i, i0, i1', by rw [x1.1]; exact i2, by rw [x1.2]; exact i3, k, k0, k1, by rw [hg k q.1 q.2]; exact k2, by rw [x2.1]; exact k3, by rw [x2.2]; exact k4⟩
section
variable {sc : Nat × (Int → Int)} {M : mm_M} {X : Nat → mm_M → Prop}
/-- CellAreas.partsOf -/
theorem c137 {K : Nat → mm_M → Prop} {a : Int} (ho : mr_ok M) (hO : OW M) (ga : isA a) (k : ∀ M1, mr_ok M1 → fr pS M M1 → PN (rdA M (ar M a)) (M1.1 22) (M1.1 21 0) → K 21 M1) : en_CR sc 137 [mm_r 0, mm_i a] M K X := by
  have A := OW_A hO ga
  exact vc137_0 ho ⟨ga.1, ga.2, ar M a, A.1, A.2.1, c136 ho A.2 (fun M1 f1 p1 ho1 => Or.inl ⟨21, rfl, k M1 ho1 f1 p1⟩)⟩
/-- CellAreas.partOf -/
theorem c167 {K : Int → mm_M → Prop} {a x y : Int} (ho : mr_ok M) (hO : OW M) (ha : mr_rg a) (hx : mr_rg x) (hy : mr_rg y) (x1 : ¬ isA a → X 1 (M.1, M.2.1, M.2.2 + 1)) (k0 : isA a → ¬ has (rdA M (ar M a)) x y → K (-1) M)
    (k1 : isA a → ∀ i s M1 g c, inP (rdA M (ar M a)) i s → slo (rdA M (ar M a)) i ≤ y → y < shi (rdA M (ar M a)) i → slf (rdA M (ar M a)) s ≤ x → x < srt (rdA M (ar M a)) s → fr pS M M1 → PN (rdA M (ar M a)) g c → K (g s) M1) : en_CI sc 167 [mm_r 0, mm_i a, mm_i x, mm_i y, mm_u] M K X := by
  refine vc167_0 ho (c9 ho ha (fun ga _ => ?_) (fun q => Or.inr ⟨1, rfl, by decide, x1 q⟩))
  have A := OW_A hO ga
  refine ⟨ga.1, ga.2, ar M a, A.1, A.2.1, ga.1, ga.2, ar M a, A.1, A.2.1, c82x ho A.2 hx hy (fun no _ => ⟨⟨by decide, by decide⟩, fun q => absurd rfl q, fun _ => Or.inl ⟨_, rfl, k0 ga no⟩⟩) (fun i s i0 i1 i2 i3 s0 s1 s2 s3 _ => ?_)⟩
  have e0 := AW_st A.2 i0 (show i ≤ M.1 (ar M a) 0 by show i ≤ sn (rdA M (ar M a)); omega)
  have e1 := AW_st A.2 (show 0 ≤ i + 1 by omega) (show i + 1 ≤ M.1 (ar M a) 0 by show i + 1 ≤ sn (rdA M (ar M a)); omega)
  have s0' : M.1 (ar M a + 3) i ≤ s := s0
  have s1' : s < M.1 (ar M a + 3) (i + 1) := s1
  exact ⟨⟨by omega, by omega⟩, fun _ => c137 ho hO ga (fun M1 ho1 f1 p1 => ⟨rfl, fun _ => ⟨by omega, by omega, Or.inl ⟨_, rfl, k1 ga i s M1 _ _ ⟨i0, i1, s0, s1⟩ i2 i3 s2 s3 f1 p1⟩⟩⟩), fun q => absurd (by omega) q⟩
/-- CellAreas.take -/
theorem c170 {K : Int → mm_M → Prop} {t a v : Int} (ho : mr_ok M) (hO : OW M) (ht : mr_rg t) (ha : mr_rg a) (hv : mr_rg v)
    (x1 : ¬ (isA t ∧ isA a) → X 1 (M.1, M.2.1, M.2.2 + 1)) (x2 : (isA t ∧ isA a) → ∀ M1 g c, fr pS M M1 → PN (rdA M (ar M a)) g c → ¬ (0 ≤ v ∧ v < c) → X 2 (M1.1, M1.2.1, M1.2.2 + 1))
    (k : (isA t ∧ isA a) → ∀ g c, PN (rdA M (ar M a)) g c → (0 ≤ v ∧ v < c) → ∀ r M1, CB M M1 t (tkT (rdA M (ar M a)) g v (sn (rdA M (ar M a)))) r → K r M1) : en_CI sc 170 [mm_r 0, mm_i t, mm_i a, mm_i v, mm_u, mm_u, mm_u, mm_u] M K X := by
  refine vc170_0 ho (c9 ho ht (fun gt _ => ?_) (fun q => Or.inr ⟨1, rfl, by decide, x1 (fun z => q z.1)⟩))
  refine c9 ho ha (fun ga _ => ?_) (fun q => Or.inr ⟨1, rfl, by decide, x1 (fun z => q z.2)⟩)
  replace k := k ⟨gt, ga⟩
  replace x2 := x2 ⟨gt, ga⟩
  refine c137 ho hO ga (fun M0 ho0 f0 p0 => ⟨rfl, fun _ => ?_⟩)
  obtain ⟨O0, o2, o3, o4, o5, o6, o7⟩ := pS_keep hO f0
  have cr := cntR_rg (root (rdA M (ar M a))) (nS_ (rdA M (ar M a))).toNat
  have ec := p0.2.2
  have Aa := OW_A hO ga
  have nS' : sst (rdA M (ar M a)) (sn (rdA M (ar M a))) ≤ 400 := Aa.2.2.2.2
  have cr2 : cntR (root (rdA M (ar M a))) (nS_ (rdA M (ar M a))).toNat ≤ 400 := by
    have : ((nS_ (rdA M (ar M a))).toNat : Int) ≤ 400 := by
      have : nS_ (rdA M (ar M a)) ≤ 400 := nS'
      omega
    omega
  refine c10 ho0 hv ⟨by decide, by decide⟩ ⟨by omega, by omega⟩ (fun gv _ => ?_) (fun q => Or.inr ⟨2, rfl, by decide, x2 M0 _ _ f0 p0 (fun z => q (by omega))⟩)
  replace k := k _ _ p0 (by omega)
  have w := Aa.2.2.1
  have n0 := w.1
  have n1 : sn (rdA M (ar M a)) ≤ 100 := Aa.2.2.2.1
  have A0 := OW_A O0 ga
  rw [o2] at A0
  have s0 := o4 a ga.1 ga.2
  have hA := O0.2.2.2.1
  -- from here on M0 is where it begins
  have kA0 : ∀ M' : mm_M, fr (kS (br M0)) M0 M' → M'.2.1 1 a = some (ar M a) ∧ AW M' (ar M a) ∧ rdA M' (ar M a) = rdA M (ar M a) := fun M' f => by
    have x := kA O0 f ga
    rw [o2, s0] at x
    exact x
  refine ⟨ga.1, ga.2, ar M a, A0.1, A0.2.1, c18 ho0 O0.2.2.1 hA (O0.2.2.2.2 _ hA) (fun Md fd Bd hod => ?_)⟩
  have g22 : ∀ M' : mm_M, fr (kS (br M0)) M0 M' → ∀ j, M'.1 22 j = M0.1 22 j := fun M' f j => f.2 _ _ (fun z => by unfold kS bS at z; unfold mr_A at hA; omega)
  have row : ∀ (c : Nat) (i j : Int) (M' : mm_M), c = (sst (rdA M (ar M a)) (i + 1) - j).toNat → 0 ≤ i → i < sn (rdA M (ar M a)) → sst (rdA M (ar M a)) i ≤ j → j ≤ sst (rdA M (ar M a)) (i + 1) → mr_ok M' → fr (kS (br M0)) M0 M' → (∀ x, ri M' 11 x ↔ ∃ e, sst (rdA M (ar M a)) i ≤ e ∧ e < j ∧ M0.1 22 e = v ∧ slf (rdA M (ar M a)) e ≤ x ∧ x < srt (rdA M (ar M a)) e) →
      (∀ (M1 : mm_M) (l7 : Int), mr_ok M1 → fr (rS 11) M' M1 → (∀ x, ri M1 11 x ↔ ∃ e, sst (rdA M (ar M a)) i ≤ e ∧ e < sst (rdA M (ar M a)) (i + 1) ∧ M0.1 22 e = v ∧ slf (rdA M (ar M a)) e ≤ x ∧ x < srt (rdA M (ar M a)) e) → en_CV sc 29 [mm_r 2, mm_i (slo (rdA M (ar M a)) i), mm_i (shi (rdA M (ar M a)) i), mm_r 11, mm_u] M1 (fun M10 => mr_ok M10 → en_R sc 170 45 [mm_r 0, mm_i t, mm_i a, mm_i v, mm_r 21, mm_r (ar M a), mm_i (i + 1), mm_i l7] [] M10 (QI K X)) (fun e M9 => QI K X (.inr e) M9)) →
      en_R sc 170 71 [mm_r 0, mm_i t, mm_i a, mm_i v, mm_r 21, mm_r (ar M a), mm_i i, mm_i j] [] M' (QI K X) := by
    intro c
    induction c with
    | zero =>
      intro i j M' hc i0 i1 j0 j1 ho' hf hr g
      obtain ⟨_, A', s'⟩ := kA0 M' hf
      have rr := rdA_row s' i i0
      have z0 := sst_mono w (Int.le_refl 0) i0 (show i ≤ sn (rdA M (ar M a)) by omega)
      have z1 := sst_mono w (show 0 ≤ i + 1 by omega) (show i + 1 ≤ sn (rdA M (ar M a)) by omega) (Int.le_refl _)
      rw [w.2.1] at z0
      have ej : j = sst (rdA M (ar M a)) (i + 1) := by omega
      refine vc170_71 ho' Aa.2.1 ⟨by omega, by omega⟩ hv (c51 ho' Aa.2.1 (by omega) (by omega) (fun _ => ?_))
      rw [rr.2.1, rr.2.2.2.2.1, rr.2.2.2.2.2.1]
      rw [ej] at hr
      exact ⟨⟨by omega, by omega⟩, fun _ => ⟨i0, by omega, i0, by omega, g M' _ ho' fr_refl hr⟩, fun q => absurd (by omega) q⟩
    | succ c ih =>
      intro i j M' hc i0 i1 j0 j1 ho' hf hr g
      obtain ⟨_, A', s'⟩ := kA0 M' hf
      have rr := rdA_row s' i i0
      have z0 := sst_mono w (Int.le_refl 0) i0 (show i ≤ sn (rdA M (ar M a)) by omega)
      have z1 := sst_mono w (show 0 ≤ i + 1 by omega) (show i + 1 ≤ sn (rdA M (ar M a)) by omega) (Int.le_refl _)
      rw [w.2.1] at z0
      have bk := w.2.2.1 i i0 i1
      have bb := bk.2.2.2.2.2 j j0 (by omega)
      have bd := bk.2.2.2.2.1.1 j j0 (by omega)
      refine vc170_71 ho' Aa.2.1 ⟨by omega, by omega⟩ hv (c51 ho' Aa.2.1 (by omega) (by omega) (fun _ => ?_))
      rw [rr.2.1, rr.2.2.1, rr.2.2.2.1, g22 M' hf]
      refine ⟨⟨by omega, by omega⟩, fun q => absurd q (by omega), fun _ => ⟨by omega, by omega, fun q => ?_, fun q => ⟨by omega, by omega, by omega, by omega, c17 ho' w11 ⟨by omega, by omega⟩ ⟨by omega, by omega⟩ (by omega) (fun Mb fb rb' hob => ?_)⟩⟩⟩
      · refine ih i (j + 1) M' (by omega) i0 i1 (by omega) (by omega) ho' hf (fun x => ?_) g
        rw [hr]
        constructor
        · rintro ⟨e, e0, e1, e2⟩
          exact ⟨e, e0, by omega, e2⟩
        · rintro ⟨e, e0, e1, e2, e3⟩
          by_cases y : e = j
          · rw [y] at e2
            exact absurd e2 q
          · exact ⟨e, e0, by omega, e2, e3⟩
      · refine ih i (j + 1) Mb (by omega) i0 i1 (by omega) (by omega) hob (fr_trans hf (fr_mono fb (kS_row (by decide)))) (fun x => ?_) (fun M1 l7 o1 f1 => g M1 l7 o1 (fr_trans fb f1))
        rw [rb', hr]
        constructor
        · rintro (⟨e, e0, e1, e2⟩ | z)
          · exact ⟨e, e0, by omega, e2⟩
          · exact ⟨j, j0, by omega, Classical.byContradiction q, z.2.2.1, z.2.2.2⟩
        · rintro ⟨e, e0, e1, e2, e3⟩
          by_cases y : e = j
          · rw [y] at e3
            exact Or.inr ⟨by omega, by omega, e3.1, e3.2⟩
          · exact Or.inl ⟨e, e0, by omega, e2, e3⟩
  have loop : ∀ (c : Nat) (i : Int) (l7 : mm_V) (M' : mm_M), c = (sn (rdA M (ar M a)) - i).toNat → 0 ≤ i → i ≤ sn (rdA M (ar M a)) → mr_ok M' → fr (kS (br M0)) M0 M' → BS M' (br M0) (tkT (rdA M (ar M a)) (M0.1 22) v i) → en_R sc 170 45 [mm_r 0, mm_i t, mm_i a, mm_i v, mm_r 21, mm_r (ar M a), mm_i i, l7] [] M' (QI K X) := by
    intro c
    induction c with
    | zero =>
      intro i l7 M' hc i0 i1 ho' hf hB
      obtain ⟨_, A', s'⟩ := kA0 M' hf
      have rr := rdA_row s' i i0
      have ei : i = sn (rdA M (ar M a)) := by omega
      rw [ei] at hB
      refine vc170_45 ho' Aa.2.1 ⟨by omega, by omega⟩ ?_
      rw [rr.2.2.2.2.2.2.1]
      exact ⟨fun _ => c30y ho' O0 hf hB gt.1 gt.2 (fun r M1 c _ => Or.inl ⟨r, rfl, k r M1 (CB_pre hO f0 gt c)⟩), fun q => absurd (by omega) q⟩
    | succ c ih =>
      intro i l7 M' hc i0 i1 ho' hf hB
      obtain ⟨_, A', s'⟩ := kA0 M' hf
      have rr := rdA_row s' i i0
      have bk := w.2.2.1 i i0 (by omega)
      have b2 := bk.2.1
      have b3 := bk.2.2.1
      have b4 := bk.2.2.2.1
      refine vc170_45 ho' Aa.2.1 ⟨by omega, by omega⟩ ?_
      rw [rr.2.2.2.2.2.2.1]
      refine ⟨fun q => absurd q (by omega), fun _ => c12 ho' w11 (fun Me fe re hoe => c50 hoe Aa.2.1 (by omega) (by omega) (fun _ => ?_))⟩
      have fE : fr (kS (br M0)) M0 Me := fr_trans hf (fr_mono fe (kS_row (by decide)))
      obtain ⟨_, Ae, se⟩ := kA0 Me fE
      rw [(rdA_row se i i0).1]
      refine row _ i (sst (rdA M (ar M a)) i) Me rfl i0 (by omega) (Int.le_refl _) (by have := bk.1; omega) hoe fE (fun x => ⟨fun z => absurd z (re x), fun ⟨e, e0, e1, _⟩ => absurd e1 (by omega)⟩) (fun M1 l7 o1 f1 R1 => ?_)
      have F1 : fr (kS (br M0)) M0 M1 := fr_trans fE (fr_mono f1 (kS_row (by decide)))
      refine c29 o1 (BS_fr (fr_trans fe f1) (fun a k z => by have z' : a = 11 + 1 := z; omega) hB) w11 (by decide) (fun x g => ?_) ⟨by omega, by omega⟩ ⟨by omega, by omega⟩ (fun _ => ⟨b2, b4⟩) (fun _ x y z => ?_) (fun Mc fc Bc hoc => ?_)
      · obtain ⟨e, e0, e1, e2, e3, e4⟩ := (R1 x).mp g
        have := bk.2.2.2.2.2 e e0 e1
        omega
      · obtain ⟨j, j0, j1, j2, j3, _⟩ := z
        have := wf_hl w j0 j1 (show i < sn (rdA M (ar M a)) by omega)
        omega
      · refine ih (i + 1) _ Mc (by omega) (by omega) (by omega) hoc (fr_trans F1 (fr_mono fc kS_b)) (BS_iff Bc (fun x y => ?_))
        rw [R1]
        constructor
        · rintro (⟨j, j0, j1, j2⟩ | z)
          · exact ⟨j, j0, by omega, j2⟩
          · exact ⟨i, i0, by omega, z.1, z.2.1, z.2.2⟩
        · rintro ⟨j, j0, j1, j2, j3, j4⟩
          by_cases z : j = i
          · rw [z] at j2 j3 j4
            exact Or.inr ⟨j2, j3, j4⟩
          · exact Or.inl ⟨j, j0, by omega, j2, j3, j4⟩
  exact loop _ 0 _ Md rfl (Int.le_refl _) n0 hod (fr_mono fd kS_b) (BS_iff Bd (fun x y => ⟨fun z => z.elim, fun ⟨i, i0, i1, _⟩ => absurd i1 (by omega)⟩))
end
