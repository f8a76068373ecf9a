/-! ===== swapAxes, mirror ===== -/
theorem k_band {s : sh} (h : wf s) {k : Int} (h0 : 0 ≤ k) (h1 : k < sst s (sn s)) : ∃ i, 0 ≤ i ∧ i < sn s ∧ sst s i ≤ k ∧ k < sst s (i + 1) := by
  have key : ∀ n : Nat, (n : Int) ≤ sn s → k < sst s n → ∃ i, 0 ≤ i ∧ i < sn s ∧ sst s i ≤ k ∧ k < sst s (i + 1) := by
    intro n
    induction n with
    | zero =>
      intro _ g
      have e : sst s ((0 : Nat) : Int) = 0 := h.2.1
      rw [e] at g
      omega
    | succ n ih =>
      intro a g
      by_cases q : k < sst s n
      · exact ih (by omega) q
      · have e : ((n + 1 : Nat) : Int) = (n : Int) + 1 := by omega
        rw [e] at g
        exact ⟨n, by omega, by omega, by omega, g⟩
  have n0 := h.1
  have e : ((sn s).toNat : Int) = sn s := by omega
  exact key (sn s).toNat (by omega) (by rw [e]; exact h1)
def mkc (s : sh) (x : Int) : Prop := -1000 ≤ x ∧ x < 1000 ∧ ∃ k, 0 ≤ k ∧ k < sst s (sn s) ∧ (x = slf s k ∨ x = srt s k)
theorem inb_const {s : sh} (h : wf s) {x i : Int} (i0 : 0 ≤ i) (i1 : i < sn s) (hc : ¬ ∃ k, 0 ≤ k ∧ k < sst s (sn s) ∧ (x + 1 = slf s k ∨ x + 1 = srt s k)) : inb s i (x + 1) ↔ inb s i x := by
  have s0 := sst_mono h (Int.le_refl 0) i0 (show i ≤ sn s by omega)
  have s1 := sst_mono h (show 0 ≤ i + 1 by omega) (show i + 1 ≤ sn s by omega) (Int.le_refl _)
  rw [h.2.1] at s0
  constructor
  · rintro ⟨k, a, b, c, d⟩
    have : x + 1 ≠ slf s k := fun z => hc ⟨k, by omega, by omega, Or.inl z⟩
    exact ⟨k, a, b, by omega, by omega⟩
  · rintro ⟨k, a, b, c, d⟩
    have : x + 1 ≠ srt s k := fun z => hc ⟨k, by omega, by omega, Or.inr z⟩
    exact ⟨k, a, b, by omega, by omega⟩
theorem col_const {s : sh} (h : wf s) {x : Int} (hc : ¬ ∃ k, 0 ≤ k ∧ k < sst s (sn s) ∧ (x + 1 = slf s k ∨ x + 1 = srt s k)) (y : Int) : has s (x + 1) y ↔ has s x y := by
  constructor
  · rintro ⟨i, a, b, c, d, e⟩
    exact ⟨i, a, b, c, d, (inb_const h a b hc).mp e⟩
  · rintro ⟨i, a, b, c, d, e⟩
    exact ⟨i, a, b, c, d, (inb_const h a b hc).mpr e⟩
section
variable {sc : Nat × (Int → Int)} {M : mm_M} {X : Nat → mm_M → Prop}
/-- Area.markColumns -/
theorem c80 {K : mm_M → Prop} {A w : Nat} (ho : mr_ok M) (h : AW M A) (hw : mr_Rw w) (k : ∀ M1, fr (rS w) M M1 → (∀ x, ri M1 w x ↔ ri M w x ∨ mkc (rdA M A) x) → K M1) : en_CV sc 80 [mm_r A, mm_r w, mm_u] M K X := by
  refine vc80_0 ho ?_
  have e0 := h.2.2.2
  have e0' : sst (rdA M A) (sn (rdA M A)) ≤ 400 := e0
  have e1 := sst_mono h.2.1 (Int.le_refl 0) h.2.1.1 (Int.le_refl _)
  rw [h.2.1.2.1] at e1
  have loop : ∀ (c : Nat) (j : Int) (M' : mm_M), c = (sst (rdA M A) (sn (rdA M A)) - j).toNat → 0 ≤ j → j ≤ sst (rdA M A) (sn (rdA M A)) → mr_ok M' → fr (rS w) M M' → (∀ x, ri M' w x ↔ ri M w x ∨ (-1000 ≤ x ∧ x < 1000 ∧ ∃ e, 0 ≤ e ∧ e < j ∧ (x = slf (rdA M A) e ∨ x = srt (rdA M A) e))) → en_R sc 80 2 [mm_r A, mm_r w, mm_i j] [] M' (QV K X) := by
    intro c
    induction c with
    | zero =>
      intro j M' hc j0 j1 ho' hf hr
      have e' : rdA M' A = rdA M A := rdA_fr hf (rS_A hw h.1)
      have A' := AW_fr hf (rS_A hw h.1) h
      have rr := rdA_row e' 0 (Int.le_refl 0)
      have ej : j = sst (rdA M A) (sn (rdA M A)) := by omega
      refine vc80_2 ho' h.1 ⟨by omega, by omega⟩ hw (c79 ho' A' (fun _ => ?_))
      rw [rr.2.2.2.2.2.2.1, rr.2.2.2.2.2.2.2]
      refine ⟨⟨by omega, by omega⟩, fun _ => Or.inl ⟨rfl, k M' hf (fun x => ?_)⟩, fun q => absurd (by omega) q⟩
      rw [hr, ej]
      exact Iff.rfl
    | succ c ih =>
      intro j M' hc j0 j1 ho' hf hr
      have e' : rdA M' A = rdA M A := rdA_fr hf (rS_A hw h.1)
      have A' := AW_fr hf (rS_A hw h.1) h
      have rr := rdA_row e' 0 (Int.le_refl 0)
      obtain ⟨i, i0, i1, i2, i3⟩ := k_band h.2.1 j0 (show j < sst (rdA M A) (sn (rdA M A)) by omega)
      have bk := h.2.1.2.2.1 i i0 i1
      have bb := bk.2.2.2.2.2 j i2 i3
      have bd := bk.2.2.2.2.1.1 j i2 i3
      refine vc80_2 ho' h.1 ⟨by omega, by omega⟩ hw (c79 ho' A' (fun _ => ?_))
      rw [rr.2.2.2.2.2.2.1, rr.2.2.2.2.2.2.2, rr.2.2.1]
      refine ⟨⟨by omega, by omega⟩, fun q => absurd q (by omega), fun _ => ⟨by omega, by omega, by omega, by omega, c17 ho' hw ⟨by omega, by omega⟩ ⟨by omega, by omega⟩ (by omega) (fun Mb fb rb' hob => ⟨by omega, by omega, by omega, by omega, ?_⟩)⟩⟩
      have eb : rdA Mb A = rdA M A := rdA_fr (fr_trans hf fb) (rS_A hw h.1)
      rw [(rdA_row eb 0 (Int.le_refl 0)).2.2.2.1]
      refine c17 hob hw ⟨by omega, by omega⟩ ⟨by omega, by omega⟩ (by omega) (fun Mc fc rc hoc => ?_)
      refine ih (j + 1) Mc (by omega) (by omega) (by omega) hoc (fr_trans hf (fr_trans fb fc)) (fun x => ?_)
      rw [rc, rb', hr]
      constructor
      · rintro (((z | ⟨z1, z2, e, e2, e3, e4⟩) | z) | z)
        · exact Or.inl z
        · exact Or.inr ⟨z1, z2, e, e2, by omega, e4⟩
        · exact Or.inr ⟨z.1, z.2.1, j, j0, by omega, by omega⟩
        · exact Or.inr ⟨z.1, z.2.1, j, j0, by omega, by omega⟩
      · rintro (z | ⟨z1, z2, e, e2, e3, e4⟩)
        · exact Or.inl (Or.inl (Or.inl z))
        · by_cases q : e = j
          · rw [q] at e4
            rcases e4 with e4 | e4
            · exact Or.inl (Or.inr ⟨z1, z2, by omega, by omega⟩)
            · exact Or.inr ⟨z1, z2, by omega, by omega⟩
          · exact Or.inl (Or.inl (Or.inr ⟨z1, z2, e, e2, by omega, e4⟩))
  exact loop _ 0 M rfl (Int.le_refl _) e1 ho fr_refl (fun x => ⟨Or.inl, fun z => z.elim id (fun ⟨_, _, e, a, b, _⟩ => absurd b (by omega))⟩)
/-- CellAreas.layColumn -/
theorem c83 {K : mm_M → Prop} {A : Nat} {x : Int} (ho : mr_ok M) (h : AW M A) (hx : mr_rg x) (k : ∀ M1, fr (rS 11) M M1 → (∀ y, ri M1 11 y ↔ has (rdA M A) x y) → K M1) : en_CV sc 83 [mm_r 0, mm_r A, mm_i x, mm_u] M K X := by
  have n0 := h.2.1.1
  have n1 : sn (rdA M A) ≤ 100 := h.2.2.1
  refine vc83_0 ho (c12 ho w11 (fun Ma fa ra hoa => ?_))
  have loop : ∀ (c : Nat) (i : Int) (M' : mm_M), c = (sn (rdA M A) - i).toNat → 0 ≤ i → i ≤ sn (rdA M A) → mr_ok M' → fr (rS 11) M M' → (∀ y, ri M' 11 y ↔ hasN (rdA M A) i x y) → en_R sc 83 9 [mm_r 0, mm_r A, mm_i x, mm_i i] [] M' (QV K X) := by
    intro c
    induction c with
    | zero =>
      intro i M' hc i0 i1 ho' hf hr
      have e' : rdA M' A = rdA M A := rdA_fr hf (rS_A w11 h.1)
      have rr := rdA_row e' 0 (Int.le_refl 0)
      have ei : i = sn (rdA M A) := by omega
      refine vc83_9 ho' h.1 ⟨by omega, by omega⟩ ?_
      rw [rr.2.2.2.2.2.2.1]
      refine ⟨fun _ => Or.inl ⟨rfl, k M' hf (fun y => ?_)⟩, fun q => absurd (by omega) q⟩
      rw [hr, ei]
      exact Iff.rfl
    | succ c ih =>
      intro i M' hc i0 i1 ho' hf hr
      have e' : rdA M' A = rdA M A := rdA_fr hf (rS_A w11 h.1)
      have A' := AW_fr hf (rS_A w11 h.1) h
      have rr := rdA_row e' i i0
      have bk := h.2.1.2.2.1 i i0 (by omega)
      have b2 := bk.2.1
      have b3 := bk.2.2.1
      have b4 := bk.2.2.2.1
      have st0 := AW_st A' (show 0 ≤ i + 1 by omega) (show i + 1 ≤ M'.1 A 0 by rw [rr.2.2.2.2.2.2.1]; omega)
      rw [rr.2.2.2.2.2.2.2] at st0
      have st1 := AW_st A' i0 (show i ≤ M'.1 A 0 by rw [rr.2.2.2.2.2.2.1]; omega)
      rw [rr.2.2.2.2.2.2.2] at st1
      refine vc83_9 ho' h.1 ⟨by omega, by omega⟩ ?_
      rw [rr.2.2.2.2.2.2.1]
      refine ⟨fun q => absurd q (by omega), fun _ => c82 ho' A' (Or.inr ⟨i0, by rw [rr.2.2.2.2.2.2.1]; omega⟩) hx (fun no _ => ?_) (fun s s0 s1 s2 s3 _ => ?_)⟩
      · refine ⟨⟨by decide, by decide⟩, fun _ => ih (i + 1) M' (by omega) (by omega) (by omega) ho' hf (fun y => ?_), fun q => absurd rfl q⟩
        rw [hr]
        constructor
        · rintro ⟨j, j0, j1, j2⟩
          exact ⟨j, j0, by omega, j2⟩
        · rintro ⟨j, j0, j1, j2, j3, e, e0, e1, e2, e3⟩
          by_cases z : j = i
          · rw [z] at e0 e1
            rw [rr.1, rr.2.1, rr.2.2.1, rr.2.2.2.1] at no
            exact absurd ⟨e2, e3⟩ (no e e0 e1)
          · exact ⟨j, j0, by omega, j2, j3, e, e0, e1, e2, e3⟩
      · rw [rr.1] at s0
        rw [rr.2.1] at s1
        rw [rr.2.2.1] at s2
        rw [rr.2.2.2.1] at s3
        rw [rr.2.2.2.2.1, rr.2.2.2.2.2.1]
        refine ⟨⟨by omega, by omega⟩, fun q => absurd q (by omega), fun _ => ⟨i0, by omega, i0, by omega, c17 ho' w11 ⟨by omega, by omega⟩ ⟨by omega, by omega⟩ (by omega) (fun Mb fb rb' hob => ?_)⟩⟩
        refine ih (i + 1) Mb (by omega) (by omega) (by omega) hob (fr_trans hf fb) (fun y => ?_)
        rw [rb', hr]
        constructor
        · rintro (⟨j, j0, j1, j2⟩ | z)
          · exact ⟨j, j0, by omega, j2⟩
          · exact ⟨i, i0, by omega, z.2.2.1, z.2.2.2, s, s0, s1, s2, s3⟩
        · rintro ⟨j, j0, j1, j2, j3, j4⟩
          by_cases z : j = i
          · rw [z] at j2 j3
            exact Or.inr ⟨by omega, by omega, j2, j3⟩
          · exact Or.inl ⟨j, j0, by omega, j2, j3, j4⟩
  exact loop _ 0 Ma rfl (Int.le_refl _) n0 hoa fa (fun x => ⟨fun z => absurd z (ra x), fun ⟨e, a, b, _⟩ => absurd b (by omega)⟩)
/-- CellAreas.swapAxes -/
theorem c84 {K : mm_M → Prop} {a : Int} {M0 : mm_M} (ho : mr_ok M0) (hO : OW M) (ga : isA a) (hf0 : fr (kS (br M)) M M0) (hB0 : BS M0 (br M) (fun _ _ => False)) (k : ∀ M1, mr_ok M1 → fr (kS (br M)) M M1 → BS M1 (br M) (fun x y => has (rdA M (ar M a)) y x) → K M1) : en_CV sc 84 [mm_r 0, mm_r (ar M a), mm_u, mm_u] M0 K X := by
  have Aa := OW_A hO ga
  have w := Aa.2.2.1
  refine vc84_0 ho Aa.2.1 (c12 ho w15 (fun Ma fa ra hoa => ?_))
  have ka : fr (kS (br M)) M Ma := fr_trans hf0 (fr_mono fa (kS_row (by decide)))
  obtain ⟨_, A1, s1⟩ := kA hO ka ga
  refine c80 hoa A1 w15 (fun Mb fb rb' hob => ?_)
  have kb : fr (kS (br M)) M Mb := fr_trans ka (fr_mono fb (kS_row (by decide)))
  rw [s1] at rb'
  have mk : ∀ x, ri Mb 15 x ↔ mkc (rdA M (ar M a)) x := fun x => (rb' x).trans ⟨fun z => z.elim (fun z => absurd z (ra x)) id, Or.inr⟩
  have hT : inF (fun x y => has (rdA M (ar M a)) y x) := fun x y z => by have := has_rg w z; omega
  have H : cst (mkc (rdA M (ar M a))) (fun x y => has (rdA M (ar M a)) y x) := fun y y0 y1 q x => col_const w (fun z => q ⟨by omega, y1, z⟩) x
  have B : BS Mb (br M) (fun x y => has (rdA M (ar M a)) y x ∧ y < -1000) := BS_iff (BS_fr (fr_trans fa fb) (fun a k z => by have z' : a = 15 + 1 := z; omega) hB0) (fun x y => ⟨fun z => z.elim, fun z => by have := hT x y z.1; omega⟩)
  have fin : ∀ (low : Int) (M' : mm_M), -1000 ≤ low → LI M M' (mkc (rdA M (ar M a))) (fun x y => has (rdA M (ar M a)) y x) low → (1000 ≤ low ∨ M'.1 2 2 ≠ 0) → K M' := fun low M' l0 hL h1 => k M' hL.1 hL.2.1 (BS_end hT l0 h1 hL.2.2.2)
  have loop : ∀ (c : Nat) (low : Int) (l5 : mm_V) (M' : mm_M), (1000 - low).toNat ≤ c → -1000 ≤ low → low ≤ 1000 → LI M M' (mkc (rdA M (ar M a))) (fun x y => has (rdA M (ar M a)) y x) low → en_R sc 84 19 [mm_r 0, mm_r (ar M a), l5, mm_i low] [] M' (QV K X) := by
    intro c
    induction c with
    | zero =>
      intro low l5 M' hc l0 l1 hL
      exact vc84_19 hL.1 ⟨by omega, by omega⟩ ⟨fun q => Or.inl ⟨rfl, fin low M' l0 hL (Or.inl q)⟩, fun q => absurd (by omega) q⟩
    | succ c ih =>
      intro low l5 M' hc l0 l1 hL
      have ho' := hL.1
      refine vc84_19 ho' ⟨by omega, by omega⟩ ⟨fun q => Or.inl ⟨rfl, fin low M' l0 hL (Or.inl q)⟩, fun q => ⟨fun q2 => Or.inl ⟨rfl, fin low M' l0 hL (Or.inr q2)⟩, fun _ => ?_⟩⟩
      obtain ⟨_, A', s'⟩ := kA hO hL.2.1 ga
      refine c22 ho' w15 ⟨by omega, by omega⟩ (by omega) (fun r r0 r1 r2 r3 _ => ⟨⟨by omega, by omega⟩, ⟨by omega, by omega⟩, c83 ho' A' ⟨by omega, by omega⟩ (fun Mg fg rg hog => ?_)⟩)
      rw [s'] at rg
      exact c29y hO hT H hL hog (fr_mono fg (fun a k z => Or.inl z)) rg l0 (by omega) r1 r2 (fun Mh Lh => ih _ _ Mh (by omega) (by omega) (by omega) Lh)
  exact loop _ (-1000) mm_u Mb (Nat.le_refl _) (by decide) (by decide) ⟨hob, kb, mk, B⟩
/-- CellAreas.mirror -/
theorem c85 {K : Int → mm_M → Prop} {t a way : Int} (ho : mr_ok M) (hO : OW M) (ht : mr_rg t) (ha : mr_rg a) (hw : mr_rg way)
    (x1 : ¬ (isA t ∧ isA a) → X 1 (M.1, M.2.1, M.2.2 + 1)) (x2 : (isA t ∧ isA a) → ¬ (0 ≤ way ∧ way ≤ 2) → X 2 (M.1, M.2.1, M.2.2 + 1))
    (k : (isA t ∧ isA a) → (0 ≤ way ∧ way ≤ 2) → ∀ v M1, CB M M1 t (mirT way (rdA M (ar M a))) v → K v M1) : en_CI sc 85 [mm_r 0, mm_i t, mm_i a, mm_i way] M K X := by
  refine vc85_0 ho hw (c9 ho ht (fun gt _ => ?_) (fun q => Or.inr ⟨1, rfl, by decide, x1 (fun z => q z.1)⟩))
  refine c9 ho ha (fun ga _ => ?_) (fun q => Or.inr ⟨1, rfl, by decide, x1 (fun z => q z.2)⟩)
  refine c10 ho hw ⟨by decide, by decide⟩ ⟨by decide, by decide⟩ (fun gw _ => ?_) (fun q => Or.inr ⟨2, rfl, by decide, x2 ⟨gt, ga⟩ q⟩)
  replace k := k ⟨gt, ga⟩ gw
  have Aa := OW_A hO ga
  have hA := hO.2.2.2.1
  refine c18 ho hO.2.2.1 hA (hO.2.2.2.2 _ hA) (fun Md fd Bd hod => ?_)
  have kd : fr (kS (br M)) M Md := fr_mono fd kS_b
  have A1 := kA hO kd ga
  have fin : ∀ M' : mm_M, mr_ok M' → fr (kS (br M)) M M' → BS M' (br M) (mirT way (rdA M (ar M a))) → en_R sc 85 84 [mm_r 0, mm_i t, mm_i a, mm_i way] [] M' (QI K X) := fun M' ho' hf hB => vc85_84 ho' (c30y ho' hO hf hB gt.1 gt.2 (fun r M1 c _ => Or.inl ⟨r, rfl, k r M1 c⟩))
  refine ⟨fun q => ⟨ga.1, ga.2, ar M a, A1.1, Aa.2.1, c77 hod hO ga kd Bd (fun M1 o1 f1 B1 _ => fin M1 o1 f1 (BS_iff B1 (fun x y => ?_)))⟩, fun q => ⟨ga.1, ga.2, ar M a, A1.1, Aa.2.1, c78 hod hO ga kd Bd (fun M1 o1 f1 B1 _ => fin M1 o1 f1 (BS_iff B1 (fun x y => ?_)))⟩, fun q q2 => ⟨ga.1, ga.2, ar M a, A1.1, Aa.2.1, c84 hod hO ga kd Bd (fun M1 o1 f1 B1 _ => fin M1 o1 f1 (BS_iff B1 (fun x y => ?_)))⟩⟩
  · unfold mirT
    exact ⟨fun z => Or.inl ⟨q, z⟩, fun z => by rcases z with z | z | z; exact z.2; exact absurd z.1 (by omega); exact absurd q z.1⟩
  · unfold mirT
    exact ⟨fun z => Or.inr (Or.inl ⟨q, z⟩), fun z => by rcases z with z | z | z; exact absurd z.1 (by omega); exact z.2; exact absurd q z.2.1⟩
  · unfold mirT
    exact ⟨fun z => Or.inr (Or.inr ⟨q, q2, z⟩), fun z => by rcases z with z | z | z; exact absurd z.1 q; exact absurd z.1 q2; exact z.2.2⟩
end
