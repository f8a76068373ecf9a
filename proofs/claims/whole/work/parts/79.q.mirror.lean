/-! ===== mirror, the class's side ===== -/
def hasN (s : sh) (n x y : Int) : Prop := ∃ i, 0 ≤ i ∧ i < n ∧ slo s i ≤ y ∧ y < shi s i ∧ inb s i x
def mirT (way : Int) (s : sh) (x y : Int) : Prop := (way = 0 ∧ has s (-1 - x) y) ∨ (way = 1 ∧ has s x (-1 - y)) ∨ (way ≠ 0 ∧ way ≠ 1 ∧ has s y x)
theorem mirT_iff {way : Int} {s t : sh} (h : wf s) (e : eqv s t) (x y : Int) : mirT way s x y ↔ mirT way t x y := by
  unfold mirT
  rw [eqv_has h e, eqv_has h e, eqv_has h e]
theorem kA {M M' : mm_M} (hO : OW M) (hf : fr (kS (br M)) M M') {a : Int} (ga : isA a) : M'.2.1 1 a = some (ar M a) ∧ AW M' (ar M a) ∧ rdA M' (ar M a) = rdA M (ar M a) := by
  obtain ⟨O', p2, p3, p4, _⟩ := kS_keep hO hf
  have A' := OW_A O' ga
  rw [p2] at A'
  exact ⟨A'.1, A'.2, p4 a ga.1 ga.2⟩
/-- the stretches of a band as the reader sees them -/
theorem rdA_row {M' : mm_M} {A : Nat} {s : sh} (e : rdA M' A = s) (i : Int) (h0 : 0 ≤ i) : bSt M' A i = sst s i ∧ bEn M' A i = sst s (i + 1) ∧ M'.1 (A + 4) = slf s ∧ M'.1 (A + 5) = srt s ∧ M'.1 (A + 1) = slo s ∧ M'.1 (A + 2) = shi s ∧ M'.1 A 0 = sn s ∧ M'.1 (A + 3) = sst s := by
  rw [← e]
  unfold bSt bEn
  rw [if_neg (by omega), if_neg (by omega)]
  exact ⟨rfl, rfl, rfl, rfl, rfl, rfl, rfl, rfl⟩
section
variable {sc : Nat × (Int → Int)} {M : mm_M} {X : Nat → mm_M → Prop}
/-- CellAreas.layMirrored -/
theorem c76 {K : mm_M → Prop} {A : Nat} {i : Int} (ho : mr_ok M) (h : AW M A) (h0 : 0 ≤ i) (h1 : i < sn (rdA M A)) (k : ∀ M1, fr (rS 11) M M1 → (∀ x, ri M1 11 x ↔ inb (rdA M A) i (-1 - x)) → K M1) : en_CV sc 76 [mm_r 0, mm_r A, mm_i i, mm_u] M K X := by
  have n1 := h.2.2.1
  have n1' : sn (rdA M A) ≤ 100 := n1
  refine vc76_0 ho h.1 (c12 ho w11 (fun Ma fa ra hoa => c50 hoa h.1 (by omega) (by omega) (fun _ => ?_)))
  have ea : rdA Ma A = rdA M A := rdA_fr fa (rS_A w11 h.1)
  have rr := rdA_row ea i h0
  have bk := h.2.1.2.2.1 i h0 h1
  have s0 := AW_st h h0 (show i ≤ M.1 A 0 by show i ≤ sn (rdA M A); omega)
  have s1 := AW_st h (show 0 ≤ i + 1 by omega) (show i + 1 ≤ M.1 A 0 by show i + 1 ≤ sn (rdA M A); omega)
  have s0' : 0 ≤ sst (rdA M A) i := s0.1
  have s1' : sst (rdA M A) (i + 1) ≤ 400 := s1.2
  have b1 := bk.1
  rw [rr.1]
  have loop : ∀ (c : Nat) (j : Int) (M' : mm_M), c = (sst (rdA M A) (i + 1) - j).toNat → sst (rdA M A) i ≤ j → j ≤ sst (rdA M A) (i + 1) → mr_ok M' → fr (rS 11) M M' → (∀ x, ri M' 11 x ↔ ∃ e, sst (rdA M A) i ≤ e ∧ e < j ∧ slf (rdA M A) e ≤ -1 - x ∧ -1 - x < srt (rdA M A) e) → en_R sc 76 13 [mm_r 0, mm_r A, mm_i i, mm_i j] [] M' (QV K X) := by
    intro c
    induction c with
    | zero =>
      intro j M' hc j0 j1 ho' hf hr
      have e' : rdA M' A = rdA M A := rdA_fr hf (rS_A w11 h.1)
      have rr := rdA_row e' i h0
      have ej : j = sst (rdA M A) (i + 1) := by omega
      refine vc76_13 ho' h.1 ⟨by omega, by omega⟩ (c51 ho' h.1 (by omega) (by omega) (fun _ => ?_))
      rw [rr.2.1]
      refine ⟨⟨by omega, by omega⟩, fun _ => Or.inl ⟨rfl, k M' hf (fun x => ?_)⟩, fun q => absurd (by omega) q⟩
      rw [hr, ej]
      exact Iff.rfl
    | succ c ih =>
      intro j M' hc j0 j1 ho' hf hr
      have e' : rdA M' A = rdA M A := rdA_fr hf (rS_A w11 h.1)
      have rr := rdA_row e' i h0
      refine vc76_13 ho' h.1 ⟨by omega, by omega⟩ (c51 ho' h.1 (by omega) (by omega) (fun _ => ?_))
      rw [rr.2.1, rr.2.2.1, rr.2.2.2.1]
      have bb := bk.2.2.2.2.2 j j0 (by omega)
      have bd := bk.2.2.2.2.1.1 j j0 (by omega)
      refine ⟨⟨by omega, by omega⟩, fun q => absurd q (by omega), fun _ => ⟨by omega, by omega, by omega, by omega, c17 ho' w11 ⟨by omega, by omega⟩ ⟨by omega, by omega⟩ (by omega) (fun Mb fb rb' hob => ?_)⟩⟩
      refine ih (j + 1) Mb (by omega) (by omega) (by omega) hob (fr_trans hf fb) (fun x => ?_)
      rw [rb', hr]
      constructor
      · rintro (⟨e, e0, e1, e2⟩ | ⟨e0, e1, e2, e3⟩)
        · exact ⟨e, e0, by omega, e2⟩
        · exact ⟨j, j0, by omega, by omega, by omega⟩
      · rintro ⟨e, e0, e1, e2, e3⟩
        by_cases z : e = j
        · rw [z] at e2 e3
          exact Or.inr ⟨by omega, by omega, by omega, by omega⟩
        · exact Or.inl ⟨e, e0, by omega, e2, e3⟩
  exact loop _ _ Ma rfl (Int.le_refl _) (by omega) hoa fa (fun x => ⟨fun z => absurd z (ra x), fun ⟨e, e0, e1, _⟩ => absurd e1 (by omega)⟩)
/-- CellAreas.swapSides -/
theorem c77 {K : mm_M → Prop} {a : Int} {M0 : mm_M} (ho : mr_ok M0) (hO : OW M) (ga : isA a) (hf0 : fr (kS (br M)) M M0) (hB0 : BS M0 (br M) (fun _ _ => False)) (k : ∀ M1, mr_ok M1 → fr (kS (br M)) M M1 → BS M1 (br M) (fun x y => has (rdA M (ar M a)) (-1 - x) y) → K M1) : en_CV sc 77 [mm_r 0, mm_r (ar M a), mm_u] M0 K X := by
  have Aa := OW_A hO ga
  have w := Aa.2.2.1
  have n0 := w.1
  have n1 : sn (rdA M (ar M a)) ≤ 100 := Aa.2.2.2.1
  refine vc77_0 ho ?_
  have loop : ∀ (c : Nat) (i : Int) (M' : mm_M), c = (sn (rdA M (ar M a)) - i).toNat → 0 ≤ i → i ≤ sn (rdA M (ar M a)) → mr_ok M' → fr (kS (br M)) M M' → BS M' (br M) (fun x y => hasN (rdA M (ar M a)) i (-1 - x) y) → en_R sc 77 2 [mm_r 0, mm_r (ar M a), mm_i i] [] M' (QV K X) := by
    intro c
    induction c with
    | zero =>
      intro i M' hc i0 i1 ho' hf hB
      obtain ⟨_, A', s'⟩ := kA hO hf ga
      have rr := rdA_row s' i i0
      have ei : i = sn (rdA M (ar M a)) := by omega
      refine vc77_2 ho' Aa.2.1 ⟨by omega, by omega⟩ ?_
      rw [rr.2.2.2.2.2.2.1]
      rw [ei] at hB
      exact ⟨fun _ => Or.inl ⟨rfl, k M' ho' hf hB⟩, fun q => absurd (by omega) q⟩
    | succ c ih =>
      intro i M' hc i0 i1 ho' hf hB
      obtain ⟨_, A', s'⟩ := kA hO hf ga
      have rr := rdA_row s' i i0
      refine vc77_2 ho' Aa.2.1 ⟨by omega, by omega⟩ ?_
      rw [rr.2.2.2.2.2.2.1]
      refine ⟨fun q => absurd q (by omega), fun _ => c76 ho' A' i0 (by rw [s']; omega) (fun Mb fb rb' hob => ?_)⟩
      have kb : fr (kS (br M)) M Mb := fr_trans hf (fr_mono fb (kS_row (by decide)))
      obtain ⟨_, Ab, sb⟩ := kA hO kb ga
      have r2 := rdA_row sb i i0
      have bk := w.2.2.1 i i0 (by omega)
      have b2 := bk.2.1
      have b3 := bk.2.2.1
      have b4 := bk.2.2.2.1
      rw [r2.2.2.2.2.1, r2.2.2.2.2.2.1]
      rw [s'] at rb'
      refine ⟨i0, by omega, i0, by omega, ?_⟩
      refine c29 hob (BS_fr fb (fun a k z => by have z' : a = 11 + 1 := z; omega) hB) w11 (by decide) (fun x g => ?_) ⟨by omega, by omega⟩ ⟨by omega, by omega⟩ (fun _ => ⟨b2, b4⟩) (fun _ x y z => ?_) (fun Mc fc Bc hoc => ?_)
      · have := inb_rg bk ((rb' x).mp g)
        omega
      · obtain ⟨j, j0, j1, j2, j3, _⟩ := z
        have := wf_hl w j0 j1 (show i < sn (rdA M (ar M a)) by omega)
        omega
      · refine ih (i + 1) Mc (by omega) (by omega) (by omega) hoc (fr_trans kb (fr_mono fc kS_b)) (BS_iff Bc (fun x y => ?_))
        rw [rb']
        constructor
        · rintro (⟨j, j0, j1, j2⟩ | z)
          · exact ⟨j, j0, by omega, j2⟩
          · exact ⟨i, i0, by omega, z⟩
        · rintro ⟨j, j0, j1, j2⟩
          by_cases z : j = i
          · rw [z] at j2
            exact Or.inr j2
          · exact Or.inl ⟨j, j0, by omega, j2⟩
  exact loop _ 0 M0 rfl (Int.le_refl _) n0 ho hf0 (BS_iff hB0 (fun x y => ⟨fun z => z.elim, fun ⟨i, i0, i1, _⟩ => absurd i1 (by omega)⟩))
theorem c52x {K : mm_M → Prop} {A : Nat} {i : Int} (ho : mr_ok M) (h : AW M A) (h0 : 0 ≤ i) (h1 : i < sn (rdA M A)) {w : Nat} (hw : mr_Rw w) (k : ∀ M1, fr (rS w) M M1 → (∀ x, ri M1 w x ↔ ri M w x ∨ inb (rdA M A) i x) → K M1) : en_CV sc 52 [mm_r A, mm_i i, mm_r w, mm_i 0, mm_i 0, mm_u] M K X := by
  have rr := rdA_row (rfl : rdA M A = rdA M A) i h0
  have bk := h.2.1.2.2.1 i h0 h1
  refine c52 ho h hw (by omega) (Or.inl h1) ⟨by decide, by decide⟩ ⟨by decide, by decide⟩ (fun Mf ff rf => k Mf ff (fun x => ?_))
  rw [rf, rr.1, rr.2.1]
  constructor
  · rintro (g | ⟨g1, g2, j, j0, j1, j2, j3⟩)
    · exact Or.inl g
    · exact Or.inr ⟨j, j0, j1, by show M.1 (A + 4) j ≤ x; omega, by show x < M.1 (A + 5) j; omega⟩
  · rintro (g | g)
    · exact Or.inl g
    · have := inb_rg bk g
      obtain ⟨j, j0, j1, j2, j3⟩ := g
      have j2' : M.1 (A + 4) j ≤ x := j2
      have j3' : x < M.1 (A + 5) j := j3
      exact Or.inr ⟨by omega, by omega, j, j0, j1, by omega, by omega⟩
/-- CellAreas.swapEnds -/
theorem c78 {K : mm_M → Prop} {a : Int} {M0 : mm_M} (ho : mr_ok M0) (hO : OW M) (ga : isA a) (hf0 : fr (kS (br M)) M M0) (hB0 : BS M0 (br M) (fun _ _ => False)) (k : ∀ M1, mr_ok M1 → fr (kS (br M)) M M1 → BS M1 (br M) (fun x y => has (rdA M (ar M a)) x (-1 - y)) → K M1) : en_CV sc 78 [mm_r 0, mm_r (ar M a), mm_u] M0 K X := by
  have Aa := OW_A hO ga
  have w := Aa.2.2.1
  have n0 := w.1
  have n1 : sn (rdA M (ar M a)) ≤ 100 := Aa.2.2.2.1
  obtain ⟨_, A0, s0⟩ := kA hO hf0 ga
  refine vc78_0 ho Aa.2.1 ?_
  rw [(rdA_row s0 0 (Int.le_refl 0)).2.2.2.2.2.2.1]
  have loop : ∀ (c : Nat) (i : Int) (M' : mm_M), c = (i + 1).toNat → -1 ≤ i → i < sn (rdA M (ar M a)) → mr_ok M' → fr (kS (br M)) M M' → BS M' (br M) (fun x y => ∃ j, i < j ∧ j < sn (rdA M (ar M a)) ∧ slo (rdA M (ar M a)) j ≤ -1 - y ∧ -1 - y < shi (rdA M (ar M a)) j ∧ inb (rdA M (ar M a)) j x) → en_R sc 78 7 [mm_r 0, mm_r (ar M a), mm_i i] [] M' (QV K X) := by
    intro c
    induction c with
    | zero =>
      intro i M' hc i0 i1 ho' hf hB
      refine vc78_7 ho' ⟨by omega, by omega⟩ Aa.2.1 ⟨fun _ => Or.inl ⟨rfl, k M' ho' hf (BS_iff hB (fun x y => ⟨?_, ?_⟩))⟩, fun q => absurd (by omega) q⟩
      · rintro ⟨j, j0, j1⟩
        exact ⟨j, by omega, j1⟩
      · rintro ⟨j, j0, j1⟩
        exact ⟨j, by omega, j1⟩
    | succ c ih =>
      intro i M' hc i0 i1 ho' hf hB
      refine vc78_7 ho' ⟨by omega, by omega⟩ Aa.2.1 ⟨fun q => absurd q (by omega), fun _ => c12 ho' w11 (fun Ma fa ra hoa => ?_)⟩
      have ka : fr (kS (br M)) M Ma := fr_trans hf (fr_mono fa (kS_row (by decide)))
      obtain ⟨_, A1, s1⟩ := kA hO ka ga
      refine c52x hoa A1 (by omega) (by rw [s1]; omega) w11 (fun Mb fb rb' hob => ?_)
      rw [s1] at rb'
      have kb : fr (kS (br M)) M Mb := fr_trans ka (fr_mono fb (kS_row (by decide)))
      obtain ⟨_, Ab, sb⟩ := kA hO kb ga
      have r2 := rdA_row sb i (by omega)
      have bk := w.2.2.1 i (by omega) i1
      have b2 := bk.2.1
      have b3 := bk.2.2.1
      have b4 := bk.2.2.2.1
      rw [r2.2.2.2.2.1, r2.2.2.2.2.2.1]
      refine ⟨by omega, by omega, by omega, by omega, ?_⟩
      have R : ∀ x, ri Mb 11 x ↔ inb (rdA M (ar M a)) i x := fun x => (rb' x).trans ⟨fun z => z.elim (fun z => absurd z (ra x)) id, Or.inr⟩
      refine c29 hob (BS_fr (fr_trans fa fb) (fun a k z => by have z' : a = 11 + 1 := z; omega) hB) w11 (by decide) (fun x g => (inb_rg bk ((R x).mp g)).2) ⟨by omega, by omega⟩ ⟨by omega, by omega⟩ (fun _ => ⟨by omega, by omega⟩) (fun _ x y z => ?_) (fun Mc fc Bc hoc => ?_)
      · obtain ⟨j, j0, j1, j2, j3, _⟩ := z
        have := wf_hl w (show 0 ≤ i by omega) j0 j1
        omega
      · refine ih (i + -1) Mc (by omega) (by omega) (by omega) hoc (fr_trans kb (fr_mono fc kS_b)) (BS_iff Bc (fun x y => ?_))
        rw [R]
        constructor
        · rintro (⟨j, j0, j1⟩ | ⟨z1, z2, z3⟩)
          · exact ⟨j, by omega, j1⟩
          · exact ⟨i, by omega, i1, by omega, by omega, z3⟩
        · rintro ⟨j, j0, j1, j2, j3, j4⟩
          by_cases z : j = i
          · rw [z] at j2 j3 j4
            exact Or.inr ⟨by omega, by omega, j4⟩
          · exact Or.inl ⟨j, by omega, j1, j2, j3, j4⟩
  exact loop _ _ M0 rfl (by omega) (by omega) ho hf0 (BS_iff hB0 (fun x y => ⟨fun z => z.elim, fun ⟨i, i0, i1, _⟩ => absurd i1 (by omega)⟩))
end
