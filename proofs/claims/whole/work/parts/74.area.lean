/-! ===== the class's Area: reading ===== -/
/-- area a is a form within bounds -/
def AW (M : mm_M) (a : Nat) : Prop := mr_A a ∧ wf (rdA M a) ∧ M.1 a 0 ≤ 100 ∧ M.1 (a + 3) (M.1 a 0) ≤ 400
theorem rdA_fr {M M1 : mm_M} {S : Nat → Int → Prop} {a : Nat} (h : fr S M M1) (hs : ∀ b k, a ≤ b → b ≤ a + 5 → ¬ S b k) : rdA M1 a = rdA M a := by
  have e : ∀ b, a ≤ b → b ≤ a + 5 → M1.1 b = M.1 b := fun b h0 h1 => by
    funext j
    exact h.2 b j (hs b j h0 h1)
  unfold rdA
  rw [e a (by omega) (by omega), e (a + 1) (by omega) (by omega), e (a + 2) (by omega) (by omega), e (a + 3) (by omega) (by omega), e (a + 4) (by omega) (by omega), e (a + 5) (by omega) (by omega)]
theorem AW_fr {M M1 : mm_M} {S : Nat → Int → Prop} {a : Nat} (h : fr S M M1) (hs : ∀ b k, a ≤ b → b ≤ a + 5 → ¬ S b k) (g : AW M a) : AW M1 a := by
  obtain ⟨g1, g2, g3, g4⟩ := g
  have e0 : M1.1 a 0 = M.1 a 0 := h.2 _ _ (hs _ _ (by omega) (by omega))
  refine ⟨g1, by rw [rdA_fr h hs]; exact g2, by rw [e0]; exact g3, ?_⟩
  rw [e0, h.2 _ _ (hs _ _ (by omega) (by omega))]
  exact g4
theorem rS_A {w a : Nat} (hw : mr_Rw w) (ha : mr_A a) : ∀ b (k : Int), a ≤ b → b ≤ a + 5 → ¬ rS w b k := by
  intro b k h0 h1 h2
  have h2' : b = w + 1 := h2
  unfold mr_Rw at hw
  unfold mr_A at ha
  omega
theorem AW_st {M : mm_M} {a : Nat} (h : AW M a) {i : Int} (h0 : 0 ≤ i) (h1 : i ≤ M.1 a 0) : 0 ≤ M.1 (a + 3) i ∧ M.1 (a + 3) i ≤ 400 := by
  obtain ⟨_, w, _, g4⟩ := h
  have x1 := sst_mono w (Int.le_refl 0) h0 h1
  have x2 := sst_mono w h0 h1 (Int.le_refl _)
  rw [w.2.1] at x1
  have e : sst (rdA M a) (M.1 a 0) = M.1 (a + 3) (M.1 a 0) := rfl
  have e2 : sst (rdA M a) i = M.1 (a + 3) i := rfl
  omega
theorem AW_lr {M : mm_M} {a : Nat} (h : AW M a) {i k : Int} (h0 : 0 ≤ i) (h1 : i < M.1 a 0) (k0 : M.1 (a + 3) i ≤ k) (k1 : k < M.1 (a + 3) (i + 1)) : -1000 ≤ M.1 (a + 4) k ∧ M.1 (a + 4) k < M.1 (a + 5) k ∧ M.1 (a + 5) k ≤ 1000 := by
  have b := h.2.1.2.2.1 i h0 h1
  have x := b.2.2.2.2.2 k k0 k1
  have y := b.2.2.2.2.1.1 k k0 k1
  exact ⟨x.1, y, x.2⟩
theorem hi_mono {s : sh} (h : wf s) {i j : Int} (h0 : 0 ≤ i) (h1 : i ≤ j) (h2 : j < sn s) : shi s i ≤ shi s j := by
  by_cases e : i = j
  · rw [e]; exact Int.le_refl _
  · have a := wf_hl h h0 (by omega : i < j) h2
    have b := (h.2.2.1 j (by omega) h2).2.2.1
    omega
section
variable {sc : Nat × (Int → Int)} {M : mm_M} {X : Nat → mm_M → Prop}
/-- CellAreas.needArea -/
theorem c9 {K : mm_M → Prop} {a : Int} (ho : mr_ok M) (ha : mr_rg a) (k : 0 ≤ a ∧ a < 8 → K M) (x : ¬ (0 ≤ a ∧ a < 8) → X 1 (M.1, M.2.1, M.2.2 + 1)) : en_CV sc 9 [mm_i a] M K X := by
  have no : ¬ (0 ≤ a ∧ a < 8) → en_R sc 9 10 [mm_i a] [] M (fun r M1 => (r = .inl none ∧ K M1) ∨ ∃ e, r = .inr e ∧ e < 100 ∧ X e M1) := fun q => vc9_10 ho (Or.inr ⟨1, rfl, by decide, x q⟩)
  exact vc9_0 ho ha ⟨fun q => no (by omega), fun q => ⟨fun q2 => Or.inl ⟨rfl, k (by omega)⟩, fun q2 => no (by omega)⟩⟩
/-- CellAreas.needBetween -/
theorem c10 {K : mm_M → Prop} {a l g : Int} (ho : mr_ok M) (ha : mr_rg a) (hl : mr_rg l) (hg : mr_rg g) (k : l ≤ a ∧ a ≤ g → K M) (x : ¬ (l ≤ a ∧ a ≤ g) → X 2 (M.1, M.2.1, M.2.2 + 1)) : en_CV sc 10 [mm_i a, mm_i l, mm_i g] M K X := by
  have no : ¬ (l ≤ a ∧ a ≤ g) → en_R sc 10 10 [mm_i a, mm_i l, mm_i g] [] M (fun r M1 => (r = .inl none ∧ K M1) ∨ ∃ e, r = .inr e ∧ e < 100 ∧ X e M1) := fun q => vc10_10 ho (Or.inr ⟨2, rfl, by decide, x q⟩)
  exact vc10_0 ho ha hl hg ⟨fun q => no (by omega), fun q => ⟨fun q2 => Or.inl ⟨rfl, k (by omega)⟩, fun q2 => no (by omega)⟩⟩
def bSt (M : mm_M) (a : Nat) (i : Int) : Int := if i = -1 then 0 else M.1 (a + 3) i
def bEn (M : mm_M) (a : Nat) (i : Int) : Int := if i = -1 then 0 else M.1 (a + 3) (i + 1)
theorem c50 {K : Int → mm_M → Prop} {a : Nat} {i : Int} (ho : mr_ok M) (ha : mr_A a) (hi : -1 ≤ i) (hi1 : i < 101) (k : K (bSt M a i) M) : en_CI sc 50 [mm_r a, mm_i i] M K X := by
  unfold bSt at k
  refine vc50_0 ho ⟨by omega, by omega⟩ ha ⟨fun q => ⟨by omega, by omega, Or.inl ⟨_, rfl, ?_⟩⟩, fun q => Or.inl ⟨_, rfl, ?_⟩⟩
  · rwa [if_neg q] at k
  · rwa [if_pos (Classical.byContradiction q)] at k
theorem c51 {K : Int → mm_M → Prop} {a : Nat} {i : Int} (ho : mr_ok M) (ha : mr_A a) (hi : -1 ≤ i) (hi1 : i < 100) (k : K (bEn M a i) M) : en_CI sc 51 [mm_r a, mm_i i] M K X := by
  unfold bEn at k
  refine vc51_0 ho ⟨by omega, by omega⟩ ha ⟨fun q => ⟨by omega, by omega, Or.inl ⟨_, rfl, ?_⟩⟩, fun q => Or.inl ⟨_, rfl, ?_⟩⟩
  · rwa [if_neg q] at k
  · rwa [if_pos (Classical.byContradiction q)] at k
/-- Area.bandAt -/
theorem c49 {K : Int → mm_M → Prop} {a : Nat} {y : Int} (ho : mr_ok M) (h : AW M a) (hy : mr_rg y)
    (k1 : (∀ i, 0 ≤ i → i < M.1 a 0 → ¬ (M.1 (a + 1) i ≤ y ∧ y < M.1 (a + 2) i)) → K (-1) M) (k2 : ∀ i, 0 ≤ i → i < M.1 a 0 → M.1 (a + 1) i ≤ y → y < M.1 (a + 2) i → K i M) : en_CI sc 49 [mm_r a, mm_i y, mm_u, mm_u, mm_u] M K X := by
  obtain ⟨hA, w, hn, _⟩ := h
  have n0 : 0 ≤ M.1 a 0 := w.1
  refine vc49_0 ho hA ?_
  have loop : ∀ (c : Nat) (f t : Int) (l4 : mm_V), (t - f).toNat < c → 0 ≤ f → f ≤ t → t ≤ M.1 a 0 → (∀ i, 0 ≤ i → i < f → M.1 (a + 2) i ≤ y) → (∀ i, t ≤ i → i < M.1 a 0 → y < M.1 (a + 2) i) →
      en_R sc 49 7 [mm_r a, mm_i y, mm_i f, mm_i t, l4] [] M (fun r M1 => (∃ x, r = .inl (some (mm_i x)) ∧ K x M1) ∨ ∃ e, r = .inr e ∧ e < 100 ∧ X e M1) := by
    intro c
    induction c with
    | zero => intro f t l4 hc; omega
    | succ c ih =>
      intro f t l4 hc f0 ft tn hlo hhi
      refine vc49_7 ho ⟨by omega, by omega⟩ ⟨by omega, by omega⟩ hA hy ⟨fun q => ⟨fun q2 => Or.inl ⟨_, rfl, k1 (fun i i0 i1 g => ?_)⟩, fun q2 => ⟨f0, by omega, fun q3 => Or.inl ⟨_, rfl, k1 (fun i i0 i1 g => ?_)⟩, fun q3 => Or.inl ⟨_, rfl, k2 f f0 (by omega) (by omega) (hhi f (by omega) (by omega))⟩⟩⟩, fun q => ?_⟩
      · have := hlo i i0 (by omega)
        omega
      · by_cases z : i < f
        · have := hlo i i0 z
          omega
        · by_cases z2 : i = f
          · rw [z2] at g
            omega
          · have x : M.1 (a + 2) f ≤ M.1 (a + 1) i := wf_hl w f0 (by omega : f < i) i1
            have x2 : M.1 (a + 1) f < M.1 (a + 2) f := (w.2.2.1 f f0 (show f < M.1 a 0 by omega)).2.2.1
            omega
      · refine ⟨⟨by omega, by omega⟩, by omega, by omega, by omega, fun q2 => ?_, fun q2 => ?_⟩
        · refine ih _ _ _ (by omega) (by omega) (by omega) tn (fun i i0 i1 => ?_) hhi
          have x : M.1 (a + 2) i ≤ M.1 (a + 2) ((f + t) / 2) := hi_mono w i0 (by omega) (show (f + t) / 2 < M.1 a 0 by omega)
          omega
        · refine ih _ _ _ (by omega) (by omega) (by omega) (by omega) hlo (fun i i0 i1 => ?_)
          have x : M.1 (a + 2) ((f + t) / 2) ≤ M.1 (a + 2) i := hi_mono w (by omega) i0 i1
          omega
  exact loop _ 0 _ _ (Nat.lt_succ_self _) (by omega) n0 (Int.le_refl _) (fun i a b => absurd b (by omega)) (fun i a b => absurd b (by omega))
/-- Area.layBand -/
theorem c52 {K : mm_M → Prop} {a w : Nat} {i ml mr : Int} (ho : mr_ok M) (h : AW M a) (hw : mr_Rw w) (hi : -1 ≤ i) (hi1 : i < M.1 a 0 ∨ i = -1) (h1 : -100000 ≤ ml ∧ ml ≤ 100000) (h2 : -100000 ≤ mr ∧ mr ≤ 100000)
    (k : ∀ M1, fr (rS w) M M1 → (∀ x, ri M1 w x ↔ ri M w x ∨ (-1000 ≤ x ∧ x < 1000 ∧ ∃ j, bSt M a i ≤ j ∧ j < bEn M a i ∧ M.1 (a + 4) j - ml ≤ x ∧ x < M.1 (a + 5) j + mr)) → K M1) : en_CV sc 52 [mm_r a, mm_i i, mm_r w, mm_i ml, mm_i mr, mm_u] M K X := by
  have hA := h.1
  have hn := h.2.2.1
  have n0 : 0 ≤ M.1 a 0 := h.2.1.1
  have bd : 0 ≤ bSt M a i ∧ bSt M a i ≤ bEn M a i ∧ bEn M a i ≤ 400 := by
    unfold bSt bEn
    by_cases e : i = -1
    · rw [if_pos e, if_pos e]; decide
    · rw [if_neg e, if_neg e]
      have x1 := AW_st h (by omega : 0 ≤ i) (by omega)
      have x2 := AW_st h (by omega : 0 ≤ i + 1) (by omega)
      have x3 : M.1 (a + 3) i < M.1 (a + 3) (i + 1) := (h.2.1.2.2.1 i (by omega) (show i < M.1 a 0 by omega)).1
      omega
  have lr : ∀ j, bSt M a i ≤ j → j < bEn M a i → -1000 ≤ M.1 (a + 4) j ∧ M.1 (a + 4) j < M.1 (a + 5) j ∧ M.1 (a + 5) j ≤ 1000 := by
    unfold bSt bEn
    intro j g0 g1
    by_cases e : i = -1
    · rw [if_pos e] at g0 g1
      omega
    · rw [if_neg e] at g0 g1
      exact AW_lr h (by omega) (by omega) g0 g1
  have loop : ∀ (c : Nat) (s : Int) (M' : mm_M), c = (bEn M a i - s).toNat → bSt M a i ≤ s → s ≤ bEn M a i → mr_ok M' → fr (rS w) M M' → (∀ x, ri M' w x ↔ ri M w x ∨ (-1000 ≤ x ∧ x < 1000 ∧ ∃ j, bSt M a i ≤ j ∧ j < s ∧ M.1 (a + 4) j - ml ≤ x ∧ x < M.1 (a + 5) j + mr)) →
      en_R sc 52 7 [mm_r a, mm_i i, mm_r w, mm_i ml, mm_i mr, mm_i s] [] M' (fun r M1 => (r = .inl none ∧ K M1) ∨ ∃ e, r = .inr e ∧ e < 100 ∧ X e M1) := by
    intro c
    induction c with
    | zero =>
      intro s M' hc s0 s1 ho' hf hr
      have en : bEn M' a i = bEn M a i := by unfold bEn; rw [hf.2 _ _ (rS_A hw hA _ _ (by omega) (by omega))]
      refine vc52_7 ho' hA ⟨by omega, by omega⟩ hw (c51 ho' hA hi (by omega) (fun _ => ?_))
      rw [en]
      refine ⟨⟨by omega, by omega⟩, fun q => Or.inl ⟨rfl, k M' hf (fun x => ?_)⟩, fun q => absurd q (by omega)⟩
      have es : s = bEn M a i := by omega
      rw [hr x, es]
    | succ c ih =>
      intro s M' hc s0 s1 ho' hf hr
      have en : bEn M' a i = bEn M a i := by unfold bEn; rw [hf.2 _ _ (rS_A hw hA _ _ (by omega) (by omega))]
      have e4 : M'.1 (a + 4) s = M.1 (a + 4) s := hf.2 _ _ (rS_A hw hA _ _ (by omega) (by omega))
      have e5 : M'.1 (a + 5) s = M.1 (a + 5) s := hf.2 _ _ (rS_A hw hA _ _ (by omega) (by omega))
      have b := lr s s0 (by omega)
      refine vc52_7 ho' hA ⟨by omega, by omega⟩ hw (c51 ho' hA hi (by omega) (fun _ => ?_))
      rw [en, e4, e5]
      refine ⟨⟨by omega, by omega⟩, fun q => absurd q (by omega), fun q => ⟨by omega, by omega, by omega, by omega, ?_⟩⟩
      refine c17 ho' hw ⟨by omega, by omega⟩ ⟨by omega, by omega⟩ (by omega) (fun M2 f2 r2 ho2 => ?_)
      refine ih _ _ (by omega) (by omega) (by omega) ho2 (fr_trans hf f2) (fun x => ?_)
      rw [r2, hr]
      constructor
      · rintro ((g | ⟨g0, g1, j, j0, j1, j2, j3⟩) | ⟨g0, g1, g2, g3⟩)
        · exact Or.inl g
        · exact Or.inr ⟨g0, g1, j, j0, by omega, j2, j3⟩
        · exact Or.inr ⟨g0, g1, s, s0, by omega, g2, g3⟩
      · rintro (g | ⟨g0, g1, j, j0, j1, j2, j3⟩)
        · exact Or.inl (Or.inl g)
        · by_cases z : j = s
          · rw [z] at j2 j3
            exact Or.inr ⟨g0, g1, j2, j3⟩
          · exact Or.inl (Or.inr ⟨g0, g1, j, j0, by omega, j2, j3⟩)
  refine vc52_0 ho hA (c50 ho hA hi (by omega) (fun _ => ?_))
  refine loop _ _ M rfl (Int.le_refl _) bd.2.1 ho fr_refl (fun x => ⟨Or.inl, fun z => z.elim id (fun ⟨_, _, j, j0, j1, _⟩ => absurd j1 (by omega))⟩)
/-- CellAreas.layRow -/
theorem c53 {K : mm_M → Prop} {a w : Nat} {y : Int} (ho : mr_ok M) (h : AW M a) (hw : mr_Rw w) (hy : mr_rg y) (k : ∀ M1, fr (rS w) M M1 → (∀ x, ri M1 w x ↔ has (rdA M a) x y) → K M1) : en_CV sc 53 [mm_r a, mm_i y, mm_r w] M K X := by
  have hA := h.1
  refine vc53_0 ho hw hA (c12 ho hw (fun M1 f1 r1 ho1 => ?_))
  have h1 := AW_fr f1 (rS_A hw hA) h
  have es := rdA_fr f1 (rS_A hw hA)
  refine c49 ho1 h1 hy (fun no _ => ?_) (fun i i0 i1 i2 i3 _ => ?_)
  · refine c52 ho1 h1 hw (by omega) (Or.inr rfl) (by omega) (by omega) (fun M2 f2 r2 _ => Or.inl ⟨rfl, k M2 (fr_trans f1 f2) (fun x => ?_)⟩)
    rw [r2]
    constructor
    · rintro (g | ⟨_, _, j, j0, j1, _⟩)
      · exact absurd g (r1 x)
      · unfold bSt bEn at *
        rw [if_pos rfl] at j0 j1
        omega
    · rintro ⟨i, i0, i1, i2, i3, _⟩
      rw [← es] at i1 i2 i3
      exact absurd ⟨i2, i3⟩ (no i i0 i1)
  · refine c52 ho1 h1 hw (by omega) (Or.inl i1) (by omega) (by omega) (fun M2 f2 r2 _ => Or.inl ⟨rfl, k M2 (fr_trans f1 f2) (fun x => ?_)⟩)
    rw [r2, ← es, has_at h1.2.1 i0 i1 i2 i3]
    have e1 : bSt M1 a i = M1.1 (a + 3) i := if_neg (by omega)
    have e2 : bEn M1 a i = M1.1 (a + 3) (i + 1) := if_neg (by omega)
    rw [e1, e2]
    constructor
    · rintro (g | ⟨_, _, j, j0, j1, j2, j3⟩)
      · exact absurd g (r1 x)
      · exact ⟨j, j0, j1, by show M1.1 (a + 4) j ≤ x; omega, by show x < M1.1 (a + 5) j; omega⟩
    · intro g
      have rg := inb_rg (h1.2.1.2.2.1 i i0 i1) g
      obtain ⟨j, j0, j1, j2, j3⟩ := g
      have j2' : M1.1 (a + 4) j ≤ x := j2
      have j3' : x < M1.1 (a + 5) j := j3
      exact Or.inr ⟨rg.1, rg.2, j, j0, j1, by omega, by omega⟩
end
