/-! ===== CellAreasModel.distance ===== -/
/-- v is the least of those quadruples that P tells of; -1 where there is none -/
def mnP (s t : sh) (P : Int → Int → Int → Int → Prop) (v : Int) : Prop := (v = -1 ∧ ∀ i k p q, inP s i p → inP t k q → ¬ P i k p q) ∨ ((∃ i k p q, inP s i p ∧ inP t k q ∧ P i k p q ∧ far s t i k p q = v) ∧ ∀ i k p q, inP s i p → inP t k q → P i k p q → v ≤ far s t i k p q)
theorem mnP_rg {s t : sh} {P : Int → Int → Int → Int → Prop} {v : Int} (h : mnP s t P v) : -1 ≤ v := by
  rcases h with h | ⟨⟨i, k, p, q, _, _, _, e⟩, _⟩
  · omega
  · have := far_0 s t i k p q
    omega
theorem mnP_iff {s t : sh} {P P' : Int → Int → Int → Int → Prop} {v : Int} (h : mnP s t P v) (e : ∀ i k p q, inP s i p → inP t k q → (P i k p q ↔ P' i k p q)) : mnP s t P' v := by
  rcases h with ⟨a, b⟩ | ⟨⟨i, k, p, q, x, y, z, w⟩, b⟩
  · exact Or.inl ⟨a, fun i k p q x y z => b i k p q x y ((e i k p q x y).mpr z)⟩
  · exact Or.inr ⟨⟨i, k, p, q, x, y, (e i k p q x y).mp z, w⟩, fun i k p q x y z => b i k p q x y ((e i k p q x y).mpr z)⟩
theorem mnP_add {s t : sh} {P P' : Int → Int → Int → Int → Prop} {v w i k p q : Int} (h : mnP s t P v) (x : inP s i p) (y : inP t k q) (e : ∀ i' k' p' q', inP s i' p' → inP t k' q' → (P' i' k' p' q' ↔ P i' k' p' q' ∨ (i' = i ∧ k' = k ∧ p' = p ∧ q' = q))) (hw : w = if v < 0 ∨ far s t i k p q < v then far s t i k p q else v) : mnP s t P' w := by
  have rg := mnP_rg h
  by_cases c : v < 0 ∨ far s t i k p q < v
  · rw [if_pos c] at hw
    refine Or.inr ⟨⟨i, k, p, q, x, y, (e i k p q x y).mpr (Or.inr ⟨rfl, rfl, rfl, rfl⟩), hw.symm⟩, fun i' k' p' q' x' y' z => ?_⟩
    rcases (e i' k' p' q' x' y').mp z with z | ⟨z1, z2, z3, z4⟩
    · rcases h with ⟨a, b⟩ | ⟨⟨i1, k1, p1, q1, _, _, _, e1⟩, b⟩
      · exact absurd z (b i' k' p' q' x' y')
      · have := b i' k' p' q' x' y' z
        have := far_0 s t i1 k1 p1 q1
        omega
    · rw [z1, z2, z3, z4]
      omega
  · rw [if_neg c] at hw
    rcases h with ⟨a, b⟩ | ⟨⟨i', k', p', q', x', y', z, g⟩, b⟩
    · omega
    · refine Or.inr ⟨⟨i', k', p', q', x', y', (e i' k' p' q' x' y').mpr (Or.inl z), by omega⟩, fun i1 k1 p1 q1 a1 a2 a3 => ?_⟩
      rcases (e i1 k1 p1 q1 a1 a2).mp a3 with z | ⟨z1, z2, z3, z4⟩
      · have := b i1 k1 p1 q1 a1 a2 z
        omega
      · rw [z1, z2, z3, z4]
        omega
abbrev lex4 (i j p q : Int) : Int → Int → Int → Int → Prop := fun i' j' p' q' => i' < i ∨ (i' = i ∧ (j' < j ∨ (j' = j ∧ (p' < p ∨ (p' = p ∧ q' < q)))))
section
variable {sc : Nat × (Int → Int)} {M : mm_M} {X : Nat → mm_M → Prop}
theorem c190 {K : Int → mm_M → Prop} {l h f t : Int} (ho : mr_ok M) (hl : mr_rg l) (hh : mr_rg h) (hf : mr_rg f) (ht : mr_rg t) (k : K (gp l h f t) M) : en_CI sc 190 [mm_i l, mm_i h, mm_i f, mm_i t] M K X := by
  unfold gp at k
  refine vc190_0 ho hf hh hl ht ⟨fun q => ⟨fun q2 => Or.inl ⟨_, rfl, ?_⟩, fun q2 => Or.inl ⟨_, rfl, ?_⟩⟩, fun q => Or.inl ⟨_, rfl, ?_⟩⟩
  · rwa [if_neg (by omega), if_neg (by omega)] at k
  · rwa [if_neg (by omega), if_pos (by omega)] at k
  · rwa [if_pos (by omega)] at k
theorem c191 {K : Int → mm_M → Prop} {a b : Int} (ho : mr_ok M) (hW : ∀ j, 0 ≤ j → j < 8 → RWk M j) (ha : mr_rg a) (hb : mr_rg b) (k1 : ¬ (isA a ∧ isA b) → ∀ M1, fr thS M M1 → M1.1 72 0 = 1 → K 0 M1)
    (k : (isA a ∧ isA b) → ∀ v M1, fr thS M M1 → M1.1 72 0 = 0 → DV (rdB M1 a) (rdB M1 b) v → K v M1) : en_CI sc 191 [mm_r 72, mm_i a, mm_i b, mm_u, mm_u, mm_u, mm_u, mm_u, mm_u, mm_u, mm_u] M K X := by
  refine vc191_0 ho (c70 ho ha hb (fun q M1 f1 e1 _ => ⟨⟨by decide, by decide⟩, fun z => absurd rfl z, fun _ => Or.inl ⟨_, rfl, k1 q M1 f1 e1⟩⟩) (fun g Ma fa ta hoa => ⟨⟨by decide, by decide⟩, fun _ => ?_, fun z => absurd (by decide) z⟩))
  replace k := fun v => k g v Ma fa ta
  obtain ⟨ga, gb⟩ := g
  have WA := (vT_keep (fr_mono fa thS_vT) ga.1 ga.2 (hW a ga.1 ga.2)).2
  have WB := (vT_keep (fr_mono fa thS_vT) gb.1 gb.2 (hW b gb.1 gb.2)).2
  clear hW k1 ho
  generalize hs : rdB Ma a = s at k
  generalize ht : rdB Ma b = t at k
  have ws : wf s := by rw [← hs]; exact WA.1
  have wt : wf t := by rw [← ht]; exact WB.1
  have a0 := ga.1
  have a1 := ga.2
  have b0 := gb.1
  have b1 := gb.2
  have sn_s : sn s = Ma.1 77 a := by rw [← hs]; rfl
  have sn_t : sn t = Ma.1 77 b := by rw [← ht]; rfl
  have n0 := ws.1
  have m0 := wt.1
  have n1 := WA.2.2.1
  have m1 := WB.2.2.1
  have bS : ∀ i, 0 ≤ i → i < sn s → Ma.1 75 (102 * a + i) = 402 * a + sst s i ∧ Ma.1 75 (102 * a + i) + Ma.1 76 (102 * a + i) = 402 * a + sst s (i + 1) ∧ 0 ≤ sst s i ∧ sst s i < sst s (i + 1) ∧ sst s (i + 1) ≤ 400 ∧ -1000 ≤ Ma.1 73 (102 * a + i) ∧ Ma.1 73 (102 * a + i) < Ma.1 74 (102 * a + i) ∧ Ma.1 74 (102 * a + i) ≤ 1000 ∧ slo s i = Ma.1 73 (102 * a + i) ∧ shi s i = Ma.1 74 (102 * a + i) := fun i i0 i1 => by
    rw [← hs]
    rw [sn_s] at i1
    obtain ⟨q1, q2, q3, q4, q5, q6, q7, q8⟩ := RW_band WA i0 i1
    exact ⟨q1, q2, q3, q4, q5, q6, q7, q8, rfl, rfl⟩
  have bT : ∀ i, 0 ≤ i → i < sn t → Ma.1 75 (102 * b + i) = 402 * b + sst t i ∧ Ma.1 75 (102 * b + i) + Ma.1 76 (102 * b + i) = 402 * b + sst t (i + 1) ∧ 0 ≤ sst t i ∧ sst t i < sst t (i + 1) ∧ sst t (i + 1) ≤ 400 ∧ -1000 ≤ Ma.1 73 (102 * b + i) ∧ Ma.1 73 (102 * b + i) < Ma.1 74 (102 * b + i) ∧ Ma.1 74 (102 * b + i) ≤ 1000 ∧ slo t i = Ma.1 73 (102 * b + i) ∧ shi t i = Ma.1 74 (102 * b + i) := fun i i0 i1 => by
    rw [← ht]
    rw [sn_t] at i1
    obtain ⟨q1, q2, q3, q4, q5, q6, q7, q8⟩ := RW_band WB i0 i1
    exact ⟨q1, q2, q3, q4, q5, q6, q7, q8, rfl, rfl⟩
  have kS' : ∀ i p, inP s i p → -1000 ≤ Ma.1 78 (402 * a + p) ∧ Ma.1 78 (402 * a + p) < Ma.1 79 (402 * a + p) ∧ Ma.1 79 (402 * a + p) ≤ 1000 ∧ slf s p = Ma.1 78 (402 * a + p) ∧ srt s p = Ma.1 79 (402 * a + p) := fun i p g => by
    rw [← hs] at g ⊢
    have x := RW_k WA g.1 g.2.1 g.2.2.1 g.2.2.2
    exact ⟨x.1, x.2.1, x.2.2, rfl, rfl⟩
  have kT' : ∀ i p, inP t i p → -1000 ≤ Ma.1 78 (402 * b + p) ∧ Ma.1 78 (402 * b + p) < Ma.1 79 (402 * b + p) ∧ Ma.1 79 (402 * b + p) ≤ 1000 ∧ slf t p = Ma.1 78 (402 * b + p) ∧ srt t p = Ma.1 79 (402 * b + p) := fun i p g => by
    rw [← ht] at g ⊢
    have x := RW_k WB g.1 g.2.1 g.2.2.1 g.2.2.2
    exact ⟨x.1, x.2.1, x.2.2, rfl, rfl⟩
  have gpu : ∀ l h f t : Int, -1000 ≤ l → l < h → h ≤ 1000 → -1000 ≤ f → f < t → t ≤ 1000 → gp l h f t ≤ 2000 := by
    intro l h f t h1 h2 h3 h4 h5 h6
    unfold gp
    split
    · omega
    · split <;> omega
  -- e, the innermost
  have L4 : ∀ (c : Nat) (i j p q v : Int) (l9 l10 : mm_V), c = (sst t (j + 1) - q).toNat → inP s i p → 0 ≤ j → j < sn t → sst t j ≤ q → q ≤ sst t (j + 1) → v ≤ 2000 → mnP s t (lex4 i j p q) v →
      (∀ (v l8 : Int) (l9 l10 : mm_V), v ≤ 2000 → mnP s t (lex4 i j (p + 1) (sst t j)) v → en_R sc 191 87 [mm_r 72, mm_i a, mm_i b, mm_i v, mm_i (102 * a + i), mm_i (102 * b + j), mm_i (gp (slo s i) (shi s i) (slo t j) (shi t j)), mm_i (402 * a + p + 1), mm_i l8, l9, l10] [] Ma (QI K X)) →
      en_R sc 191 116 [mm_r 72, mm_i a, mm_i b, mm_i v, mm_i (102 * a + i), mm_i (102 * b + j), mm_i (gp (slo s i) (shi s i) (slo t j) (shi t j)), mm_i (402 * a + p), mm_i (402 * b + q), l9, l10] [] Ma (QI K X) := by
    intro c
    induction c with
    | zero =>
      intro i j p q v l9 l10 hc hp j0 j1 q0 q1 vu hm g
      obtain ⟨f1, f2, f3, f4, f5, f6, f7, f8, f9, f10⟩ := bT j j0 j1
      obtain ⟨e1, e2, e3, e4, e5, e6, e7, e8, e9, e10⟩ := bS i hp.1 hp.2.1
      have gu := gpu (slo s i) (shi s i) (slo t j) (shi t j) (by omega) (by omega) (by omega) (by omega) (by omega) (by omega)
      have g0 := gp_0 (slo s i) (shi s i) (slo t j) (shi t j)
      refine vc191_116 hoa ⟨by omega, by omega⟩ ⟨by omega, by omega⟩ ?_
      refine ⟨by omega, by omega, by omega, by omega, ⟨by omega, by omega⟩, fun _ => g v _ _ _ vu (mnP_iff hm (fun i' k' p' q' x y => ?_)), fun z => absurd (by omega) z⟩
      constructor
      · intro z; omega
      · intro z
        by_cases w : k' = j
        · rw [w] at y
          have := y.2.2.1
          have := y.2.2.2
          omega
        · omega
    | succ c ih =>
      intro i j p q v l9 l10 hc hp j0 j1 q0 q1 vu hm g
      have hq : inP t j q := ⟨j0, j1, q0, by omega⟩
      obtain ⟨f1, f2, f3, f4, f5, f6, f7, f8, f9, f10⟩ := bT j j0 j1
      obtain ⟨e1, e2, e3, e4, e5, e6, e7, e8, e9, e10⟩ := bS i hp.1 hp.2.1
      obtain ⟨x1, x2, x3, x4, x5⟩ := kS' i p hp
      obtain ⟨y1, y2, y3, y4, y5⟩ := kT' j q hq
      have p2 := hp.2.2.2
      have p1 := hp.2.2.1
      have gu := gpu (slo s i) (shi s i) (slo t j) (shi t j) (by omega) (by omega) (by omega) (by omega) (by omega) (by omega)
      have g0 := gp_0 (slo s i) (shi s i) (slo t j) (shi t j)
      have gu2 := gpu (slf s p) (srt s p) (slf t q) (srt t q) (by omega) (by omega) (by omega) (by omega) (by omega) (by omega)
      have g02 := gp_0 (slf s p) (srt s p) (slf t q) (srt t q)
      have rv := mnP_rg hm
      have en : 402 * b + q + 1 = 402 * b + (q + 1) := by omega
      have fv : far s t i j p q = max (gp (slo s i) (shi s i) (slo t j) (shi t j)) (gp (slf s p) (srt s p) (slf t q) (srt t q)) := rfl
      have step : ∀ w : Int, w = (if v < 0 ∨ far s t i j p q < v then far s t i j p q else v) → mnP s t (lex4 i j p (q + 1)) w := fun w hw => mnP_add hm hp hq (fun i' k' p' q' _ _ => by omega) hw
      have fin : ∀ (s0 : Int) (l10 : mm_V), s0 = far s t i j p q → en_R sc 191 183 [mm_r 72, mm_i a, mm_i b, mm_i v, mm_i (102 * a + i), mm_i (102 * b + j), mm_i (gp (slo s i) (shi s i) (slo t j) (shi t j)), mm_i (402 * a + p), mm_i (402 * b + q), mm_i (gp (slf s p) (srt s p) (slf t q) (srt t q)), l10] [mm_i s0] Ma (QI K X) := by
        intro s0 l10 h0
        refine vc191_183 hoa ⟨by omega, by omega⟩ ⟨by omega, by omega⟩ ?_
        rw [en]
        refine ⟨fun z => ih i j p (q + 1) s0 _ _ (by omega) hp j0 j1 (by omega) (by omega) (by omega) (step _ (by rw [if_pos (Or.inl z)]; exact h0)) g, fun z => ⟨fun z2 => ih i j p (q + 1) v _ _ (by omega) hp j0 j1 (by omega) (by omega) vu (step _ (by rw [if_neg (by omega)])) g, fun z2 => ih i j p (q + 1) s0 _ _ (by omega) hp j0 j1 (by omega) (by omega) (by omega) (step _ (by rw [if_pos (Or.inr (by omega))]; exact h0)) g⟩⟩
      refine vc191_116 hoa ⟨by omega, by omega⟩ ⟨by omega, by omega⟩ ?_
      rw [← x4, ← x5, ← y4, ← y5]
      refine ⟨by omega, by omega, by omega, by omega, ⟨by omega, by omega⟩, fun z => absurd z (by omega), fun _ => ⟨by omega, by omega, by omega, by omega, by omega, by omega, by omega, by omega, c190 hoa ⟨by omega, by omega⟩ ⟨by omega, by omega⟩ ⟨by omega, by omega⟩ ⟨by omega, by omega⟩ (fun _ => ⟨⟨by omega, by omega⟩, fun z => fin _ _ (by omega), fun z => fin _ _ (by omega)⟩)⟩⟩
  -- k
  have L3 : ∀ (c : Nat) (i j p v : Int) (l8 l9 l10 : mm_V), c = (sst s (i + 1) - p).toNat → 0 ≤ i → i < sn s → 0 ≤ j → j < sn t → sst s i ≤ p → p ≤ sst s (i + 1) → v ≤ 2000 → mnP s t (lex4 i j p (sst t j)) v →
      (∀ (v l7 : Int) (l8 l9 l10 : mm_V), v ≤ 2000 → mnP s t (lex4 i (j + 1) (sst s i) 0) v → en_R sc 191 35 [mm_r 72, mm_i a, mm_i b, mm_i v, mm_i (102 * a + i), mm_i (102 * b + j + 1), mm_i (gp (slo s i) (shi s i) (slo t j) (shi t j)), mm_i l7, l8, l9, l10] [] Ma (QI K X)) →
      en_R sc 191 87 [mm_r 72, mm_i a, mm_i b, mm_i v, mm_i (102 * a + i), mm_i (102 * b + j), mm_i (gp (slo s i) (shi s i) (slo t j) (shi t j)), mm_i (402 * a + p), l8, l9, l10] [] Ma (QI K X) := by
    intro c
    induction c with
    | zero =>
      intro i j p v l8 l9 l10 hc i0 i1 j0 j1 p0 p1 vu hm g
      obtain ⟨e1, e2, e3, e4, e5, e6, e7, e8, e9, e10⟩ := bS i i0 i1
      refine vc191_87 hoa ⟨by omega, by omega⟩ ?_
      refine ⟨by omega, by omega, by omega, by omega, ⟨by omega, by omega⟩, fun _ => g v _ _ _ _ vu (mnP_iff hm (fun i' k' p' q' x y => ?_)), fun z => absurd (by omega) z⟩
      by_cases w : i' = i
      · rw [w] at x
        have := x.2.2.1
        have := x.2.2.2
        have := y.2.2.1
        have y4 := sst_mono wt (Int.le_refl 0) y.1 (show k' ≤ sn t by have := y.2.1; omega)
        rw [wt.2.1] at y4
        by_cases w2 : k' = j
        · rw [w2] at y
          have := y.2.2.1
          omega
        · omega
      · omega
    | succ c ih =>
      intro i j p v l8 l9 l10 hc i0 i1 j0 j1 p0 p1 vu hm g
      obtain ⟨e1, e2, e3, e4, e5, e6, e7, e8, e9, e10⟩ := bS i i0 i1
      obtain ⟨f1, f2, f3, f4, f5, f6, f7, f8, f9, f10⟩ := bT j j0 j1
      have en : 402 * a + p + 1 = 402 * a + (p + 1) := by omega
      refine vc191_87 hoa ⟨by omega, by omega⟩ ?_
      rw [f1]
      refine ⟨by omega, by omega, by omega, by omega, ⟨by omega, by omega⟩, fun z => absurd z (by omega), fun _ => ⟨by omega, by omega, L4 _ i j p (sst t j) v _ _ rfl ⟨i0, i1, p0, by omega⟩ j0 j1 (Int.le_refl _) (by omega) vu hm (fun v l8 l9 l10 vu hm => ?_)⟩⟩
      rw [en]
      exact ih i j (p + 1) v _ _ _ (by omega) i0 i1 j0 j1 (by omega) (by omega) vu hm g
  -- d
  have L2 : ∀ (c : Nat) (i j v : Int) (l6 l7 l8 l9 l10 : mm_V), c = (sn t - j).toNat → 0 ≤ i → i < sn s → 0 ≤ j → j ≤ sn t → v ≤ 2000 → mnP s t (lex4 i j (sst s i) 0) v →
      (∀ (v l5 : Int) (l6 l7 l8 l9 l10 : mm_V), v ≤ 2000 → mnP s t (lex4 (i + 1) 0 0 0) v → en_R sc 191 19 [mm_r 72, mm_i a, mm_i b, mm_i v, mm_i (102 * a + i + 1), mm_i l5, l6, l7, l8, l9, l10] [] Ma (QI K X)) →
      en_R sc 191 35 [mm_r 72, mm_i a, mm_i b, mm_i v, mm_i (102 * a + i), mm_i (102 * b + j), l6, l7, l8, l9, l10] [] Ma (QI K X) := by
    intro c
    induction c with
    | zero =>
      intro i j v l6 l7 l8 l9 l10 hc i0 i1 j0 j1 vu hm g
      refine vc191_35 hoa ⟨by omega, by omega⟩ (c45 hoa b0 (by omega) (fun _ => ?_))
      rw [← sn_t]
      refine ⟨⟨by omega, by omega⟩, fun _ => g v _ _ _ _ _ _ vu (mnP_iff hm (fun i' k' p' q' x y => ?_)), fun z => absurd (by omega) z⟩
      have y1 := y.1
      have y2 := y.2.1
      have x3 := x.2.2.1
      have x4 := sst_mono ws (Int.le_refl 0) x.1 (show i' ≤ sn s by have := x.2.1; omega)
      have y3 := y.2.2.1
      have y4 := sst_mono wt (Int.le_refl 0) y.1 (show k' ≤ sn t by omega)
      rw [ws.2.1] at x4
      rw [wt.2.1] at y4
      omega
    | succ c ih =>
      intro i j v l6 l7 l8 l9 l10 hc i0 i1 j0 j1 vu hm g
      obtain ⟨e1, e2, e3, e4, e5, e6, e7, e8, e9, e10⟩ := bS i i0 i1
      obtain ⟨f1, f2, f3, f4, f5, f6, f7, f8, f9, f10⟩ := bT j j0 (by omega)
      have en : 102 * b + j + 1 = 102 * b + (j + 1) := by omega
      refine vc191_35 hoa ⟨by omega, by omega⟩ (c45 hoa b0 (by omega) (fun _ => ?_))
      rw [← sn_t, ← e9, ← e10, ← f9, ← f10]
      refine ⟨⟨by omega, by omega⟩, fun z => absurd z (by omega), fun _ => ⟨by omega, by omega, by omega, by omega, by omega, by omega, by omega, by omega, c190 hoa ⟨by omega, by omega⟩ ⟨by omega, by omega⟩ ⟨by omega, by omega⟩ ⟨by omega, by omega⟩ (fun _ => ⟨by omega, by omega, ?_⟩)⟩⟩
      rw [e1]
      refine L3 _ i j (sst s i) v _ _ _ rfl i0 i1 j0 (by omega) (Int.le_refl _) (by omega) vu (mnP_iff hm (fun i' k' p' q' x y => ?_)) (fun v l7 l8 l9 l10 vu hm => ?_)
      · by_cases w : i' = i
        · rw [w] at x
          have := x.2.2.1
          by_cases w2 : k' = j
          · rw [w2] at y
            have := y.2.2.1
            omega
          · omega
        · omega
      · rw [en]
        exact ih i (j + 1) v _ _ _ _ _ (by omega) i0 i1 (by omega) (by omega) vu hm g
  -- c
  have L1 : ∀ (c : Nat) (i v : Int) (l5 l6 l7 l8 l9 l10 : mm_V), c = (sn s - i).toNat → 0 ≤ i → i ≤ sn s → v ≤ 2000 → mnP s t (lex4 i 0 0 0) v →
      en_R sc 191 19 [mm_r 72, mm_i a, mm_i b, mm_i v, mm_i (102 * a + i), l5, l6, l7, l8, l9, l10] [] Ma (QI K X) := by
    intro c
    induction c with
    | zero =>
      intro i v l5 l6 l7 l8 l9 l10 hc i0 i1 vu hm
      refine vc191_19 hoa ⟨by omega, by omega⟩ (c45 hoa a0 (by omega) (fun _ => ?_))
      rw [← sn_s]
      refine ⟨⟨by omega, by omega⟩, fun _ => Or.inl ⟨_, rfl, k v ?_⟩, fun z => absurd (by omega) z⟩
      rcases hm with ⟨h1, h2⟩ | ⟨⟨i', k', p', q', x, y, z, e⟩, h2⟩
      · refine Or.inl ⟨h1, fun z => ?_⟩
        exact h2 0 0 _ _ (inP_some ws z.1) (inP_some wt z.2) (Or.inl (by omega))
      · exact Or.inr ⟨⟨i', k', p', q', x, y, e⟩, fun i1 k1 p1 q1 x1 y1 => h2 i1 k1 p1 q1 x1 y1 (Or.inl (by have := x1.2.1; omega))⟩
    | succ c ih =>
      intro i v l5 l6 l7 l8 l9 l10 hc i0 i1 vu hm
      have en : 102 * a + i + 1 = 102 * a + (i + 1) := by omega
      have z0 : 102 * b = 102 * b + 0 := by omega
      refine vc191_19 hoa ⟨by omega, by omega⟩ (c45 hoa a0 (by omega) (fun _ => ?_))
      rw [← sn_s, z0]
      refine ⟨⟨by omega, by omega⟩, fun z => absurd z (by omega), fun _ => L2 _ i 0 v _ _ _ _ _ rfl i0 (by omega) (by decide) m0 vu (mnP_iff hm (fun i' k' p' q' x y => ?_)) (fun v l5 l6 l7 l8 l9 l10 vu hm => ?_)⟩
      · have y1 := y.1
        have x3 := x.2.2.1
        have x4 := sst_mono ws (Int.le_refl 0) x.1 (show i' ≤ sn s by have := x.2.1; omega)
        have y3 := y.2.2.1
        have y4 := sst_mono wt (Int.le_refl 0) y.1 (show k' ≤ sn t by have := y.2.1; omega)
        rw [ws.2.1] at x4
        rw [wt.2.1] at y4
        by_cases w : i' = i
        · rw [w] at x3 x4
          omega
        · omega
      · rw [en]
        exact ih (i + 1) v _ _ _ _ _ _ (by omega) (by omega) (by omega) vu hm
  have z0 : 102 * a = 102 * a + 0 := by omega
  rw [z0]
  refine L1 _ 0 (-1) _ _ _ _ _ _ rfl (by decide) n0 (by decide) (Or.inl ⟨rfl, fun i k p q x y z => ?_⟩)
  have x1 := x.1
  have y1 := y.1
  have x3 := x.2.2.1
  have x4 := sst_mono ws (Int.le_refl 0) x.1 (show i ≤ sn s by have := x.2.1; omega)
  have y3 := y.2.2.1
  have y4 := sst_mono wt (Int.le_refl 0) y.1 (show k ≤ sn t by have := y.2.1; omega)
  rw [ws.2.1] at x4
  rw [wt.2.1] at y4
  have z' : i < 0 ∨ (i = 0 ∧ (k < 0 ∨ (k = 0 ∧ (p < 0 ∨ (p = 0 ∧ q < 0))))) := z
  omega
end
