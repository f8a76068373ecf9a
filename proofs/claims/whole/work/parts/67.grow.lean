/-! ===== a form with one row more ===== -/
def sMerge (s : sh) (high : Int) : sh := (sn s, slo s, fu (shi s) (sn s - 1) high, sst s, slf s, srt s)
def sNew (s : sh) (low high m : Int) (lf rt : Int → Int) : sh := (sn s + 1, fu (slo s) (sn s) low, fu (shi s) (sn s) high, fu (sst s) (sn s + 1) m, lf, rt)
theorem merge_ok {s : sh} (h : wf s) (hn : 0 < sn s) {low high : Int} {R : Int → Prop} (h1 : shi s (sn s - 1) = low) (h2 : low < high) (h3 : high ≤ 1000) (hR : ∀ x, inb s (sn s - 1) x ↔ R x) :
    wf (sMerge s high) ∧ ∀ x y, has (sMerge s high) x y ↔ has s x y ∨ (low ≤ y ∧ y < high ∧ R x) := by
  have eb : ∀ i x, inb (sMerge s high) i x ↔ inb s i x := fun i x => Iff.rfl
  have en : sn (sMerge s high) = sn s := rfl
  have el : ∀ i, slo (sMerge s high) i = slo s i := fun i => rfl
  have eh : ∀ i, i ≠ sn s - 1 → shi (sMerge s high) i = shi s i := fun i q => fu_ne q
  have eh2 : shi (sMerge s high) (sn s - 1) = high := fu_eq
  refine ⟨⟨h.1, h.2.1, fun i a b => ?_, fun i a b => ?_⟩, fun x y => ?_⟩
  · have k := h.2.2.1 i a b
    obtain ⟨k1, k2, k3, k4, k5, k6⟩ := k
    refine ⟨k1, k2, ?_, ?_, k5, k6⟩
    · rw [el]
      by_cases q : i = sn s - 1
      · rw [q, eh2]
        rw [q] at k3
        omega
      · rw [eh i q]
        exact k3
    · by_cases q : i = sn s - 1
      · rw [q, eh2]
        exact h3
      · rw [eh i q]
        exact k4
  · rw [en] at b
    rw [eh i (by omega)]
    exact h.2.2.2 i a b
  · constructor
    · rintro ⟨i, a, b, c, d, e⟩
      rw [en] at b
      by_cases q : i = sn s - 1
      · rw [q] at d e c
        rw [eh2] at d
        rw [el] at c
        by_cases z : y < low
        · exact Or.inl ⟨sn s - 1, by omega, by omega, c, by omega, e⟩
        · exact Or.inr ⟨by omega, d, (hR x).mp e⟩
      · rw [eh i q] at d
        exact Or.inl ⟨i, a, b, c, d, e⟩
    · rintro (⟨i, a, b, c, d, e⟩ | ⟨a, b, c⟩)
      · refine ⟨i, a, b, c, ?_, e⟩
        by_cases q : i = sn s - 1
        · rw [q] at d ⊢
          rw [eh2]
          omega
        · rw [eh i q]
          exact d
      · have k := h.2.2.1 (sn s - 1) (by omega) (by omega)
        have k3 := k.2.2.1
        refine ⟨sn s - 1, by omega, by rw [en]; omega, by rw [el]; omega, by rw [eh2]; exact b, (hR x).mpr c⟩
theorem new_ok {s : sh} (h : wf s) {low high m : Int} {lf rt : Int → Int} {R : Int → Prop} (h0 : -1000 ≤ low) (h2 : low < high) (h3 : high ≤ 1000) (hm : sst s (sn s) < m) (hd : ds (sst s (sn s)) m lf rt)
    (hg : ∀ k, 0 ≤ k → k < sst s (sn s) → lf k = slf s k ∧ rt k = srt s k) (hb : ∀ k, sst s (sn s) ≤ k → k < m → -1000 ≤ lf k ∧ rt k ≤ 1000) (hR : ∀ x, R x ↔ din (sst s (sn s)) m lf rt x)
    (hl : 0 < sn s → shi s (sn s - 1) ≤ low) (hM : 0 < sn s → shi s (sn s - 1) = low → ∃ x, ¬ (inb s (sn s - 1) x ↔ R x)) :
    wf (sNew s low high m lf rt) ∧ ∀ x y, has (sNew s low high m lf rt) x y ↔ has s x y ∨ (low ≤ y ∧ y < high ∧ R x) := by
  have hn := h.1
  have hz := h.2.1
  have en : sn (sNew s low high m lf rt) = sn s + 1 := rfl
  have el : ∀ i, i ≠ sn s → slo (sNew s low high m lf rt) i = slo s i := fun i q => fu_ne q
  have el2 : slo (sNew s low high m lf rt) (sn s) = low := fu_eq
  have eh : ∀ i, i ≠ sn s → shi (sNew s low high m lf rt) i = shi s i := fun i q => fu_ne q
  have eh2 : shi (sNew s low high m lf rt) (sn s) = high := fu_eq
  have es : ∀ i, i ≠ sn s + 1 → sst (sNew s low high m lf rt) i = sst s i := fun i q => fu_ne q
  have es2 : sst (sNew s low high m lf rt) (sn s + 1) = m := fu_eq
  have eb2 : ∀ x, inb (sNew s low high m lf rt) (sn s) x ↔ R x := by
    intro x
    rw [hR]
    unfold inb
    rw [es _ (by omega), es2]
    exact Iff.rfl
  have eb : ∀ i, 0 ≤ i → i < sn s → ∀ x, inb (sNew s low high m lf rt) i x ↔ inb s i x := by
    intro i a b x
    have c := sst_mono h (Int.le_refl 0) a (by omega)
    have d := sst_mono h (by omega : 0 ≤ i + 1) (by omega) (Int.le_refl _)
    unfold inb
    rw [es _ (by omega), es _ (by omega)]
    constructor
    · rintro ⟨k, k0, k1, k2, k3⟩
      have q := hg k (by omega) (by omega)
      have k2' : lf k ≤ x := k2
      have k3' : x < rt k := k3
      exact ⟨k, k0, k1, by omega, by omega⟩
    · rintro ⟨k, k0, k1, k2, k3⟩
      have q := hg k (by omega) (by omega)
      refine ⟨k, k0, k1, ?_, ?_⟩
      · show lf k ≤ x
        omega
      · show x < rt k
        omega
  refine ⟨⟨by rw [en]; omega, by rw [es _ (by omega)]; exact hz, fun i a b => ?_, fun i a b => ?_⟩, fun x y => ?_⟩
  · rw [en] at b
    by_cases q : i = sn s
    · subst q
      unfold bok
      rw [es2, es _ (by omega), el2, eh2]
      exact ⟨hm, h0, h2, h3, hd, hb⟩
    · have c := sst_mono h (Int.le_refl 0) a (by omega)
      have d := sst_mono h (by omega : 0 ≤ i + 1) (by omega) (Int.le_refl _)
      obtain ⟨k1, k2, k3, k4, k5, k6⟩ := h.2.2.1 i a (by omega)
      unfold bok
      rw [es _ (by omega), es _ (by omega), el _ q, eh _ q]
      refine ⟨k1, k2, k3, k4, ⟨fun k g0 g1 => ?_, fun k g0 g1 => ?_⟩, fun k g0 g1 => ?_⟩
      · have x1 := hg k (by omega) (by omega)
        have x2 := k5.1 k g0 g1
        show lf k < rt k
        omega
      · have x1 := hg k (by omega) (by omega)
        have x3 := hg (k + 1) (by omega) (by omega)
        have x2 := k5.2 k g0 g1
        show rt k < lf (k + 1)
        omega
      · have x1 := hg k (by omega) (by omega)
        have x2 := k6 k g0 g1
        show -1000 ≤ lf k ∧ rt k ≤ 1000
        omega
  · rw [en] at b
    rw [eh i (by omega)]
    by_cases q : i + 1 = sn s
    · have e1 : sn s - 1 = i := by omega
      rw [e1] at hl hM
      rw [q, el2]
      refine ⟨hl (by omega), fun g => ?_⟩
      obtain ⟨x, hx⟩ := hM (by omega) g
      refine ⟨x, ?_⟩
      rw [eb2, eb i a (by omega)]
      exact hx
    · rw [el _ q]
      have z := h.2.2.2 i a (by omega)
      refine ⟨z.1, fun g => ?_⟩
      obtain ⟨x, hx⟩ := z.2 g
      refine ⟨x, ?_⟩
      rw [eb i a (by omega), eb (i + 1) (by omega) (by omega)]
      exact hx
  · constructor
    · rintro ⟨i, a, b, c, d, e⟩
      rw [en] at b
      by_cases q : i = sn s
      · rw [q] at c d e
        rw [el2] at c
        rw [eh2] at d
        exact Or.inr ⟨c, d, (eb2 x).mp e⟩
      · rw [el _ q] at c
        rw [eh _ q] at d
        exact Or.inl ⟨i, a, by omega, c, d, (eb i a (by omega) x).mp e⟩
    · rintro (⟨i, a, b, c, d, e⟩ | ⟨a, b, c⟩)
      · refine ⟨i, a, by rw [en]; omega, ?_, ?_, (eb i a b x).mpr e⟩
        · rw [el _ (by omega)]; exact c
        · rw [eh _ (by omega)]; exact d
      · exact ⟨sn s, hn, by rw [en]; omega, by rw [el2]; exact a, by rw [eh2]; exact b, (eb2 x).mpr c⟩
theorem below_hi {s : sh} (h : wf s) {low : Int} (hl : ∀ x y, has s x y → y < low) (hn : 0 < sn s) : shi s (sn s - 1) ≤ low := by
  have k := h.2.2.1 (sn s - 1) (by omega) (by omega)
  have k3 := k.2.2.1
  have := hl _ (shi s (sn s - 1) - 1) ⟨sn s - 1, by omega, by omega, by omega, by omega, bok_some k⟩
  omega
/-- each form can be gone on with -/
theorem ext_new {s : sh} (h : wf s) {low high : Int} {R : Int → Prop} (h0 : -1000 ≤ low) (h2 : low < high) (h3 : high ≤ 1000) (hR : ∀ x, R x → -1000 ≤ x ∧ x < 1000) (hs : ∃ x, R x)
    (hl : ∀ x y, has s x y → y < low) (hM : 0 < sn s → shi s (sn s - 1) = low → ∃ x, ¬ (inb s (sn s - 1) x ↔ R x)) :
    ∃ t, wf t ∧ (∀ x y, has t x y ↔ has s x y ∨ (low ≤ y ∧ y < high ∧ R x)) ∧ sn t = sn s + 1 ∧ sst s (sn s) ≤ sst t (sn t) := by
  obtain ⟨m, lf, rt, a1, a2, a3, a4, a5, a6⟩ := dec_ext hR (p := sst s (sn s)) (m := sst s (sn s)) (f := -1000) (lf := slf s) (rt := srt s) (Int.le_refl _) ⟨fun k a b => absurd b (by omega), fun k a b => absurd b (by omega)⟩ (fun k a b => absurd b (by omega)) (fun x q => ⟨fun z => absurd (hR x z).1 (by omega), fun ⟨k, a, b, _⟩ => absurd b (by omega)⟩)
  have hm : sst s (sn s) < m := a6 (by obtain ⟨x, hx⟩ := hs; exact ⟨x, (hR x hx).1, hx⟩)
  have r := new_ok h h0 h2 h3 hm a2 (fun k _ q => a3 k q) a4 a5 (below_hi h hl) hM
  refine ⟨_, r.1, r.2, rfl, ?_⟩
  have e : sst (sNew s low high m lf rt) (sn (sNew s low high m lf rt)) = m := fu_eq
  rw [e]
  exact a1
theorem ext {s : sh} (h : wf s) {low high : Int} {R : Int → Prop} (h0 : -1000 ≤ low) (h2 : low < high) (h3 : high ≤ 1000) (hR : ∀ x, R x → -1000 ≤ x ∧ x < 1000) (hs : ∃ x, R x) (hl : ∀ x y, has s x y → y < low) :
    ∃ t, wf t ∧ (∀ x y, has t x y ↔ has s x y ∨ (low ≤ y ∧ y < high ∧ R x)) ∧ sn s ≤ sn t ∧ sst s (sn s) ≤ sst t (sn t) := by
  by_cases c : 0 < sn s ∧ shi s (sn s - 1) = low ∧ ∀ x, inb s (sn s - 1) x ↔ R x
  · have r := merge_ok h c.1 c.2.1 h2 h3 c.2.2
    exact ⟨_, r.1, r.2, Int.le_refl _, Int.le_refl _⟩
  · obtain ⟨t, a, b, d, e⟩ := ext_new h h0 h2 h3 hR hs hl (fun g0 g1 => Classical.byContradiction fun q => c ⟨g0, g1, fun x => Classical.byContradiction fun z => q ⟨x, z⟩⟩)
    exact ⟨t, a, b, by omega, e⟩
