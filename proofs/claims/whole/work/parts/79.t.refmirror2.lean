/-! ===== CellAreasModel.mirror ===== -/
/-- the f-th stretch that is pushed of band b, its left and its right -/
def mix_ (way : Int) (s : sh) (b f : Int) : Int := if way = 0 then sst s (b + 1) - 1 - f else sst s b + f
def mpl (way : Int) (s : sh) (q : Int) : Int := if way = 0 then -(srt s q) else slf s q
def mpr (way : Int) (s : sh) (q : Int) : Int := if way = 0 then -(slf s q) else srt s q
def mib (way : Int) (s : sh) (f : Int) : Int := if way = 1 then sn s - 1 - f else f
def mlo (way : Int) (s : sh) (b : Int) : Int := if way = 1 then -(shi s b) else slo s b
def mhi (way : Int) (s : sh) (b : Int) : Int := if way = 1 then -(slo s b) else shi s b
def mxx (way x : Int) : Int := if way = 0 then -1 - x else x
/-- the first n bands in the new order -/
def miT (way : Int) (s : sh) (n x y : Int) : Prop := ∃ f, 0 ≤ f ∧ f < n ∧ mlo way s (mib way s f) ≤ y ∧ y < mhi way s (mib way s f) ∧ inb s (mib way s f) (mxx way x)
theorem miT_end {way : Int} (hw : way = 0 ∨ way = 1) {s : sh} (x y : Int) : miT way s (sn s) x y ↔ mirT way s x y := by
  unfold miT mirT
  rcases hw with rfl | rfl
  · have e1 : ∀ f, mib 0 s f = f := fun f => if_neg (by decide)
    have e2 : ∀ b, mlo 0 s b = slo s b := fun b => if_neg (by decide)
    have e3 : ∀ b, mhi 0 s b = shi s b := fun b => if_neg (by decide)
    have e4 : mxx 0 x = -1 - x := if_pos rfl
    simp only [e1, e2, e3, e4]
    constructor
    · exact fun z => Or.inl ⟨by trivial, z⟩
    · rintro (z | z | z)
      · exact z.2
      · exact absurd z.1 (by decide)
      · exact absurd rfl z.1
  · have e1 : ∀ f, mib 1 s f = sn s - 1 - f := fun f => if_pos rfl
    have e2 : ∀ b, mlo 1 s b = -(shi s b) := fun b => if_pos rfl
    have e3 : ∀ b, mhi 1 s b = -(slo s b) := fun b => if_pos rfl
    have e4 : mxx 1 x = x := if_neg (by decide)
    simp only [e1, e2, e3, e4]
    constructor
    · rintro ⟨f, a, b, c, d, e⟩
      exact Or.inr (Or.inl ⟨by trivial, sn s - 1 - f, by omega, by omega, by omega, by omega, e⟩)
    · rintro (z | z | z)
      · exact absurd z.1 (by decide)
      · obtain ⟨f, a, b, c, d, e⟩ := z.2
        have e5 : sn s - 1 - (sn s - 1 - f) = f := by omega
        exact ⟨sn s - 1 - f, by omega, by omega, by rw [e5]; omega, by rw [e5]; omega, by rw [e5]; exact e⟩
      · exact absurd rfl z.2.1
section
variable {sc : Nat × (Int → Int)} {M : mm_M} {X : Nat → mm_M → Prop}
/-- the ways 0 and 1: one band -/
theorem c89_row {K : Int → mm_M → Prop} {t a way i b : Int} (hW : RWk M a) (ga : isA a) (hw : way = 0 ∨ way = 1) (b0 : 0 ≤ b) (b1 : b < M.1 77 a) :
    ∀ (c : Nat) (e : Int) (l7 : mm_V) (M' : mm_M), c = (sst (rdB M a) (b + 1) - sst (rdB M a) b - e).toNat → 0 ≤ e → e ≤ sst (rdB M a) (b + 1) - sst (rdB M a) b → mr_ok M' → fr vT M M' → NR M' → (∀ x, rN M' x ↔ ∃ f, 0 ≤ f ∧ f < e ∧ mpl way (rdB M a) (mix_ way (rdB M a) b f) ≤ x ∧ x < mpr way (rdB M a) (mix_ way (rdB M a) b f)) → (0 < M'.1 72 17 → 0 < e ∧ M'.1 85 (M'.1 72 17 - 1) ≤ mpl way (rdB M a) (mix_ way (rdB M a) b (e - 1))) →
      (∀ M1, mr_ok M1 → fr nS M' M1 → NR M1 → (∀ x, rN M1 x ↔ inb (rdB M a) b (mxx way x)) → en_CV sc 38 [mm_r 72, mm_i (mlo way (rdB M a) b), mm_i (mhi way (rdB M a) b), mm_u, mm_u] M1 (fun M17 => mr_ok M17 → ∀ l5 l6 l7, en_R sc 89 171 [mm_r 72, mm_i t, mm_i a, mm_i way, mm_i (i + 1), l5, l6, l7] [] M17 (QI K X)) (fun e M9 => QI K X (.inr e) M9)) →
      en_R sc 89 218 [mm_r 72, mm_i t, mm_i a, mm_i way, mm_i i, mm_i (102 * a + b), mm_i e, l7] [] M' (QI K X) := by
  obtain ⟨q1, q2, q3, q4, q5, q6, q7, q8⟩ := RW_band hW b0 b1
  have n1 := hW.2.2.1
  have a0 := ga.1
  have a1 := ga.2
  have bk := hW.1.2.2.1 b b0 b1
  have rw' : mr_rg way := ⟨by omega, by omega⟩
  have mono : ∀ e, 0 < e → e < sst (rdB M a) (b + 1) - sst (rdB M a) b → mpl way (rdB M a) (mix_ way (rdB M a) b (e - 1)) ≤ mpl way (rdB M a) (mix_ way (rdB M a) b e) := by
    intro e e0 e1
    unfold mpl mix_
    rcases hw with rfl | rfl
    · rw [if_pos rfl, if_pos rfl, if_pos rfl, if_pos rfl]
      have x1 := ds_mono bk.2.2.2.2.1 (j := sst (rdB M a) (b + 1) - 1 - e) (k := sst (rdB M a) (b + 1) - 1 - (e - 1)) (by omega) (by omega) (by omega)
      have x2 := bk.2.2.2.2.1.1 (sst (rdB M a) (b + 1) - 1 - (e - 1)) (by omega) (by omega)
      omega
    · rw [if_neg (by decide), if_neg (by decide), if_neg (by decide), if_neg (by decide)]
      have x1 := ds_mono bk.2.2.2.2.1 (j := sst (rdB M a) b + (e - 1)) (k := sst (rdB M a) b + e) (by omega) (by omega) (by omega)
      have x2 := bk.2.2.2.2.1.1 (sst (rdB M a) b + (e - 1)) (by omega) (by omega)
      omega
  intro c
  induction c with
  | zero =>
    intro e l7 M' hc e0 e1 ho' hf hN hr hl g
    obtain ⟨v73, v74, v75, v76, v77, v80⟩ := vR_at hf ga.1 ga.2 b0 (by omega)
    have ee : e = sst (rdB M a) (b + 1) - sst (rdB M a) b := by omega
    have g' := g M' ho' fr_refl hN (fun x => by
      rw [hr, ee]
      unfold mpl mpr mix_ mxx
      rcases hw with rfl | rfl
      · simp only [if_true]
        constructor
        · rintro ⟨f, f0, f1, f2, f3⟩
          exact ⟨sst (rdB M a) (b + 1) - 1 - f, by omega, by omega, by omega, by omega⟩
        · rintro ⟨f, f0, f1, f2, f3⟩
          have e5 : sst (rdB M a) (b + 1) - 1 - (sst (rdB M a) (b + 1) - 1 - f) = f := by omega
          exact ⟨sst (rdB M a) (b + 1) - 1 - f, by omega, by omega, by rw [e5]; omega, by rw [e5]; omega⟩
      · rw [if_neg (by decide)]
        constructor
        · rintro ⟨f, f0, f1, f2, f3⟩
          rw [if_neg (by decide), if_neg (by decide)] at f2 f3
          exact ⟨sst (rdB M a) b + f, by omega, by omega, f2, f3⟩
        · rintro ⟨f, f0, f1, f2, f3⟩
          have e5 : sst (rdB M a) b + (f - sst (rdB M a) b) = f := by omega
          exact ⟨f - sst (rdB M a) b, by omega, by omega, by rw [if_neg (by decide), if_neg (by decide), e5]; exact f2, by rw [if_neg (by decide), if_neg (by decide), e5]; exact f3⟩)
    have last : ∀ s1 s2 : Int, s1 = mlo way (rdB M a) b → s2 = mhi way (rdB M a) b → en_R sc 89 362 [mm_r 72, mm_i t, mm_i a, mm_i way, mm_i i, mm_i (102 * a + b), mm_i e, l7] [mm_i s2, mm_i s1, mm_r 72] M' (QI K X) := by
      intro s1 s2 h1 h2
      rw [h1, h2]
      exact vc89_362 ho' (en_CV_mono g' (fun M1 h ho1 => h ho1 _ _ _) (fun e M1 h => h))
    have snd : ∀ s1 : Int, s1 = mlo way (rdB M a) b → en_R sc 89 339 [mm_r 72, mm_i t, mm_i a, mm_i way, mm_i i, mm_i (102 * a + b), mm_i e, l7] [mm_i s1, mm_r 72] M' (QI K X) := by
      intro s1 h1
      refine vc89_339 ho' rw' ⟨fun q => ⟨by omega, by omega, last _ _ h1 ?_⟩, fun q => ⟨by omega, by omega, last _ _ h1 ?_⟩⟩
      · rw [v74]
        unfold mhi
        rw [if_neg q]
        rfl
      · rw [v73]
        unfold mhi
        rw [if_pos (Classical.byContradiction q)]
        show 0 - slo (rdB M a) b = _
        omega
    refine vc89_218 ho' ⟨by omega, by omega⟩ rw' ?_
    rw [v73, v74, v76]
    refine ⟨by omega, by omega, fun _ => ⟨fun q => ⟨by omega, by omega, snd _ ?_⟩, fun q => ⟨by omega, by omega, snd _ ?_⟩⟩, fun q => absurd (by omega) q⟩
    · unfold mlo
      rw [if_neg q]
      rfl
    · unfold mlo
      rw [if_pos (Classical.byContradiction q)]
      show 0 - shi (rdB M a) b = _
      omega
  | succ c ih =>
    intro e l7 M' hc e0 e1 ho' hf hN hr hl g
    obtain ⟨v73, v74, v75, v76, v77, v80⟩ := vR_at hf ga.1 ga.2 b0 (by omega)
    have ix : sst (rdB M a) b ≤ mix_ way (rdB M a) b e ∧ mix_ way (rdB M a) b e < sst (rdB M a) (b + 1) := by
      unfold mix_
      split <;> omega
    have ek := RW_k hW b0 b1 ix.1 ix.2
    have mm : -1000 ≤ mpl way (rdB M a) (mix_ way (rdB M a) b e) ∧ mpl way (rdB M a) (mix_ way (rdB M a) b e) < mpr way (rdB M a) (mix_ way (rdB M a) b e) ∧ mpr way (rdB M a) (mix_ way (rdB M a) b e) ≤ 1000 := by
      unfold mpl mpr
      split <;> omega
    have vk := vR_k hf (k := 402 * a + mix_ way (rdB M a) b e) (by omega)
    have e78 : M'.1 78 (402 * a + mix_ way (rdB M a) b e) = slf (rdB M a) (mix_ way (rdB M a) b e) := vk.1
    have e79 : M'.1 79 (402 * a + mix_ way (rdB M a) b e) = srt (rdB M a) (mix_ way (rdB M a) b e) := vk.2
    have four : ∀ s1 s2 : Int, s1 = mpl way (rdB M a) (mix_ way (rdB M a) b e) → s2 = mpr way (rdB M a) (mix_ way (rdB M a) b e) → en_R sc 89 306 [mm_r 72, mm_i t, mm_i a, mm_i way, mm_i i, mm_i (102 * a + b), mm_i e, mm_i (402 * a + mix_ way (rdB M a) b e)] [mm_i s2, mm_i s1, mm_r 72] M' (QI K X) := by
      intro s1 s2 h1 h2
      rw [h1, h2]
      refine vc89_306 ho' (c36 ho' hN (by omega) (by omega) (by omega) (by omega) (fun z => ?_) (fun Mc fc Nc rc lc hoc => ?_))
      · have x := hl z
        have := mono e (by omega) (by omega)
        omega
      · refine ih (e + 1) _ Mc (by omega) (by omega) (by omega) hoc (fr_trans hf (fr_mono fc (fun a k z => vS_vT a k (nS_vS a k z)))) Nc (fun x => ?_) (fun z => ⟨by omega, ?_⟩) (fun M1 o1 f1 => g M1 o1 (fr_trans fc f1))
        · rw [rc, hr]
          constructor
          · rintro (⟨f, f0, f1, f2⟩ | z)
            · exact ⟨f, f0, by omega, f2⟩
            · exact ⟨e, e0, by omega, z⟩
          · rintro ⟨f, f0, f1, f2⟩
            by_cases y : f = e
            · rw [y] at f2
              exact Or.inr f2
            · exact Or.inl ⟨f, f0, by omega, f2⟩
        · have e5 : e + 1 - 1 = e := by omega
          rw [e5]
          exact lc z
    have three : ∀ s1 : Int, s1 = mpl way (rdB M a) (mix_ way (rdB M a) b e) → en_R sc 89 284 [mm_r 72, mm_i t, mm_i a, mm_i way, mm_i i, mm_i (102 * a + b), mm_i e, mm_i (402 * a + mix_ way (rdB M a) b e)] [mm_i s1, mm_r 72] M' (QI K X) := by
      intro s1 h1
      refine vc89_284 ho' rw' ?_
      rw [e78, e79]
      refine ⟨fun q => ⟨by omega, by omega, four _ _ h1 ?_⟩, fun q => ⟨by omega, by omega, four _ _ h1 ?_⟩⟩
      · unfold mpr
        rw [if_neg q]
      · unfold mpr
        rw [if_pos (Classical.byContradiction q)]
        omega
    have two : ∀ s1 : Int, M.1 75 (102 * a + b) + s1 = 402 * a + mix_ way (rdB M a) b e → en_R sc 89 258 [mm_r 72, mm_i t, mm_i a, mm_i way, mm_i i, mm_i (102 * a + b), mm_i e, l7] [mm_i s1, mm_i (M.1 75 (102 * a + b))] M' (QI K X) := by
      intro s1 h1
      refine vc89_258 ho' rw' ?_
      rw [h1, e78, e79]
      refine ⟨fun q => ⟨by omega, by omega, three _ ?_⟩, fun q => ⟨by omega, by omega, three _ ?_⟩⟩
      · unfold mpl
        rw [if_neg q]
      · unfold mpl
        rw [if_pos (Classical.byContradiction q)]
        omega
    refine vc89_218 ho' ⟨by omega, by omega⟩ rw' ?_
    rw [v75, v76]
    refine ⟨by omega, by omega, fun q => absurd q (by omega), fun _ => ⟨by omega, by omega, fun q => two _ ?_, fun q => ⟨by omega, by omega, two _ ?_⟩⟩⟩
    · unfold mix_
      rw [if_neg q]
      omega
    · unfold mix_
      rw [if_pos (Classical.byContradiction q)]
      omega
end
