/-! ===== distance, both sides ===== -/
def gp (l h f t : Int) : Int := if h ≤ f then f - h + 1 else if t ≤ l then l - t + 1 else 0
def inP (s : sh) (i p : Int) : Prop := 0 ≤ i ∧ i < sn s ∧ sst s i ≤ p ∧ p < sst s (i + 1)
def far (s t : sh) (i k p q : Int) : Int := max (gp (slo s i) (shi s i) (slo t k) (shi t k)) (gp (slf s p) (srt s p) (slf t q) (srt t q))
/-- v is the distance -/
def DV (s t : sh) (v : Int) : Prop := (v = -1 ∧ ¬ (0 < sn s ∧ 0 < sn t)) ∨ ((∃ i k p q, inP s i p ∧ inP t k q ∧ far s t i k p q = v) ∧ ∀ i k p q, inP s i p → inP t k q → v ≤ far s t i k p q)
theorem gp_0 (l h f t : Int) : 0 ≤ gp l h f t := by
  unfold gp
  split
  · omega
  · split <;> omega
theorem far_0 (s t : sh) (i k p q : Int) : 0 ≤ far s t i k p q := by
  have := gp_0 (slo s i) (shi s i) (slo t k) (shi t k)
  unfold far
  omega
theorem inP_some {s : sh} (h : wf s) (g : 0 < sn s) : inP s 0 (sst s 0) := ⟨by decide, g, Int.le_refl _, (h.2.2.1 0 (by decide) g).1⟩
theorem DV_unique {s t : sh} (hs : wf s) (ht : wf t) {v w : Int} (h : DV s t v) (g : DV s t w) : v = w := by
  rcases h with ⟨h1, h2⟩ | ⟨⟨i, k, p, q, a, b, c⟩, h2⟩
  · rcases g with ⟨g1, g2⟩ | ⟨⟨i, k, p, q, a, b, c⟩, g2⟩
    · omega
    · exact absurd ⟨by have := a.1; have := a.2.1; omega, by have := b.1; have := b.2.1; omega⟩ h2
  · rcases g with ⟨g1, g2⟩ | ⟨⟨i', k', p', q', a', b', c'⟩, g2⟩
    · exact absurd ⟨by have := a.1; have := a.2.1; omega, by have := b.1; have := b.2.1; omega⟩ g2
    · have x := h2 i' k' p' q' a' b'
      have y := g2 i k p q a b
      omega
theorem inP_eqv {s t : sh} (h : wf s) (e : eqv s t) {i p : Int} (g : inP s i p) : inP t i p ∧ slo s i = slo t i ∧ shi s i = shi t i ∧ slf s p = slf t p ∧ srt s p = srt t p := by
  obtain ⟨a, b, c, d⟩ := g
  have z0 := sst_mono h (Int.le_refl 0) a (show i ≤ sn s by omega)
  have z1 := sst_mono h (show 0 ≤ i + 1 by omega) (show i + 1 ≤ sn s by omega) (Int.le_refl _)
  rw [h.2.1] at z0
  have x := e.2.1 i a b
  have y := e.2.2.2 p (by omega) (by omega)
  exact ⟨⟨a, by rw [← e.1]; exact b, by rw [← e.2.2.1 i a (by omega)]; exact c, by rw [← e.2.2.1 (i + 1) (by omega) (by omega)]; exact d⟩, x.1, x.2, y.1, y.2⟩
theorem eqv_symm {s t : sh} (h : wf s) (e : eqv s t) : eqv t s := by
  have z : sst s (sn s) = sst t (sn t) := by
    rw [e.2.2.1 (sn s) h.1 (Int.le_refl _), e.1]
  refine ⟨e.1.symm, fun i a b => ?_, fun i a b => (e.2.2.1 i a (by rw [e.1]; exact b)).symm, fun k a b => ?_⟩
  · have x := e.2.1 i a (by rw [e.1]; exact b)
    exact ⟨x.1.symm, x.2.symm⟩
  · have x := e.2.2.2 k a (by rw [z]; exact b)
    exact ⟨x.1.symm, x.2.symm⟩
theorem DV_eqv {s t s' t' : sh} (hs : wf s) (ht : wf t) (e : eqv s s') (f : eqv t t') {v : Int} (h : DV s t v) : DV s' t' v := by
  have e' := eqv_symm hs e
  have f' := eqv_symm ht f
  have hs' := eqv_wf hs e
  have ht' := eqv_wf ht f
  rcases h with ⟨h1, h2⟩ | ⟨⟨i, k, p, q, a, b, c⟩, h2⟩
  · exact Or.inl ⟨h1, by rw [← e.1, ← f.1]; exact h2⟩
  · refine Or.inr ⟨⟨i, k, p, q, (inP_eqv hs e a).1, (inP_eqv ht f b).1, ?_⟩, fun i k p q a b => ?_⟩
    · obtain ⟨_, x1, x2, x3, x4⟩ := inP_eqv hs e a
      obtain ⟨_, y1, y2, y3, y4⟩ := inP_eqv ht f b
      unfold far at c ⊢
      rw [← x1, ← x2, ← x3, ← x4, ← y1, ← y2, ← y3, ← y4]
      exact c
    · obtain ⟨u, x1, x2, x3, x4⟩ := inP_eqv hs' e' a
      obtain ⟨w, y1, y2, y3, y4⟩ := inP_eqv ht' f' b
      have := h2 i k p q u w
      unfold far at this ⊢
      rw [x1, x2, x3, x4, y1, y2, y3, y4]
      exact this
def hitD (s t : sh) (v : Int) : Prop := v = 2000 ∨ ∃ i k p q, inP s i p ∧ inP t k q ∧ far s t i k p q = v
def hitG (s t : sh) (i k v : Int) : Prop := v = 2000 ∨ ∃ p q, inP s i p ∧ inP t k q ∧ gp (slf s p) (srt s p) (slf t q) (srt t q) = v
section
variable {sc : Nat × (Int → Int)} {M : mm_M} {X : Nat → mm_M → Prop}
/-- CellAreas.gap -/
theorem c186 {K : Int → mm_M → Prop} {l h f t : Int} (ho : mr_ok M) (h1 : -1000 ≤ l ∧ l < h ∧ h ≤ 1000) (h2 : -1000 ≤ f ∧ f < t ∧ t ≤ 1000) (k : K (gp l h f t) M) : en_CI sc 186 [mm_i l, mm_i h, mm_i f, mm_i t] M K X := by
  refine vc186_0 ho ⟨⟨by omega, by omega⟩, ⟨by omega, by omega⟩, ⟨by omega, by omega⟩, Or.inl ⟨_, rfl, ?_⟩⟩
  have e : max 0 (max (f - h) (l - t) + 1) = gp l h f t := by
    unfold gp
    split
    · omega
    · split <;> omega
  rw [e]
  exact k
/-- CellAreas.gapBetweenBands -/
theorem c187 {K : Int → mm_M → Prop} {A B : Nat} {i k' : Int} (ho : mr_ok M) (hA : AW M A) (hB : AW M B) (i0 : 0 ≤ i) (i1 : i < sn (rdA M A)) (k0 : 0 ≤ k') (k1 : k' < sn (rdA M B))
    (k : ∀ v, 0 ≤ v → v ≤ 2000 → hitG (rdA M A) (rdA M B) i k' v → (∀ p q, inP (rdA M A) i p → inP (rdA M B) k' q → v ≤ gp (slf (rdA M A) p) (srt (rdA M A) p) (slf (rdA M B) q) (srt (rdA M B) q)) → K v M) : en_CI sc 187 [mm_r A, mm_i i, mm_r B, mm_i k', mm_u, mm_u, mm_u] M K X := by
  have rA := rdA_row (rfl : rdA M A = rdA M A) i i0
  have rB := rdA_row (rfl : rdA M B = rdA M B) k' k0
  have bA := hA.2.1.2.2.1 i i0 i1
  have bB := hB.2.1.2.2.1 k' k0 k1
  have nA : sn (rdA M A) ≤ 100 := hA.2.2.1
  have nB : sn (rdA M B) ≤ 100 := hB.2.2.1
  have sA0 : 0 ≤ sst (rdA M A) i := (AW_st hA i0 (show i ≤ M.1 A 0 by show i ≤ sn (rdA M A); omega)).1
  have sA1 : sst (rdA M A) (i + 1) ≤ 400 := (AW_st hA (show 0 ≤ i + 1 by omega) (show i + 1 ≤ M.1 A 0 by show i + 1 ≤ sn (rdA M A); omega)).2
  have sB0 : 0 ≤ sst (rdA M B) k' := (AW_st hB k0 (show k' ≤ M.1 B 0 by show k' ≤ sn (rdA M B); omega)).1
  have sB1 : sst (rdA M B) (k' + 1) ≤ 400 := (AW_st hB (show 0 ≤ k' + 1 by omega) (show k' + 1 ≤ M.1 B 0 by show k' + 1 ≤ sn (rdA M B); omega)).2
  refine vc187_0 ho hA.1 hB.1 (c50 ho hA.1 (by omega) (by omega) (fun _ => c50 ho hB.1 (by omega) (by omega) (fun _ => ?_)))
  rw [rA.1, rB.1]
  have loop : ∀ (c : Nat) (v s t : Int), (sst (rdA M A) (i + 1) - s + (sst (rdA M B) (k' + 1) - t)).toNat ≤ c → 0 ≤ v → v ≤ 2000 → sst (rdA M A) i ≤ s → s ≤ sst (rdA M A) (i + 1) → sst (rdA M B) k' ≤ t → t ≤ sst (rdA M B) (k' + 1) → hitG (rdA M A) (rdA M B) i k' v → (∀ p q, inP (rdA M A) i p → inP (rdA M B) k' q → (p < s ∨ q < t) → v ≤ gp (slf (rdA M A) p) (srt (rdA M A) p) (slf (rdA M B) q) (srt (rdA M B) q)) → en_R sc 187 19 [mm_r A, mm_i i, mm_r B, mm_i k', mm_i v, mm_i s, mm_i t] [] M (QI K X) := by
    intro c
    induction c with
    | zero =>
      intro v s t hc v0 v1 s0 s1 t0 t1 hv ha
      refine vc187_19 ho hA.1 ⟨by omega, by omega⟩ hB.1 ⟨by omega, by omega⟩ ⟨by omega, by omega⟩ (c51 ho hA.1 (by omega) (by omega) (fun _ => ?_))
      rw [rA.2.1]
      exact ⟨⟨by omega, by omega⟩, fun _ => Or.inl ⟨_, rfl, k v v0 v1 hv (fun p q a b => ha p q a b (Or.inl (by have := a.2.2.2; omega)))⟩, fun q => absurd (by omega) q⟩
    | succ c ih =>
      intro v s t hc v0 v1 s0 s1 t0 t1 hv ha
      refine vc187_19 ho hA.1 ⟨by omega, by omega⟩ hB.1 ⟨by omega, by omega⟩ ⟨by omega, by omega⟩ (c51 ho hA.1 (by omega) (by omega) (fun _ => ?_))
      rw [rA.2.1]
      refine ⟨⟨by omega, by omega⟩, fun _ => Or.inl ⟨_, rfl, k v v0 v1 hv (fun p q a b => ha p q a b (Or.inl (by have := a.2.2.2; omega)))⟩, fun q => c51 ho hB.1 (by omega) (by omega) (fun _ => ?_)⟩
      rw [rB.2.1]
      refine ⟨⟨by omega, by omega⟩, fun _ => Or.inl ⟨_, rfl, k v v0 v1 hv (fun p q a b => ha p q a b (Or.inr (by have := b.2.2.2; omega)))⟩, fun q2 => ⟨by omega, by omega, by omega, by omega, by omega, by omega, by omega, by omega, ?_⟩⟩
      have g1 := bA.2.2.2.2.2 s s0 (by omega)
      have g2 := bA.2.2.2.2.1.1 s s0 (by omega)
      have g3 := bB.2.2.2.2.2 t t0 (by omega)
      have g4 := bB.2.2.2.2.1.1 t t0 (by omega)
      rw [rA.2.2.1, rA.2.2.2.1, rB.2.2.1, rB.2.2.2.1]
      refine c186 ho ⟨g1.1, g2, g1.2⟩ ⟨g3.1, g4, g3.2⟩ (fun _ => ?_)
      have gb := gp_0 (slf (rdA M A) s) (srt (rdA M A) s) (slf (rdA M B) t) (srt (rdA M B) t)
      have gu : gp (slf (rdA M A) s) (srt (rdA M A) s) (slf (rdA M B) t) (srt (rdA M B) t) ≤ 2000 := by
        unfold gp
        split
        · omega
        · split <;> omega
      have hv' : hitG (rdA M A) (rdA M B) i k' (min v (gp (slf (rdA M A) s) (srt (rdA M A) s) (slf (rdA M B) t) (srt (rdA M B) t))) := by
        by_cases z : v ≤ gp (slf (rdA M A) s) (srt (rdA M A) s) (slf (rdA M B) t) (srt (rdA M B) t)
        · have e : min v (gp (slf (rdA M A) s) (srt (rdA M A) s) (slf (rdA M B) t) (srt (rdA M B) t)) = v := by omega
          rw [e]
          exact hv
        · have e : min v (gp (slf (rdA M A) s) (srt (rdA M A) s) (slf (rdA M B) t) (srt (rdA M B) t)) = gp (slf (rdA M A) s) (srt (rdA M A) s) (slf (rdA M B) t) (srt (rdA M B) t) := by omega
          rw [e]
          exact Or.inr ⟨s, t, ⟨i0, i1, s0, by omega⟩, ⟨k0, k1, t0, by omega⟩, rfl⟩
      clear hv
      rw [rA.2.2.2.1, rB.2.2.2.1]
      refine ⟨⟨by omega, by omega⟩, by omega, by omega, by omega, by omega, fun q3 => ?_, fun q3 => ?_⟩
      · refine ih _ s (t + 1) (by omega) (by omega) (by omega) s0 (by omega) (by omega) (by omega) hv' (fun p q a b d => ?_)
        by_cases z : p < s ∨ q < t
        · have := ha p q a b z
          omega
        · have eq : q = t := by omega
          rw [eq]
          by_cases z2 : p = s
          · rw [z2]; omega
          · have y1 := ds_mono bA.2.2.2.2.1 s0 (show s < p by omega) a.2.2.2
            have y2 := bA.2.2.2.2.1.1 p a.2.2.1 a.2.2.2
            unfold gp
            split <;> split <;> (try split) <;> (try split) <;> omega
      · refine ih _ (s + 1) t (by omega) (by omega) (by omega) (by omega) (by omega) t0 (by omega) hv' (fun p q a b d => ?_)
        by_cases z : p < s ∨ q < t
        · have := ha p q a b z
          omega
        · have eq : p = s := by omega
          rw [eq]
          by_cases z2 : q = t
          · rw [z2]; omega
          · have y1 := ds_mono bB.2.2.2.2.1 t0 (show t < q by omega) b.2.2.2
            have y2 := bB.2.2.2.2.1.1 q b.2.2.1 b.2.2.2
            unfold gp
            split <;> split <;> (try split) <;> (try split) <;> omega
  exact loop _ 2000 _ _ (Nat.le_refl _) (by decide) (by decide) (Int.le_refl _) (by have := bA.1; omega) (Int.le_refl _) (by have := bB.1; omega) (Or.inl rfl) (fun p q a b d => by have := a.2.2.1; have := b.2.2.1; omega)
/-- CellAreas.distance -/
theorem c188 {K : Int → mm_M → Prop} {a b : Int} (ho : mr_ok M) (hO : OW M) (ha : mr_rg a) (hb : mr_rg b) (x1 : ¬ (isA a ∧ isA b) → X 1 (M.1, M.2.1, M.2.2 + 1))
    (k : (isA a ∧ isA b) → ∀ v, DV (rdA M (ar M a)) (rdA M (ar M b)) v → K v M) : en_CI sc 188 [mm_r 0, mm_i a, mm_i b, mm_u, mm_u, mm_u, mm_u, mm_u, mm_u] M K X := by
  refine vc188_0 ho (c9 ho ha (fun ga _ => ?_) (fun q => Or.inr ⟨1, rfl, by decide, x1 (fun z => q z.1)⟩))
  refine c9 ho hb (fun gb _ => ?_) (fun q => Or.inr ⟨1, rfl, by decide, x1 (fun z => q z.2)⟩)
  replace k := k ⟨ga, gb⟩
  have Aa := OW_A hO ga
  have Ab := OW_A hO gb
  have n0 := Aa.2.2.1.1
  have m0 := Ab.2.2.1.1
  have n1 : sn (rdA M (ar M a)) ≤ 100 := Aa.2.2.2.1
  have m1 : sn (rdA M (ar M b)) ≤ 100 := Ab.2.2.2.1
  have en : M.1 (ar M a) 0 = sn (rdA M (ar M a)) := rfl
  have em : M.1 (ar M b) 0 = sn (rdA M (ar M b)) := rfl
  refine ⟨ga.1, ga.2, ar M a, Aa.1, Aa.2.1, gb.1, gb.2, ar M b, Ab.1, Ab.2.1, ?_⟩
  rw [en, em]
  refine ⟨fun q => Or.inl ⟨_, rfl, k _ (Or.inl ⟨rfl, by omega⟩)⟩, fun q => ⟨fun q2 => ?_, fun q2 => Or.inl ⟨_, rfl, k _ (Or.inl ⟨rfl, by omega⟩)⟩⟩⟩
  have AB : ∀ i, 0 ≤ i → i < sn (rdA M (ar M a)) → bok (rdA M (ar M a)) i := fun i i0 i1 => Aa.2.2.1.2.2.1 i i0 i1
  have BB : ∀ i, 0 ≤ i → i < sn (rdA M (ar M b)) → bok (rdA M (ar M b)) i := fun i i0 i1 => Ab.2.2.1.2.2.1 i i0 i1
  have inner : ∀ (c : Nat) (v i j : Int) (l8 : mm_V), c = (sn (rdA M (ar M b)) - j).toNat → 0 ≤ v → v ≤ 2000 → 0 ≤ i → i < sn (rdA M (ar M a)) → 0 ≤ j → j ≤ sn (rdA M (ar M b)) → hitD (rdA M (ar M a)) (rdA M (ar M b)) v → (∀ i' k p q, inP (rdA M (ar M a)) i' p → inP (rdA M (ar M b)) k q → (i' < i ∨ i' = i ∧ k < j) → v ≤ far (rdA M (ar M a)) (rdA M (ar M b)) i' k p q) →
      (∀ (v : Int) (l7 l8 : mm_V), 0 ≤ v → v ≤ 2000 → hitD (rdA M (ar M a)) (rdA M (ar M b)) v → (∀ i' k p q, inP (rdA M (ar M a)) i' p → inP (rdA M (ar M b)) k q → i' < i + 1 → v ≤ far (rdA M (ar M a)) (rdA M (ar M b)) i' k p q) → en_R sc 188 48 [mm_r 0, mm_i a, mm_i b, mm_r (ar M a), mm_r (ar M b), mm_i v, mm_i (i + 1), l7, l8] [] M (QI K X)) →
      en_R sc 188 60 [mm_r 0, mm_i a, mm_i b, mm_r (ar M a), mm_r (ar M b), mm_i v, mm_i i, mm_i j, l8] [] M (QI K X) := by
    intro c
    induction c with
    | zero =>
      intro v i j l8 hc v0 v1 i0 i1 j0 j1 hv hall g
      refine vc188_60 ho Ab.2.1 ⟨by omega, by omega⟩ Aa.2.1 ⟨by omega, by omega⟩ ?_
      rw [em]
      exact ⟨fun _ => g v _ _ v0 v1 hv (fun i' k p q a b d => hall i' k p q a b (by have := b.2.1; omega)), fun q => absurd (by omega) q⟩
    | succ c ih =>
      intro v i j l8 hc v0 v1 i0 i1 j0 j1 hv hall g
      have bi := AB i i0 i1
      have bj := BB j j0 (by omega)
      have rA := rdA_row (rfl : rdA M (ar M a) = rdA M (ar M a)) i i0
      have rB := rdA_row (rfl : rdA M (ar M b) = rdA M (ar M b)) j j0
      refine vc188_60 ho Ab.2.1 ⟨by omega, by omega⟩ Aa.2.1 ⟨by omega, by omega⟩ ?_
      rw [em, rA.2.2.2.2.1, rA.2.2.2.2.2.1, rB.2.2.2.2.1, rB.2.2.2.2.2.1]
      refine ⟨fun q => absurd q (by omega), fun _ => ⟨by omega, by omega, by omega, by omega, by omega, by omega, by omega, by omega, c186 ho ⟨bi.2.1, bi.2.2.1, bi.2.2.2.1⟩ ⟨bj.2.1, bj.2.2.1, bj.2.2.2.1⟩ (fun _ => ?_)⟩⟩
      have gb := gp_0 (slo (rdA M (ar M a)) i) (shi (rdA M (ar M a)) i) (slo (rdA M (ar M b)) j) (shi (rdA M (ar M b)) j)
      have gu : gp (slo (rdA M (ar M a)) i) (shi (rdA M (ar M a)) i) (slo (rdA M (ar M b)) j) (shi (rdA M (ar M b)) j) ≤ 2000 := by
        have := bi.2.1
        have := bi.2.2.2.1
        have := bj.2.1
        have := bj.2.2.2.1
        have := bi.2.2.1
        have := bj.2.2.1
        unfold gp
        split
        · omega
        · split <;> omega
      refine ⟨⟨by omega, by omega⟩, fun q => ?_, fun q => ?_⟩
      · refine ih v i (j + 1) _ (by omega) v0 v1 i0 i1 (by omega) (by omega) hv (fun i' k p r a b d => ?_) g
        by_cases z : i' < i ∨ i' = i ∧ k < j
        · exact hall i' k p r a b z
        · have e1 : i' = i := by omega
          have e2 : k = j := by omega
          rw [e1, e2]
          unfold far
          omega
      · refine c187 ho Aa.2 Ab.2 i0 i1 j0 (by omega) (fun v' v'0 v'1 v'2 v'3 _ => ⟨⟨by omega, by omega⟩, ⟨by omega, by omega⟩, ?_⟩)
        refine ih _ i (j + 1) _ (by omega) (by omega) (by omega) i0 i1 (by omega) (by omega) ?_ (fun i' k p r a b d => ?_) g
        · by_cases z : v ≤ max (gp (slo (rdA M (ar M a)) i) (shi (rdA M (ar M a)) i) (slo (rdA M (ar M b)) j) (shi (rdA M (ar M b)) j)) v'
          · have e : min v (max (gp (slo (rdA M (ar M a)) i) (shi (rdA M (ar M a)) i) (slo (rdA M (ar M b)) j) (shi (rdA M (ar M b)) j)) v') = v := by omega
            rw [e]
            exact hv
          · have e : min v (max (gp (slo (rdA M (ar M a)) i) (shi (rdA M (ar M a)) i) (slo (rdA M (ar M b)) j) (shi (rdA M (ar M b)) j)) v') = max (gp (slo (rdA M (ar M a)) i) (shi (rdA M (ar M a)) i) (slo (rdA M (ar M b)) j) (shi (rdA M (ar M b)) j)) v' := by omega
            rw [e]
            rcases v'2 with y | ⟨p, r, y1, y2, y3⟩
            · exact absurd y (by omega)
            · refine Or.inr ⟨i, j, p, r, y1, y2, ?_⟩
              unfold far
              rw [y3]
        · by_cases z : i' < i ∨ i' = i ∧ k < j
          · have := hall i' k p r a b z
            omega
          · have e1 : i' = i := by omega
            have e2 : k = j := by omega
            rw [e1] at a ⊢
            rw [e2] at b ⊢
            have := v'3 p r a b
            unfold far
            omega
  have outer : ∀ (c : Nat) (v i : Int) (l7 l8 : mm_V), c = (sn (rdA M (ar M a)) - i).toNat → 0 ≤ v → v ≤ 2000 → 0 ≤ i → i ≤ sn (rdA M (ar M a)) → hitD (rdA M (ar M a)) (rdA M (ar M b)) v → (∀ i' k p q, inP (rdA M (ar M a)) i' p → inP (rdA M (ar M b)) k q → i' < i → v ≤ far (rdA M (ar M a)) (rdA M (ar M b)) i' k p q) → en_R sc 188 48 [mm_r 0, mm_i a, mm_i b, mm_r (ar M a), mm_r (ar M b), mm_i v, mm_i i, l7, l8] [] M (QI K X) := by
    intro c
    induction c with
    | zero =>
      intro v i l7 l8 hc v0 v1 i0 i1 hv hall
      refine vc188_48 ho Aa.2.1 ⟨by omega, by omega⟩ ?_
      rw [en]
      refine ⟨fun _ => Or.inl ⟨_, rfl, k v (Or.inr ⟨?_, fun i' k p q a b => hall i' k p q a b (by have := a.2.1; omega)⟩)⟩, fun q => absurd (by omega) q⟩
      rcases hv with y | y
      · exfalso
        have pa := inP_some Aa.2.2.1 (show 0 < sn (rdA M (ar M a)) by omega)
        have pb := inP_some Ab.2.2.1 (show 0 < sn (rdA M (ar M b)) by omega)
        have h1 := hall 0 0 _ _ pa pb (by omega)
        have bi := AB 0 (by decide) pa.2.1
        have bj := BB 0 (by decide) pb.2.1
        have c1 := bi.2.2.2.2.2 _ pa.2.2.1 pa.2.2.2
        have c2 := bj.2.2.2.2.2 _ pb.2.2.1 pb.2.2.2
        have c3 := bi.2.2.2.2.1.1 _ pa.2.2.1 pa.2.2.2
        have c4 := bj.2.2.2.2.1.1 _ pb.2.2.1 pb.2.2.2
        have d1 := bi.2.1
        have d2 := bi.2.2.1
        have d3 := bi.2.2.2.1
        have d4 := bj.2.1
        have d5 := bj.2.2.1
        have d6 := bj.2.2.2.1
        have g1 : gp (slo (rdA M (ar M a)) 0) (shi (rdA M (ar M a)) 0) (slo (rdA M (ar M b)) 0) (shi (rdA M (ar M b)) 0) < 2000 := by
          unfold gp
          split
          · omega
          · split <;> omega
        have g2 : gp (slf (rdA M (ar M a)) (sst (rdA M (ar M a)) 0)) (srt (rdA M (ar M a)) (sst (rdA M (ar M a)) 0)) (slf (rdA M (ar M b)) (sst (rdA M (ar M b)) 0)) (srt (rdA M (ar M b)) (sst (rdA M (ar M b)) 0)) < 2000 := by
          unfold gp
          split
          · omega
          · split <;> omega
        unfold far at h1
        omega
      · exact y
    | succ c ih =>
      intro v i l7 l8 hc v0 v1 i0 i1 hv hall
      refine vc188_48 ho Aa.2.1 ⟨by omega, by omega⟩ ?_
      rw [en]
      refine ⟨fun q => absurd q (by omega), fun _ => inner _ v i 0 _ rfl v0 v1 i0 (by omega) (by decide) m0 hv (fun i' k p q a b d => hall i' k p q a b (by have := b.1; omega)) (fun v l7 l8 v0 v1 hv hall => ?_)⟩
      exact ih v (i + 1) l7 l8 (by omega) v0 v1 (by omega) (by omega) hv hall
  exact outer _ 2000 0 _ _ rfl (by decide) (by decide) (by decide) n0 (Or.inl rfl) (fun i' k p q a b d => absurd d (by have := a.1; omega))
end
