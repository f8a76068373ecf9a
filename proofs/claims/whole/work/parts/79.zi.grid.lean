/-! ===== the reference's grid ===== -/
abbrev gw (M : mm_M) : Int := M.1 72 23
abbrev gh (M : mm_M) : Int := M.1 72 24
abbrev gx (M : mm_M) : Int → Int := M.1 88
abbrev gy (M : mm_M) : Int → Int := M.1 89
/-- the lines of the grid -/
def GL (s : sh) (M : mm_M) : Prop := 0 ≤ gw M ∧ gw M ≤ 799 ∧ 0 ≤ gh M ∧ gh M ≤ 199 ∧ (∀ i j, 0 ≤ i → i < j → j ≤ gw M → gx M i < gx M j) ∧ (∀ i j, 0 ≤ i → i < j → j ≤ gh M → gy M i < gy M j) ∧
  ((sn s = 0 ∧ gw M = 0 ∧ gh M = 0) ∨ (0 < sn s ∧ 0 < gw M ∧ 0 < gh M ∧ (∀ v, cols s v ↔ ∃ i, 0 ≤ i ∧ i ≤ gw M ∧ gx M i = v) ∧ (∀ v, ends s v ↔ ∃ i, 0 ≤ i ∧ i ≤ gh M ∧ gy M i = v)))
def cel (s : sh) (M : mm_M) (i j : Int) : Prop := 0 ≤ i ∧ i < gw M ∧ 0 ≤ j ∧ j < gh M ∧ has s (gx M i) (gy M j)
/-- the grid -/
def GRD (s : sh) (M : mm_M) : Prop := GL s M ∧ ∀ i j, 0 ≤ i → i < gw M → 0 ≤ j → j < gh M → (M.1 90 (j * gw M + i) = 1 ∧ has s (gx M i) (gy M j)) ∨ (M.1 90 (j * gw M + i) = 0 ∧ ¬ has s (gx M i) (gy M j))
theorem ix_rg {w i j : Int} (w1 : w ≤ 799) (i0 : 0 ≤ i) (i1 : i < w) (j0 : 0 ≤ j) (j1 : j < 199) : 0 ≤ j * w + i ∧ j * w + i < 161000 := by
  have a : 0 ≤ j * w := Int.mul_nonneg j0 (by omega)
  have b : j * w ≤ 198 * w := Int.mul_le_mul_of_nonneg_right (by omega) (by omega)
  have c : 198 * w ≤ 198 * 799 := by omega
  omega
theorem ix_inj {w i j i' j' : Int} (i0 : 0 ≤ i) (i1 : i < w) (k0 : 0 ≤ i') (k1 : i' < w) (e : j * w + i = j' * w + i') : i = i' ∧ j = j' := by
  have jj : j = j' := by
    by_cases q : j < j'
    · have : (j + 1) * w ≤ j' * w := Int.mul_le_mul_of_nonneg_right (by omega) (by omega)
      rw [Int.add_mul, Int.one_mul] at this
      omega
    · by_cases q2 : j' < j
      · have : (j' + 1) * w ≤ j * w := Int.mul_le_mul_of_nonneg_right (by omega) (by omega)
        rw [Int.add_mul, Int.one_mul] at this
        omega
      · omega
  rw [jj] at e
  exact ⟨by omega, jj⟩
theorem cols_some {s : sh} (h : wf s) : (0 < sn s → ∃ u v, cols s u ∧ cols s v ∧ u < v) ∧ (sn s = 0 → ∀ v, ¬ cols s v) := by
  constructor
  · intro n
    have b := h.2.2.1 0 (by decide) n
    have z1 := sst_mono h (show (0 : Int) ≤ 0 + 1 by decide) (show (0 : Int) + 1 ≤ sn s by omega) (Int.le_refl _)
    have b1 := b.1
    have e := h.2.1
    exact ⟨slf s (sst s 0), srt s (sst s 0), ⟨sst s 0, by omega, by omega, Or.inl rfl⟩, ⟨sst s 0, by omega, by omega, Or.inr rfl⟩, b.2.2.2.2.1.1 _ (Int.le_refl _) b1⟩
  · rintro n v ⟨k, a, b, _⟩
    rw [n, h.2.1] at b
    omega
theorem ends_some {s : sh} (h : wf s) : (0 < sn s → ∃ u v, ends s u ∧ ends s v ∧ u < v) ∧ (sn s = 0 → ∀ v, ¬ ends s v) := by
  constructor
  · intro n
    have b := h.2.2.1 0 (by decide) n
    exact ⟨slo s 0, shi s 0, ⟨0, by decide, n, Or.inl rfl⟩, ⟨0, by decide, n, Or.inr rfl⟩, b.2.2.1⟩
  · rintro n v ⟨k, a, b, _⟩
    omega
/-- two different cuts: two at least -/
theorem cu_two {M : mm_M} (hC : CT M) {u v : Int} (h : cu M u) (g : cu M v) (l : u < v) : 2 ≤ M.1 72 19 := by
  obtain ⟨i, i0, i1, i2⟩ := h
  obtain ⟨j, j0, j1, j2⟩ := g
  by_cases q : i = j
  · rw [q] at i2; omega
  · omega
theorem cu_none {M : mm_M} (hC : CT M) (h : ∀ v, ¬ cu M v) : M.1 72 19 = 0 := by
  by_cases q : M.1 72 19 = 0
  · exact q
  · have := hC.1
    exact absurd ⟨0, Int.le_refl _, by omega, rfl⟩ (h (M.1 87 0))
def rwB (s : sh) (n a y x3 : Int) : Prop := (x3 = -1 ∧ ∀ x, ¬ has s x y) ∨ ∃ b, 0 ≤ b ∧ b < n ∧ x3 = 102 * a + b ∧ ∀ x, has s x y ↔ inb s b x
section
variable {sc : Nat × (Int → Int)} {M : mm_M} {X : Nat → mm_M → Prop}
theorem c145 {K : mm_M → Prop} {a : Int} (ho : mr_ok M) (ga : isA a) (W : RWk M a) (k : ∀ M1, fr vR M M1 → GRD (rdB M a) M1 → K M1) : en_CV sc 145 [mm_r 72, mm_i a, mm_u, mm_u, mm_u] M K X := by
  have a0 := ga.1
  have a1 := ga.2
  have w := W.1
  have n1 := W.2.2.1
  have vt : ∀ M', fr vR M M' → fr vT M M' := fun M' f => fr_mono f vR_vT
  -- the cells, one by one
  have L2 : ∀ (c : Nat) (i j x3 : Int) (M' : mm_M), c = (gw M' - i).toNat → 0 ≤ i → i ≤ gw M' → 0 ≤ j → j < gh M' → mr_ok M' → fr vR M M' → GL (rdB M a) M' → (∀ i' j', 0 ≤ i' → i' < gw M' → 0 ≤ j' → (j' < j ∨ j' = j ∧ i' < i) → (M'.1 90 (j' * gw M' + i') = 1 ∧ has (rdB M a) (gx M' i') (gy M' j')) ∨ (M'.1 90 (j' * gw M' + i') = 0 ∧ ¬ has (rdB M a) (gx M' i') (gy M' j'))) →
      rwB (rdB M a) (M.1 77 a) a (gy M' j) x3 →
      (∀ (l3 l4 : mm_V) (M1 : mm_M), mr_ok M1 → fr vR M M1 → GL (rdB M a) M1 → gh M1 = gh M' → (∀ i' j', 0 ≤ i' → i' < gw M1 → 0 ≤ j' → j' < j + 1 → (M1.1 90 (j' * gw M1 + i') = 1 ∧ has (rdB M a) (gx M1 i') (gy M1 j')) ∨ (M1.1 90 (j' * gw M1 + i') = 0 ∧ ¬ has (rdB M a) (gx M1 i') (gy M1 j'))) → en_R sc 145 119 [mm_r 72, mm_i a, mm_i (j + 1), l3, l4] [] M1 (QV K X)) →
      en_R sc 145 142 [mm_r 72, mm_i a, mm_i j, mm_i x3, mm_i i] [] M' (QV K X) := by
    intro c
    induction c with
    | zero =>
      intro i j x3 M' hc i0 i1 j0 j1 ho' hf hL hg hx g
      have h1 := hL.2.1
      have h2 := hL.2.2.2.1
      have egw : gw M' = M'.1 72 23 := rfl
      have egh : gh M' = M'.1 72 24 := rfl
      have rx : mr_rg x3 := by
        rcases hx with ⟨e, _⟩ | ⟨b, b0, b1, e, _⟩
        · rw [e]; exact ⟨by decide, by decide⟩
        · exact ⟨by omega, by omega⟩
      refine vc145_142 ho' ⟨by omega, by omega⟩ rx ⟨fun _ => g _ _ M' ho' hf hL rfl (fun i' j' b1 b2 b3 b4 => hg i' j' b1 b2 b3 (by omega)), fun q => absurd (by omega) q⟩
    | succ c ih =>
      intro i j x3 M' hc i0 i1 j0 j1 ho' hf hL hg hx g
      have h1 := hL.2.1
      have h2 := hL.2.2.2.1
      have egw : gw M' = M'.1 72 23 := rfl
      have egh : gh M' = M'.1 72 24 := rfl
      have rx : mr_rg x3 := by
        rcases hx with ⟨e, _⟩ | ⟨b, b0, b1, e, _⟩
        · rw [e]; exact ⟨by decide, by decide⟩
        · exact ⟨by omega, by omega⟩
      have ixr := ix_rg h1 i0 (show i < gw M' by omega) j0 (show j < 199 by omega)
      have put : ∀ v : Int, (v = 1 ∧ has (rdB M a) (gx M' i) (gy M' j)) ∨ (v = 0 ∧ ¬ has (rdB M a) (gx M' i) (gy M' j)) → en_R sc 145 142 [mm_r 72, mm_i a, mm_i j, mm_i x3, mm_i (i + 1)] [] (mm_putN M' 90 (j * gw M' + i) v) (QV K X) := by
        intro v hv
        have rv : mr_rg v := by
          rcases hv with ⟨e, _⟩ | ⟨e, _⟩ <;> rw [e] <;> exact ⟨by decide, by decide⟩
        have hob : mr_ok (mm_putN M' 90 (j * gw M' + i) v) := mr_ok_putI ho' rv
        have fb : fr (fun b k => b = 90) M' (mm_putN M' 90 (j * gw M' + i) v) := fr_put rfl
        have e1 : (mm_putN M' 90 (j * gw M' + i) v).1 90 (j * gw M' + i) = v := put_eq
        have e2 : ∀ p, p ≠ j * gw M' + i → (mm_putN M' 90 (j * gw M' + i) v).1 90 p = M'.1 90 p := fun p z => put_k z
        generalize mm_putN M' 90 (j * gw M' + i) v = Mb at hob fb e1 e2
        have ew : gw Mb = gw M' := fb.2 _ _ (by omega)
        have eh : gh Mb = gh M' := fb.2 _ _ (by omega)
        have ex : gx Mb = gx M' := by funext p; exact fb.2 _ _ (by omega)
        have ey : gy Mb = gy M' := by funext p; exact fb.2 _ _ (by omega)
        have hLb : GL (rdB M a) Mb := by
          unfold GL
          rw [ew, eh, ex, ey]
          exact hL
        refine ih (i + 1) j x3 Mb (by omega) (by omega) (by omega) j0 (by omega) hob (fr_trans hf (fr_mono fb (fun b k z => by unfold vR; omega))) hLb (fun i' j' b1 b2 b3 b4 => ?_) (by rw [ey]; exact hx) (fun l3 l4 M1 o1 f1 L1 h1 g1 => g l3 l4 M1 o1 f1 L1 (h1.trans eh) g1)
        rw [ew] at b2 ⊢
        rw [ex, ey]
        by_cases z : j' = j ∧ i' = i
        · rw [z.1, z.2, e1]
          exact hv
        · rw [e2 _ (fun y => by have := ix_inj b1 b2 i0 (show i < gw M' by omega) y; omega)]
          exact hg i' j' b1 b2 b3 (by omega)
      refine vc145_142 ho' ⟨by omega, by omega⟩ rx ⟨fun q => absurd q (by omega), fun _ => ⟨fun q => ⟨ixr.1, ixr.2, put 0 ?_⟩, fun q => ?_⟩⟩
      · rcases hx with ⟨_, e⟩ | ⟨b, b0, b1, e, _⟩
        · exact Or.inr ⟨rfl, e _⟩
        · omega
      · rcases hx with ⟨e, _⟩ | ⟨b, b0, b1, e, hb⟩
        · omega
        · have vm := vt M' hf
          have Wm := vT_keep vm a0 a1 W
          have v77 := (vR_at vm a0 a1 (Int.le_refl 0) (by decide)).2.2.2.2.1
          have ib := eqv_inb w Wm.1 b0 (show b < sn (rdB M a) from b1) (gx M' i)
          have rgx : mr_rg (gx M' i) := ho'.2.1 _ _ (by unfold mr_lg; omega)
          rw [e]
          rw [e] at put
          refine ⟨i0, by omega, c88 ho' a0 a1 Wm.2 b0 (by rw [v77]; exact b1) rgx (fun yes _ => ⟨⟨by decide, by decide⟩, fun z => absurd z (by decide), fun _ => ⟨ixr.1, ixr.2, put 1 (Or.inl ⟨rfl, (hb _).mpr (ib.mpr yes)⟩)⟩⟩) (fun noo _ => ⟨⟨by decide, by decide⟩, fun _ => ⟨ixr.1, ixr.2, put 0 (Or.inr ⟨rfl, fun z => noo (ib.mp ((hb _).mp z))⟩)⟩, fun z => absurd rfl z⟩)⟩
  -- row by row
  have L1 : ∀ (c : Nat) (j : Int) (l3 l4 : mm_V) (M' : mm_M), c = (gh M' - j).toNat → 0 ≤ j → j ≤ gh M' → mr_ok M' → fr vR M M' → GL (rdB M a) M' → (∀ i' j', 0 ≤ i' → i' < gw M' → 0 ≤ j' → j' < j → (M'.1 90 (j' * gw M' + i') = 1 ∧ has (rdB M a) (gx M' i') (gy M' j')) ∨ (M'.1 90 (j' * gw M' + i') = 0 ∧ ¬ has (rdB M a) (gx M' i') (gy M' j'))) → en_R sc 145 119 [mm_r 72, mm_i a, mm_i j, l3, l4] [] M' (QV K X) := by
    intro c
    induction c with
    | zero =>
      intro j l3 l4 M' hc j0 j1 ho' hf hL hg
      have h2 := hL.2.2.2.1
      have egw : gw M' = M'.1 72 23 := rfl
      have egh : gh M' = M'.1 72 24 := rfl
      exact vc145_119 ho' ⟨by omega, by omega⟩ ⟨fun _ => Or.inl ⟨rfl, k M' hf ⟨hL, fun i' j' b1 b2 b3 b4 => hg i' j' b1 b2 b3 (by omega)⟩⟩, fun q => absurd (by omega) q⟩
    | succ c ih =>
      intro j l3 l4 M' hc j0 j1 ho' hf hL hg
      have h2 := hL.2.2.2.1
      have egw : gw M' = M'.1 72 23 := rfl
      have egh : gh M' = M'.1 72 24 := rfl
      have vm := vt M' hf
      have Wm := vT_keep vm a0 a1 W
      have v77 := (vR_at vm a0 a1 (Int.le_refl 0) (by decide)).2.2.2.2.1
      have rgy : mr_rg (gy M' j) := ho'.2.1 _ _ (by unfold mr_lg; omega)
      have nxt : ∀ (x3 : Int), rwB (rdB M a) (M.1 77 a) a (gy M' j) x3 → en_R sc 145 142 [mm_r 72, mm_i a, mm_i j, mm_i x3, mm_i 0] [] M' (QV K X) := fun x3 hx => L2 _ 0 j x3 M' rfl (Int.le_refl _) hL.1 j0 (by omega) ho' hf hL (fun i' j' b1 b2 b3 b4 => hg i' j' b1 b2 b3 (by omega)) hx (fun l3 l4 M1 o1 f1 L1 h1 g1 => ih (j + 1) l3 l4 M1 (by omega) (by omega) (by omega) o1 f1 L1 g1)
      refine vc145_119 ho' ⟨by omega, by omega⟩ ⟨fun q => absurd q (by omega), fun _ => ⟨j0, by omega, c60 ho' a0 (by omega) Wm.2 rgy (fun no _ => nxt (-1) (Or.inl ⟨rfl, fun x z => ?_⟩)) (fun b b0 b1 b2 b3 _ => nxt (102 * a + b) (Or.inr ⟨b, b0, ?_, rfl, fun x => ?_⟩))⟩⟩
      · obtain ⟨b, b0, b1, b2, b3, _⟩ := z
        have vb := vR_at vm a0 a1 b0 (show b < 102 by have : b < M.1 77 a := b1; omega)
        refine no b b0 (by rw [v77]; exact b1) ?_
        rw [vb.1, vb.2.1]
        exact ⟨b2, b3⟩
      · rw [v77] at b1
        exact b1
      · rw [v77] at b1
        have vb := vR_at vm a0 a1 b0 (show b < 102 by omega)
        rw [vb.1] at b2
        rw [vb.2.1] at b3
        exact has_at w b0 b1 b2 b3 x
  refine vc145_0 ho (c35 ho (fun Mb fb cb _ hob => ?_))
  have vb : fr vR M Mb := fr_mono fb bgS_vR
  have Wb := vT_keep (vt _ vb) a0 a1 W
  refine c87 hob a0 a1 Wb.2 (CT_0 cb) (by omega) (fun Mc fc Cc nc uc hoc => ?_)
  have vc : fr vR M Mc := fr_trans vb (fr_mono fc uS_vR)
  have Uc : ∀ v, cu Mc v ↔ cols (rdB M a) v := by
    intro v
    rw [uc, ← cols_eqv w Wb.1]
    exact ⟨fun z => z.elim (fun z => absurd z (cu_0 cb v)) id, Or.inr⟩
  have C0 := Cc.1
  -- ys
  have ysL : ∀ (c : Nat) (j : Int) (Me M' : mm_M), c = (Me.1 72 19 - j).toNat → 0 ≤ j → j ≤ Me.1 72 19 → mr_ok M' → fr vR M Me → CT Me → (∀ v, cu Me v ↔ ends (rdB M a) v) → Me.1 72 19 ≤ 200 → Me.1 72 23 = (if Mc.1 72 19 ≤ 0 then 0 else Mc.1 72 19 - 1) → (∀ p, 0 ≤ p → p < Mc.1 72 19 → Me.1 88 p = Mc.1 87 p) → fr (fun b k => b = 89) Me M' → (∀ p, 0 ≤ p → p < j → M'.1 89 p = Me.1 87 p) → en_R sc 145 70 [mm_r 72, mm_i a, mm_i j, mm_u, mm_u] [] M' (QV K X) := by
    intro c
    induction c with
    | zero =>
      intro j Me M' hc j0 j1 ho' vE CE UE nE wE xE hf hy
      have e19 : M'.1 72 19 = Me.1 72 19 := hf.2 _ _ (by omega)
      have vm : fr vR M M' := fr_trans vE (fr_mono hf (fun b k z => by unfold vR; omega))
      have done : ∀ (M2 : mm_M) (t : Int), t = (if Me.1 72 19 ≤ 0 then 0 else Me.1 72 19 - 1) → M2 = mm_putN M' 72 24 t → en_R sc 145 119 [mm_r 72, mm_i a, mm_i 0, mm_u, mm_u] [] M2 (QV K X) := by
        intro M2 t ht hM2
        have CE0 := CE.1
        have tr : 0 ≤ t ∧ t ≤ 199 := by
          rw [ht]
          split <;> omega
        have ho2 : mr_ok M2 := by rw [hM2]; exact mr_ok_putI ho' ⟨by omega, by omega⟩
        have f2 : fr (fun b k => b = 72 ∧ k = 24) M' M2 := by rw [hM2]; exact fr_put ⟨rfl, rfl⟩
        have et : gh M2 = t := by rw [hM2]; exact put_eq
        have ew : gw M2 = (if Mc.1 72 19 ≤ 0 then 0 else Mc.1 72 19 - 1) := by
          show M2.1 72 23 = _
          rw [f2.2 _ _ (by omega), hf.2 _ _ (by omega)]
          exact wE
        have ex : ∀ p, 0 ≤ p → p < Mc.1 72 19 → gx M2 p = Mc.1 87 p := fun p p0 p1 => by
          show M2.1 88 p = _
          rw [f2.2 _ _ (by omega), hf.2 _ _ (by omega)]
          exact xE p p0 p1
        have ey : ∀ p, 0 ≤ p → p < Me.1 72 19 → gy M2 p = Me.1 87 p := fun p p0 p1 => by
          show M2.1 89 p = _
          rw [f2.2 _ _ (by omega)]
          exact hy p p0 (by omega)
        have wr : 0 ≤ gw M2 ∧ gw M2 ≤ 799 := by
          rw [ew]
          split <;> omega
        have hL : GL (rdB M a) M2 := by
          refine ⟨wr.1, wr.2, by omega, by omega, fun p q p0 pq q1 => ?_, fun p q p0 pq q1 => ?_, ?_⟩
          · have : gw M2 = Mc.1 72 19 - 1 := by
              rw [ew]
              rw [ew] at q1
              split at q1 <;> rename_i z
              · omega
              · rw [if_neg z]
            rw [ex p p0 (by omega), ex q (by omega) (by omega)]
            exact Cc.2.2 p q p0 pq (by omega)
          · have : gh M2 = Me.1 72 19 - 1 := by
              rw [et, ht]
              rw [et, ht] at q1
              split at q1 <;> rename_i z
              · omega
              · rw [if_neg z]
            rw [ey p p0 (by omega), ey q (by omega) (by omega)]
            exact CE.2.2 p q p0 pq (by omega)
          · by_cases z : sn (rdB M a) = 0
            · have z1 := cu_none Cc (fun v y => (cols_some w).2 z v ((Uc v).mp y))
              have z2 := cu_none CE (fun v y => (ends_some w).2 z v ((UE v).mp y))
              exact Or.inl ⟨z, by rw [ew, if_pos (by omega)], by rw [et, ht, if_pos (by omega)]⟩
            · have n0 := w.1
              obtain ⟨u, v, hu, hv, uv⟩ := (cols_some w).1 (by omega)
              have z1 := cu_two Cc ((Uc u).mpr hu) ((Uc v).mpr hv) uv
              obtain ⟨u', v', hu', hv', uv'⟩ := (ends_some w).1 (by omega)
              have z2 := cu_two CE ((UE u').mpr hu') ((UE v').mpr hv') uv'
              have e1 : gw M2 = Mc.1 72 19 - 1 := by rw [ew, if_neg (by omega)]
              have e2 : gh M2 = Me.1 72 19 - 1 := by rw [et, ht, if_neg (by omega)]
              refine Or.inr ⟨by omega, by omega, by omega, fun v => ?_, fun v => ?_⟩
              · rw [← Uc, e1]
                constructor
                · rintro ⟨p, p0, p1, p2⟩
                  exact ⟨p, p0, by omega, by rw [ex p p0 p1]; exact p2⟩
                · rintro ⟨p, p0, p1, p2⟩
                  exact ⟨p, p0, by omega, by rw [← ex p p0 (by omega)]; exact p2⟩
              · rw [← UE, e2]
                constructor
                · rintro ⟨p, p0, p1, p2⟩
                  exact ⟨p, p0, by omega, by rw [ey p p0 p1]; exact p2⟩
                · rintro ⟨p, p0, p1, p2⟩
                  exact ⟨p, p0, by omega, by rw [← ey p p0 (by omega)]; exact p2⟩
        exact L1 _ 0 _ _ M2 rfl (Int.le_refl _) (by omega) ho2 (fr_trans vm (fr_mono f2 (fun b k z => by unfold vR; omega))) hL (fun i' j' _ _ b3 b4 => absurd b4 (by omega))
      refine vc145_70 ho' ⟨by omega, by omega⟩ ?_
      rw [e19]
      refine ⟨fun _ => ⟨fun q => done _ 0 (by rw [if_pos q]) rfl, fun q => ⟨⟨by omega, by omega⟩, done _ _ (by rw [if_neg q]) rfl⟩⟩, fun q => absurd (by omega) q⟩
    | succ c ih =>
      intro j Me M' hc j0 j1 ho' vE CE UE nE wE xE hf hy
      have e19 : M'.1 72 19 = Me.1 72 19 := hf.2 _ _ (by omega)
      have e87 : M'.1 87 j = Me.1 87 j := hf.2 _ _ (by omega)
      have b := CE.2.1 j j0 (by omega)
      refine vc145_70 ho' ⟨by omega, by omega⟩ ?_
      rw [e19, e87]
      refine ⟨fun q => absurd q (by omega), fun _ => ⟨j0, by omega, j0, by omega, ?_⟩⟩
      refine ih (j + 1) Me _ (by omega) (by omega) (by omega) (mr_ok_putI ho' ⟨by omega, by omega⟩) vE CE UE nE wE xE (fr_trans hf (fr_put rfl)) (fun p p0 p1 => ?_)
      by_cases z : p = j
      · rw [z, put_eq]
      · rw [put_k z]
        exact hy p p0 (by omega)
  have mid : ∀ (M' : mm_M) (s1 l2 : Int), mr_ok M' → fr (fun b k => b = 88) Mc M' → (∀ p, 0 ≤ p → p < Mc.1 72 19 → M'.1 88 p = Mc.1 87 p) → s1 = (if Mc.1 72 19 ≤ 0 then 0 else Mc.1 72 19 - 1) → en_R sc 145 55 [mm_r 72, mm_i a, mm_i l2, mm_u, mm_u] [mm_i s1, mm_r 72] M' (QV K X) := by
    intro M' s1 l2 ho' hf hx hs
    have sr : 0 ≤ s1 ∧ s1 ≤ 799 := by
      rw [hs]
      split <;> omega
    refine vc145_55 ho' ⟨by omega, by omega⟩ ?_
    have ho2 : mr_ok (mm_putN (mm_putN M' 72 23 s1) 72 19 0) := mr_ok_putI (mr_ok_putI ho' ⟨by omega, by omega⟩) ⟨by decide, by decide⟩
    have f2 : fr (fun b k => b = 72 ∧ (k = 23 ∨ k = 19)) M' (mm_putN (mm_putN M' 72 23 s1) 72 19 0) := fr_trans (fr_put ⟨rfl, Or.inl rfl⟩) (fr_put ⟨rfl, Or.inr rfl⟩)
    have e19 : (mm_putN (mm_putN M' 72 23 s1) 72 19 0).1 72 19 = 0 := put_eq
    have e23 : (mm_putN (mm_putN M' 72 23 s1) 72 19 0).1 72 23 = s1 := by rw [put_k (by decide), put_eq]
    generalize mm_putN (mm_putN M' 72 23 s1) 72 19 0 = Md at ho2 f2 e19 e23
    have vd : fr vR M Md := fr_trans vc (fr_trans (fr_mono hf (fun b k z => by unfold vR; omega)) (fr_mono f2 (fun b k z => by unfold vR; omega)))
    have Wd := vT_keep (vt _ vd) a0 a1 W
    refine c59x ho2 a0 a1 Wd.2 (CT_0 e19) (by omega) (fun Me fe Ce ne ue hoe => ?_)
    refine ysL _ 0 Me Me rfl (Int.le_refl _) Ce.1 hoe (fr_trans vd (fr_mono fe uS_vR)) Ce (fun v => ?_) (by omega) ?_ (fun p p0 p1 => ?_) fr_refl (fun p p0 p1 => absurd p1 (by omega))
    · rw [ue, ← ends_eqv Wd.1]
      exact ⟨fun z => z.elim (fun z => absurd z (cu_0 e19 v)) id, Or.inr⟩
    · rw [fe.2 _ _ (by omega), e23]
      exact hs
    · rw [fe.2 _ _ (by omega), f2.2 _ _ (by omega)]
      exact hx p p0 p1
  have xsL : ∀ (c : Nat) (j : Int) (M' : mm_M), c = (Mc.1 72 19 - j).toNat → 0 ≤ j → j ≤ Mc.1 72 19 → mr_ok M' → fr (fun b k => b = 88) Mc M' → (∀ p, 0 ≤ p → p < j → M'.1 88 p = Mc.1 87 p) → en_R sc 145 11 [mm_r 72, mm_i a, mm_i j, mm_u, mm_u] [] M' (QV K X) := by
    intro c
    induction c with
    | zero =>
      intro j M' hc j0 j1 ho' hf hx
      have e19 : M'.1 72 19 = Mc.1 72 19 := hf.2 _ _ (by omega)
      have hx' : ∀ p, 0 ≤ p → p < Mc.1 72 19 → M'.1 88 p = Mc.1 87 p := fun p p0 p1 => hx p p0 (by omega)
      refine vc145_11 ho' ⟨by omega, by omega⟩ ?_
      rw [e19]
      exact ⟨fun _ => ⟨fun q => mid M' 0 j ho' hf hx' (by rw [if_pos q]), fun q => mid M' _ j ho' hf hx' (by rw [if_neg q])⟩, fun q => absurd (by omega) q⟩
    | succ c ih =>
      intro j M' hc j0 j1 ho' hf hx
      have e19 : M'.1 72 19 = Mc.1 72 19 := hf.2 _ _ (by omega)
      have e87 : M'.1 87 j = Mc.1 87 j := hf.2 _ _ (by omega)
      have b := Cc.2.1 j j0 (by omega)
      refine vc145_11 ho' ⟨by omega, by omega⟩ ?_
      rw [e19, e87]
      refine ⟨fun q => absurd q (by omega), fun _ => ⟨j0, by omega, j0, by omega, ?_⟩⟩
      refine ih (j + 1) _ (by omega) (by omega) (by omega) (mr_ok_putI ho' ⟨by omega, by omega⟩) (fr_trans hf (fr_put rfl)) (fun p p0 p1 => ?_)
      by_cases z : p = j
      · rw [z, put_eq]
      · rw [put_k z]
        exact hx p p0 (by omega)
  exact xsL _ 0 Mc rfl (Int.le_refl _) C0 hoc fr_refl (fun p p0 p1 => absurd p1 (by omega))
/-- CellAreasModel.isCell -/
theorem c146 {K : Int → mm_M → Prop} {s : sh} {i j : Int} (ho : mr_ok M) (h : GRD s M) (hi : mr_rg i) (hj : mr_rg j) (k1 : cel s M i j → K 1 M) (k0 : ¬ cel s M i j → K 0 M) : en_CI sc 146 [mm_r 72, mm_i i, mm_i j] M K X := by
  refine vc146_0 ho hi hj ⟨fun q => Or.inl ⟨_, rfl, k0 (fun z => by have := z.1; omega)⟩, fun q1 => ⟨fun q => Or.inl ⟨_, rfl, k0 (fun z => by have z1 : i < M.1 72 23 := z.2.1; omega)⟩, fun q2 => ⟨fun q => Or.inl ⟨_, rfl, k0 (fun z => by have := z.2.2.1; omega)⟩, fun q3 => ⟨fun q => Or.inl ⟨_, rfl, k0 (fun z => by have z1 : j < M.1 72 24 := z.2.2.2.1; omega)⟩, fun q4 => ?_⟩⟩⟩⟩
  have h1 := h.1.2.1
  have h2 := h.1.2.2.2.1
  have ixr := ix_rg h1 (show 0 ≤ i by omega) (show i < gw M by show i < M.1 72 23; omega) (show 0 ≤ j by omega) (show j < 199 by have : gh M ≤ 199 := h2; have : M.1 72 24 ≤ 199 := this; omega)
  have g := h.2 i j (by omega) (show i < M.1 72 23 by omega) (by omega) (show j < M.1 72 24 by omega)
  refine ⟨ixr.1, ixr.2, fun q => Or.inl ⟨_, rfl, k0 (fun z => ?_)⟩, fun q => Or.inl ⟨_, rfl, k1 ⟨by omega, show i < M.1 72 23 by omega, by omega, show j < M.1 72 24 by omega, ?_⟩⟩⟩
  · rcases g with ⟨e, _⟩ | ⟨_, e⟩
    · have e' : M.1 90 (j * M.1 72 23 + i) = 1 := e
      omega
    · exact e z.2.2.2.2
  · rcases g with ⟨_, e⟩ | ⟨e, _⟩
    · exact e
    · exact absurd e q
end
