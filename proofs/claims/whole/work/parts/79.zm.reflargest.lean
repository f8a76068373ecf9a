/-! ===== largest, both sides ===== -/
abbrev BOr (P : Int → Int → Int → Int → Prop) (M : mm_M) : Prop := BO P (M.1 72 42) (M.1 72 43) (M.1 72 44) (M.1 72 45) (M.1 72 46)
abbrev oS : Nat → Int → Prop := fun a k => a = 72 ∧ 42 ≤ k ∧ k ≤ 46
/-- the memory that the grid needs -/
def gKeep (M M1 : mm_M) : Prop := gw M1 = gw M ∧ gh M1 = gh M ∧ gx M1 = gx M ∧ gy M1 = gy M ∧ M1.1 90 = M.1 90
theorem gKeep_GRD {s : sh} {M M1 : mm_M} (h : gKeep M M1) (g : GRD s M) : GRD s M1 := by
  obtain ⟨a, b, c, d, e⟩ := h
  unfold GRD GL at g ⊢
  rw [a, b, c, d, e]
  exact g
theorem gKeep_cel {s : sh} {M M1 : mm_M} (h : gKeep M M1) (i j : Int) : cel s M1 i j ↔ cel s M i j := by
  obtain ⟨a, b, c, d, e⟩ := h
  unfold cel
  rw [a, b, c, d]
theorem gKeep_trans {M M1 M2 : mm_M} (h : gKeep M M1) (g : gKeep M1 M2) : gKeep M M2 := ⟨g.1.trans h.1, g.2.1.trans h.2.1, g.2.2.1.trans h.2.2.1, g.2.2.2.1.trans h.2.2.2.1, g.2.2.2.2.trans h.2.2.2.2⟩
theorem gKeep_fr {M M1 : mm_M} {S : Nat → Int → Prop} (h : fr S M M1) (hs : ∀ a k, S a k → a ≠ 88 ∧ a ≠ 89 ∧ a ≠ 90 ∧ ¬ (a = 72 ∧ (k = 23 ∨ k = 24))) : gKeep M M1 := by
  refine ⟨h.2 _ _ (fun z => (hs _ _ z).2.2.2 ⟨rfl, Or.inl rfl⟩), h.2 _ _ (fun z => (hs _ _ z).2.2.2 ⟨rfl, Or.inr rfl⟩), ?_, ?_, ?_⟩
  · funext j; exact h.2 _ _ (fun z => (hs _ _ z).1 rfl)
  · funext j; exact h.2 _ _ (fun z => (hs _ _ z).2.1 rfl)
  · funext j; exact h.2 _ _ (fun z => (hs _ _ z).2.2.1 rfl)
theorem run_right {R : Int → Prop} {f t t' : Int} (h : run R f t) (g : run R f t') : t = t' := by
  by_cases q : t < t'
  · exact absurd (g.2.1 t (by have := h.1; omega) q) h.2.2.2
  · by_cases q2 : t' < t
    · exact absurd (h.2.1 t' (by have := g.1; omega) q2) g.2.2.2
    · omega
section
variable {sc : Nat × (Int → Int)} {M : mm_M} {X : Nat → mm_M → Prop}
/-- CellAreas.largest -/
theorem c178 {K : Int → mm_M → Prop} {a what : Int} (ho : mr_ok M) (hO : OW M) (ha : mr_rg a) (hw : mr_rg what) (x1 : ¬ isA a → X 1 (M.1, M.2.1, M.2.2 + 1)) (k0 : isA a → sn (rdA M (ar M a)) = 0 → K (-2001) M)
    (k1 : isA a → 0 < sn (rdA M (ar M a)) → ∀ M1, fr (fun a _ => a = 12 ∨ a = 14 ∨ a = 23) M M1 → BOm (CN (rdA M (ar M a)) (sn (rdA M (ar M a))) 0) M1 → K (if 0 ≤ what ∧ what ≤ 4 then M1.1 23 what else -2001) M1) : en_CI sc 178 [mm_r 0, mm_i a, mm_i what] M K X := by
  refine vc178_0 ho hw (c9 ho ha (fun ga _ => ?_) (fun q => Or.inr ⟨1, rfl, by decide, x1 q⟩))
  have A := OW_A hO ga
  have n0 := A.2.2.1.1
  have en : M.1 (ar M a) 0 = sn (rdA M (ar M a)) := rfl
  refine ⟨ga.1, ga.2, ar M a, A.1, A.2.1, ?_⟩
  rw [en]
  refine ⟨fun q => ⟨ga.1, ga.2, ar M a, A.1, A.2.1, c177 ho A.2 (fun M1 f1 B1 _ => ?_)⟩, fun q => Or.inl ⟨_, rfl, k0 ga (Classical.byContradiction q)⟩⟩
  have kk := k1 ga (by omega) M1 f1 B1
  refine ⟨fun e => Or.inl ⟨_, rfl, ?_⟩, fun e => Or.inl ⟨_, rfl, ?_⟩, fun e => Or.inl ⟨_, rfl, ?_⟩, fun e => Or.inl ⟨_, rfl, ?_⟩, fun e => Or.inl ⟨_, rfl, ?_⟩, fun e0 e1 e2 e3 e4 => Or.inl ⟨_, rfl, ?_⟩⟩
  · rw [if_pos (by omega), e] at kk; exact kk
  · rw [if_pos (by omega), e] at kk; exact kk
  · rw [if_pos (by omega), e] at kk; exact kk
  · rw [if_pos (by omega), e] at kk; exact kk
  · rw [if_pos (by omega), e] at kk; exact kk
  · rw [if_neg (by omega)] at kk; exact kk
/-- CellAreasModel.offer -/
theorem c180 {K : mm_M → Prop} {P P' : Int → Int → Int → Int → Prop} {i j f e : Int} (ho : mr_ok M) (hB : BOr P M) (hi : 0 ≤ i ∧ i ≤ 800) (hf : 0 ≤ f ∧ f ≤ 800) (hj : 0 ≤ j ∧ j ≤ 201) (he : 0 ≤ e ∧ e ≤ 201) (hp : i < f → -1000 ≤ M.1 88 i ∧ M.1 88 i < M.1 88 f ∧ M.1 88 f ≤ 1000 ∧ -1000 ≤ M.1 89 j ∧ M.1 89 j < M.1 89 e ∧ M.1 89 e ≤ 1000)
    (hP : i < f → ∀ a b c d, P' a b c d ↔ P a b c d ∨ (a = M.1 88 i ∧ b = M.1 89 j ∧ c = M.1 88 f ∧ d = M.1 89 e)) (hP0 : ¬ i < f → ∀ a b c d, P' a b c d ↔ P a b c d) (k : ∀ M1, fr oS M M1 → BOr P' M1 → K M1) : en_CV sc 180 [mm_r 72, mm_i i, mm_i j, mm_i f, mm_i e, mm_u, mm_u] M K X := by
  have no : ¬ i < f → K M := fun q => k M fr_refl (BO_iff hB (fun a b c d => (hP0 q a b c d).symm))
  by_cases q' : ¬ i < f
  · exact vc180_0 ho ⟨by omega, by omega⟩ ⟨by omega, by omega⟩ ⟨fun z => absurd z q', fun _ => Or.inl ⟨rfl, no q'⟩⟩
  have q : i < f := Classical.not_not.mp q'
  have hp := hp q
  have cp := cells_pos hp
  have hP := hP q
  have new : bet ((M.1 88 f - M.1 88 i) * (M.1 89 e - M.1 89 j)) (M.1 89 j) (M.1 88 i) (M.1 88 f) (M.1 72 46) (M.1 72 43) (M.1 72 42) (M.1 72 44) → ∀ l6, en_R sc 180 131 [mm_r 72, mm_i i, mm_i j, mm_i f, mm_i e, mm_i ((M.1 88 f - M.1 88 i) * (M.1 89 e - M.1 89 j)), mm_i l6] [] M (QV K X) := by
    intro b l6
    refine vc180_131 ho ⟨by omega, by omega⟩ ⟨by omega, by omega, by omega, by omega, by omega, by omega, by omega, by omega, Or.inl ⟨rfl, k _ ?_ ?_⟩⟩
    · exact fr_trans (fr_put (by omega)) (fr_trans (fr_put (by omega)) (fr_trans (fr_put (by omega)) (fr_trans (fr_put (by omega)) (fr_put (by omega)))))
    · have n := BO_new hB hP b
      generalize (M.1 88 f - M.1 88 i) * (M.1 89 e - M.1 89 j) = c0 at n ⊢
      have e1 : (mm_putN M 72 46 c0).1 88 i = M.1 88 i := put_a (by decide)
      rw [e1]
      have e2 : (mm_putN (mm_putN M 72 46 c0) 72 42 (M.1 88 i)).1 89 j = M.1 89 j := by rw [put_a (by decide), put_a (by decide)]
      rw [e2]
      have e3 : (mm_putN (mm_putN (mm_putN M 72 46 c0) 72 42 (M.1 88 i)) 72 43 (M.1 89 j)).1 88 f = M.1 88 f := by rw [put_a (by decide), put_a (by decide), put_a (by decide)]
      rw [e3]
      have e4 : (mm_putN (mm_putN (mm_putN (mm_putN M 72 46 c0) 72 42 (M.1 88 i)) 72 43 (M.1 89 j)) 72 44 (M.1 88 f)).1 89 e = M.1 89 e := by rw [put_a (by decide), put_a (by decide), put_a (by decide), put_a (by decide)]
      rw [e4]
      unfold BOr
      have f42 : (mm_putN (mm_putN (mm_putN (mm_putN (mm_putN M 72 46 c0) 72 42 (M.1 88 i)) 72 43 (M.1 89 j)) 72 44 (M.1 88 f)) 72 45 (M.1 89 e)).1 72 42 = M.1 88 i := by rw [put_k (by decide), put_k (by decide), put_k (by decide), put_eq]
      have f43 : (mm_putN (mm_putN (mm_putN (mm_putN (mm_putN M 72 46 c0) 72 42 (M.1 88 i)) 72 43 (M.1 89 j)) 72 44 (M.1 88 f)) 72 45 (M.1 89 e)).1 72 43 = M.1 89 j := by rw [put_k (by decide), put_k (by decide), put_eq]
      have f44 : (mm_putN (mm_putN (mm_putN (mm_putN (mm_putN M 72 46 c0) 72 42 (M.1 88 i)) 72 43 (M.1 89 j)) 72 44 (M.1 88 f)) 72 45 (M.1 89 e)).1 72 44 = M.1 88 f := by rw [put_k (by decide), put_eq]
      have f45 : (mm_putN (mm_putN (mm_putN (mm_putN (mm_putN M 72 46 c0) 72 42 (M.1 88 i)) 72 43 (M.1 89 j)) 72 44 (M.1 88 f)) 72 45 (M.1 89 e)).1 72 45 = M.1 89 e := put_eq
      have f46 : (mm_putN (mm_putN (mm_putN (mm_putN (mm_putN M 72 46 c0) 72 42 (M.1 88 i)) 72 43 (M.1 89 j)) 72 44 (M.1 88 f)) 72 45 (M.1 89 e)).1 72 46 = c0 := by rw [put_k (by decide), put_k (by decide), put_k (by decide), put_k (by decide), put_eq]
      rw [f42, f43, f44, f45, f46]
      exact n
  have old : ¬ bet ((M.1 88 f - M.1 88 i) * (M.1 89 e - M.1 89 j)) (M.1 89 j) (M.1 88 i) (M.1 88 f) (M.1 72 46) (M.1 72 43) (M.1 72 42) (M.1 72 44) → K M := fun n => k M fr_refl (BO_keep hB hp hP n)
  generalize hc0 : (M.1 88 f - M.1 88 i) * (M.1 89 e - M.1 89 j) = c0 at cp new old
  have mid : ∀ s0 : Int, (s0 = 1 ∧ (M.1 89 j < M.1 72 43 ∨ (M.1 89 j = M.1 72 43 ∧ (M.1 88 i < M.1 72 42 ∨ (M.1 88 i = M.1 72 42 ∧ M.1 88 f < M.1 72 44)))) ∨ s0 = 0 ∧ ¬ (M.1 89 j < M.1 72 43 ∨ (M.1 89 j = M.1 72 43 ∧ (M.1 88 i < M.1 72 42 ∨ (M.1 88 i = M.1 72 42 ∧ M.1 88 f < M.1 72 44))))) → en_R sc 180 106 [mm_r 72, mm_i i, mm_i j, mm_i f, mm_i e, mm_i c0, mm_u] [mm_i s0] M (QV K X) := by
    intro s0 h
    refine vc180_106 ho ⟨by omega, by omega⟩ ⟨by omega, by omega⟩ ⟨fun z => new (Or.inl z) _, fun z => ⟨fun z2 => Or.inl ⟨rfl, old (fun y => by unfold bet at y; omega)⟩, fun z2 => ⟨fun z3 => Or.inl ⟨rfl, old (fun y => by unfold bet at y; omega)⟩, fun z3 => new (Or.inr ⟨by omega, by omega⟩) _⟩⟩⟩
  have yes : (M.1 89 j < M.1 72 43 ∨ (M.1 89 j = M.1 72 43 ∧ (M.1 88 i < M.1 72 42 ∨ (M.1 88 i = M.1 72 42 ∧ M.1 88 f < M.1 72 44)))) → en_R sc 180 101 [mm_r 72, mm_i i, mm_i j, mm_i f, mm_i e, mm_i c0, mm_u] [] M (QV K X) := fun h => vc180_101 ho (mid 1 (Or.inl ⟨rfl, h⟩))
  have noo : ¬ (M.1 89 j < M.1 72 43 ∨ (M.1 89 j = M.1 72 43 ∧ (M.1 88 i < M.1 72 42 ∨ (M.1 88 i = M.1 72 42 ∧ M.1 88 f < M.1 72 44)))) → en_R sc 180 105 [mm_r 72, mm_i i, mm_i j, mm_i f, mm_i e, mm_i c0, mm_u] [] M (QV K X) := fun h => vc180_105 ho (mid 0 (Or.inr ⟨rfl, h⟩))
  refine vc180_0 ho ⟨by omega, by omega⟩ ⟨by omega, by omega⟩ ?_
  rw [hc0]
  exact ⟨fun _ => ⟨by omega, by omega, by omega, by omega, by omega, by omega, by omega, by omega, by omega, by omega, fun z => yes (by omega), fun z => ⟨by omega, by omega, fun z2 => noo (by omega), fun z2 => ⟨by omega, by omega, fun z3 => yes (by omega), fun z3 => ⟨by omega, by omega, fun z4 => noo (by omega), fun z4 => ⟨by omega, by omega, fun z5 => noo (by omega), fun z5 => yes (by omega)⟩⟩⟩⟩⟩, fun z => absurd q z⟩
/-- CellAreasModel.boxesFrom -/
theorem c181 {K : mm_M → Prop} {s : sh} {low : Int} (ho : mr_ok M) (w : wf s) (g : GRD s M) (n : 0 < sn s) (l0 : 0 ≤ low) (l1 : low < gh M) (hB : BOr (GB s M (fun low' _ _ => low' < low)) M)
    (k : ∀ M1, fr (fun a k => a = 97 ∨ oS a k) M M1 → BOr (GB s M (fun low' _ _ => low' < low + 1)) M1 → K M1) : en_CV sc 181 [mm_r 72, mm_i low, mm_u, mm_u, mm_u] M K X := by
  have h1 := g.1.2.1
  have h2 := g.1.2.2.2.1
  obtain ⟨w0, hh0, hc, he⟩ := GL_pos g.1 (Int.le_refl 0) n
  have ascx := g.1.2.2.2.2.1
  have ascy := g.1.2.2.2.2.2.1
  have egw : gw M = M.1 72 23 := rfl
  have egh : gh M = M.1 72 24 := rfl
  have kp : ∀ M', fr (fun a k => a = 97 ∨ oS a k) M M' → gKeep M M' := fun M' f => gKeep_fr f (fun a k z => by
    have z' : a = 97 ∨ (a = 72 ∧ 42 ≤ k ∧ k ≤ 46) := z
    omega)
  have at' : ∀ M', fr (fun a k => a = 97 ∨ oS a k) M M' → M'.1 72 23 = gw M ∧ M'.1 72 24 = gh M ∧ (∀ p, M'.1 88 p = gx M p) ∧ (∀ p, M'.1 89 p = gy M p) := fun M' f => by
    obtain ⟨a, b, c, d, _⟩ := kp M' f
    exact ⟨a, b, fun p => congrFun c p, fun p => congrFun d p⟩
  have xr : ∀ i, 0 ≤ i → i ≤ gw M → -1000 ≤ gx M i ∧ gx M i ≤ 1000 := fun i i0 i1 => cols_rg w ((hc _).mpr ⟨i, i0, i1, rfl⟩)
  have yr : ∀ i, 0 ≤ i → i ≤ gh M → -1000 ≤ gy M i ∧ gy M i ≤ 1000 := fun i i0 i1 => ends_rg w ((he _).mpr ⟨i, i0, i1, rfl⟩)
  have B97 : ∀ (P : Int → Int → Int → Int → Prop) (M1 M2 : mm_M), fr (fun a _ => a = 97) M1 M2 → BOr P M1 → BOr P M2 := fun P M1 M2 f h => by
    have e : ∀ j, M2.1 72 j = M1.1 72 j := fun j => f.2 _ _ (by omega)
    unfold BOr at h ⊢
    rw [e, e, e, e, e]
    exact h
  -- along one row
  have inner : ∀ (c : Nat) (j from' i : Int) (M' : mm_M), c = (gw M + 1 - i).toNat → low ≤ j → j < gh M → 0 ≤ from' → from' ≤ i → i ≤ gw M + 1 → (gw M < i → from' = i) → (i ≤ gw M → (∀ x, from' ≤ x → x < i → cfl s M low j x) ∧ ¬ cfl s M low j (from' - 1)) → mr_ok M' → fr (fun a k => a = 97 ∨ oS a k) M M' →
      (∀ x, 0 ≤ x → x < i → x < gw M → ((M'.1 97 x = 0 ∧ ¬ cfl s M low j x) ∨ (M'.1 97 x = 1 ∧ cfl s M low j x))) → (∀ x, i ≤ x → x < gw M → ((M'.1 97 x = 0 ∧ ¬ ∀ j', low ≤ j' → j' < j → cel s M x j') ∨ (M'.1 97 x = 1 ∧ ∀ j', low ≤ j' → j' < j → cel s M x j'))) →
      BOr (GB s M (fun low' j' f => low' < low ∨ (low' = low ∧ (j' < j ∨ (j' = j ∧ f < from'))))) M' →
      (∀ (l3 l4 : Int) (M1 : mm_M), mr_ok M1 → fr (fun a k => a = 97 ∨ oS a k) M M1 → (∀ x, 0 ≤ x → x < gw M → (M1.1 97 x = 0 ∧ ¬ cfl s M low j x) ∨ (M1.1 97 x = 1 ∧ cfl s M low j x)) → BOr (GB s M (fun low' j' _ => low' < low ∨ (low' = low ∧ j' < j + 1))) M1 → en_R sc 181 25 [mm_r 72, mm_i low, mm_i (j + 1), mm_i l3, mm_i l4] [] M1 (QV K X)) →
      en_R sc 181 38 [mm_r 72, mm_i low, mm_i j, mm_i from', mm_i i] [] M' (QV K X) := by
    intro c
    induction c with
    | zero =>
      intro j from' i M' hc' lj j1 f0 fi i1 hfe hfr ho' hf hcol hcol2 hB' g'
      obtain ⟨v23, v24, v88, v89⟩ := at' M' hf
      refine vc181_38 ho' ⟨by omega, by omega⟩ ?_
      rw [v23]
      refine ⟨fun _ => g' _ _ M' ho' hf (fun x x0 x1 => hcol x x0 (by omega) x1) (BO_iff hB' (fun l lo r hi => ?_)), fun q => absurd (by omega) q⟩
      constructor
      · rintro ⟨low', j', f, t, b0, b1, b2, rn, e1, e2, e3, e4, o⟩
        exact ⟨low', j', f, t, b0, b1, b2, rn, e1, e2, e3, e4, by omega⟩
      · rintro ⟨low', j', f, t, b0, b1, b2, rn, e1, e2, e3, e4, o⟩
        have := (rn.2.1 f (Int.le_refl _) rn.1).2.1
        have := hfe (by omega)
        exact ⟨low', j', f, t, b0, b1, b2, rn, e1, e2, e3, e4, by omega⟩
    | succ c ih =>
      intro j from' i M' hc' lj j1 f0 fi i1 hfe hfr ho' hf hcol hcol2 hB' g'
      obtain ⟨v23, v24, v88, v89⟩ := at' M' hf
      obtain ⟨hfr1, hfr2⟩ := hfr (by omega)
      -- offer
      have off : ∀ M2 : mm_M, mr_ok M2 → fr (fun a k => a = 97 ∨ oS a k) M M2 → ¬ cfl s M low j i → (∀ x, 0 ≤ x → x < i + 1 → x < gw M → ((M2.1 97 x = 0 ∧ ¬ cfl s M low j x) ∨ (M2.1 97 x = 1 ∧ cfl s M low j x))) → (∀ x, i + 1 ≤ x → x < gw M → ((M2.1 97 x = 0 ∧ ¬ ∀ j', low ≤ j' → j' < j → cel s M x j') ∨ (M2.1 97 x = 1 ∧ ∀ j', low ≤ j' → j' < j → cel s M x j'))) → BOr (GB s M (fun low' j' f => low' < low ∨ (low' = low ∧ (j' < j ∨ (j' = j ∧ f < from'))))) M2 → en_R sc 181 107 [mm_r 72, mm_i low, mm_i j, mm_i from', mm_i i] [] M2 (QV K X) := by
        intro M2 ho2 hf2 nc hc2 hc3 hB2
        obtain ⟨u23, u24, u88, u89⟩ := at' M2 hf2
        have start : ∀ f t, run (cfl s M low j) f t → f < i + 1 → f < from' ∨ (f = from' ∧ from' < i) := by
          intro f t rn q
          by_cases z : f < from'
          · exact Or.inl z
          · by_cases z2 : f = from'
            · refine Or.inr ⟨z2, ?_⟩
              by_cases z3 : from' = i
              · exact absurd (rn.2.1 f (Int.le_refl _) rn.1) (by rw [z2, z3]; exact nc)
              · omega
            · exfalso
              by_cases z3 : f = i
              · exact nc (by rw [← z3]; exact rn.2.1 f (Int.le_refl _) rn.1)
              · exact rn.2.2.1 (hfr1 (f - 1) (by omega) (by omega))
        have me : from' < i → run (cfl s M low j) from' i := fun q => ⟨q, hfr1, hfr2, nc⟩
        refine vc181_107 ho2 (c180 (P' := GB s M (fun low' j' f => low' < low ∨ (low' = low ∧ (j' < j ∨ (j' = j ∧ f < i + 1))))) ho2 hB2 ⟨f0, by omega⟩ ⟨by omega, by omega⟩ ⟨l0, by omega⟩ ⟨by omega, by omega⟩ (fun q => ?_) (fun q a b c d => ?_) (fun q a b c d => ?_) (fun M3 f3 B3 ho3 => ?_))
        · rw [u88, u88, u89, u89]
          have x1 := xr from' f0 (by omega)
          have x2 := xr i (by omega) (by omega)
          have x3 := ascx from' i f0 q (by omega)
          have y1 := yr low l0 (by omega)
          have y2 := yr (j + 1) (by omega) (by omega)
          have y3 := ascy low (j + 1) l0 (by omega) (by omega)
          exact ⟨x1.1, x3, x2.2, y1.1, y3, y2.2⟩
        · rw [u88, u88, u89, u89]
          constructor
          · rintro ⟨low', j', f, t, b0, b1, b2, rn, e1, e2, e3, e4, o⟩
            by_cases z : low' = low ∧ j' = j
            · rw [z.1, z.2] at rn
              rcases start f t rn (by omega) with y | ⟨y, _⟩
              · exact Or.inl ⟨low', j', f, t, b0, b1, b2, by rw [z.1, z.2]; exact rn, e1, e2, e3, e4, by omega⟩
              · rw [y] at rn e1
                have ht := run_right rn (me q)
                rw [ht] at e3
                rw [z.1] at e2
                rw [z.2] at e4
                exact Or.inr ⟨e1, e2, e3, e4⟩
            · exact Or.inl ⟨low', j', f, t, b0, b1, b2, rn, e1, e2, e3, e4, by omega⟩
          · rintro (⟨low', j', f, t, b0, b1, b2, rn, e1, e2, e3, e4, o⟩ | ⟨e1, e2, e3, e4⟩)
            · exact ⟨low', j', f, t, b0, b1, b2, rn, e1, e2, e3, e4, by omega⟩
            · exact ⟨low, j, from', i, l0, lj, j1, me q, e1, e2, e3, e4, by omega⟩
        · constructor
          · rintro ⟨low', j', f, t, b0, b1, b2, rn, e1, e2, e3, e4, o⟩
            by_cases z : low' = low ∧ j' = j
            · rw [z.1, z.2] at rn
              rcases start f t rn (by omega) with y | ⟨_, y⟩
              · exact ⟨low', j', f, t, b0, b1, b2, by rw [z.1, z.2]; exact rn, e1, e2, e3, e4, by omega⟩
              · exact absurd y q
            · exact ⟨low', j', f, t, b0, b1, b2, rn, e1, e2, e3, e4, by omega⟩
          · rintro ⟨low', j', f, t, b0, b1, b2, rn, e1, e2, e3, e4, o⟩
            exact ⟨low', j', f, t, b0, b1, b2, rn, e1, e2, e3, e4, by omega⟩
        · refine ih j (i + 1) (i + 1) M3 (by omega) lj j1 (by omega) (Int.le_refl _) (by omega) (fun _ => rfl) (fun q => ⟨fun x x0 x1 => absurd x1 (by omega), ?_⟩) ho3 (fr_trans hf2 (fr_mono f3 (fun a k z => Or.inr z))) (fun x x0 x1 x2 => ?_) (fun x x0 x1 => ?_) B3 g'
          · have e5 : i + 1 - 1 = i := by omega
            rw [e5]; exact nc
          · rw [f3.2 _ _ (by omega)]
            exact hc2 x x0 x1 x2
          · rw [f3.2 _ _ (by omega)]
            exact hc3 x x0 x1
      -- behind the column
      have aft : ∀ v : Int, (v = 0 ∧ ¬ cfl s M low j i) ∨ (v = 1 ∧ cfl s M low j i) → i < gw M → en_R sc 181 87 [mm_r 72, mm_i low, mm_i j, mm_i from', mm_i i] [mm_i v, mm_i i, mm_r 97] M' (QV K X) := by
        intro v hv iw
        have rv : v = 0 ∨ v = 1 := by
          rcases hv with z | z
          · exact Or.inl z.1
          · exact Or.inr z.1
        refine vc181_87 ho' ⟨by omega, by omega, rv, ?_⟩
        have ho2 : mr_ok (mm_putN M' 97 i v) := mr_ok_putI ho' ⟨by omega, by omega⟩
        have f2 : fr (fun a _ => a = 97) M' (mm_putN M' 97 i v) := fr_put rfl
        have e1 : (mm_putN M' 97 i v).1 97 i = v := put_eq
        have e2 : ∀ x, x ≠ i → (mm_putN M' 97 i v).1 97 x = M'.1 97 x := fun x z => put_k z
        generalize mm_putN M' 97 i v = M2 at ho2 f2 e1 e2
        have hf2 : fr (fun a k => a = 97 ∨ oS a k) M M2 := fr_trans hf (fr_mono f2 (fun a k z => Or.inl z))
        obtain ⟨u23, u24, u88, u89⟩ := at' M2 hf2
        have c2 : ∀ x, 0 ≤ x → x < i + 1 → x < gw M → ((M2.1 97 x = 0 ∧ ¬ cfl s M low j x) ∨ (M2.1 97 x = 1 ∧ cfl s M low j x)) := fun x x0 x1 x2 => by
          by_cases z : x = i
          · rw [z, e1]; exact hv
          · rw [e2 x z]; exact hcol x x0 (by omega) x2
        have c3 : ∀ x, i + 1 ≤ x → x < gw M → ((M2.1 97 x = 0 ∧ ¬ ∀ j', low ≤ j' → j' < j → cel s M x j') ∨ (M2.1 97 x = 1 ∧ ∀ j', low ≤ j' → j' < j → cel s M x j')) := fun x x0 x1 => by
          rw [e2 x (by omega)]; exact hcol2 x (by omega) x1
        refine vc181_88 ho2 ⟨by omega, by omega⟩ ?_
        rw [u23, e1]
        refine ⟨fun q => absurd q (by omega), fun _ => ⟨by omega, by omega, fun q => ?_, fun q => ?_⟩⟩
        · have yes : cfl s M low j i := by
            rcases hv with z | z
            · exact absurd z.1 q
            · exact z.2
          refine ih j from' (i + 1) M2 (by omega) lj j1 f0 (by omega) (by omega) (fun z => absurd z (by omega)) (fun _ => ⟨fun x x0 x1 => ?_, hfr2⟩) ho2 hf2 c2 c3 (B97 _ _ _ f2 hB') g'
          by_cases z : x = i
          · rw [z]; exact yes
          · exact hfr1 x x0 (by omega)
        · have noo : ¬ cfl s M low j i := by
            rcases hv with z | z
            · exact z.2
            · exact absurd (show v ≠ 0 by omega) q
          exact off M2 ho2 hf2 noo c2 c3 (B97 _ _ _ f2 hB')
      refine vc181_38 ho' ⟨by omega, by omega⟩ ?_
      rw [v23]
      refine ⟨fun q => absurd q (by omega), fun _ => ⟨fun q => ?_, fun q => ⟨by omega, by omega, fun z => ?_, fun z => ?_⟩⟩⟩
      · have ei : i = gw M := by omega
        refine vc181_88 ho' ⟨by omega, by omega⟩ ?_
        rw [v23]
        refine ⟨fun _ => off M' ho' hf (fun z => by have := z.2.1; omega) (fun x x0 x1 x2 => hcol x x0 (by omega) x2) (fun x x0 x1 => absurd x1 (by omega)) hB', fun z => absurd ei z⟩
      · refine vc181_86 ho' (aft 0 (Or.inl ⟨rfl, fun y => ?_⟩) (by omega))
        rcases hcol2 i (Int.le_refl _) (by omega) with u | u
        · exact u.2 (fun j' a b => y.2.2 j' a (by omega))
        · omega
      · have up : ∀ j', low ≤ j' → j' < j → cel s M i j' := by
          rcases hcol2 i (Int.le_refl _) (by omega) with u | u
          · exact absurd u.1 z
          · exact u.2
        have G' := gKeep_GRD (kp M' hf) g
        refine c146 ho' G' ⟨by omega, by omega⟩ ⟨by omega, by omega⟩ (fun yes _ => ⟨⟨by decide, by decide⟩, fun z => absurd z (by decide), fun _ => aft 1 (Or.inr ⟨rfl, by omega, by omega, fun j' a b => ?_⟩) (by omega)⟩) (fun noo _ => ⟨⟨by decide, by decide⟩, fun _ => vc181_86 ho' (aft 0 (Or.inl ⟨rfl, fun y => noo ((gKeep_cel (kp M' hf) i j).mpr (y.2.2 j lj (Int.le_refl _)))⟩) (by omega)), fun z => absurd rfl z⟩)
        by_cases u : j' = j
        · rw [u]; exact (gKeep_cel (kp M' hf) i j).mp yes
        · exact up j' a (by omega)
  -- row by row
  have rows : ∀ (c : Nat) (j : Int) (l3 l4 : mm_V) (M' : mm_M), c = (gh M - j).toNat → low ≤ j → j ≤ gh M → mr_ok M' → fr (fun a k => a = 97 ∨ oS a k) M M' → (∀ x, 0 ≤ x → x < gw M → ((M'.1 97 x = 0 ∧ ¬ ∀ j', low ≤ j' → j' < j → cel s M x j') ∨ (M'.1 97 x = 1 ∧ ∀ j', low ≤ j' → j' < j → cel s M x j'))) → BOr (GB s M (fun low' j' _ => low' < low ∨ (low' = low ∧ j' < j))) M' → en_R sc 181 25 [mm_r 72, mm_i low, mm_i j, l3, l4] [] M' (QV K X) := by
    intro c
    induction c with
    | zero =>
      intro j l3 l4 M' hc' lj j1 ho' hf hcol hB'
      obtain ⟨v23, v24, v88, v89⟩ := at' M' hf
      refine vc181_25 ho' ⟨by omega, by omega⟩ ?_
      rw [v24]
      refine ⟨fun _ => Or.inl ⟨rfl, k M' hf (BO_iff hB' (fun l lo r hi => ?_))⟩, fun q => absurd (by omega) q⟩
      constructor
      · rintro ⟨low', j', f, t, b0, b1, b2, rn, e1, e2, e3, e4, o⟩
        exact ⟨low', j', f, t, b0, b1, b2, rn, e1, e2, e3, e4, by omega⟩
      · rintro ⟨low', j', f, t, b0, b1, b2, rn, e1, e2, e3, e4, o⟩
        exact ⟨low', j', f, t, b0, b1, b2, rn, e1, e2, e3, e4, by omega⟩
    | succ c ih =>
      intro j l3 l4 M' hc' lj j1 ho' hf hcol hB'
      obtain ⟨v23, v24, v88, v89⟩ := at' M' hf
      refine vc181_25 ho' ⟨by omega, by omega⟩ ?_
      rw [v24]
      refine ⟨fun q => absurd q (by omega), fun _ => inner _ j 0 0 M' rfl lj (by omega) (Int.le_refl _) (Int.le_refl _) (by omega) (fun z => absurd z (by omega)) (fun _ => ⟨fun x x0 x1 => absurd x1 (by omega), fun z => by have := z.1; omega⟩) ho' hf (fun x x0 x1 => absurd x1 (by omega)) (fun x x0 x1 => hcol x x0 x1) (BO_iff hB' (fun l lo r hi => ?_)) (fun l3 l4 M1 o1 f1 c1 B1 => ih (j + 1) _ _ M1 (by omega) (by omega) (by omega) o1 f1 (fun x x0 x1 => ?_) B1)⟩
      · constructor
        · rintro ⟨low', j', f, t, b0, b1, b2, rn, e1, e2, e3, e4, o⟩
          exact ⟨low', j', f, t, b0, b1, b2, rn, e1, e2, e3, e4, by omega⟩
        · rintro ⟨low', j', f, t, b0, b1, b2, rn, e1, e2, e3, e4, o⟩
          have := (rn.2.1 f (Int.le_refl _) rn.1).1
          exact ⟨low', j', f, t, b0, b1, b2, rn, e1, e2, e3, e4, by omega⟩
      · rcases c1 x x0 x1 with u | u
        · exact Or.inl ⟨u.1, fun z => u.2 ⟨x0, x1, fun j' a b => z j' a (by omega)⟩⟩
        · exact Or.inr ⟨u.1, fun j' a b => u.2.2.2 j' a (by omega)⟩
  -- all columns
  have first : ∀ (c : Nat) (i : Int) (M' : mm_M), c = (gw M - i).toNat → 0 ≤ i → i ≤ gw M → mr_ok M' → fr (fun a _ => a = 97) M M' → (∀ x, 0 ≤ x → x < i → M'.1 97 x = 1) → en_R sc 181 2 [mm_r 72, mm_i low, mm_i i, mm_u, mm_u] [] M' (QV K X) := by
    intro c
    induction c with
    | zero =>
      intro i M' hc' i0 i1 ho' hf hx
      have hf' : fr (fun a k => a = 97 ∨ oS a k) M M' := fr_mono hf (fun a k z => Or.inl z)
      obtain ⟨v23, v24, v88, v89⟩ := at' M' hf'
      refine vc181_2 ho' ⟨by omega, by omega⟩ ?_
      rw [v23]
      refine ⟨fun _ => rows _ low _ _ M' rfl (Int.le_refl _) (by omega) ho' hf' (fun x x0 x1 => Or.inr ⟨hx x x0 (by omega), fun j' a b => absurd b (by omega)⟩) (BO_iff (B97 _ _ _ hf hB) (fun l lo r hi => ?_)), fun q => absurd (by omega) q⟩
      constructor
      · rintro ⟨low', j', f, t, b0, b1, b2, rn, e1, e2, e3, e4, o⟩
        exact ⟨low', j', f, t, b0, b1, b2, rn, e1, e2, e3, e4, by omega⟩
      · rintro ⟨low', j', f, t, b0, b1, b2, rn, e1, e2, e3, e4, o⟩
        exact ⟨low', j', f, t, b0, b1, b2, rn, e1, e2, e3, e4, by omega⟩
    | succ c ih =>
      intro i M' hc' i0 i1 ho' hf hx
      have hf' : fr (fun a k => a = 97 ∨ oS a k) M M' := fr_mono hf (fun a k z => Or.inl z)
      obtain ⟨v23, v24, v88, v89⟩ := at' M' hf'
      refine vc181_2 ho' ⟨by omega, by omega⟩ ?_
      rw [v23]
      refine ⟨fun q => absurd q (by omega), fun _ => ⟨i0, by omega, ih (i + 1) _ (by omega) (by omega) (by omega) (mr_ok_putI ho' ⟨by decide, by decide⟩) (fr_trans hf (fr_put rfl)) (fun x x0 x1 => ?_)⟩⟩
      by_cases z : x = i
      · rw [z, put_eq]
      · rw [put_k z]
        exact hx x x0 (by omega)
  exact vc181_0 ho (first _ 0 M rfl (Int.le_refl _) (by omega) ho fr_refl (fun x x0 x1 => absurd x1 (by omega)))
/-- CellAreasModel.largest -/
theorem c182 {K : Int → mm_M → Prop} {a what : Int} (ho : mr_ok M) (hW : ∀ j, 0 ≤ j → j < 8 → RWk M j) (ha : mr_rg a) (hw : mr_rg what) (k1 : ¬ isA a → ∀ M1, fr thS M M1 → M1.1 72 0 = 1 → K 0 M1) (k0 : isA a → ¬ (0 < sn (rdB M a) ∧ 0 ≤ what ∧ what ≤ 4) → ∀ M1, fr thS M M1 → M1.1 72 0 = 0 → K (-2001) M1)
    (k : isA a → 0 < sn (rdB M a) → 0 ≤ what → what ≤ 4 → ∀ M1, fr vT M M1 → M1.1 72 0 = 0 → BOr (CN (rdB M a) (sn (rdB M a)) 0) M1 → K (M1.1 72 (42 + what)) M1) : en_CI sc 182 [mm_r 72, mm_i a, mm_i what, mm_u] M K X := by
  have r0 : mr_rg 0 := ⟨by decide, by decide⟩
  have r1 : mr_rg 1 := ⟨by decide, by decide⟩
  refine vc182_0 ho (c34 ho ha (fun ga _ => ⟨r1, fun z => absurd z (by decide), fun _ => ?_⟩) (fun ga _ => ⟨r0, fun _ => ?_, fun z => absurd rfl z⟩))
  · have W := hW a ga.1 ga.2
    have w := W.1
    have n0 := w.1
    have es : sn (rdB M a) = M.1 77 a := rfl
    have hob : mr_ok (mm_putN M 72 0 0) := mr_ok_putI ho r0
    have fb : fr thS M (mm_putN M 72 0 0) := fr_put ⟨rfl, rfl⟩
    have tb : (mm_putN M 72 0 0).1 72 0 = 0 := put_eq
    refine vc182_14 ho r0 ?_
    generalize mm_putN M 72 0 0 = Mb at hob fb tb
    have e77 : Mb.1 77 a = M.1 77 a := fb.2 _ _ (by omega)
    have bad : ¬ (0 < sn (rdB M a) ∧ 0 ≤ what ∧ what ≤ 4) → en_R sc 182 42 [mm_r 72, mm_i a, mm_i what, mm_u] [] Mb (QI K X) := fun q => vc182_42 hob ⟨fun _ => Or.inl ⟨_, rfl, k0 ga q Mb fb tb⟩, fun z => absurd (by omega) z⟩
    refine ⟨fun z => absurd z (by omega), fun _ => ⟨ga.1, by have := ga.2; omega, ?_⟩⟩
    rw [e77]
    refine ⟨fun z => bad (fun y => by omega), fun z => ?_⟩
    refine c33 hob hw r0 ⟨by decide, by decide⟩ (fun gw' _ => ⟨r1, fun _ => ?_, fun y => absurd (by decide) y⟩) (fun gw' _ => ⟨r0, fun y => absurd rfl y, fun _ => bad (fun y => gw' y.2)⟩)
    have vb : fr vT M Mb := fr_mono fb thS_vT
    have Wb := vT_keep vb ga.1 ga.2 W
    have erb : rdB Mb a = rdB M a := rdB_fr fb (fun b k z => by have z' : b = 72 ∧ k = 0 := z; omega) a
    refine c145 hob ga Wb.2 (fun Mc fc Gc hoc => ?_)
    rw [erb] at Gc
    have hod : mr_ok (mm_putN Mc 72 46 0) := mr_ok_putI hoc r0
    have fd : fr (fun a k => a = 72 ∧ k = 46) Mc (mm_putN Mc 72 46 0) := fr_put ⟨rfl, rfl⟩
    have ed : (mm_putN Mc 72 46 0).1 72 46 = 0 := put_eq
    generalize mm_putN Mc 72 46 0 = Md at hod fd ed
    have Gd : GRD (rdB M a) Md := gKeep_GRD (gKeep_fr fd (fun b k z => by omega)) Gc
    have vd : fr vT M Md := fr_trans vb (fr_trans (fr_mono fc vR_vT) (fr_mono fd (fun b k z => by unfold vT vR; omega)))
    have td : Md.1 72 0 = 0 := by rw [fd.2 _ _ (by omega), fc.2 _ _ (by unfold vR; omega)]; exact tb
    have h2 := Gd.1.2.2.2.1
    have hh0 := Gd.1.2.2.1
    have loop : ∀ (c : Nat) (j : Int) (M' : mm_M), c = (gh Md - j).toNat → 0 ≤ j → j ≤ gh Md → mr_ok M' → fr (fun a k => a = 97 ∨ oS a k) Md M' → BOr (GB (rdB M a) Md (fun low' _ _ => low' < j)) M' → en_R sc 182 69 [mm_r 72, mm_i a, mm_i what, mm_i j] [] M' (QI K X) := by
      intro c
      induction c with
      | zero =>
        intro j M' hc' j0 j1 ho' hf hB
        have e24 : M'.1 72 24 = gh Md := hf.2 _ _ (by omega)
        have B' : BOr (CN (rdB M a) (sn (rdB M a)) 0) M' := BO_iff hB (fun l lo r hi => by
          rw [← GB_CN w Gd.1]
          constructor
          · rintro ⟨low', j', f, t, b0, b1, b2, rn, e1, e2, e3, e4, o⟩
            exact ⟨low', j', f, t, b0, b1, b2, rn, e1, e2, e3, e4, trivial⟩
          · rintro ⟨low', j', f, t, b0, b1, b2, rn, e1, e2, e3, e4, o⟩
            exact ⟨low', j', f, t, b0, b1, b2, rn, e1, e2, e3, e4, by omega⟩)
        have kk := k ga (by omega) gw'.1 gw'.2 M' (fr_trans vd (fr_mono hf (fun b k z => by have z' : b = 97 ∨ (b = 72 ∧ 42 ≤ k ∧ k ≤ 46) := z; unfold vT vR; omega))) (by rw [hf.2 _ _ (by omega)]; exact td) B'
        refine vc182_69 ho' ⟨by omega, by omega⟩ hw ?_
        rw [e24]
        refine ⟨fun _ => ⟨fun z0 => ⟨fun z1 => ⟨fun z2 => ⟨fun z3 => Or.inl ⟨_, rfl, ?_⟩, fun z3 => Or.inl ⟨_, rfl, ?_⟩⟩, fun z2 => Or.inl ⟨_, rfl, ?_⟩⟩, fun z1 => Or.inl ⟨_, rfl, ?_⟩⟩, fun z0 => Or.inl ⟨_, rfl, ?_⟩⟩, fun q => absurd (by omega) q⟩
        · have : what = 4 := by omega
          rw [this] at kk; exact kk
        · have : what = 3 := by omega
          rw [this] at kk; exact kk
        · have : what = 2 := by omega
          rw [this] at kk; exact kk
        · have : what = 1 := by omega
          rw [this] at kk; exact kk
        · have : what = 0 := by omega
          rw [this] at kk; exact kk
      | succ c ih =>
        intro j M' hc' j0 j1 ho' hf hB
        have e24 : M'.1 72 24 = gh Md := hf.2 _ _ (by omega)
        have gk : gKeep Md M' := gKeep_fr hf (fun b k z => by have z' : b = 97 ∨ (b = 72 ∧ 42 ≤ k ∧ k ≤ 46) := z; omega)
        have G' := gKeep_GRD gk Gd
        have tr : ∀ (ok : Int → Int → Int → Prop) l lo r hi, GB (rdB M a) M' ok l lo r hi ↔ GB (rdB M a) Md ok l lo r hi := by
          intro ok l lo r hi
          obtain ⟨g1, g2, g3, g4, g5⟩ := gk
          unfold GB cfl cel
          rw [g1, g2, g3, g4]
        refine vc182_69 ho' ⟨by omega, by omega⟩ hw ?_
        rw [e24]
        refine ⟨fun q => absurd q (by omega), fun _ => c181 ho' w G' (by omega) j0 (by show j < M'.1 72 24; omega) (BO_iff hB (fun l lo r hi => (tr _ l lo r hi).symm)) (fun M1 f1 B1 ho1 => ?_)⟩
        exact ih (j + 1) M1 (by omega) (by omega) (by omega) ho1 (fr_trans hf f1) (BO_iff B1 (fun l lo r hi => tr _ l lo r hi))
    refine loop _ 0 Md rfl (Int.le_refl _) hh0 hod fr_refl (Or.inl ⟨ed, fun l lo r hi => ?_⟩)
    rintro ⟨low', j', f, t, b0, b1, b2, rn, e1, e2, e3, e4, o⟩
    omega
  · refine vc182_14 ho r1 ⟨fun _ => vc182_42 (mr_ok_putI ho r1) ⟨fun q => absurd (put_eq (M := M) (a := 72) (k := 0) (x := 1)) (fun e => by omega), fun _ => Or.inl ⟨_, rfl, k1 ga _ (fr_put ⟨rfl, rfl⟩) put_eq⟩⟩, fun q => absurd (put_eq (M := M) (a := 72) (k := 0) (x := 1)) (fun e => by omega)⟩
end
