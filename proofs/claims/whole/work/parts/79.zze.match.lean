/-! ===== both number the loops alike ===== -/
theorem asc_half {f g : Int → Int} {n m : Int} (hf : ∀ i j, 0 ≤ i → i < j → j < n → f i < f j) (hg : ∀ i j, 0 ≤ i → i < j → j < m → g i < g j) (fg : ∀ i, 0 ≤ i → i < n → ∃ j, 0 ≤ j ∧ j < m ∧ g j = f i) (gf : ∀ i, 0 ≤ i → i < m → ∃ j, 0 ≤ j ∧ j < n ∧ f j = g i) : ∀ i, 0 ≤ i → i < n → i < m ∧ f i = g i := by
  have key : ∀ (b c : Nat), c < b → (c : Int) < n → (c : Int) < m ∧ f c = g c := by
    intro b
    induction b with
    | zero => intro c h; exact absurd h (by omega)
    | succ b ih =>
      intro c cb cn
      obtain ⟨j, j0, j1, j2⟩ := fg c (by omega) cn
      have cj : (c : Int) ≤ j := by
        by_cases z : (c : Int) ≤ j
        · exact z
        · exfalso
          have e : ((j.toNat : Nat) : Int) = j := by omega
          have x := ih j.toNat (by omega) (by omega)
          rw [e] at x
          have y := hf j c j0 (by omega) cn
          omega
      have cm : (c : Int) < m := by omega
      obtain ⟨i, i0, i1, i2⟩ := gf c (by omega) cm
      have ci : (c : Int) ≤ i := by
        by_cases z : (c : Int) ≤ i
        · exact z
        · exfalso
          have e : ((i.toNat : Nat) : Int) = i := by omega
          have x := ih i.toNat (by omega) (by omega)
          rw [e] at x
          have y := hg i c i0 (by omega) cm
          omega
      have l1 : f c ≤ f i := by
        by_cases z : (c : Int) = i
        · rw [z]; exact Int.le_refl _
        · have := hf c i (by omega) (by omega) i1
          omega
      have l2 : g c ≤ g j := by
        by_cases z : (c : Int) = j
        · rw [z]; exact Int.le_refl _
        · have := hg c j (by omega) (by omega) j1
          omega
      exact ⟨cm, by omega⟩
  intro i i0 i1
  have e : ((i.toNat : Nat) : Int) = i := by omega
  have x := key (i.toNat + 1) i.toNat (by omega) (by omega)
  rw [e] at x
  exact x
theorem asc_same {f g : Int → Int} {n m : Int} (n0 : 0 ≤ n) (m0 : 0 ≤ m) (hf : ∀ i j, 0 ≤ i → i < j → j < n → f i < f j) (hg : ∀ i j, 0 ≤ i → i < j → j < m → g i < g j) (fg : ∀ i, 0 ≤ i → i < n → ∃ j, 0 ≤ j ∧ j < m ∧ g j = f i) (gf : ∀ i, 0 ≤ i → i < m → ∃ j, 0 ≤ j ∧ j < n ∧ f j = g i) : n = m ∧ ∀ i, 0 ≤ i → i < n → f i = g i := by
  have a := asc_half hf hg fg gf
  have b := asc_half hg hf gf fg
  refine ⟨?_, fun i i0 i1 => (a i i0 i1).2⟩
  by_cases z : n < m
  · have := (b n n0 z).1
    omega
  · by_cases z2 : m < n
    · have := (a m m0 z2).1
      omega
    · omega
section
variable {s s' : sh} {M M' : mm_M}
theorem eqv_cols (w : wf s) (q : eqv s s') (v : Int) : cols s v → cols s' v := by
  rintro ⟨k, k0, k1, k2⟩
  have e := q.2.2.2 k k0 k1
  have e1 := q.2.2.1 (sn s) w.1 (Int.le_refl _)
  refine ⟨k, k0, ?_, ?_⟩
  · rw [← q.1, ← e1]; exact k1
  · rw [← e.1, ← e.2]; exact k2
theorem eqv_ends (q : eqv s s') (v : Int) : ends s v → ends s' v := by
  rintro ⟨i, i0, i1, i2⟩
  have e := q.2.1 i i0 i1
  refine ⟨i, i0, ?_, ?_⟩
  · rw [← q.1]; exact i1
  · rw [← e.1, ← e.2]; exact i2
theorem GL_same (w : wf s) (q : eqv s s') (g : GL s M) (g' : GL s' M') : gw M' = gw M ∧ gh M' = gh M ∧ (0 < sn s → (∀ i, 0 ≤ i → i ≤ gw M → gx M' i = gx M i) ∧ ∀ j, 0 ≤ j → j ≤ gh M → gy M' j = gy M j) := by
  have w' := eqv_wf w q
  have q' := eqv_symm w q
  have n1 := q.1
  rcases g.2.2.2.2.2.2 with z | ⟨z0, z1, z2, z3, z4⟩
  · rcases g'.2.2.2.2.2.2 with y | y
    · exact ⟨by omega, by omega, fun h => absurd h (by omega)⟩
    · omega
  · rcases g'.2.2.2.2.2.2 with y | ⟨y0, y1, y2, y3, y4⟩
    · omega
    · have A := asc_same (f := gx M) (g := gx M') (n := gw M + 1) (m := gw M' + 1) (by omega) (by omega) (fun i j a b c => g.2.2.2.2.1 i j a b (by omega)) (fun i j a b c => g'.2.2.2.2.1 i j a b (by omega)) (fun i i0 i1 => by
        obtain ⟨j, j0, j1, j2⟩ := (y3 _).mp (eqv_cols w q _ ((z3 _).mpr ⟨i, i0, by omega, rfl⟩))
        exact ⟨j, j0, by omega, j2⟩) (fun i i0 i1 => by
        obtain ⟨j, j0, j1, j2⟩ := (z3 _).mp (eqv_cols w' q' _ ((y3 _).mpr ⟨i, i0, by omega, rfl⟩))
        exact ⟨j, j0, by omega, j2⟩)
      have B := asc_same (f := gy M) (g := gy M') (n := gh M + 1) (m := gh M' + 1) (by omega) (by omega) (fun i j a b c => g.2.2.2.2.2.1 i j a b (by omega)) (fun i j a b c => g'.2.2.2.2.2.1 i j a b (by omega)) (fun i i0 i1 => by
        obtain ⟨j, j0, j1, j2⟩ := (y4 _).mp (eqv_ends q _ ((z4 _).mpr ⟨i, i0, by omega, rfl⟩))
        exact ⟨j, j0, by omega, j2⟩) (fun i i0 i1 => by
        obtain ⟨j, j0, j1, j2⟩ := (z4 _).mp (eqv_ends q' _ ((y4 _).mpr ⟨i, i0, by omega, rfl⟩))
        exact ⟨j, j0, by omega, j2⟩)
      exact ⟨by have := A.1; omega, by have := B.1; omega, fun _ => ⟨fun i i0 i1 => (A.2 i i0 (by omega)).symm, fun j j0 j1 => (B.2 j j0 (by omega)).symm⟩⟩
theorem cel_same (w : wf s) (q : eqv s s') (g : GL s M) (g' : GL s' M') (i j : Int) : cel s M i j ↔ cel s' M' i j := by
  have S := GL_same w q g g'
  unfold cel
  rw [S.1, S.2.1]
  by_cases z : 0 ≤ i ∧ i < gw M ∧ 0 ≤ j ∧ j < gh M
  · obtain ⟨a, b, c, d⟩ := z
    have n0 : 0 < sn s := by
      rcases g.2.2.2.2.2.2 with z | z
      · omega
      · exact z.1
    have T := S.2.2 n0
    rw [T.1 i a (by omega), T.2 j c (by omega), eqv_has w q]
  · constructor
    · rintro ⟨a, b, c, d, _⟩
      exact absurd ⟨a, b, c, d⟩ z
    · rintro ⟨a, b, c, d, _⟩
      exact absurd ⟨a, b, c, d⟩ z
theorem Cg_same (w : wf s) (q : eqv s s') (g : GL s M) (g' : GL s' M') : Cg s' M' = Cg s M := by
  funext i j
  have x := cel_same w q g g' i j
  cases h : Cg s M i j
  · exact Cg_f (fun z => (Cg_no.mp h) (x.mpr z))
  · exact Cg_t (x.mp (Cg_iff.mp h))
theorem VS_mv (w : wf s) (q : eqv s s') (g : GL s M) (g' : GL s' M') {e : Int} {p : wlk} (v : VS s M e p) : VS s' M' e p := by
  obtain ⟨i, j, i0, i1, j0, j1, ed, hp⟩ := v
  have S := GL_same w q g g'
  obtain ⟨b, k, r, a, hk⟩ := ed
  have n0 : 0 < sn s := by have := a.1; have := a.2.1; omega
  have T := S.2.2 n0
  have kr := inP_rg0 w a
  have ek := q.2.2.2 k kr.1 kr.2
  have eb := q.2.1 b a.1 a.2.1
  have s0 := q.2.2.1 b a.1 (by have := a.2.1; omega)
  have s1 := q.2.2.1 (b + 1) (by have := a.1; omega) (by have := a.2.1; omega)
  refine ⟨i, j, i0, by rw [S.1]; exact i1, j0, by rw [S.2.1]; exact j1, ⟨b, k, ⟨?_, ?_⟩, ⟨a.1, by rw [← q.1]; exact a.2.1, by rw [← s0]; exact a.2.2.1, by rw [← s1]; exact a.2.2.2⟩, ?_⟩, hp⟩
  · rw [T.2 j j0 (by omega), ← eb.1]; exact r.1
  · rw [T.2 (j + 1) (by omega) (by omega), ← eb.2]; exact r.2
  · rw [T.1 i i0 i1, ← ek.1, ← ek.2]; exact hk
theorem pq_same (w : wf s) (q : eqv s s') (g : GL s M) (g' : GL s' M') {p : wlk} (hp : isS (Cg s M) p) : pq M' p = pq M p := by
  have S := GL_same w q g g'
  have T := S.2.2 (isS_sn hp g)
  have r := isS_rg hp
  unfold pq
  rw [T.1 _ r.1 r.2.1, T.2 _ r.2.2.1 r.2.2.2.1]
theorem STp_same (w : wf s) (q : eqv s s') (g : GL s M) (g' : GL s' M') {p : wlk} (h : STp s M p) : STp s' M' p := by
  have x := cel_same w q g g'
  unfold STp at *
  rw [← x, ← x]
  exact h
theorem LLg_same (w : wf s) (q : eqv s s') (g : GL s M) (g' : GL s' M') {Mc : mm_M} (h : LLg s M Mc) : LLg s' M' Mc := by
  obtain ⟨st, h1, h2, h3, h4, h5, h6, h7, h8⟩ := h
  have S := GL_same w q g g'
  have C := Cg_same w q g g'
  have w' := eqv_wf w q
  have q' := eqv_symm w q
  refine ⟨st, h1, h2, h3, h4, h5, ⟨fun l l0 l1 => ?_, fun l l' l0 l1 l2 => ?_⟩, fun l l0 l1 => ?_, fun e p v => ?_⟩
  · rw [C, S.1]
    obtain ⟨a, b, c⟩ := h6.1 l l0 l1
    exact ⟨a, STp_same w q g g' b, c⟩
  · rw [S.1]
    exact h6.2 l l' l0 l1 l2
  · obtain ⟨m, m0, m1, m2, m3, m4, m5⟩ := h7 l l0 l1
    have hp := (h6.1 l l0 l1).1
    refine ⟨m, ?_⟩
    unfold LPC
    rw [C]
    exact ⟨m0, m1, m2, m3, by rw [pq_same w q g g' hp]; exact m4, fun u a b c => by rw [pq_same w q g g' (sti_isS hp (u + 1))]; exact m5 u a b c⟩
  · have v' := VS_mv w' q' g' g v
    rw [C]
    exact h8 e p v'
end
/-- the reference's numbers are the class's -/
def MTC (s : sh) (Mr Mc : mm_M) : Prop := Mc.1 17 0 = Mr.1 72 29 ∧ 0 ≤ Mc.1 17 0 ∧ Mc.1 17 0 ≤ 400 ∧ Mc.1 17 1 = Mc.1 19 (Mc.1 17 0) ∧ Mc.1 19 0 = 0 ∧ Mc.1 17 1 ≤ 1600 ∧ (∀ l, 0 ≤ l → l < Mc.1 17 0 → ∃ m, CLP s Mr Mc l (st3 Mr l) m) ∧
  (∀ e p, VS s Mr e p → 0 ≤ Mc.1 18 e ∧ Mc.1 18 e < Mc.1 17 0 ∧ ∀ l, 0 ≤ l → l < Mc.1 17 0 → (Mc.1 18 e = l ↔ orb (Cg s Mr) (st3 Mr l) p))
theorem LLg_match {s : sh} {Mr Mc : mm_M} (w : wf s) (F : FLS s Mr) (h : LLg s Mr Mc) : MTC s Mr Mc := by
  obtain ⟨st, h1, h2, h3, h4, h5, h6, h7, h8⟩ := h
  obtain ⟨G, f1, f2, f3, f4, f5⟩ := F
  have g := G.1
  -- two least sides of one loop
  have one : ∀ p q, isS (Cg s Mr) p → isS (Cg s Mr) q → (∃ m, 0 < m ∧ sti (Cg s Mr) m p = p) → orb (Cg s Mr) p q → (∀ x, orb (Cg s Mr) p x → sx (gw Mr) p ≤ sx (gw Mr) x) → (∀ x, orb (Cg s Mr) q x → sx (gw Mr) q ≤ sx (gw Mr) x) → p = q := fun p q hp hq ⟨m, m0, hm⟩ o lp lq => by
    have a := lp q o
    have b := lq p (orb_sym m0 hm o)
    exact side_inj hp hq (by omega)
  have S := asc_same (f := fun l => sx (gw Mr) (st l)) (g := fun l => sx (gw Mr) (st3 Mr l)) (n := Mc.1 17 0) (m := Mr.1 72 29) h1 f1 (fun i j a b c => h6.2 i j a b c) (fun i j a b c => f4 i j a b c) (fun l l0 l1 => by
    obtain ⟨a, b, c⟩ := h6.1 l l0 l1
    obtain ⟨l', k0, k1, o⟩ := f5 (st l) a
    obtain ⟨a', b', c', d'⟩ := f3 l' k0 k1
    have e := one _ _ a' a c' o d' c
    exact ⟨l', k0, k1, by show sx _ (st3 Mr l') = sx _ (st l); rw [e]⟩) (fun l l0 l1 => by
    obtain ⟨a, b, c, d⟩ := f3 l l0 l1
    obtain ⟨⟨f, ed, par⟩, j0, j1⟩ := STp_edge w g b
    have r := isS_rg a
    -- the edge at the start is in the loop
    have vf : ∃ V, VS s Mr f V ∧ orb (Cg s Mr) (st3 Mr l) V := by
      generalize st3 Mr l = p at *
      obtain ⟨i, j, x⟩ := p
      rcases b with ⟨e, y, z⟩ | ⟨e, y, z⟩
      · have e' : x = 0 := e
        subst e'
        have par' : f % 2 = 0 := by
          have : f % 2 = 0 % 2 := par
          omega
        have se : Cg s Mr i (j - 1) = false := by
          have y : ldc (Cg s Mr) i j 0 = true := a.2
          have y2 := (Bool.and_eq_true_iff.mp y).2
          revert y2
          cases Cg s Mr i (j - 1) <;> simp
        have sp : stp (Cg s Mr) (i, j + 1, 3) = (i, j, 0) := by
          rw [stp_at (x := i) (y := j) rfl (by show j + 1 - 1 = j; omega) (Cg_t y) (Cg_f z) rfl se]
          cases Cg s Mr (i - 1) (j - 1) <;> rfl
        have V1 : VS s Mr f (i, j + 1, 3) := ⟨i, j, r.1, r.2.1, j0, j1, ed, Or.inl ⟨par', rfl⟩⟩
        refine ⟨_, V1, ?_⟩
        obtain ⟨m, m0, hm⟩ := c
        rw [← orb_clo a m0 hm (VS_isS w g V1).1, sp]
        exact ⟨0, rfl⟩
      · have e' : x = 1 := e
        subst e'
        have par' : f % 2 = 1 := by
          have : f % 2 = 1 % 2 := par
          omega
        exact ⟨_, ⟨i, j, r.1, r.2.1, j0, j1, ed, Or.inr ⟨par', rfl⟩⟩, ⟨0, rfl⟩⟩
    obtain ⟨V, hV, oV⟩ := vf
    obtain ⟨k0, k1, k2⟩ := h8 f V hV
    have o := (k2 _ k0 k1).mp rfl
    obtain ⟨a', b', c'⟩ := h6.1 _ k0 k1
    obtain ⟨m, m0, hm, _⟩ := h7 _ k0 k1
    obtain ⟨m2, m20, hm2⟩ := c
    have e := one (st (Mc.1 18 f)) (st3 Mr l) a' a ⟨m, m0, hm⟩ (orb_tr o (orb_sym m20 hm2 oV)) c' d
    exact ⟨Mc.1 18 f, k0, k1, by show sx _ (st (Mc.1 18 f)) = sx _ (st3 Mr l); rw [e]⟩)
  have E : ∀ l, 0 ≤ l → l < Mc.1 17 0 → st l = st3 Mr l := fun l l0 l1 => by
    have e := S.2 l l0 l1
    have f := f3 l l0 (by have := S.1; omega)
    exact side_inj (h6.1 l l0 l1).1 f.1 e
  have up : ∀ l, 0 ≤ l → l < Mc.1 17 0 → Mc.1 19 l ≤ Mc.1 19 (l + 1) := fun l l0 l1 => by
    obtain ⟨m, _, _, _, q, _⟩ := h7 l l0 l1
    have := tcn_ge (C := Cg s Mr) (p := st l) m
    omega
  refine ⟨S.1, h1, h2, h3, h4, h5, fun l l0 l1 => ?_, fun e p v => ?_⟩
  · obtain ⟨m, L⟩ := h7 l l0 l1
    obtain ⟨a, b, c⟩ := h6.1 l l0 l1
    have lo := stair up (Int.le_refl 0) l0 (by omega)
    have hi := stair up (show 0 ≤ l + 1 by omega) (show l + 1 ≤ Mc.1 17 0 by omega) (Int.le_refl _)
    have tl := last_turn a b c L.1 L.2.1
    rw [E l l0 l1] at a tl L
    exact ⟨m, w, g, l0, by omega, by omega, by omega, a, tl, L⟩
  · obtain ⟨a, b, c⟩ := h8 e p v
    refine ⟨a, b, fun l l0 l1 => ?_⟩
    rw [← E l l0 l1]
    exact c l l0 l1
