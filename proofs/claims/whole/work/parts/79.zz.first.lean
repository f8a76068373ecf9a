/-! ===== where a loop begins ===== -/
section
variable {C : Int → Int → Bool}
theorem sti_stp (u : Nat) (p : wlk) : sti C u (stp C p) = stp C (sti C u p) := by
  have a : sti C (u + 1) p = sti C u (stp C p) := rfl
  rw [← a, sti_last]
theorem orb_stp {p q : wlk} {m : Nat} (m0 : 0 < m) (h : sti C m p = p) : orb C (stp C p) q ↔ orb C p q := by
  constructor
  · rintro ⟨u, e⟩
    exact ⟨u + 1, e⟩
  · rintro ⟨u, e⟩
    obtain ⟨v, rfl⟩ : ∃ v, m = v + 1 := ⟨m - 1, by omega⟩
    refine ⟨v + u, ?_⟩
    have a : sti C (v + 1) p = sti C v (stp C p) := rfl
    rw [sti_add, ← a, h, e]
theorem orb_sym {p q : wlk} {m : Nat} (m0 : 0 < m) (h : sti C m p = p) (o : orb C p q) : orb C q p := by
  obtain ⟨u, e⟩ := o
  have e2 := sti_mod h u
  rw [e] at e2
  refine ⟨m - u % m, ?_⟩
  have lt := Nat.mod_lt u m0
  rw [e2, ← sti_add]
  have x : u % m + (m - u % m) = m := by omega
  rw [x, h]
theorem orb_tr {p q r : wlk} (h : orb C p q) (g : orb C q r) : orb C p r := by
  obtain ⟨u, e⟩ := h
  obtain ⟨v, e'⟩ := g
  exact ⟨u + v, by rw [sti_add, e, e']⟩
theorem orb_isS {p q : wlk} (hp : isS C p) (h : orb C p q) : isS C q := by
  obtain ⟨u, e⟩ := h
  rw [← e]
  exact sti_isS hp u
theorem orb_cyc {p q : wlk} {m : Nat} (h : sti C m p = p) (o : orb C p q) : sti C m q = q := by
  obtain ⟨u, e⟩ := o
  rw [← e, ← sti_add, Nat.add_comm, sti_add, h]
end
section
variable {s : sh} {M : mm_M}
theorem least_orb {p : wlk} (hp : isS (Cg s M) p) : ∃ q, orb (Cg s M) p q ∧ ∀ q', orb (Cg s M) p q' → sx (gw M) q ≤ sx (gw M) q' := by
  have pos : ∀ q, isS (Cg s M) q → 0 ≤ sx (gw M) q := fun q hq => by
    have r := isS_rg hq
    have : 0 ≤ q.2.1 * (gw M + 1) := Int.mul_nonneg r.2.2.1 (by omega)
    unfold sx
    have := hq.1
    omega
  have key : ∀ (c : Nat) (q : wlk), orb (Cg s M) p q → (sx (gw M) q).toNat ≤ c → ∃ q, orb (Cg s M) p q ∧ ∀ q', orb (Cg s M) p q' → sx (gw M) q ≤ sx (gw M) q' := by
    intro c
    induction c with
    | zero =>
      intro q o hc
      refine ⟨q, o, fun q' o' => ?_⟩
      have := pos q (orb_isS hp o)
      have := pos q' (orb_isS hp o')
      omega
    | succ c ih =>
      intro q o hc
      by_cases z : ∀ q', orb (Cg s M) p q' → sx (gw M) q ≤ sx (gw M) q'
      · exact ⟨q, o, z⟩
      · have ⟨q', z'⟩ := Classical.not_forall.mp z
        have ⟨o', z2⟩ := Classical.not_imp.mp z'
        have := pos q (orb_isS hp o)
        have := pos q' (orb_isS hp o')
        exact ih q' o' (by omega)
  exact key _ p ⟨0, rfl⟩ (Nat.le_refl _)
theorem first_ok (h : wf s) (g : GL s M) {f : Int} {P : wlk} {G : wlk → Prop} (v : VS s M f P) (hc : clo (Cg s M) G) (hn : ¬ G P) {m : Nat} (m0 : 0 < m) (hm : sti (Cg s M) m P = P) (ho : ∀ e p, VS s M e p → ¬ G p → f ≤ e) :
    ∃ q, orb (Cg s M) P q ∧ STp s M q ∧ EDG s M q.1 q.2.1 f ∧ (∀ q', orb (Cg s M) P q' → sx (gw M) q ≤ sx (gw M) q') ∧ (f % 2 = 0 → q = stp (Cg s M) P ∧ trn (Cg s M) P 0) ∧ (f % 2 = 1 → q = P) := by
  obtain ⟨hP, hPw, f0, f1⟩ := VS_isS h g v
  obtain ⟨q, oq, lq⟩ := least_orb hP
  have hq := orb_isS hP oq
  have st : STp s M q := new_start (G := fun x => ¬ orb (Cg s M) P x) (fun x hx => not_congr (orb_clo hP m0 hm hx)) hq (fun z => z oq) (fun q' hq' z o' => by
    have := lq q' o'
    omega)
  obtain ⟨⟨f', ed, par⟩, j0, j1⟩ := STp_edge h g st
  have rq := isS_rg hq
  -- the edge at q is on the way
  have vf : ∃ V, VS s M f' V ∧ orb (Cg s M) P V ∧ (f' % 2 = 0 → stp (Cg s M) V = q ∧ V.2.2 = 3 ∧ q.2.2 = 0) ∧ (f' % 2 = 1 → V = q) := by
    obtain ⟨i, j, x⟩ := q
    rcases st with ⟨e, a, b⟩ | ⟨e, a, b⟩
    · have e' : x = 0 := e
      subst e'
      have par' : f' % 2 = 0 := by
        have : f' % 2 = 0 % 2 := par
        omega
      have se : Cg s M i (j - 1) = false := by
        have y : ldc (Cg s M) i j 0 = true := hq.2
        have y2 := (Bool.and_eq_true_iff.mp y).2
        revert y2
        cases Cg s M i (j - 1) <;> simp
      have sp : stp (Cg s M) (i, j + 1, 3) = (i, j, 0) := by
        rw [stp_at (x := i) (y := j) rfl (by show j + 1 - 1 = j; omega) (Cg_t a) (Cg_f b) rfl se]
        cases Cg s M (i - 1) (j - 1) <;> rfl
      have V1 : VS s M f' (i, j + 1, 3) := ⟨i, j, rq.1, rq.2.1, j0, j1, ed, Or.inl ⟨par', rfl⟩⟩
      refine ⟨_, V1, ?_, fun _ => ⟨sp, rfl, rfl⟩, fun z => absurd z (by omega)⟩
      rw [← orb_clo hP m0 hm (VS_isS h g V1).1, sp]
      exact oq
    · have e' : x = 1 := e
      subst e'
      have par' : f' % 2 = 1 := by
        have : f' % 2 = 1 % 2 := par
        omega
      exact ⟨_, ⟨i, j, rq.1, rq.2.1, j0, j1, ed, Or.inr ⟨par', rfl⟩⟩, oq, fun z => absurd z (by omega), fun _ => rfl⟩
  obtain ⟨V, hV, oV, V0, V1⟩ := vf
  have le1 : f ≤ f' := ho f' V hV (fun z => hn (by
    obtain ⟨u, e⟩ := oV
    rw [← e] at z
    exact (clo_sti hc hP u).mp z))
  have ef : f' = f := by
    obtain ⟨i, j, i0, i1, k0, k1, ed2, hp⟩ := v
    have le : q.2.1 < j ∨ (q.2.1 = j ∧ q.1 ≤ i) := by
      have : ∃ x : wlk, orb (Cg s M) P x ∧ x.1 = i ∧ x.2.1 = j := by
        rcases hp with ⟨_, e⟩ | ⟨_, e⟩
        · refine ⟨stp (Cg s M) P, ⟨1, rfl⟩, ?_, ?_⟩
          · rw [e]; rfl
          · rw [e]; show j + 1 - 1 = j; omega
        · exact ⟨P, ⟨0, rfl⟩, by rw [e], by rw [e]⟩
      obtain ⟨x, ox, x1, x2⟩ := this
      have l := lq x ox
      have hx := orb_isS hP ox
      have rx := isS_rg hx
      by_cases z : sx (gw M) q = sx (gw M) x
      · have e := sx_inj rq.1 rq.2.1 rx.1 rx.2.1 hq.1 hx.1 z
        rw [e, x1, x2]
        exact Or.inr ⟨rfl, Int.le_refl _⟩
      · have := (sx_lt rq.1 rq.2.1 rx.1 rx.2.1 hq.1 hx.1).mp (show sx (gw M) q < sx (gw M) x by omega)
        rw [x1, x2] at this
        omega
    by_cases z : q.2.1 < j ∨ (q.2.1 = j ∧ q.1 < i)
    · have := EDG_lt h g rq.1 rq.2.1 j0 j1 i0 i1 k0 k1 ed ed2 z
      omega
    · have e1 : q.2.1 = j := by omega
      have e2 : q.1 = i := by omega
      rw [e1, e2] at ed
      exact EDG_one h ed ed2
  rw [ef] at hV V0 V1 ed
  have eV := VS_fun h g hV v
  rw [eV] at V0 V1
  refine ⟨q, oq, st, ed, lq, fun z => ⟨(V0 z).1.symm, ?_⟩, fun z => (V1 z).symm⟩
  unfold trn
  have a : sti (Cg s M) (0 + 1) P = stp (Cg s M) P := rfl
  rw [a, (V0 z).1, (V0 z).2.2]
  show P.2.2 ≠ 0
  rw [(V0 z).2.1]
  decide
end
/-- a loop from p in m steps and its corners, from base on -/
def LPC (s : sh) (Mg : mm_M) (p : wlk) (m : Nat) (base base' : Int) (arr : Int → Int) : Prop := 0 < m ∧ sti (Cg s Mg) m p = p ∧ (∀ u, 0 < u → u < m → sti (Cg s Mg) u p ≠ p) ∧ base' = base + tcn (Cg s Mg) p m ∧ arr base = pq Mg p ∧ ∀ u, u < m → trn (Cg s Mg) p u → tcn (Cg s Mg) p u + 1 < tcn (Cg s Mg) p m → arr (base + tcn (Cg s Mg) p u + 1) = pq Mg (sti (Cg s Mg) (u + 1) p)
section
variable {s : sh} {Mg : mm_M}
theorem LPC_keep {p : wlk} {m : Nat} {b b' : Int} {a a' : Int → Int} (h : LPC s Mg p m b b' a) (t0 : b < b') (e : ∀ j, j < b' → a' j = a j) : LPC s Mg p m b b' a' := by
  obtain ⟨h1, h2, h3, h4, h5, h6⟩ := h
  exact ⟨h1, h2, h3, h4, by rw [e b t0]; exact h5, fun u a b c => by rw [e _ (by omega)]; exact h6 u a b c⟩
/-- a walk with a turn at its beginning, counted from behind it -/
theorem LPC_even {P : wlk} (hP : isS (Cg s Mg) P) {m : Nat} {b : Int} {a : Int → Int} (m0 : 0 < m) (hm : sti (Cg s Mg) m P = P) (nr : ∀ u, 0 < u → u < m → sti (Cg s Mg) u P ≠ P) (t0 : trn (Cg s Mg) P 0) (c : ∀ u, u < m → trn (Cg s Mg) P u → a (b + tcn (Cg s Mg) P u) = pq Mg (sti (Cg s Mg) (u + 1) P)) : LPC s Mg (stp (Cg s Mg) P) m b (b + tcn (Cg s Mg) P m) a := by
  have t1 : tcn (Cg s Mg) P 1 = 1 := by
    rw [tcn_1 t0]
    show (0 : Int) + 1 = 1
    rfl
  have tm : trn (Cg s Mg) P m := by
    unfold trn at t0 ⊢
    have x1 : sti (Cg s Mg) (m + 1) P = stp (Cg s Mg) P := by rw [sti_last, hm]
    rw [x1, hm]
    exact t0
  have cm : tcn (Cg s Mg) (stp (Cg s Mg) P) m = tcn (Cg s Mg) P m := by
    have x := tcn_shift (C := Cg s Mg) (p := P) m
    rw [tcn_1 tm, t1] at x
    omega
  refine ⟨m0, by rw [sti_stp, hm], fun u u0 u1 e => nr u u0 u1 ?_, by rw [cm], ?_, fun u u1 tu lt => ?_⟩
  · rw [sti_stp] at e
    exact stp_inj (sti_isS hP u) hP e
  · have x := c 0 m0 t0
    have y : b + tcn (Cg s Mg) P 0 = b := by show b + 0 = b; omega
    rw [y] at x
    exact x
  · have tu' := (trn_shift u).mp tu
    have x := tcn_shift (C := Cg s Mg) (p := P) u
    rw [t1] at x
    by_cases z : u + 1 < m
    · have y := c (u + 1) z tu'
      have e : b + tcn (Cg s Mg) P (u + 1) = b + tcn (Cg s Mg) (stp (Cg s Mg) P) u + 1 := by omega
      rw [e] at y
      exact y
    · exfalso
      have e : m = u + 1 := by omega
      rw [e, tcn_1 tu] at lt
      omega
/-- there is a turn in it -/
theorem LPC_pos {p : wlk} {m : Nat} {b b' : Int} {a : Int → Int} (h : LPC s Mg p m b b' a) (w : p.2.2 = 0 ∨ p.2.2 = 1) (hp : isS (Cg s Mg) p) (lst : ∀ q', orb (Cg s Mg) p q' → sx (gw Mg) p ≤ sx (gw Mg) q') : b < b' := by
  obtain ⟨h1, h2, h3, h4, h5, h6⟩ := h
  by_cases z : b < b'
  · exact z
  · exfalso
    have t0 : tcn (Cg s Mg) p m = 0 := by
      have := tcn_ge (C := Cg s Mg) (p := p) m
      omega
    have nt : ∀ u, u < m → ¬ trn (Cg s Mg) p u := fun u u1 t => by
      have := tcn_lt u1 t
      have := tcn_ge (C := Cg s Mg) (p := p) u
      omega
    have wy : ∀ u, u ≤ m → (sti (Cg s Mg) u p).2.2 = p.2.2 := by
      intro u
      induction u with
      | zero => intro _; rfl
      | succ u ih =>
        intro hu
        have a := ih (by omega)
        have b : (sti (Cg s Mg) u p).2.2 = (sti (Cg s Mg) (u + 1) p).2.2 := Classical.byContradiction (nt u (by omega))
        rw [← b, a]
    -- it goes on and on
    have far : ∀ u, u ≤ m → (sti (Cg s Mg) u p).1 + (sti (Cg s Mg) u p).2.1 = p.1 + p.2.1 + u := by
      intro u
      induction u with
      | zero => intro _; show p.1 + p.2.1 = p.1 + p.2.1 + 0; omega
      | succ u ih =>
        intro hu
        have a := ih (by omega)
        have b := wy u (by omega)
        rw [sti_last]
        show goX (sti (Cg s Mg) u p) + goY (sti (Cg s Mg) u p) = _
        unfold goX goY
        rw [b]
        rcases w with w | w
        · rw [w, if_pos rfl, if_neg (by decide), if_neg (by decide)]
          omega
        · rw [w, if_neg (by decide), if_neg (by decide), if_pos rfl]
          omega
    have := far m (Nat.le_refl _)
    rw [h2] at this
    omega
end
