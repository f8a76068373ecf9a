/-! ===== what the class reads off its corners ===== -/
def cX (M : mm_M) (c : Int) : Int := M.1 20 c % 2001 + (-1000)
def cY (M : mm_M) (c : Int) : Int := M.1 20 c / 2001 + (-1000)
def nxt (M : mm_M) (l c : Int) : Int := if M.1 19 (l + 1) ≤ c + 1 then M.1 19 l else c + 1
def dLen (M : mm_M) (l c : Int) : Int := max (cX M (nxt M l c) - cX M c) (0 - (cX M (nxt M l c) - cX M c)) + max (cY M (nxt M l c) - cY M c) (0 - (cY M (nxt M l c) - cY M c))
def dRnd (M : mm_M) (l c : Int) : Int := cX M c * cY M (nxt M l c) - cX M (nxt M l c) * cY M c
def clenF (M : mm_M) (l : Int) : Int := sumU (fun k => dLen M l (M.1 19 l + k)) (M.1 19 (l + 1) - M.1 19 l).toNat
def crndF (M : mm_M) (l : Int) : Int := sumU (fun k => dRnd M l (M.1 19 l + k)) (M.1 19 (l + 1) - M.1 19 l).toNat
section
variable {s : sh} {Mg M : mm_M}
/-- the corners, each at its time -/
theorem CLP_times {l : Int} {p : wlk} {m : Nat} (h : CLP s Mg M l p m) : ∀ k : Nat, (k : Int) ≤ M.1 19 (l + 1) - M.1 19 l → ∃ t, t ≤ m ∧ tcn (Cg s Mg) p t = k ∧ (t = 0 ∨ trn (Cg s Mg) p (t - 1)) ∧ ((k : Int) < M.1 19 (l + 1) - M.1 19 l → M.1 20 (M.1 19 l + k) = pq Mg (sti (Cg s Mg) t p)) ∧ ((k : Int) = M.1 19 (l + 1) - M.1 19 l → t = m) ∧
    sumU (fun k => dLen M l (M.1 19 l + k)) k = sumU (slen (Cg s Mg) Mg p) t ∧ sumU (fun k => dRnd M l (M.1 19 l + k)) k = sumU (srnd (Cg s Mg) Mg p) t := by
  obtain ⟨w, g, l0, l1, b0, b1, hp, tl, L⟩ := h
  have L' := L
  obtain ⟨m0, hm, nr, eb, h5, h6⟩ := L'
  intro k
  induction k with
  | zero =>
    intro _
    refine ⟨0, Nat.zero_le _, rfl, Or.inl rfl, fun _ => ?_, fun z => ?_, rfl, rfl⟩
    · have e : M.1 19 l + ((0 : Nat) : Int) = M.1 19 l := by omega
      rw [e]; exact h5
    · exfalso
      have a1 := tcn_1 tl
      rw [show m - 1 + 1 = m by omega] at a1
      have := tcn_ge (C := Cg s Mg) (p := p) (m - 1)
      omega
  | succ k ih =>
    intro hk
    obtain ⟨t, t1, t2, t3, t4, t5, t6, t7⟩ := ih (by omega)
    have ek := t4 (by omega)
    obtain ⟨t', a1, a2, a3, a4, a5, a6, a7⟩ := nextc g hp L tl (c := M.1 19 l + k) (by omega) (by omega) t1 (by omega) t3
    have S := str2 g hp a1 a7
    have D := cor_xy (M := M) w g hp ek
    have a6' : M.1 20 (nxt M l (M.1 19 l + k)) = pq Mg (sti (Cg s Mg) t' p) := a6
    have D' := cor_xy (M := M) w g hp a6'
    have x1 : cX M (M.1 19 l + k) = px Mg (sti (Cg s Mg) t p) := D.2.1
    have y1 : cY M (M.1 19 l + k) = py Mg (sti (Cg s Mg) t p) := D.2.2
    have x2 : cX M (nxt M l (M.1 19 l + k)) = px Mg (sti (Cg s Mg) t' p) := D'.2.1
    have y2 : cY M (nxt M l (M.1 19 l + k)) = py Mg (sti (Cg s Mg) t' p) := D'.2.2
    refine ⟨t', a2, by omega, Or.inr a4, fun z => ?_, fun z => a5 (by omega), ?_, ?_⟩
    · have e : M.1 19 l + ((k + 1 : Nat) : Int) = nxt M l (M.1 19 l + k) := by
        unfold nxt
        rw [if_neg (by omega)]
        omega
      rw [e]; exact a6'
    · rw [sumU_1, t6, S.1]
      unfold dLen
      rw [x1, x2, y1, y2]
    · rw [sumU_1, t7, S.2]
      unfold dRnd
      rw [x1, x2, y1, y2]
theorem clen_eq {l : Int} {p : wlk} {m : Nat} (h : CLP s Mg M l p m) : sumU (slen (Cg s Mg) Mg p) m = clenF M l ∧ sumU (srnd (Cg s Mg) Mg p) m = crndF M l ∧ tcn (Cg s Mg) p m = M.1 19 (l + 1) - M.1 19 l := by
  have L := h.2.2.2.2.2.2.2.2
  have tg := tcn_ge (C := Cg s Mg) (p := p) m
  have e4 := L.2.2.2.1
  have ec : (((M.1 19 (l + 1) - M.1 19 l).toNat : Nat) : Int) = M.1 19 (l + 1) - M.1 19 l := by omega
  obtain ⟨t, t1, t2, t3, t4, t5, t6, t7⟩ := CLP_times h (M.1 19 (l + 1) - M.1 19 l).toNat (by omega)
  have et := t5 ec
  rw [et] at t6 t7
  exact ⟨t6.symm, t7.symm, by omega⟩
/-- the corner with number k, at its time -/
theorem cor_time {l k : Int} {p : wlk} {m : Nat} (h : CLP s Mg M l p m) (k0 : 0 ≤ k) (k1 : k < M.1 19 (l + 1) - M.1 19 l) : (k = 0 ∧ cX M (M.1 19 l + k) = px Mg p ∧ cY M (M.1 19 l + k) = py Mg p) ∨ ∃ v, v + 1 < m ∧ trn (Cg s Mg) p v ∧ tcn (Cg s Mg) p v + 1 = k ∧ cX M (M.1 19 l + k) = px Mg (sti (Cg s Mg) (v + 1) p) ∧ cY M (M.1 19 l + k) = py Mg (sti (Cg s Mg) (v + 1) p) := by
  have ce := (clen_eq h).2.2
  have ec : ((k.toNat : Nat) : Int) = k := by omega
  obtain ⟨t, t1, t2, t3, t4, t5, _, _⟩ := CLP_times h k.toNat (by omega)
  rw [ec] at t2 t4
  have D := cor_xy (M := M) h.1 h.2.1 h.2.2.2.2.2.2.1 (t4 k1)
  by_cases z : t = 0
  · rw [z] at t2 D
    exact Or.inl ⟨t2.symm, D.2.1, D.2.2⟩
  · have tr : trn (Cg s Mg) p (t - 1) := by
      rcases t3 with y | y
      · exact absurd y z
      · exact y
    have e : t - 1 + 1 = t := by omega
    have e2 := tcn_1 tr
    rw [e] at e2
    have tm : t ≠ m := fun y => by rw [y] at t2; omega
    refine Or.inr ⟨t - 1, by omega, tr, by omega, ?_, ?_⟩
    · rw [e]; exact D.2.1
    · rw [e]; exact D.2.2
theorem loop_leL (g : GL s M) {p : wlk} (hp : isS (Cg s M) p) {m : Nat} (hm : sti (Cg s M) m p = p) (nr : ∀ u, 0 < u → u < m → sti (Cg s M) u p ≠ p) : m ≤ 640000 := by
  have sr : ∀ q, isS (Cg s M) q → 0 ≤ sx (gw M) q ∧ sx (gw M) q < nT M ∧ nT M ≤ 640000 := fun q hq => by
    have r := isS_rg hq
    exact sx_rg g.2.1 g.2.2.2.1 r.1 r.2.1 r.2.2.1 r.2.2.2.1 hq.1
  have T := sr p hp
  have x := inj_count (g := fun u => sx (gw M) (sti (Cg s M) u p)) (N := (nT M).toNat) (m := m) (fun u _ => by
    have r := sr _ (sti_isS hp u)
    exact ⟨r.1, by omega⟩) (fun u v a b e => loop_inj hp hm nr u v a b (side_inj (sti_isS hp u) (sti_isS hp v) e))
  omega
theorem clen_rg {l : Int} {p : wlk} {m : Nat} (h : CLP s Mg M l p m) : mr_rg (clenF M l) ∧ -1280000000000 ≤ crndF M l ∧ crndF M l ≤ 1280000000000 ∧ -1280000000 ≤ clenF M l ∧ clenF M l ≤ 1280000000 := by
  have e := clen_eq h
  obtain ⟨w, g, l0, l1, b0, b1, hp, tl, L⟩ := h
  have ml := loop_leL g hp L.2.1 L.2.2.1
  have B := sumU_rg (slen_rg w g hp) m
  have B2 := sumU_rg (srnd_rg w g hp) m
  rw [e.1] at B
  rw [e.2.1] at B2
  exact ⟨⟨by omega, by omega⟩, by omega, by omega, by omega, by omega⟩
/-- a least number of steps round -/
theorem per_min {C : Int → Int → Bool} {p : wlk} (h : ∃ m, 0 < m ∧ sti C m p = p) : ∃ m, 0 < m ∧ sti C m p = p ∧ ∀ u, 0 < u → u < m → sti C u p ≠ p := by
  obtain ⟨m, m0, hm⟩ := h
  have key : ∀ (b m : Nat), m ≤ b → 0 < m → sti C m p = p → ∃ m, 0 < m ∧ sti C m p = p ∧ ∀ u, 0 < u → u < m → sti C u p ≠ p := by
    intro b
    induction b with
    | zero => intro m a b; exact absurd b (by omega)
    | succ b ih =>
      intro m a m0 hm
      by_cases z : ∃ u, 0 < u ∧ u < m ∧ sti C u p = p
      · obtain ⟨u, u0, u1, u2⟩ := z
        exact ih u (by omega) u0 u2
      · exact ⟨m, m0, hm, fun u u0 u1 u2 => z ⟨u, u0, u1, u2⟩⟩
  exact key m m (Nat.le_refl _) m0 hm
theorem per_one {C : Int → Int → Bool} {p : wlk} {m n : Nat} (m0 : 0 < m) (hm : sti C m p = p) (nm : ∀ u, 0 < u → u < m → sti C u p ≠ p) (n0 : 0 < n) (hn : sti C n p = p) (nn : ∀ u, 0 < u → u < n → sti C u p ≠ p) : m = n := by
  by_cases z : m < n
  · exact absurd hm (nn m m0 z)
  · by_cases z2 : n < m
    · exact absurd hn (nm n n0 z2)
    · omega
end
section
variable {sc : Nat × (Int → Int)} {M : mm_M} {X : Nat → mm_M → Prop}
theorem c131F {K : Int → mm_M → Prop} {s : sh} {Mg : mm_M} {l : Int} {p : wlk} {m : Nat} (ho : mr_ok M) (h : CLP s Mg M l p m) (k : K (clenF M l) M) : en_CI sc 131 [mm_r 17, mm_i l, mm_u, mm_u, mm_u] M K X := c131 ho h (by rw [(clen_eq h).1]; exact k)
theorem c138F {K : Int → mm_M → Prop} {s : sh} {Mg : mm_M} {l : Int} {p : wlk} {m : Nat} (ho : mr_ok M) (h : CLP s Mg M l p m) (k : K (mr_ldiv (crndF M l) 2) M) : en_CI sc 138 [mm_r 17, mm_i l, mm_u, mm_u, mm_u, mm_u] M K X := c138 ho h (by rw [(clen_eq h).2.1]; exact k)
end
