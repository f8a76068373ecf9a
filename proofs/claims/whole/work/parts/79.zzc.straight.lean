/-! ===== from corner to corner: CellAreas.Loops.length and goesRound ===== -/
section
variable {s : sh} {M : mm_M}
theorem way_step (g : GL s M) {r : wlk} (hr : isS (Cg s M) r) :
    (r.2.2 = 0 → py M (stp (Cg s M) r) = py M r ∧ px M r < px M (stp (Cg s M) r)) ∧ (r.2.2 = 1 → px M (stp (Cg s M) r) = px M r ∧ py M r < py M (stp (Cg s M) r)) ∧
    (r.2.2 = 2 → py M (stp (Cg s M) r) = py M r ∧ px M (stp (Cg s M) r) < px M r) ∧ (r.2.2 = 3 → px M (stp (Cg s M) r) = px M r ∧ py M (stp (Cg s M) r) < py M r) := by
  have ax := g.2.2.2.2.1
  have ay := g.2.2.2.2.2.1
  have a := isS_rg hr
  have b := isS_rg (stp_isS hr)
  have bx : (stp (Cg s M) r).1 = goX r := rfl
  have byy : (stp (Cg s M) r).2.1 = goY r := rfl
  rw [bx, byy] at b
  have X : ∀ z, z = goX r → px M (stp (Cg s M) r) = gx M z := fun z e => by rw [e]; rfl
  have Y : ∀ z, z = goY r → py M (stp (Cg s M) r) = gy M z := fun z e => by rw [e]; rfl
  unfold goX goY at *
  refine ⟨fun w => ?_, fun w => ?_, fun w => ?_, fun w => ?_⟩
  · rw [w] at X Y b
    have e1 := X (r.1 + 1) rfl
    have e2 := Y r.2.1 rfl
    rw [e1, e2]
    exact ⟨rfl, ax _ _ a.1 (by omega) b.2.1⟩
  · rw [w] at X Y b
    have e1 := X r.1 rfl
    have e2 := Y (r.2.1 + 1) rfl
    rw [e1, e2]
    exact ⟨rfl, ay _ _ a.2.2.1 (by omega) b.2.2.2.1⟩
  · rw [w] at X Y b
    have e1 := X (r.1 - 1) rfl
    have e2 := Y r.2.1 rfl
    rw [e1, e2]
    exact ⟨rfl, ax _ _ b.1 (by omega) a.2.1⟩
  · rw [w] at X Y b
    have e1 := X r.1 rfl
    have e2 := Y (r.2.1 - 1) rfl
    rw [e1, e2]
    exact ⟨rfl, ay _ _ b.2.2.1 (by omega) a.2.2.2.1⟩
/-- straight on: lengths and areas add up -/
theorem straight (g : GL s M) {p : wlk} (hp : isS (Cg s M) p) (t : Nat) : ∀ d : Nat, (∀ u, u < d → (sti (Cg s M) (t + u) p).2.2 = (sti (Cg s M) t p).2.2) →
    sumU (slen (Cg s M) M p) (t + d) = sumU (slen (Cg s M) M p) t + (max (px M (sti (Cg s M) (t + d) p) - px M (sti (Cg s M) t p)) (0 - (px M (sti (Cg s M) (t + d) p) - px M (sti (Cg s M) t p))) + max (py M (sti (Cg s M) (t + d) p) - py M (sti (Cg s M) t p)) (0 - (py M (sti (Cg s M) (t + d) p) - py M (sti (Cg s M) t p)))) ∧
    sumU (srnd (Cg s M) M p) (t + d) = sumU (srnd (Cg s M) M p) t + (px M (sti (Cg s M) t p) * py M (sti (Cg s M) (t + d) p) - px M (sti (Cg s M) (t + d) p) * py M (sti (Cg s M) t p)) ∧
    (((sti (Cg s M) t p).2.2 = 0 → py M (sti (Cg s M) (t + d) p) = py M (sti (Cg s M) t p) ∧ px M (sti (Cg s M) t p) ≤ px M (sti (Cg s M) (t + d) p)) ∧ ((sti (Cg s M) t p).2.2 = 1 → px M (sti (Cg s M) (t + d) p) = px M (sti (Cg s M) t p) ∧ py M (sti (Cg s M) t p) ≤ py M (sti (Cg s M) (t + d) p)) ∧ ((sti (Cg s M) t p).2.2 = 2 → py M (sti (Cg s M) (t + d) p) = py M (sti (Cg s M) t p) ∧ px M (sti (Cg s M) (t + d) p) ≤ px M (sti (Cg s M) t p)) ∧ ((sti (Cg s M) t p).2.2 = 3 → px M (sti (Cg s M) (t + d) p) = px M (sti (Cg s M) t p) ∧ py M (sti (Cg s M) (t + d) p) ≤ py M (sti (Cg s M) t p))) := by
  intro d
  induction d with
  | zero =>
    intro _
    have e : t + 0 = t := rfl
    rw [e]
    refine ⟨by omega, by omega, fun _ => ⟨rfl, Int.le_refl _⟩, fun _ => ⟨rfl, Int.le_refl _⟩, fun _ => ⟨rfl, Int.le_refl _⟩, fun _ => ⟨rfl, Int.le_refl _⟩⟩
  | succ d ih =>
    intro h
    obtain ⟨i1, i2, i3⟩ := ih (fun u hu => h u (by omega))
    have wd := h d (by omega)
    have isd := sti_isS hp (t + d)
    have S := way_step g isd
    have e : sti (Cg s M) (t + (d + 1)) p = stp (Cg s M) (sti (Cg s M) (t + d) p) := sti_last (t + d) p
    have l1 : sumU (slen (Cg s M) M p) (t + (d + 1)) = sumU (slen (Cg s M) M p) (t + d) + slen (Cg s M) M p (t + d) := rfl
    have l2 : sumU (srnd (Cg s M) M p) (t + (d + 1)) = sumU (srnd (Cg s M) M p) (t + d) + srnd (Cg s M) M p (t + d) := rfl
    have s1 : slen (Cg s M) M p (t + d) = (if (sti (Cg s M) t p).2.2 % 2 = 0 then px M (stp (Cg s M) (sti (Cg s M) (t + d) p)) - px M (sti (Cg s M) (t + d) p) else py M (stp (Cg s M) (sti (Cg s M) (t + d) p)) - py M (sti (Cg s M) (t + d) p)) * (if (sti (Cg s M) t p).2.2 < 2 then 1 else -1) := by
      unfold slen
      rw [show t + d + 1 = t + (d + 1) from rfl, e, wd]
    have s2 : srnd (Cg s M) M p (t + d) = px M (sti (Cg s M) (t + d) p) * py M (stp (Cg s M) (sti (Cg s M) (t + d) p)) - px M (stp (Cg s M) (sti (Cg s M) (t + d) p)) * py M (sti (Cg s M) (t + d) p) := by
      unfold srnd
      rw [show t + d + 1 = t + (d + 1) from rfl, e]
    rw [l1, l2, e, s1, s2, i1, i2]
    rw [wd] at S
    have w4 : (sti (Cg s M) t p).2.2 = 0 ∨ (sti (Cg s M) t p).2.2 = 1 ∨ (sti (Cg s M) t p).2.2 = 2 ∨ (sti (Cg s M) t p).2.2 = 3 := (sti_isS hp t).1
    clear i1 i2 l1 l2 s1 s2 e wd h ih isd
    generalize px M (sti (Cg s M) t p) = a at *
    generalize py M (sti (Cg s M) t p) = b at *
    generalize px M (sti (Cg s M) (t + d) p) = a1 at *
    generalize py M (sti (Cg s M) (t + d) p) = b1 at *
    generalize px M (stp (Cg s M) (sti (Cg s M) (t + d) p)) = a2 at *
    generalize py M (stp (Cg s M) (sti (Cg s M) (t + d) p)) = b2 at *
    rcases w4 with w | w | w | w
    · have j := i3.1 w
      have k := S.1 w
      rw [w, if_pos (by decide), if_pos (by decide), k.1, j.1]
      refine ⟨by omega, by rw [← Int.sub_mul, ← Int.sub_mul, ← Int.sub_mul, Int.add_assoc, ← Int.add_mul, show a - a1 + (a1 - a2) = a - a2 by omega], fun _ => ⟨rfl, by omega⟩, fun z => absurd z (by decide), fun z => absurd z (by decide), fun z => absurd z (by decide)⟩
    · have j := i3.2.1 w
      have k := S.2.1 w
      rw [w, if_neg (by decide), if_pos (by decide), k.1, j.1]
      refine ⟨by omega, by rw [← Int.mul_sub, ← Int.mul_sub, ← Int.mul_sub, Int.add_assoc, ← Int.mul_add, show b1 - b + (b2 - b1) = b2 - b by omega], fun z => absurd z (by decide), fun _ => ⟨rfl, by omega⟩, fun z => absurd z (by decide), fun z => absurd z (by decide)⟩
    · have j := i3.2.2.1 w
      have k := S.2.2.1 w
      rw [w, if_pos (by decide), if_neg (by decide), k.1, j.1]
      refine ⟨by omega, by rw [← Int.sub_mul, ← Int.sub_mul, ← Int.sub_mul, Int.add_assoc, ← Int.add_mul, show a - a1 + (a1 - a2) = a - a2 by omega], fun z => absurd z (by decide), fun z => absurd z (by decide), fun _ => ⟨rfl, by omega⟩, fun z => absurd z (by decide)⟩
    · have j := i3.2.2.2 w
      have k := S.2.2.2 w
      rw [w, if_neg (by decide), if_neg (by decide), k.1, j.1]
      refine ⟨by omega, by rw [← Int.mul_sub, ← Int.mul_sub, ← Int.mul_sub, Int.add_assoc, ← Int.mul_add, show b1 - b + (b2 - b1) = b2 - b by omega], fun z => absurd z (by decide), fun z => absurd z (by decide), fun z => absurd z (by decide), fun _ => ⟨rfl, by omega⟩⟩
/-- the way back to the first place turns there -/
theorem last_turn {p : wlk} (hp : isS (Cg s M) p) (st : STp s M p) (lst : ∀ q, orb (Cg s M) p q → sx (gw M) p ≤ sx (gw M) q) {m : Nat} (m0 : 0 < m) (hm : sti (Cg s M) m p = p) : trn (Cg s M) p (m - 1) := by
  have em : m - 1 + 1 = m := by omega
  have hr := sti_isS hp (m - 1)
  have e : stp (Cg s M) (sti (Cg s M) (m - 1) p) = p := by rw [← sti_last, em]; exact hm
  have o : orb (Cg s M) p (sti (Cg s M) (m - 1) p) := ⟨m - 1, rfl⟩
  unfold trn
  rw [em, hm]
  intro w
  generalize sti (Cg s M) (m - 1) p = r at *
  have ex : goX r = p.1 := congrArg (fun z : wlk => z.1) e
  have ey : goY r = p.2.1 := congrArg (fun z : wlk => z.2.1) e
  rcases st with ⟨w0, a, b⟩ | ⟨w1, a, b⟩
  · rw [w0] at w
    unfold goX at ex
    unfold goY at ey
    rw [w, if_pos rfl] at ex
    rw [w, if_neg (by decide), if_neg (by decide)] at ey
    have h2 := hr.2
    rw [w] at h2
    have h3 : (Cg s M r.1 r.2.1 && !Cg s M r.1 (r.2.1 - 1)) = true := h2
    have c := Cg_iff.mp (Bool.and_eq_true_iff.mp h3).1
    apply b
    rw [← ex, ← ey, show r.1 + 1 - 1 = r.1 by omega]
    exact c
  · rw [w1] at w
    unfold goX at ex
    unfold goY at ey
    rw [w, if_neg (by decide), if_neg (by decide)] at ex
    rw [w, if_pos rfl] at ey
    have l := lst r o
    have ra := isS_rg hr
    have rb := isS_rg hp
    have := (sx_lt ra.1 ra.2.1 rb.1 rb.2.1 hr.1 hp.1).mpr (Or.inl (by omega))
    omega
theorem next_turn {C : Int → Int → Bool} {p : wlk} {t : Nat} : ∀ d : Nat, tcn C p t < tcn C p (t + d) → ∃ v, t ≤ v ∧ v < t + d ∧ trn C p v ∧ ∀ u, t ≤ u → u < v → ¬ trn C p u := by
  intro d
  induction d with
  | zero => intro h; exact absurd h (by have e : t + 0 = t := rfl; rw [e]; omega)
  | succ d ih =>
    intro h
    by_cases z : tcn C p t < tcn C p (t + d)
    · obtain ⟨v, a, b, c, e⟩ := ih z
      exact ⟨v, a, by omega, c, e⟩
    · have eq : tcn C p (t + d) = tcn C p t := by
        have := tcn_mono (C := C) (p := p) (show t ≤ t + d by omega)
        omega
      refine ⟨t + d, by omega, by omega, ?_, fun u a b t' => ?_⟩
      · by_cases y : trn C p (t + d)
        · exact y
        · have := tcn_0 y
          rw [show t + (d + 1) = t + d + 1 from rfl] at h
          omega
      · have := tcn_lt b t'
        have := tcn_mono (C := C) (p := p) a
        omega
/-- what the class reads of a corner -/
theorem pq_de (h : wf s) (g : GL s M) {p : wlk} (hp : isS (Cg s M) p) : 0 ≤ pq M p ∧ pq M p % 2001 + (-1000) = px M p ∧ pq M p / 2001 + (-1000) = py M p := by
  have r := pxy_rg h g hp
  have e : pq M p = (py M p + 1000) * 2001 + (px M p + 1000) := rfl
  omega
/-- from one corner to the next -/
theorem nextc (g : GL s M) {p : wlk} (hp : isS (Cg s M) p) {m : Nat} {b b' : Int} {a : Int → Int} (L : LPC s M p m b b' a) (lt : trn (Cg s M) p (m - 1)) {c : Int} {t : Nat} (c0 : b ≤ c) (c1 : c < b') (t1 : t ≤ m) (ht : tcn (Cg s M) p t = c - b) (hc : t = 0 ∨ trn (Cg s M) p (t - 1)) :
    ∃ t', t < t' ∧ t' ≤ m ∧ tcn (Cg s M) p t' = c + 1 - b ∧ trn (Cg s M) p (t' - 1) ∧ (c + 1 = b' → t' = m) ∧ a (if b' ≤ c + 1 then b else c + 1) = pq M (sti (Cg s M) t' p) ∧ (∀ u, t ≤ u → u < t' → (sti (Cg s M) u p).2.2 = (sti (Cg s M) t p).2.2) := by
  obtain ⟨h1, h2, h3, h4, h5, h6⟩ := L
  obtain ⟨v, v0, v1, v2, v3⟩ := next_turn (C := Cg s M) (p := p) (t := t) (m - t) (by rw [show t + (m - t) = m by omega]; omega)
  have vm : v < m := by omega
  have cv : tcn (Cg s M) p v = tcn (Cg s M) p t := by
    have key : ∀ d : Nat, t + d ≤ v → tcn (Cg s M) p (t + d) = tcn (Cg s M) p t := by
      intro d
      induction d with
      | zero => intro _; rfl
      | succ d ih =>
        intro hd
        rw [show t + (d + 1) = t + d + 1 from rfl, tcn_0 (v3 (t + d) (by omega) (by omega))]
        exact ih (by omega)
    have x := key (v - t) (by omega)
    rw [show t + (v - t) = v by omega] at x
    exact x
  have cv1 := tcn_1 v2
  have ways : ∀ u, t ≤ u → u < v + 1 → (sti (Cg s M) u p).2.2 = (sti (Cg s M) t p).2.2 := by
    have key : ∀ d : Nat, t + d < v + 1 → (sti (Cg s M) (t + d) p).2.2 = (sti (Cg s M) t p).2.2 := by
      intro d
      induction d with
      | zero => intro _; rfl
      | succ d ih =>
        intro hd
        have x := ih (by omega)
        have y : (sti (Cg s M) (t + d) p).2.2 = (sti (Cg s M) (t + d + 1) p).2.2 := Classical.byContradiction (v3 (t + d) (by omega) (by omega))
        rw [show t + (d + 1) = t + d + 1 from rfl, ← y, x]
    intro u u0 u1
    have x := key (u - t) (by omega)
    rw [show t + (u - t) = u by omega] at x
    exact x
  have last : c + 1 = b' → v + 1 = m := fun z => by
    by_cases y : v + 1 = m
    · exact y
    · have a1 := tcn_1 lt
      have a2 := tcn_lt (show v < m - 1 by omega) v2
      rw [show m - 1 + 1 = m by omega] at a1
      omega
  refine ⟨v + 1, by omega, by omega, by omega, v2, last, ?_, ways⟩
  by_cases z : b' ≤ c + 1
  · rw [if_pos z, last (by omega), h2]
    exact h5
  · rw [if_neg z]
    have x := h6 v vm v2 (by omega)
    rw [show b + tcn (Cg s M) p v + 1 = c + 1 by omega] at x
    exact x
end
