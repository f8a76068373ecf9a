/-! ===== CellAreasModel.inner ===== -/
/-- what it makes -/
def inTr (s : sh) (M : mm_M) (p : wlk) (n x y : Int) : Prop := ∃ j, 0 ≤ j ∧ j < n ∧ gy M j ≤ y ∧ y < gy M (j + 1) ∧ sumN (cvn s M p j x) (gw M + 1).toNat % 2 = 1
section
variable {s : sh} {M : mm_M}
theorem cv_tot (B : GBd M) {p : wlk} {j x : Int} {c : Nat} (hc : (c : Int) ≤ gw M + 1) (h : ∀ c', 0 ≤ c' → c' < (c : Int) → vcol (Cg s M) p j c' → gx M c' ≤ x) : sumN (cvn s M p j x) c = sumN (cvn s M p j 1000) c := sumN_eq (fun k k0 k1 => by
  unfold cvn
  by_cases z : vcol (Cg s M) p j k
  · rw [if_pos ⟨z, h k k0 k1 z⟩, if_pos ⟨z, (B.1 k k0 (by omega)).2⟩]
  · rw [if_neg (fun u => z u.1), if_neg (fun u => z u.1)])
theorem cv_step {p : wlk} {j x c : Int} (c0 : 0 ≤ c) : sumN (cvn s M p j x) (c + 1).toNat = sumN (cvn s M p j x) c.toNat + cvn s M p j x c := by
  have e : (c + 1).toNat = c.toNat + 1 := by omega
  rw [e]
  show sumN _ _ + cvn s M p j x ((c.toNat : Nat) : Int) = _
  rw [show ((c.toNat : Nat) : Int) = c by omega]
/-- the row while it is gone along -/
def RWI (s : sh) (M : mm_M) (p : wlk) (j c od f : Int) (M' : mm_M) : Prop := NR M' ∧ (od = 0 ∨ od = 1) ∧ od = sumN (cvn s M p j 1000) c.toNat % 2 ∧ (∀ x, rN M' x ↔ sumN (cvn s M p j x) c.toNat % 2 = 1 ∧ (od = 1 → x < f)) ∧
  (od = 1 → ∃ c', 0 ≤ c' ∧ c' < c ∧ f = gx M c' ∧ ∀ c'', 0 ≤ c'' → c'' < c → vcol (Cg s M) p j c'' → c'' ≤ c') ∧
  (0 < M'.1 72 17 → (od = 1 → M'.1 85 (M'.1 72 17 - 1) ≤ f) ∧ (od = 0 → ∀ c'', c ≤ c'' → c'' ≤ gw M → M'.1 85 (M'.1 72 17 - 1) ≤ gx M c''))
theorem RWI_no {p : wlk} {j c od f : Int} {M' : mm_M} (g : GL s M) (h : RWI s M p j c od f M') (c0 : 0 ≤ c) (c1 : c ≤ gw M) (n : ¬ vcol (Cg s M) p j c) : RWI s M p j (c + 1) od f M' := by
  obtain ⟨h1, h2, h3, h4, h5, h6⟩ := h
  have z : ∀ x, cvn s M p j x c = 0 := fun x => if_neg (fun u => n u.1)
  refine ⟨h1, h2, by rw [cv_step c0, z, Int.add_zero]; exact h3, fun x => by rw [cv_step c0, z, Int.add_zero]; exact h4 x, fun o => ?_, fun q => ⟨(h6 q).1, fun o c'' a b => (h6 q).2 o c'' (by omega) b⟩⟩
  obtain ⟨c', a, b, e, d⟩ := h5 o
  refine ⟨c', a, by omega, e, fun c'' a' b' v => ?_⟩
  by_cases y : c'' = c
  · rw [y] at v; exact absurd v n
  · exact d c'' a' (by omega) v
theorem RWI_on {p : wlk} {j c f : Int} {M' : mm_M} (g : GL s M) (B : GBd M) (h : RWI s M p j c 0 f M') (c0 : 0 ≤ c) (c1 : c ≤ gw M) (n : vcol (Cg s M) p j c) : RWI s M p j (c + 1) 1 (gx M c) M' := by
  obtain ⟨h1, h2, h3, h4, h5, h6⟩ := h
  have asc := g.2.2.2.2.1
  have z : ∀ x, cvn s M p j x c = if gx M c ≤ x then 1 else 0 := fun x => by
    unfold cvn
    by_cases y : gx M c ≤ x
    · rw [if_pos ⟨n, y⟩, if_pos y]
    · rw [if_neg (fun u => y u.2), if_neg y]
  have ec : ((c.toNat : Nat) : Int) = c := by omega
  have tot : ∀ x, gx M c ≤ x → sumN (cvn s M p j x) c.toNat = sumN (cvn s M p j 1000) c.toNat := fun x y => cv_tot B (by omega) (fun c' a b _ => by
    have := asc c' c a (by omega) c1
    omega)
  refine ⟨h1, Or.inr rfl, ?_, fun x => ?_, fun _ => ⟨c, c0, by omega, rfl, fun c'' a b _ => by omega⟩, fun q => ⟨fun _ => (h6 q).2 rfl c (by omega) c1, fun o => absurd o (by decide)⟩⟩
  · rw [cv_step c0, z, if_pos (B.1 c c0 c1).2]
    omega
  · rw [h4, cv_step c0, z]
    by_cases y : gx M c ≤ x
    · rw [if_pos y]
      constructor
      · rintro ⟨a, _⟩
        rw [tot x y] at a
        omega
      · rintro ⟨_, b⟩
        have := b rfl
        omega
    · rw [if_neg y, Int.add_zero]
      constructor
      · rintro ⟨a, _⟩
        exact ⟨a, fun _ => by omega⟩
      · rintro ⟨a, _⟩
        exact ⟨a, fun o => absurd o (by decide)⟩
theorem RWI_off {p : wlk} {j c f : Int} {M' M1 : mm_M} (g : GL s M) (B : GBd M) (h : RWI s M p j c 1 f M') (c0 : 0 ≤ c) (c1 : c ≤ gw M) (n : vcol (Cg s M) p j c) (N1 : NR M1) (R1 : ∀ x, rN M1 x ↔ rN M' x ∨ (f ≤ x ∧ x < gx M c)) (L1 : 0 < M1.1 72 17 → M1.1 85 (M1.1 72 17 - 1) ≤ f) : RWI s M p j (c + 1) 0 (gx M c) M1 := by
  obtain ⟨h1, h2, h3, h4, h5, h6⟩ := h
  have asc := g.2.2.2.2.1
  obtain ⟨c', a', b', e', d'⟩ := h5 rfl
  have flt : f < gx M c := by rw [e']; exact asc c' c a' b' c1
  have z : ∀ x, cvn s M p j x c = if gx M c ≤ x then 1 else 0 := fun x => by
    unfold cvn
    by_cases y : gx M c ≤ x
    · rw [if_pos ⟨n, y⟩, if_pos y]
    · rw [if_neg (fun u => y u.2), if_neg y]
  have ec : ((c.toNat : Nat) : Int) = c := by omega
  have tot : ∀ x, f ≤ x → sumN (cvn s M p j x) c.toNat = sumN (cvn s M p j 1000) c.toNat := fun x y => cv_tot B (by omega) (fun c'' a b v => by
    have q := d' c'' a (by omega) v
    by_cases y2 : c'' = c'
    · rw [y2]; omega
    · have := asc c'' c' a (by omega) (by omega)
      omega)
  refine ⟨N1, Or.inl rfl, ?_, fun x => ?_, fun o => absurd o (by decide), fun q => ⟨fun o => absurd o (by decide), fun _ c'' a b => ?_⟩⟩
  · rw [cv_step c0, z, if_pos (B.1 c c0 c1).2]
    omega
  · rw [R1, h4, cv_step c0, z]
    by_cases y : gx M c ≤ x
    · rw [if_pos y, tot x (by omega)]
      constructor
      · rintro (⟨_, u⟩ | u)
        · have := u rfl; omega
        · omega
      · rintro ⟨u, _⟩
        omega
    · rw [if_neg y, Int.add_zero]
      by_cases y2 : f ≤ x
      · rw [tot x y2]
        constructor
        · intro _
          exact ⟨by omega, fun o => absurd o (by decide)⟩
        · intro _
          exact Or.inr ⟨y2, by omega⟩
      · constructor
        · rintro (⟨u, _⟩ | u)
          · exact ⟨u, fun o => absurd o (by decide)⟩
          · omega
        · rintro ⟨u, _⟩
          exact Or.inl ⟨u, fun _ => by omega⟩
  · have l := L1 q
    have := asc c c'' c0 (by omega) b
    omega
theorem RWI_fin {p : wlk} {j od f : Int} {M' : mm_M} (h : RWI s M p j (gw M + 1) od f M') (t : sumN (cvn s M p j 1000) (gw M + 1).toNat % 2 = 0) : ∀ x, rN M' x ↔ sumN (cvn s M p j x) (gw M + 1).toNat % 2 = 1 := by
  obtain ⟨h1, h2, h3, h4, h5, h6⟩ := h
  intro x
  rw [h4]
  constructor
  · exact fun z => z.1
  · intro z
    refine ⟨z, fun o => ?_⟩
    omega
end
