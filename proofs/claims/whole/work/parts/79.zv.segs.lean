/-! ===== from edge to edge, along the grid ===== -/
/-- the side of the grid that edge e is -/
def VS (s : sh) (M : mm_M) (e : Int) (p : wlk) : Prop := ∃ i j, 0 ≤ i ∧ i ≤ gw M ∧ 0 ≤ j ∧ j < gh M ∧ EDG s M i j e ∧ ((e % 2 = 0 ∧ p = (i, j + 1, 3)) ∨ (e % 2 = 1 ∧ p = (i, j, 1)))
/-- from edge e to edge e' in the area -/
def NX (s : sh) (e e' : Int) (em : Option (Int × Int × Int)) : Prop := ∃ k i, inP s i k ∧ ((e = 2 * k ∧ NXD s k i e' em) ∨ (e = 2 * k + 1 ∧ NXU s k i e' em))
/-- m steps from p: straight on, or along one line from x1 to x2 -/
def SEG (s : sh) (M : mm_M) (p : wlk) (m : Nat) (em : Option (Int × Int × Int)) : Prop :=
  (em = none ∧ m = 1 ∧ (stp (Cg s M) p).2.2 = p.2.2) ∨
  (∃ x1 x2 y w, em = some (x1, x2, y) ∧ 2 ≤ m ∧ (w = 0 ∨ w = 2) ∧ (∀ u, 1 ≤ u → u < m → (sti (Cg s M) u p).2.2 = w) ∧ gx M (stp (Cg s M) p).1 = x1 ∧ gy M (stp (Cg s M) p).2.1 = y ∧ gx M (sti (Cg s M) m p).1 = x2 ∧ gy M (sti (Cg s M) m p).2.1 = y)
/-- row j of the grid is band b, or (b none) has no cells -/
def rwO (s : sh) (M : mm_M) (b j : Int) : Prop := (b = -1 ∧ ∀ i, ¬ cel s M i j) ∨ (0 ≤ b ∧ b < sn s ∧ RBd s M b j ∧ 0 ≤ j ∧ j < gh M)
section
variable {C : Int → Int → Bool}
theorem stp_at {p : wlk} {x y : Int} {ne nw sw se : Bool} (ex : goX p = x) (ey : goY p = y) (h1 : C x y = ne) (h2 : C (x - 1) y = nw) (h3 : C (x - 1) (y - 1) = sw) (h4 : C x (y - 1) = se) : stp C p = (x, y, ot4 ne nw sw se p.2.2) := by
  unfold stp
  rw [goW_4, ex, ey, h1, h2, h3, h4]
/-- to the left -/
theorem runL {i2 j : Int} (c : Nat) (h : ∀ i', i2 ≤ i' → i' < i2 + c + 1 → C i' (j - 1) = true ∧ C i' j = false) : ∀ u : Nat, u ≤ c → sti C u (i2 + c + 1, j, 2) = (i2 + c + 1 - u, j, 2) := by
  intro u
  induction u with
  | zero =>
    intro _
    have e : i2 + (c : Int) + 1 - ((0 : Nat) : Int) = i2 + c + 1 := by omega
    rw [e]
    rfl
  | succ u ih =>
    intro hu
    rw [sti_last, ih (by omega)]
    have a := h (i2 + c - u) (by omega) (by omega)
    have b := h (i2 + c - u - 1) (by omega) (by omega)
    rw [stp_at (x := i2 + c - u) (y := j) (by show i2 + (c : Int) + 1 - u - 1 = _; omega) rfl a.2 b.2 b.1 a.1]
    have e : i2 + (c : Int) + 1 - ((u + 1 : Nat) : Int) = i2 + c - u := by omega
    rw [e]
    rfl
/-- to the right -/
theorem runR {i2 j : Int} (c : Nat) (h : ∀ i', i2 - c - 1 ≤ i' → i' < i2 → C i' j = true ∧ C i' (j - 1) = false) : ∀ u : Nat, u ≤ c → sti C u (i2 - c - 1, j, 0) = (i2 - c - 1 + u, j, 0) := by
  intro u
  induction u with
  | zero =>
    intro _
    have e : i2 - (c : Int) - 1 + ((0 : Nat) : Int) = i2 - c - 1 := by omega
    rw [e]
    rfl
  | succ u ih =>
    intro hu
    rw [sti_last, ih (by omega)]
    have a := h (i2 - c + u) (by omega) (by omega)
    have b := h (i2 - c + u - 1) (by omega) (by omega)
    rw [stp_at (x := i2 - c + u) (y := j) (by show i2 - (c : Int) - 1 + u + 1 = _; omega) rfl a.1 b.1 b.2 a.2]
    have e : i2 - (c : Int) - 1 + ((u + 1 : Nat) : Int) = i2 - c + u := by omega
    rw [e]
    rfl
end
section
variable {s : sh} {M : mm_M}
theorem seg_L {p : wlk} {i2 j w' : Int} {nw sw : Bool} (c : Nat) (h1 : stp (Cg s M) p = (i2 + c + 1, j, 2)) (h : ∀ i', i2 ≤ i' → i' < i2 + c + 1 → Cg s M i' (j - 1) = true ∧ Cg s M i' j = false) (a : Cg s M (i2 - 1) j = nw) (b : Cg s M (i2 - 1) (j - 1) = sw) (hw : ot4 false nw sw true 2 = w') :
    SEG s M p (c + 2) (some (gx M (i2 + c + 1), gx M i2, gy M j)) ∧ sti (Cg s M) (c + 2) p = (i2, j, w') := by
  have r := runL c h
  have e1 : ∀ u : Nat, u ≤ c → sti (Cg s M) (u + 1) p = (i2 + c + 1 - u, j, 2) := fun u hu => by
    have x : sti (Cg s M) (u + 1) p = sti (Cg s M) u (stp (Cg s M) p) := rfl
    rw [x, h1]
    exact r u hu
  have e2 : sti (Cg s M) (c + 2) p = (i2, j, w') := by
    rw [show c + 2 = (c + 1) + 1 from rfl, sti_last, e1 c (Nat.le_refl _)]
    have q := h i2 (by omega) (by omega)
    rw [stp_at (x := i2) (y := j) (by show i2 + (c : Int) + 1 - c - 1 = i2; omega) rfl q.2 a b q.1]
    have : ot4 false nw sw true 2 = w' := hw
    show (i2, j, ot4 false nw sw true 2) = _
    rw [this]
  refine ⟨Or.inr ⟨_, _, _, 2, rfl, by omega, Or.inr rfl, fun u u0 u1 => ?_, by rw [h1], by rw [h1], by rw [e2], by rw [e2]⟩, e2⟩
  obtain ⟨v, rfl⟩ : ∃ v, u = v + 1 := ⟨u - 1, by omega⟩
  rw [e1 v (by omega)]
theorem seg_R {p : wlk} {i2 j w' : Int} {ne se : Bool} (c : Nat) (h1 : stp (Cg s M) p = (i2 - c - 1, j, 0)) (h : ∀ i', i2 - c - 1 ≤ i' → i' < i2 → Cg s M i' j = true ∧ Cg s M i' (j - 1) = false) (a : Cg s M i2 j = ne) (b : Cg s M i2 (j - 1) = se) (hw : ot4 ne true false se 0 = w') :
    SEG s M p (c + 2) (some (gx M (i2 - c - 1), gx M i2, gy M j)) ∧ sti (Cg s M) (c + 2) p = (i2, j, w') := by
  have r := runR c h
  have e1 : ∀ u : Nat, u ≤ c → sti (Cg s M) (u + 1) p = (i2 - c - 1 + u, j, 0) := fun u hu => by
    have x : sti (Cg s M) (u + 1) p = sti (Cg s M) u (stp (Cg s M) p) := rfl
    rw [x, h1]
    exact r u hu
  have e2 : sti (Cg s M) (c + 2) p = (i2, j, w') := by
    rw [show c + 2 = (c + 1) + 1 from rfl, sti_last, e1 c (Nat.le_refl _)]
    have q := h (i2 - 1) (by omega) (by omega)
    rw [stp_at (x := i2) (y := j) (by show i2 - (c : Int) - 1 + c + 1 = i2; omega) rfl a q.1 q.2 b]
    have : ot4 ne true false se 0 = w' := hw
    show (i2, j, ot4 ne true false se 0) = _
    rw [this]
  refine ⟨Or.inr ⟨_, _, _, 0, rfl, by omega, Or.inl rfl, fun u u0 u1 => ?_, by rw [h1], by rw [h1], by rw [e2], by rw [e2]⟩, e2⟩
  obtain ⟨v, rfl⟩ : ∃ v, u = v + 1 := ⟨u - 1, by omega⟩
  rw [e1 v (by omega)]
theorem Cg_t {i j : Int} (h : cel s M i j) : Cg s M i j = true := Cg_iff.mpr h
theorem Cg_f {i j : Int} (h : ¬ cel s M i j) : Cg s M i j = false := Cg_no.mpr h
/-- over the stretch k to the left -/
theorem ml_AT (h : wf s) (g : GL s M) {p : wlk} {i j b1 b k e x2 : Int} (i0 : 0 ≤ i) (i1 : i ≤ gw M) (j0 : 0 ≤ j - 1) (j1 : j - 1 < gh M) (r : RBd s M b1 (j - 1)) (a : inP s b1 k) (k0 : slf s k < gx M i) (k1 : gx M i ≤ srt s k) (ro : rwO s M b j) (no : ¬ cel s M (i - 1) j) (hp : stp (Cg s M) p = (i, j, 2)) (t : AT s k b (gx M i) e x2) :
    ∃ m p', SEG s M p m (some (gx M i, x2, gy M j)) ∧ sti (Cg s M) m p = p' ∧ VS s M e p' ∧ 1 ≤ m := by
  have asc := g.2.2.2.2.1
  obtain ⟨_, _, hc, _⟩ := GL_pos g a.1 a.2.1
  have cmp : ∀ u v, 0 ≤ u → u ≤ gw M → 0 ≤ v → v ≤ gw M → (gx M u < gx M v ↔ u < v) := fun u v a b c d => (asc_inj asc a b c d).1
  obtain ⟨cl, cl0, cl1, cl2⟩ := (hc _).mp (inP_cols h a).1
  have cli : cl < i := (cmp _ _ cl0 cl1 i0 i1).mp (by omega)
  have kc : ∀ i', cl ≤ i' → i' < i → cel s M i' (j - 1) := fun i' h0 h1 => by
    have y1 := (cmp i' i (by omega) (by omega) i0 i1).mpr h1
    have y2 : gx M cl ≤ gx M i' := by
      by_cases z : cl = i'
      · rw [z]; exact Int.le_refl _
      · have := (cmp cl i' cl0 cl1 (by omega) (by omega)).mpr (by omega)
        omega
    exact at_cel h g (by omega) (by omega) j0 j1 r a (by omega) (by omega)
  -- no cell above, from x2 on
  have none : ∀ i2, cl ≤ i2 → (∀ k', bst s b ≤ k' → k' < ben s b → srt s k' ≤ gx M i → srt s k' ≤ gx M i2) → ∀ i', i2 ≤ i' → i' < i → ¬ cel s M i' j := fun i2 h0 hq i' h1 h2 c => by
    obtain ⟨b', k', r', a', q1, q2⟩ := cel_at h g c
    rcases ro with ⟨_, z⟩ | ⟨z0, z1, z2, z3, z4⟩
    · exact z _ c
    · have eb := RBd_one h a'.1 a'.2.1 z0 z1 r' z2
      have nb : ¬ b = -1 := by omega
      have hb : bst s b ≤ k' ∧ k' < ben s b := by
        unfold bst ben
        rw [if_neg nb, if_neg nb, ← eb]
        exact ⟨a'.2.2.1, a'.2.2.2⟩
      have y1 := (cmp i' i (by omega) (by omega) i0 i1).mpr h2
      by_cases q : srt s k' ≤ gx M i
      · have := hq k' hb.1 hb.2 q
        have : gx M i2 ≤ gx M i' := by
          by_cases z : i2 = i'
          · rw [z]; exact Int.le_refl _
          · have := (cmp i2 i' (by omega) (by omega) (by omega) (by omega)).mpr (by omega)
            omega
        omega
      · apply no
        have y2 : gx M i' ≤ gx M (i - 1) := by
          by_cases z : i' = i - 1
          · rw [z]; exact Int.le_refl _
          · have := (cmp i' (i - 1) (by omega) (by omega) (by omega) (by omega)).mpr (by omega)
            omega
        have y3 := (cmp (i - 1) i (by omega) (by omega) i0 i1).mpr (by omega)
        exact at_cel h g (by omega) (by omega) z3 z4 r' a' (by omega) (by omega)
  rcases t with ⟨o, o0, o1, o2, o3, o4, rfl, rfl⟩ | ⟨o1, rfl, rfl⟩
  · rcases ro with ⟨z, _⟩ | ⟨z0, z1, z2, z3, z4⟩
    · exfalso
      unfold bst at o0
      unfold ben at o1
      rw [if_pos z] at o0 o1
      omega
    · have nb : ¬ b = -1 := by omega
      have o0' := o0
      have o1' := o1
      unfold bst at o0'
      unfold ben at o1'
      rw [if_neg nb] at o0' o1'
      have ao : inP s b o := ⟨z0, z1, o0', o1'⟩
      obtain ⟨i2, c0, c1, c2⟩ := (hc _).mp (inP_cols h ao).2
      have up := EDG_up h g c0 c1 z3 z4 z2 ao c2
      have ne : i2 ≠ i := fun z => by rw [z] at up; exact no up.1
      have i2i : i2 < i := by
        by_cases z : i2 < i
        · exact z
        · have := (cmp i i2 i0 i1 c0 c1).mpr (by omega)
          omega
      have cli2 : cl < i2 := (cmp _ _ cl0 cl1 c0 c1).mp (by omega)
      have dd := (h.2.2.1 b z0 z1).2.2.2.2.1
      have nn := none i2 (by omega) (fun k' h0 h1 h2 => by
        by_cases z : k' ≤ o
        · by_cases y : k' = o
          · rw [y, c2]; exact Int.le_refl _
          · unfold bst at h0
            rw [if_neg nb] at h0
            have := ds_mono dd h0 (show k' < o by omega) o1'
            have := dd.1 o o0' o1'
            omega
        · have := o3 k' (by omega) h1
          omega)
      obtain ⟨c, hc'⟩ : ∃ c : Nat, i = i2 + c + 1 := ⟨(i - i2 - 1).toNat, by omega⟩
      rw [hc'] at hp
      have S := seg_L c hp (fun i' h0 h1 => ⟨Cg_t (kc i' (by omega) (by omega)), Cg_f (nn i' h0 (by omega))⟩) (Cg_t up.1) (Cg_t (kc (i2 - 1) (by omega) (by omega))) (w' := 1) (by decide)
      rw [← hc', c2] at S
      exact ⟨c + 2, _, S.1, S.2, ⟨i2, j, c0, c1, z3, z4, ⟨b, o, z2, ao, Or.inr ⟨rfl, c2⟩⟩, Or.inr ⟨by omega, rfl⟩⟩, by omega⟩
  · have nn := none cl (Int.le_refl _) (fun k' h0 h1 h2 => by have := o1 k' h0 h1 h2; omega)
    have dn := EDG_dn h g cl0 cl1 j0 j1 r a cl2
    obtain ⟨c, hc'⟩ : ∃ c : Nat, i = cl + c + 1 := ⟨(i - cl - 1).toNat, by omega⟩
    rw [hc'] at hp
    have S := seg_L c hp (fun i' h0 h1 => ⟨Cg_t (kc i' (by omega) (by omega)), Cg_f (nn i' h0 (by omega))⟩) rfl (Cg_f dn.2) (w' := 3) (by cases Cg s M (cl - 1) j <;> decide)
    rw [← hc', cl2] at S
    have ej : j - 1 + 1 = j := by omega
    exact ⟨c + 2, _, S.1, S.2, ⟨cl, j - 1, cl0, cl1, j0, j1, ⟨b1, k, r, a, Or.inl ⟨rfl, cl2⟩⟩, Or.inl ⟨by omega, by rw [ej]⟩⟩, by omega⟩
/-- under the stretch k to the right -/
theorem ml_AB (h : wf s) (g : GL s M) {p : wlk} {i j b1 b k e x2 : Int} (i0 : 0 ≤ i) (i1 : i ≤ gw M) (j0 : 0 ≤ j) (j1 : j < gh M) (r : RBd s M b1 j) (a : inP s b1 k) (k0 : slf s k ≤ gx M i) (k1 : gx M i < srt s k) (ro : rwO s M b (j - 1)) (no : ¬ cel s M i (j - 1)) (hp : stp (Cg s M) p = (i, j, 0)) (t : AB s k b (gx M i) e x2) :
    ∃ m p', SEG s M p m (some (gx M i, x2, gy M j)) ∧ sti (Cg s M) m p = p' ∧ VS s M e p' ∧ 1 ≤ m := by
  have asc := g.2.2.2.2.1
  obtain ⟨_, _, hc, _⟩ := GL_pos g a.1 a.2.1
  have cmp : ∀ u v, 0 ≤ u → u ≤ gw M → 0 ≤ v → v ≤ gw M → (gx M u < gx M v ↔ u < v) := fun u v a b c d => (asc_inj asc a b c d).1
  obtain ⟨cr, cr0, cr1, cr2⟩ := (hc _).mp (inP_cols h a).2
  have cri : i < cr := (cmp _ _ i0 i1 cr0 cr1).mp (by omega)
  have kc : ∀ i', i ≤ i' → i' < cr → cel s M i' j := fun i' h0 h1 => by
    have y1 := (cmp i' cr (by omega) (by omega) cr0 cr1).mpr h1
    have y2 : gx M i ≤ gx M i' := by
      by_cases z : i = i'
      · rw [z]; exact Int.le_refl _
      · have := (cmp i i' i0 i1 (by omega) (by omega)).mpr (by omega)
        omega
    exact at_cel h g (by omega) (by omega) j0 j1 r a (by omega) (by omega)
  have none : ∀ i2, i2 ≤ cr → (∀ k', bst s b ≤ k' → k' < ben s b → gx M i < srt s k' → gx M i2 ≤ slf s k') → ∀ i', i ≤ i' → i' < i2 → ¬ cel s M i' (j - 1) := fun i2 h0 hq i' h1 h2 c => by
    obtain ⟨b', k', r', a', q1, q2⟩ := cel_at h g c
    rcases ro with ⟨_, z⟩ | ⟨z0, z1, z2, z3, z4⟩
    · exact z _ c
    · have eb := RBd_one h a'.1 a'.2.1 z0 z1 r' z2
      have nb : ¬ b = -1 := by omega
      have hb : bst s b ≤ k' ∧ k' < ben s b := by
        unfold bst ben
        rw [if_neg nb, if_neg nb, ← eb]
        exact ⟨a'.2.2.1, a'.2.2.2⟩
      have y1 := (cmp i' i2 (by omega) (by omega) (by omega) (by omega)).mpr h2
      have y2 : gx M i ≤ gx M i' := by
        by_cases z : i = i'
        · rw [z]; exact Int.le_refl _
        · have := (cmp i i' i0 i1 (by omega) (by omega)).mpr (by omega)
          omega
      have := hq k' hb.1 hb.2 (by omega)
      omega
  rcases t with ⟨u, u0, u1, u2, u3, u4, rfl, rfl⟩ | ⟨u1, rfl, rfl⟩
  · rcases ro with ⟨z, _⟩ | ⟨z0, z1, z2, z3, z4⟩
    · exfalso
      unfold bst at u0
      unfold ben at u1
      rw [if_pos z] at u0 u1
      omega
    · have nb : ¬ b = -1 := by omega
      have u0' := u0
      have u1' := u1
      unfold bst at u0'
      unfold ben at u1'
      rw [if_neg nb] at u0' u1'
      have ao : inP s b u := ⟨z0, z1, u0', u1'⟩
      obtain ⟨i2, c0, c1, c2⟩ := (hc _).mp (inP_cols h ao).1
      have dn := EDG_dn h g c0 c1 z3 z4 z2 ao c2
      have i2i : i < i2 := by
        by_cases z : i < i2
        · exact z
        · exfalso
          apply no
          have : gx M i2 ≤ gx M i := by
            by_cases z : i2 = i
            · rw [z]; exact Int.le_refl _
            · have := (cmp i2 i c0 c1 i0 i1).mpr (by omega)
              omega
          exact at_cel h g i0 (by omega) z3 z4 z2 ao (by omega) u2
      have cri2 : i2 < cr := (cmp _ _ c0 c1 cr0 cr1).mp (by omega)
      have dd := (h.2.2.1 b z0 z1).2.2.2.2.1
      have nn := none i2 (by omega) (fun k' h0 h1 h2 => by
        by_cases z : u ≤ k'
        · by_cases y : k' = u
          · rw [y, c2]; exact Int.le_refl _
          · unfold ben at h1
            rw [if_neg nb] at h1
            have := ds_mono dd u0' (show u < k' by omega) h1
            have := dd.1 u u0' u1'
            omega
        · have := u3 k' h0 (by omega)
          omega)
      obtain ⟨c, hc'⟩ : ∃ c : Nat, i = i2 - c - 1 := ⟨(i2 - i - 1).toNat, by omega⟩
      rw [hc'] at hp
      have S := seg_R c hp (fun i' h0 h1 => ⟨Cg_t (kc i' (by omega) (by omega)), Cg_f (nn i' (by omega) h1)⟩) (Cg_t (kc i2 (by omega) (by omega))) (Cg_t dn.1) (w' := 3) (by decide)
      rw [← hc', c2] at S
      have ej : j - 1 + 1 = j := by omega
      exact ⟨c + 2, _, S.1, S.2, ⟨i2, j - 1, c0, c1, z3, z4, ⟨b, u, z2, ao, Or.inl ⟨rfl, c2⟩⟩, Or.inl ⟨by omega, by rw [ej]⟩⟩, by omega⟩
  · have nn := none cr (Int.le_refl _) (fun k' h0 h1 h2 => by have := u1 k' h0 h1 h2; omega)
    have up := EDG_up h g cr0 cr1 j0 j1 r a cr2
    obtain ⟨c, hc'⟩ : ∃ c : Nat, i = cr - c - 1 := ⟨(cr - i - 1).toNat, by omega⟩
    rw [hc'] at hp
    have S := seg_R c hp (fun i' h0 h1 => ⟨Cg_t (kc i' (by omega) (by omega)), Cg_f (nn i' (by omega) h1)⟩) (Cg_f up.2) rfl (w' := 1) (by cases Cg s M cr (j - 1) <;> decide)
    rw [← hc', cr2] at S
    exact ⟨c + 2, _, S.1, S.2, ⟨cr, j, cr0, cr1, j0, j1, ⟨b1, k, r, a, Or.inr ⟨rfl, cr2⟩⟩, Or.inr ⟨by omega, rfl⟩⟩, by omega⟩
end
