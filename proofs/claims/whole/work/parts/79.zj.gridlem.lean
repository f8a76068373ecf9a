/-! ===== the grid's lines and the area's bands ===== -/
/-- in an ascending list, what lies between its ends lies between two neighbours -/
theorem asc_at {f : Int → Int} {n : Int} (h : ∀ i j, 0 ≤ i → i < j → j ≤ n → f i < f j) {v : Int} (n0 : 0 ≤ n) (h0 : f 0 ≤ v) (h1 : v < f n) : ∃ i, 0 ≤ i ∧ i < n ∧ f i ≤ v ∧ v < f (i + 1) := by
  have key : ∀ c : Nat, (c : Int) ≤ n → v < f c → ∃ i, 0 ≤ i ∧ i < n ∧ f i ≤ v ∧ v < f (i + 1) := by
    intro c
    induction c with
    | zero =>
      intro _ q
      have : f ((0 : Nat) : Int) = f 0 := rfl
      rw [this] at q
      omega
    | succ c ih =>
      intro a q
      have e : ((c + 1 : Nat) : Int) = (c : Int) + 1 := by omega
      rw [e] at q a
      by_cases z : v < f c
      · exact ih (by omega) z
      · exact ⟨c, by omega, by omega, by omega, q⟩
  have e : ((n.toNat : Nat) : Int) = n := by omega
  exact key n.toNat (by omega) (by rw [e]; exact h1)
theorem asc_inj {f : Int → Int} {n : Int} (h : ∀ i j, 0 ≤ i → i < j → j ≤ n → f i < f j) {i j : Int} (i0 : 0 ≤ i) (i1 : i ≤ n) (j0 : 0 ≤ j) (j1 : j ≤ n) : (f i < f j ↔ i < j) ∧ (f i = f j ↔ i = j) := by
  by_cases q : i < j
  · have := h i j i0 q j1
    exact ⟨⟨fun _ => q, fun _ => this⟩, ⟨fun _ => by omega, fun _ => by omega⟩⟩
  · by_cases q2 : j < i
    · have := h j i j0 q2 i1
      exact ⟨⟨fun _ => by omega, fun _ => by omega⟩, ⟨fun _ => by omega, fun _ => by omega⟩⟩
    · have e : i = j := by omega
      rw [e]
      exact ⟨⟨fun _ => by omega, fun _ => by omega⟩, ⟨fun _ => rfl, fun _ => rfl⟩⟩
/-- the first end behind a band's low is its high -/
theorem end_gap {s : sh} (h : wf s) {i v : Int} (i0 : 0 ≤ i) (i1 : i < sn s) (hv : ends s v) (a : slo s i < v) : shi s i ≤ v := by
  obtain ⟨j, j0, j1, j2⟩ := hv
  have bj := (h.2.2.1 j j0 j1).2.2.1
  by_cases q : j < i
  · have := wf_hl h j0 q i1
    omega
  · by_cases q2 : i < j
    · have := wf_hl h i0 q2 j1
      omega
    · have e : j = i := by omega
      rw [e] at j2
      omega
section
variable {s : sh} {M : mm_M}
theorem GL_pos (g : GL s M) {i : Int} (i0 : 0 ≤ i) (i1 : i < sn s) : 0 < gw M ∧ 0 < gh M ∧ (∀ v, cols s v ↔ ∃ i, 0 ≤ i ∧ i ≤ gw M ∧ gx M i = v) ∧ (∀ v, ends s v ↔ ∃ i, 0 ≤ i ∧ i ≤ gh M ∧ gy M i = v) := by
  rcases g.2.2.2.2.2.2 with z | z
  · omega
  · exact z.2
/-- each band is a row of the grid -/
theorem band_row (h : wf s) (g : GL s M) {i : Int} (i0 : 0 ≤ i) (i1 : i < sn s) : ∃ j, 0 ≤ j ∧ j < gh M ∧ gy M j = slo s i ∧ gy M (j + 1) = shi s i := by
  obtain ⟨_, h0, _, he⟩ := GL_pos g i0 i1
  have asc := g.2.2.2.2.2.1
  obtain ⟨j, j0, j1, j2⟩ := (he (slo s i)).mp ⟨i, i0, i1, Or.inl rfl⟩
  obtain ⟨k, k0, k1, k2⟩ := (he (shi s i)).mp ⟨i, i0, i1, Or.inr rfl⟩
  have b := (h.2.2.1 i i0 i1).2.2.1
  have jk : j < k := (asc_inj asc j0 j1 k0 k1).1.mp (by omega)
  refine ⟨j, j0, by omega, j2, ?_⟩
  have l1 := asc j (j + 1) j0 (by omega) (by omega)
  have l2 := end_gap h i0 i1 ((he _).mpr ⟨j + 1, by omega, by omega, rfl⟩) (by omega)
  by_cases q : j + 1 = k
  · rw [q]; exact k2
  · have := asc (j + 1) k (by omega) (by omega) k1
    omega
/-- a row of the grid that has cells is a band -/
theorem row_band (h : wf s) (g : GL s M) {j x : Int} (j0 : 0 ≤ j) (j1 : j < gh M) (c : has s x (gy M j)) : ∃ i, 0 ≤ i ∧ i < sn s ∧ slo s i = gy M j ∧ shi s i = gy M (j + 1) ∧ inb s i x := by
  obtain ⟨i, i0, i1, i2, i3, i4⟩ := c
  obtain ⟨k, k0, k1, k2, k3⟩ := band_row h g i0 i1
  have asc := g.2.2.2.2.2.1
  have : k = j := by
    by_cases q : k < j
    · have e1 := (asc_inj asc (show 0 ≤ k + 1 by omega) (show k + 1 ≤ gh M by omega) j0 (show j ≤ gh M by omega))
      by_cases q2 : k + 1 = j
      · rw [q2] at k3; omega
      · have := e1.1.mpr (by omega)
        omega
    · by_cases q2 : j < k
      · have := asc j k j0 q2 (by omega)
        omega
      · omega
  rw [this] at k2 k3
  exact ⟨i, i0, i1, k2.symm, k3.symm, i4⟩
theorem col_same (h : wf s) (g : GL s M) {c x : Int} (c0 : 0 ≤ c) (c1 : c < gw M) (x0 : gx M c ≤ x) (x1 : x < gx M (c + 1)) (y : Int) : has s x y ↔ has s (gx M c) y := by
  have n0 : sn s = 0 ∨ 0 < sn s := by have := h.1; omega
  rcases n0 with n0 | n0
  · constructor
    · rintro ⟨i, a, b, _⟩; omega
    · rintro ⟨i, a, b, _⟩; omega
  · obtain ⟨_, _, hc, _⟩ := GL_pos g (Int.le_refl 0) n0
    have asc := g.2.2.2.2.1
    have key : ∀ d : Nat, gx M c + d < gx M (c + 1) → (has s (gx M c + d) y ↔ has s (gx M c) y) := by
      intro d
      induction d with
      | zero =>
        intro _
        have e : gx M c + ((0 : Nat) : Int) = gx M c := by omega
        rw [e]
      | succ d ih =>
        intro q
        have e : gx M c + ((d + 1 : Nat) : Int) = gx M c + d + 1 := by omega
        rw [e]
        rw [e] at q
        rw [col_const h (x := gx M c + d) (fun z => ?_) y]
        · exact ih (by omega)
        · obtain ⟨i, i0, i1, i2⟩ := (hc _).mp z
          have a1 := (asc_inj asc c0 (show c ≤ gw M by omega) i0 i1).1.mp (by omega)
          have a2 := (asc_inj asc i0 i1 (show 0 ≤ c + 1 by omega) (show c + 1 ≤ gw M by omega)).1.mp (by omega)
          omega
    have := key (x - gx M c).toNat (by omega)
    have e : gx M c + (((x - gx M c).toNat : Nat) : Int) = x := by omega
    rw [e] at this
    exact this
theorem inb_cols (h : wf s) {i x : Int} (i0 : 0 ≤ i) (i1 : i < sn s) (c : inb s i x) : ∃ u v, cols s u ∧ cols s v ∧ u ≤ x ∧ x < v := by
  obtain ⟨k, a, b, d, e⟩ := c
  have z0 := sst_mono h (Int.le_refl 0) i0 (show i ≤ sn s by omega)
  have z1 := sst_mono h (show 0 ≤ i + 1 by omega) (show i + 1 ≤ sn s by omega) (Int.le_refl _)
  rw [h.2.1] at z0
  exact ⟨_, _, ⟨k, by omega, by omega, Or.inl rfl⟩, ⟨k, by omega, by omega, Or.inr rfl⟩, d, e⟩
theorem col_ex (h : wf s) (g : GL s M) {i x : Int} (i0 : 0 ≤ i) (i1 : i < sn s) (c : inb s i x) : ∃ c, 0 ≤ c ∧ c < gw M ∧ gx M c ≤ x ∧ x < gx M (c + 1) := by
  obtain ⟨w0, _, hc, _⟩ := GL_pos g i0 i1
  have asc := g.2.2.2.2.1
  obtain ⟨u, v, hu, hv, u1, v1⟩ := inb_cols h i0 i1 c
  obtain ⟨p, p0, p1, p2⟩ := (hc u).mp hu
  obtain ⟨q, q0, q1, q2⟩ := (hc v).mp hv
  refine asc_at asc (by omega) ?_ ?_
  · by_cases z : p = 0
    · rw [z] at p2; omega
    · have := asc 0 p (Int.le_refl _) (by omega) p1
      omega
  · by_cases z : q = gw M
    · rw [z] at q2; omega
    · have := asc q (gw M) q0 (by omega) (Int.le_refl _)
      omega
end
