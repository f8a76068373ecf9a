/-! ===== the edges of the bands are the upright sides of the grid ===== -/
/-- edge f stands on the place i, j -/
def EDG (s : sh) (M : mm_M) (i j f : Int) : Prop := ∃ b k, RBd s M b j ∧ inP s b k ∧ ((f = 2 * k ∧ gx M i = slf s k) ∨ (f = 2 * k + 1 ∧ gx M i = srt s k))
section
variable {s : sh} {M : mm_M}
theorem inP_cols (h : wf s) {b k : Int} (a : inP s b k) : cols s (slf s k) ∧ cols s (srt s k) := by
  have r := inP_rg0 h a
  have r1 : k < sst s (sn s) := r.2
  exact ⟨⟨k, r.1, r1, Or.inl rfl⟩, ⟨k, r.1, r1, Or.inr rfl⟩⟩
/-- a cell of the grid and the stretch that it lies in -/
theorem cel_at (h : wf s) (g : GL s M) {i j : Int} (c : cel s M i j) : ∃ b k, RBd s M b j ∧ inP s b k ∧ slf s k ≤ gx M i ∧ gx M i < srt s k := by
  obtain ⟨i0, i1, j0, j1, hh⟩ := c
  obtain ⟨b, b0, b1, b2, b3, k, k0, k1, k2, k3⟩ := row_band h g j0 j1 hh
  exact ⟨b, k, ⟨b2.symm, b3.symm⟩, ⟨b0, b1, k0, k1⟩, k2, k3⟩
theorem at_cel (h : wf s) (g : GL s M) {i j b k : Int} (i0 : 0 ≤ i) (i1 : i < gw M) (j0 : 0 ≤ j) (j1 : j < gh M) (r : RBd s M b j) (a : inP s b k) (k2 : slf s k ≤ gx M i) (k3 : gx M i < srt s k) : cel s M i j := by
  have bb := (h.2.2.1 b a.1 a.2.1).2.2.1
  refine ⟨i0, i1, j0, j1, b, a.1, a.2.1, by rw [r.1]; exact Int.le_refl _, by rw [r.1]; exact bb, k, a.2.2.1, a.2.2.2, k2, k3⟩
theorem EDG_r (h : wf s) (g : GL s M) {i j : Int} (a : cel s M (i - 1) j) (n : ¬ cel s M i j) : ∃ b k, RBd s M b j ∧ inP s b k ∧ gx M i = srt s k := by
  obtain ⟨b, k, r, p, k2, k3⟩ := cel_at h g a
  have asc := g.2.2.2.2.1
  refine ⟨b, k, r, p, ?_⟩
  have a0 := a.1
  have a1 := a.2.1
  obtain ⟨_, _, hc, _⟩ := GL_pos g p.1 p.2.1
  obtain ⟨c, c0, c1, c2⟩ := (hc _).mp (inP_cols h p).2
  have ci : i - 1 < c := (asc_inj asc a0 (show i - 1 ≤ gw M by omega) c0 c1).1.mp (by omega)
  by_cases q : c = i
  · rw [← q]; exact c2
  · exfalso
    have l1 := asc i c (by omega) (by omega) c1
    have l2 := asc (i - 1) i a0 (by omega) (by omega)
    exact n (at_cel h g (by omega) (by omega) a.2.2.1 a.2.2.2.1 r p (by omega) (by omega))
theorem EDG_l (h : wf s) (g : GL s M) {i j : Int} (a : cel s M i j) (n : ¬ cel s M (i - 1) j) : ∃ b k, RBd s M b j ∧ inP s b k ∧ gx M i = slf s k := by
  obtain ⟨b, k, r, p, k2, k3⟩ := cel_at h g a
  have asc := g.2.2.2.2.1
  refine ⟨b, k, r, p, ?_⟩
  have a0 := a.1
  have a1 := a.2.1
  obtain ⟨_, _, hc, _⟩ := GL_pos g p.1 p.2.1
  obtain ⟨c, c0, c1, c2⟩ := (hc _).mp (inP_cols h p).1
  by_cases q : c = i
  · rw [← q]; exact c2
  · exfalso
    have ci : c < i := by
      by_cases q2 : c < i
      · exact q2
      · have := asc i c a0 (by omega) c1
        omega
    have l1 : gx M c ≤ gx M (i - 1) := by
      by_cases q3 : c = i - 1
      · rw [q3]; exact Int.le_refl _
      · have := asc c (i - 1) c0 (by omega) (by omega)
        omega
    have l2 := asc (i - 1) i (by omega) (by omega) (by omega)
    exact n (at_cel h g (by omega) (by omega) a.2.2.1 a.2.2.2.1 r p (by omega) (by omega))
/-- and back: at the right end of a stretch -/
theorem EDG_up (h : wf s) (g : GL s M) {i j b k : Int} (i0 : 0 ≤ i) (i1 : i ≤ gw M) (j0 : 0 ≤ j) (j1 : j < gh M) (r : RBd s M b j) (p : inP s b k) (e : gx M i = srt s k) : cel s M (i - 1) j ∧ ¬ cel s M i j := by
  have asc := g.2.2.2.2.1
  have d := (h.2.2.1 b p.1 p.2.1).2.2.2.2.1
  have kd := d.1 k p.2.2.1 p.2.2.2
  obtain ⟨_, _, hc, _⟩ := GL_pos g p.1 p.2.1
  obtain ⟨c, c0, c1, c2⟩ := (hc _).mp (inP_cols h p).1
  have ci : c < i := (asc_inj asc c0 c1 i0 i1).1.mp (by omega)
  have l1 : gx M c ≤ gx M (i - 1) := by
    by_cases q3 : c = i - 1
    · rw [q3]; exact Int.le_refl _
    · have := asc c (i - 1) c0 (by omega) (by omega)
      omega
  have l2 := asc (i - 1) i (by omega) (by omega) i1
  refine ⟨at_cel h g (by omega) (by omega) j0 j1 r p (by omega) (by omega), fun z => ?_⟩
  have bb := (h.2.2.1 b p.1 p.2.1).2.2.1
  obtain ⟨k', a0, a1, a2, a3⟩ := (has_at h p.1 p.2.1 (show slo s b ≤ gy M j by rw [r.1]; exact Int.le_refl _) (by rw [r.1]; exact bb) _).mp z.2.2.2.2
  by_cases q : k' = k
  · rw [q] at a3; omega
  · by_cases q2 : k' < k
    · have := ds_mono d a0 q2 p.2.2.2
      omega
    · have := ds_mono d p.2.2.1 (show k < k' by omega) a1
      omega
theorem EDG_dn (h : wf s) (g : GL s M) {i j b k : Int} (i0 : 0 ≤ i) (i1 : i ≤ gw M) (j0 : 0 ≤ j) (j1 : j < gh M) (r : RBd s M b j) (p : inP s b k) (e : gx M i = slf s k) : cel s M i j ∧ ¬ cel s M (i - 1) j := by
  have asc := g.2.2.2.2.1
  have d := (h.2.2.1 b p.1 p.2.1).2.2.2.2.1
  have kd := d.1 k p.2.2.1 p.2.2.2
  obtain ⟨_, _, hc, _⟩ := GL_pos g p.1 p.2.1
  obtain ⟨c, c0, c1, c2⟩ := (hc _).mp (inP_cols h p).2
  have ci : i < c := (asc_inj asc i0 i1 c0 c1).1.mp (by omega)
  refine ⟨at_cel h g i0 (by omega) j0 j1 r p (by omega) (by omega), fun z => ?_⟩
  have bb := (h.2.2.1 b p.1 p.2.1).2.2.1
  have z0 := z.1
  have l2 := asc (i - 1) i z0 (by omega) i1
  obtain ⟨k', a0, a1, a2, a3⟩ := (has_at h p.1 p.2.1 (show slo s b ≤ gy M j by rw [r.1]; exact Int.le_refl _) (by rw [r.1]; exact bb) _).mp z.2.2.2.2
  by_cases q : k' = k
  · rw [q] at a2; omega
  · by_cases q2 : k' < k
    · have l3 := ds_mono d a0 q2 p.2.2.2
      obtain ⟨c', c0', c1', c2'⟩ := (hc _).mp (inP_cols h ⟨p.1, p.2.1, a0, a1⟩).2
      have u1 := (asc_inj asc z0 (show i - 1 ≤ gw M by omega) c0' c1').1.mp (by omega)
      have u2 := (asc_inj asc c0' c1' i0 i1).1.mp (by omega)
      omega
    · have := ds_mono d p.2.2.1 (show k < k' by omega) a1
      omega
theorem RBd_one (h : wf s) {b b' j : Int} (a0 : 0 ≤ b) (a1 : b < sn s) (c0 : 0 ≤ b') (c1 : b' < sn s) (r : RBd s M b j) (r' : RBd s M b' j) : b = b' := by
  have x1 := (h.2.2.1 b a0 a1).2.2.1
  have x2 := (h.2.2.1 b' c0 c1).2.2.1
  have e := r.1
  have e' := r'.1
  by_cases q : b < b'
  · have := wf_hl h a0 q c1
    omega
  · by_cases q2 : b' < b
    · have := wf_hl h c0 q2 a1
      omega
    · omega
theorem EDG_rg (h : wf s) {i j f : Int} (e : EDG s M i j f) : 0 ≤ f ∧ f < 2 * nS_ s := by
  obtain ⟨b, k, _, p, q⟩ := e
  have := inP_rg0 h p
  omega
/-- places in order are edges in order -/
theorem EDG_lt (h : wf s) (g : GL s M) {i j f i' j' f' : Int} (i0 : 0 ≤ i) (i1 : i ≤ gw M) (j0 : 0 ≤ j) (j1 : j < gh M) (k0 : 0 ≤ i') (k1 : i' ≤ gw M) (l0 : 0 ≤ j') (l1 : j' < gh M) (e : EDG s M i j f) (e' : EDG s M i' j' f') (lt : j < j' ∨ (j = j' ∧ i < i')) : f < f' := by
  obtain ⟨b, k, r, p, q⟩ := e
  obtain ⟨b', k', r', p', q'⟩ := e'
  have x1 := (h.2.2.1 b p.1 p.2.1).2.2.1
  have x2 := (h.2.2.1 b' p'.1 p'.2.1).2.2.1
  rcases lt with lt | ⟨lt, li⟩
  · have y := g.2.2.2.2.2.1 j j' j0 lt (by omega)
    have e1 := r.1
    have e2 := r'.1
    have bb : b < b' := by
      by_cases z : b < b'
      · exact z
      · by_cases z2 : b = b'
        · rw [z2] at e1; omega
        · have := wf_hl h p'.1 (show b' < b by omega) p.2.1
          omega
    have m := sst_mono h (show 0 ≤ b + 1 by have := p.1; omega) (show b + 1 ≤ b' by omega) (show b' ≤ sn s by have := p'.2.1; omega)
    have := p.2.2.2
    have := p'.2.2.1
    omega
  · rw [← lt] at r'
    have eb := RBd_one h p.1 p.2.1 p'.1 p'.2.1 r r'
    rw [← eb] at p'
    have d := (h.2.2.1 b p.1 p.2.1).2.2.2.2.1
    have y := g.2.2.2.2.1 i i' i0 li k1
    have d1 := d.1 k p.2.2.1 p.2.2.2
    have d2 := d.1 k' p'.2.2.1 p'.2.2.2
    by_cases z : k < k'
    · omega
    · by_cases z2 : k' < k
      · have := ds_mono d p'.2.2.1 z2 p.2.2.2
        omega
      · have ek : k = k' := by omega
        rw [← ek] at q'
        omega
theorem EDG_one (h : wf s) {i j f f' : Int} (e : EDG s M i j f) (e' : EDG s M i j f') : f = f' := by
  obtain ⟨b, k, r, p, q⟩ := e
  obtain ⟨b', k', r', p', q'⟩ := e'
  have eb := RBd_one h p.1 p.2.1 p'.1 p'.2.1 r r'
  rw [← eb] at p'
  have d := (h.2.2.1 b p.1 p.2.1).2.2.2.2.1
  have d1 := d.1 k p.2.2.1 p.2.2.2
  have d2 := d.1 k' p'.2.2.1 p'.2.2.2
  by_cases z : k < k'
  · have := ds_mono d p.2.2.1 z p'.2.2.2
    omega
  · by_cases z2 : k' < k
    · have := ds_mono d p'.2.2.1 z2 p.2.2.2
      omega
    · have ek : k = k' := by omega
      rw [← ek] at q'
      omega
/-- every edge stands somewhere -/
theorem EDG_ex (h : wf s) (g : GL s M) {f : Int} (f0 : 0 ≤ f) (f1 : f < 2 * nS_ s) : ∃ i j, 0 ≤ i ∧ i ≤ gw M ∧ 0 ≤ j ∧ j < gh M ∧ EDG s M i j f := by
  obtain ⟨b, b0, b1, b2, b3⟩ := k_band h (k := f / 2) (by omega) (show f / 2 < sst s (sn s) by have : f < 2 * sst s (sn s) := f1; omega)
  obtain ⟨j, j0, j1, j2, j3⟩ := band_row h g b0 b1
  obtain ⟨_, _, hc, _⟩ := GL_pos g b0 b1
  have p : inP s b (f / 2) := ⟨b0, b1, b2, b3⟩
  by_cases z : f % 2 = 0
  · obtain ⟨c, c0, c1, c2⟩ := (hc _).mp (inP_cols h p).1
    exact ⟨c, j, c0, c1, j0, j1, b, f / 2, ⟨j2, j3⟩, p, Or.inl ⟨by omega, c2⟩⟩
  · obtain ⟨c, c0, c1, c2⟩ := (hc _).mp (inP_cols h p).2
    exact ⟨c, j, c0, c1, j0, j1, b, f / 2, ⟨j2, j3⟩, p, Or.inr ⟨by omega, c2⟩⟩
end
