/-! ===== the boxes of the grid are the boxes of the bands ===== -/
/-- band i is the row j of the grid -/
def RBd (s : sh) (M : mm_M) (i j : Int) : Prop := gy M j = slo s i ∧ gy M (j + 1) = shi s i
/-- column c is full in the rows low to j -/
def cfl (s : sh) (M : mm_M) (low j c : Int) : Prop := 0 ≤ c ∧ c < gw M ∧ ∀ j', low ≤ j' → j' ≤ j → cel s M c j'
/-- the boxes of the grid -/
def GB (s : sh) (M : mm_M) (ok : Int → Int → Int → Prop) : Int → Int → Int → Int → Prop := fun l lo r hi => ∃ low j f t, 0 ≤ low ∧ low ≤ j ∧ j < gh M ∧ run (cfl s M low j) f t ∧ l = gx M f ∧ lo = gy M low ∧ r = gx M t ∧ hi = gy M (j + 1) ∧ ok low j f
section
variable {s : sh} {M : mm_M}
theorem cols_rg (h : wf s) {v : Int} (c : cols s v) : -1000 ≤ v ∧ v ≤ 1000 := by
  obtain ⟨k, a, b, c⟩ := c
  obtain ⟨i, i0, i1, i2, i3⟩ := k_band h a b
  have bk := h.2.2.1 i i0 i1
  have x := bk.2.2.2.2.2 k i2 i3
  have y := bk.2.2.2.2.1.1 k i2 i3
  omega
theorem ends_rg (h : wf s) {v : Int} (c : ends s v) : -1000 ≤ v ∧ v ≤ 1000 := by
  obtain ⟨i, i0, i1, i2⟩ := c
  have bk := h.2.2.1 i i0 i1
  have := bk.2.1
  have := bk.2.2.1
  have := bk.2.2.2.1
  omega
theorem up_step (h : wf s) (g : GL s M) {i j : Int} (i0 : 0 ≤ i) (i1 : i + 1 < sn s) (j0 : 0 ≤ j) (j1 : j < gh M) (r : RBd s M i j) (t : shi s i = slo s (i + 1)) : j + 1 < gh M ∧ RBd s M (i + 1) (j + 1) := by
  obtain ⟨k, k0, k1, k2, k3⟩ := band_row h g (show 0 ≤ i + 1 by omega) i1
  have asc := g.2.2.2.2.2.1
  have e : k = j + 1 := (asc_inj asc k0 (show k ≤ gh M by omega) (show 0 ≤ j + 1 by omega) (show j + 1 ≤ gh M by omega)).2.mp (by rw [k2, r.2, t])
  rw [e] at k1 k2 k3
  exact ⟨k1, k2, k3⟩
theorem dn_step (h : wf s) (g : GL s M) {i j x : Int} (i0 : 0 ≤ i) (i1 : i < sn s) (j0 : 0 ≤ j) (j1 : j + 1 < gh M) (r : RBd s M i j) (c : has s x (gy M (j + 1))) : i + 1 < sn s ∧ shi s i = slo s (i + 1) ∧ RBd s M (i + 1) (j + 1) := by
  obtain ⟨m, m0, m1, m2, m3, _⟩ := row_band h g (show 0 ≤ j + 1 by omega) j1 c
  have e : m = i + 1 := by
    have b1 := (h.2.2.1 m m0 m1).2.2.1
    have b2 := (h.2.2.1 i i0 i1).2.2.1
    have rr := r.2
    by_cases q : m < i
    · have := wf_hl h m0 q i1
      omega
    · by_cases q2 : m = i
      · rw [q2] at m2; omega
      · by_cases q3 : m = i + 1
        · exact q3
        · have x1 := wf_hl h i0 (show i < i + 1 by omega) (show i + 1 < sn s by omega)
          have x2 := wf_hl h (show 0 ≤ i + 1 by omega) (show i + 1 < m by omega) m1
          have x3 := (h.2.2.1 (i + 1) (by omega) (by omega)).2.2.1
          omega
  rw [e] at m1 m2 m3
  exact ⟨m1, by rw [m2]; exact r.2.symm, m2.symm, m3.symm⟩
theorem up_all (h : wf s) (g : GL s M) {i k j : Int} (i0 : 0 ≤ i) (k1 : k < sn s) (j0 : 0 ≤ j) (j1 : j < gh M) (r : RBd s M i j) (t : ∀ m, i < m → m ≤ k → shi s (m - 1) = slo s m) : ∀ d : Nat, i + d ≤ k → j + d < gh M ∧ RBd s M (i + d) (j + d) := by
  intro d
  induction d with
  | zero =>
    intro _
    have e1 : i + ((0 : Nat) : Int) = i := by omega
    have e2 : j + ((0 : Nat) : Int) = j := by omega
    rw [e1, e2]
    exact ⟨j1, r⟩
  | succ d ih =>
    intro q
    have e1 : i + ((d + 1 : Nat) : Int) = i + d + 1 := by omega
    have e2 : j + ((d + 1 : Nat) : Int) = j + d + 1 := by omega
    rw [e1] at q
    rw [e1, e2]
    obtain ⟨a, b⟩ := ih (by omega)
    have tt := t (i + d + 1) (by omega) q
    have e3 : i + (d : Int) + 1 - 1 = i + d := by omega
    rw [e3] at tt
    exact up_step h g (by omega) (by omega) (by omega) a b tt
theorem dn_all (h : wf s) (g : GL s M) {i j low x : Int} (i0 : 0 ≤ i) (i1 : i < sn s) (l0 : 0 ≤ low) (j1 : j < gh M) (r : RBd s M i low) (c : ∀ j', low ≤ j' → j' ≤ j → has s x (gy M j')) : ∀ d : Nat, low + d ≤ j → i + d < sn s ∧ RBd s M (i + d) (low + d) ∧ (0 < d → shi s (i + d - 1) = slo s (i + d)) := by
  intro d
  induction d with
  | zero =>
    intro _
    have e1 : i + ((0 : Nat) : Int) = i := by omega
    have e2 : low + ((0 : Nat) : Int) = low := by omega
    rw [e1, e2]
    exact ⟨i1, r, fun z => absurd z (by omega)⟩
  | succ d ih =>
    intro q
    have e1 : i + ((d + 1 : Nat) : Int) = i + d + 1 := by omega
    have e2 : low + ((d + 1 : Nat) : Int) = low + d + 1 := by omega
    rw [e2] at q
    rw [e1, e2]
    obtain ⟨a, b, _⟩ := ih (by omega)
    obtain ⟨x1, x2, x3⟩ := dn_step h g (show 0 ≤ i + d by omega) a (show 0 ≤ low + d by omega) (show low + d + 1 < gh M by omega) b (c _ (by omega) q)
    have e3 : i + (d : Int) + 1 - 1 = i + d := by omega
    exact ⟨x1, x3, fun _ => by rw [e3]; exact x2⟩
/-- bands i .. k are the rows low .. j -/
theorem cfl_iff (h : wf s) (g : GL s M) {i k low j : Int} (i0 : 0 ≤ i) (ik : i ≤ k) (k1 : k < sn s) (l0 : 0 ≤ low) (j1 : j < gh M) (e : j - low = k - i) (r : ∀ d : Nat, i + d ≤ k → RBd s M (i + d) (low + d)) (c : Int) : cfl s M low j c ↔ 0 ≤ c ∧ c < gw M ∧ ∀ m, i ≤ m → m ≤ k → inb s m (gx M c) := by
  have key : ∀ d : Nat, i + d ≤ k → (has s (gx M c) (gy M (low + d)) ↔ inb s (i + d) (gx M c)) := by
    intro d q
    have rd := r d q
    have b := (h.2.2.1 (i + d) (by omega) (by omega)).2.2.1
    exact has_at h (by omega) (by omega) (by rw [rd.1]; exact Int.le_refl _) (by rw [rd.1]; exact b) _
  constructor
  · rintro ⟨c0, c1, c2⟩
    refine ⟨c0, c1, fun m m0 m1 => ?_⟩
    have q := (c2 (low + (m - i)) (by omega) (by omega)).2.2.2.2
    have kk := key (m - i).toNat (by omega)
    have e1 : low + (((m - i).toNat : Nat) : Int) = low + (m - i) := by omega
    have e2 : i + (((m - i).toNat : Nat) : Int) = m := by omega
    rw [e1, e2] at kk
    exact kk.mp q
  · rintro ⟨c0, c1, c2⟩
    refine ⟨c0, c1, fun j' j0' j1' => ⟨c0, c1, by omega, by omega, ?_⟩⟩
    have kk := key (j' - low).toNat (by omega)
    have e1 : low + (((j' - low).toNat : Nat) : Int) = j' := by omega
    have e2 : i + (((j' - low).toNat : Nat) : Int) = i + (j' - low) := by omega
    rw [e1, e2] at kk
    exact kk.mpr (c2 _ (by omega) (by omega))
/-- the runs of x's and the runs of columns -/
theorem run_iff (h : wf s) (g : GL s M) {R : Int → Prop} {i : Int} (i0 : 0 ≤ i) (i1 : i < sn s) (hR : ∀ x, R x → inb s i x) (hc : ∀ c x, 0 ≤ c → c < gw M → gx M c ≤ x → x < gx M (c + 1) → (R x ↔ R (gx M c))) (l r : Int) :
    run R l r ↔ ∃ f t, run (fun c => 0 ≤ c ∧ c < gw M ∧ R (gx M c)) f t ∧ l = gx M f ∧ r = gx M t := by
  have asc := g.2.2.2.2.1
  have w0 := (GL_pos g i0 i1).1
  constructor
  · rintro ⟨a, b, c, d⟩
    have Rl := b l (Int.le_refl _) a
    have Rr := b (r - 1) (by omega) (by omega)
    obtain ⟨f, f0, f1, f2, f3⟩ := col_ex h g i0 i1 (hR l Rl)
    obtain ⟨t, t0, t1, t2, t3⟩ := col_ex h g i0 i1 (hR _ Rr)
    have lf : l = gx M f := by
      by_cases q : l = gx M f
      · exact q
      · exfalso
        exact c ((hc f (l - 1) f0 f1 (by omega) (by omega)).mpr ((hc f l f0 f1 f2 f3).mp Rl))
    have rt : r = gx M (t + 1) := by
      by_cases q : r = gx M (t + 1)
      · exact q
      · exfalso
        exact d ((hc t r t0 t1 (by omega) (by omega)).mpr ((hc t (r - 1) t0 t1 t2 t3).mp Rr))
    have ft : f < t + 1 := (asc_inj asc f0 (show f ≤ gw M by omega) (show 0 ≤ t + 1 by omega) (show t + 1 ≤ gw M by omega)).1.mp (by omega)
    refine ⟨f, t + 1, ⟨ft, fun x x0 x1 => ⟨by omega, by omega, b _ ?_ ?_⟩, fun z => ?_, fun z => ?_⟩, lf, rt⟩
    · by_cases q : x = f
      · rw [q]; omega
      · have := asc f x f0 (by omega) (by omega)
        omega
    · have := asc x (t + 1) (by omega) (by omega) (by omega)
      omega
    · have e : f - 1 + 1 = f := by omega
      have y := asc (f - 1) f (by omega) (by omega) (by omega)
      exact c ((hc (f - 1) (l - 1) z.1 z.2.1 (by omega) (by rw [e]; omega)).mpr z.2.2)
    · have y := asc (t + 1) (t + 1 + 1) (by omega) (by omega) (by omega)
      exact d ((hc (t + 1) r z.1 z.2.1 (by omega) (by omega)).mpr z.2.2)
  · rintro ⟨f, t, ⟨a, b, c, d⟩, lf, rt⟩
    have bf := b f (Int.le_refl _) a
    have bt := b (t - 1) (by omega) (by omega)
    have lr := asc f t bf.1 a (by omega)
    refine ⟨by omega, fun x x0 x1 => ?_, fun z => ?_, fun z => ?_⟩
    · obtain ⟨e, e0, e1, e2, e3⟩ := asc_at (f := gx M) (n := gw M) asc (by omega) (show gx M 0 ≤ x by
        by_cases q : f = 0
        · rw [← q]; omega
        · have := asc 0 f (Int.le_refl _) (by omega) (by omega)
          omega) (show x < gx M (gw M) by
        by_cases q : t = gw M
        · rw [← q]; omega
        · have := asc t (gw M) (by omega) (by omega) (Int.le_refl _)
          omega)
      have u1 : f < e + 1 := (asc_inj asc (show 0 ≤ f by omega) (show f ≤ gw M by omega) (show 0 ≤ e + 1 by omega) (show e + 1 ≤ gw M by omega)).1.mp (by omega)
      have u2 : e < t := (asc_inj asc e0 (show e ≤ gw M by omega) (show 0 ≤ t by omega) (show t ≤ gw M by omega)).1.mp (by omega)
      exact (hc e x e0 e1 e2 e3).mpr (b e (by omega) u2).2.2
    · obtain ⟨e, e0, e1, e2, e3⟩ := col_ex h g i0 i1 (hR _ z)
      have u1 : e < f := (asc_inj asc e0 (show e ≤ gw M by omega) (show 0 ≤ f by omega) (show f ≤ gw M by omega)).1.mp (by omega)
      have u2 : f < e + 1 + 1 := by
        by_cases q : f < e + 1 + 1
        · exact q
        · have := asc (e + 1) f (by omega) (by omega) (by omega)
          omega
      have ef : e = f - 1 := by omega
      rw [ef] at e0 e1 e2 e3
      exact c ⟨e0, e1, (hc (f - 1) (l - 1) e0 e1 e2 e3).mp z⟩
    · obtain ⟨e, e0, e1, e2, e3⟩ := col_ex h g i0 i1 (hR _ z)
      have u1 : e < t + 1 := by
        by_cases q : e < t + 1
        · exact q
        · have := asc t e (by omega) (by omega) (by omega)
          omega
      have u2 : t < e + 1 := (asc_inj asc (show 0 ≤ t by omega) (show t ≤ gw M by omega) (show 0 ≤ e + 1 by omega) (show e + 1 ≤ gw M by omega)).1.mp (by omega)
      have ef : e = t := by omega
      rw [ef] at e0 e1 e2 e3
      exact d ⟨e0, e1, (hc t r e0 e1 e2 e3).mp z⟩
theorem run_cong {R S : Int → Prop} (e : ∀ x, R x ↔ S x) (l r : Int) : run R l r ↔ run S l r := by
  unfold run
  rw [e, e]
  constructor
  · exact fun z => ⟨z.1, fun x a b => (e x).mp (z.2.1 x a b), z.2.2⟩
  · exact fun z => ⟨z.1, fun x a b => (e x).mpr (z.2.1 x a b), z.2.2⟩
theorem inb_col (h : wf s) (g : GL s M) {i c x : Int} (i0 : 0 ≤ i) (i1 : i < sn s) (c0 : 0 ≤ c) (c1 : c < gw M) (x0 : gx M c ≤ x) (x1 : x < gx M (c + 1)) : inb s i x ↔ inb s i (gx M c) := by
  have b := (h.2.2.1 i i0 i1).2.2.1
  rw [← has_at h i0 i1 (Int.le_refl _) b x, ← has_at h i0 i1 (Int.le_refl _) b (gx M c)]
  exact col_same h g c0 c1 x0 x1 _
/-- both tell of the same boxes -/
theorem GB_CN (h : wf s) (g : GL s M) (l lo r hi : Int) : GB s M (fun _ _ _ => True) l lo r hi ↔ CN s (sn s) 0 l lo r hi := by
  constructor
  · rintro ⟨low, j, f, t, l0, lj, j1, rn, e1, e2, e3, e4, _⟩
    have cf := rn.2.1 f (Int.le_refl _) rn.1
    obtain ⟨i, i0, i1, i2, i3, _⟩ := row_band h g l0 (show low < gh M by omega) (cf.2.2 low (Int.le_refl _) lj).2.2.2.2
    have dn := dn_all h g i0 i1 l0 j1 ⟨i2.symm, i3.symm⟩ (fun j' a b => (cf.2.2 j' a b).2.2.2.2)
    have dk := dn (j - low).toNat (by omega)
    have ek : i + (((j - low).toNat : Nat) : Int) = i + (j - low) := by omega
    have ej : low + (((j - low).toNat : Nat) : Int) = j := by omega
    rw [ek, ej] at dk
    have ci := fun c => cfl_iff h g (k := i + (j - low)) i0 (by omega) dk.1 l0 j1 (by omega) (fun d q => (dn d (by omega)).2.1) c
    refine ⟨i, i + (j - low), ⟨i0, by omega, dk.1, fun m m0 m1 => ?_, ?_⟩, by rw [e2]; exact i2.symm, by rw [e4]; exact dk.2.1.2, Or.inl i1⟩
    · have x := (dn (m - i).toNat (by omega)).2.2 (by omega)
      have em : i + (((m - i).toNat : Nat) : Int) = m := by omega
      rw [em] at x
      exact x
    · refine (run_iff h g i0 i1 (R := fun x => ∀ m, i ≤ m → m ≤ i + (j - low) → inb s m x) (fun x z => z i (Int.le_refl _) (by omega)) (fun c x c0 c1 x0 x1 => ?_) l r).mpr ⟨f, t, (run_cong ci f t).mp rn, e1, e3⟩
      constructor
      · exact fun z m m0 m1 => (inb_col h g (by omega) (by omega) c0 c1 x0 x1).mp (z m m0 m1)
      · exact fun z m m0 m1 => (inb_col h g (by omega) (by omega) c0 c1 x0 x1).mpr (z m m0 m1)
  · rintro ⟨i, k, ⟨i0, ik, k1, tt, rn⟩, e1, e2, _⟩
    obtain ⟨low, l0, l1, l2, l3⟩ := band_row h g i0 (show i < sn s by omega)
    have up := up_all h g i0 k1 l0 l1 ⟨l2, l3⟩ tt
    have uk := up (k - i).toNat (by omega)
    have ek : i + (((k - i).toNat : Nat) : Int) = k := by omega
    have ej : low + (((k - i).toNat : Nat) : Int) = low + (k - i) := by omega
    rw [ek, ej] at uk
    have ci := fun c => cfl_iff h g (low := low) (j := low + (k - i)) i0 ik k1 l0 uk.1 (by omega) (fun d q => (up d q).2) c
    obtain ⟨f, t, rn', lf, rt⟩ := (run_iff h g i0 (show i < sn s by omega) (R := fun x => ∀ m, i ≤ m → m ≤ k → inb s m x) (fun x z => z i (Int.le_refl _) ik) (fun c x c0 c1 x0 x1 => ⟨fun z m m0 m1 => (inb_col h g (by omega) (by omega) c0 c1 x0 x1).mp (z m m0 m1), fun z m m0 m1 => (inb_col h g (by omega) (by omega) c0 c1 x0 x1).mpr (z m m0 m1)⟩) l r).mp rn
    exact ⟨low, low + (k - i), f, t, l0, by omega, uk.1, (run_cong ci f t).mpr rn', lf, by rw [e1]; exact l2.symm, rt, by rw [e2]; exact uk.2.2.symm, trivial⟩
theorem CN_ok (h : wf s) : Pok (CN s (sn s) 0) := by
  rintro l lo r hi ⟨i, k, ⟨i0, ik, k1, tt, rn⟩, e1, e2, _⟩
  have bi := h.2.2.1 i i0 (by omega)
  have bk := h.2.2.1 k (by omega) k1
  have a := inb_rg bi (rn.2.1 l (Int.le_refl _) rn.1 i (Int.le_refl _) ik)
  have b := inb_rg bi (rn.2.1 (r - 1) (by have := rn.1; omega) (by omega) i (Int.le_refl _) ik)
  have c := rn.1
  have d1 := bi.2.1
  have d2 := bi.2.2.1
  have d3 := bk.2.2.1
  have d4 := bk.2.2.2.1
  have lh : lo < hi := by
    by_cases q : i = k
    · rw [q] at e1; omega
    · have := wf_hl h i0 (show i < k by omega) k1
      omega
  omega
theorem CN_some (h : wf s) (n : 0 < sn s) : ∃ l lo r hi, CN s (sn s) 0 l lo r hi := by
  have b := h.2.2.1 0 (by decide) n
  have hR : ∀ x, inb s 0 x → -1000 ≤ x ∧ x < 1000 := fun x z => inb_rg b z
  -- the first stretch is a run
  have k0 : sst s 0 < sst s (0 + 1) := b.1
  refine ⟨slf s (sst s 0), slo s 0, srt s (sst s 0), shi s 0, 0, 0, ⟨by decide, by decide, n, fun j j0 j1 => absurd j0 (by omega), ?_⟩, rfl, rfl, Or.inl n⟩
  have d := b.2.2.2.2.1
  have one : ∀ x, (∀ j, 0 ≤ j → j ≤ 0 → inb s j x) ↔ inb s 0 x := fun x => ⟨fun z => z 0 (by decide) (by decide), fun z j j0 j1 => (show j = 0 by omega) ▸ z⟩
  refine (run_cong one _ _).mpr ⟨d.1 _ (Int.le_refl _) k0, fun x x0 x1 => ⟨sst s 0, Int.le_refl _, k0, x0, x1⟩, ?_, ?_⟩
  · rintro ⟨k, a, b', c, e⟩
    by_cases q : k = sst s 0
    · rw [q] at c; omega
    · have := ds_mono d (Int.le_refl _) (show sst s 0 < k by omega) b'
      have := d.1 (sst s 0) (Int.le_refl _) k0
      omega
  · rintro ⟨k, a, b', c, e⟩
    by_cases q : k = sst s 0
    · rw [q] at e; omega
    · have := ds_mono d (Int.le_refl _) (show sst s 0 < k by omega) b'
      omega
end
