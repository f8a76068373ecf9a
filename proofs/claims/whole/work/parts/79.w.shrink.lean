/-! ===== shrink, the class's side ===== -/
def nar (s : sh) (l r i x : Int) : Prop := wid s (-l) (-r) i x
def hasS (s : sh) (l r x y : Int) : Prop := ∃ i, 0 ≤ i ∧ i < sn s ∧ slo s i ≤ y ∧ y < shi s i ∧ nar s l r i x
def srT (s : sh) (l r d u x y : Int) : Prop := ∀ y', y - d ≤ y' → y' ≤ y + u → hasS s l r x y'
theorem hasS_at {s : sh} (h : wf s) {l r i y : Int} (h0 : 0 ≤ i) (h1 : i < sn s) (h2 : slo s i ≤ y) (h3 : y < shi s i) (x : Int) : hasS s l r x y ↔ nar s l r i x := by
  constructor
  · rintro ⟨j, a, b, c, d, e⟩
    have : j = i := by
      by_cases q : j < i
      · have := wf_hl h a q h1
        omega
      · by_cases q2 : i < j
        · have := wf_hl h h0 q2 b
          omega
        · omega
    rw [← this]
    exact e
  · exact fun e => ⟨i, h0, h1, h2, h3, e⟩
theorem hasS_eqv {s t : sh} (h : wf s) (e : eqv s t) (l r x y : Int) : hasS s l r x y ↔ hasS t l r x y := by
  unfold hasS nar
  constructor
  · rintro ⟨i, a, b, c, d, f⟩
    have z := e.2.1 i a b
    exact ⟨i, a, by rw [← e.1]; exact b, by rw [← z.1]; exact c, by rw [← z.2]; exact d, (wid_eqv h e a b).mp f⟩
  · rintro ⟨i, a, b, c, d, f⟩
    have b' : i < sn s := by rw [e.1]; exact b
    have z := e.2.1 i a b'
    exact ⟨i, a, b', by rw [z.1]; exact c, by rw [z.2]; exact d, (wid_eqv h e a b').mpr f⟩
theorem srT_iff {s t : sh} (h : wf s) (e : eqv s t) (l r d u x y : Int) : srT s l r d u x y ↔ srT t l r d u x y := by
  unfold srT
  constructor
  · exact fun g y' a b => (hasS_eqv h e l r x y').mp (g y' a b)
  · exact fun g y' a b => (hasS_eqv h e l r x y').mpr (g y' a b)
theorem nar_rg {s : sh} (h : wf s) {l r i x : Int} (l0 : 0 ≤ l) (r0 : 0 ≤ r) (h0 : 0 ≤ i) (h1 : i < sn s) (g : nar s l r i x) : -1000 ≤ x ∧ x < 1000 := by
  obtain ⟨k, a, b, c, d⟩ := g
  have := (h.2.2.1 i h0 h1).2.2.2.2.2 k a b
  omega
theorem srT_fld {s : sh} (h : wf s) {l r d u x y : Int} (g : reach l r d u) (t : srT s l r d u x y) : fld x y := by
  obtain ⟨i, a, b, c, e, f⟩ := t y (by omega) (by omega)
  have := nar_rg h (by omega) (by omega) a b f
  have bk := h.2.2.1 i a b
  have := bk.2.1
  have := bk.2.2.2.1
  omega
theorem srT_cst {s : sh} {l r d u y : Int} (g : reach l r d u) (h1 : ∀ i, 0 ≤ i → i < sn s → y + 1 - d ≠ slo s i) (h2 : ∀ i, 0 ≤ i → i < sn s → y + 1 + u ≠ shi s i) (x : Int) : srT s l r d u x (y + 1) ↔ srT s l r d u x y := by
  constructor
  · intro t y' a b
    by_cases q : y' = y - d
    · obtain ⟨i, i0, i1, i2, i3, i4⟩ := t (y + 1 - d) (by omega) (by omega)
      have := h1 i i0 i1
      exact ⟨i, i0, i1, by omega, by omega, i4⟩
    · exact t y' (by omega) (by omega)
  · intro t y' a b
    by_cases q : y' = y + 1 + u
    · obtain ⟨i, i0, i1, i2, i3, i4⟩ := t (y + u) (by omega) (by omega)
      have := h2 i i0 i1
      exact ⟨i, i0, i1, by omega, by omega, i4⟩
    · exact t y' (by omega) (by omega)
/-- the rows from one in band f to one in band g are all there, and narrow ones all hold x -/
theorem rows_all {s : sh} (h : wf s) {l r p q f g x : Int} (pq : p ≤ q) (f0 : 0 ≤ f) (f1 : f < sn s) (g0 : 0 ≤ g) (g1 : g < sn s) (hp : slo s f ≤ p ∧ p < shi s f) (hq : slo s g ≤ q ∧ q < shi s g) :
    (∀ y, p ≤ y → y ≤ q → hasS s l r x y) ↔ (f ≤ g ∧ (∀ j, f ≤ j → j ≤ g → nar s l r j x) ∧ ∀ j, f < j → j ≤ g → shi s (j - 1) = slo s j) := by
  have fg : f ≤ g := by
    by_cases z : f ≤ g
    · exact z
    · have := wf_hl h g0 (show g < f by omega) f1
      omega
  constructor
  · intro t
    refine ⟨fg, fun j a b => ?_, fun j a b => ?_⟩
    · by_cases z : j = f
      · rw [z]
        exact (hasS_at h f0 (by omega) hp.1 hp.2 x).mp (t p (Int.le_refl _) pq)
      · have h1 := wf_hl h f0 (show f < j by omega) (by omega)
        have bj := (h.2.2.1 j (by omega) (by omega)).2.2.1
        have h2 : slo s j ≤ slo s g := by
          by_cases y : j = g
          · rw [y]; exact Int.le_refl _
          · have := wf_hl h (show 0 ≤ j by omega) (show j < g by omega) g1
            omega
        exact (hasS_at h (by omega) (by omega) (Int.le_refl _) bj x).mp (t (slo s j) (by omega) (by omega))
    · have h1 := wf_hl h (show 0 ≤ j - 1 by omega) (show j - 1 < j by omega) (by omega)
      by_cases z : shi s (j - 1) = slo s j
      · exact z
      · exfalso
        have h2 : slo s j ≤ slo s g := by
          by_cases y : j = g
          · rw [y]; exact Int.le_refl _
          · have bj := (h.2.2.1 j (by omega) (by omega)).2.2.1
            have := wf_hl h (show 0 ≤ j by omega) (show j < g by omega) g1
            omega
        have h3 : shi s f ≤ shi s (j - 1) := hi_mono h f0 (by omega) (by omega)
        obtain ⟨i, i0, i1, i2, i3, _⟩ := t (shi s (j - 1)) (by omega) (by omega)
        by_cases y : i ≤ j - 1
        · have := hi_mono h i0 y (show j - 1 < sn s by omega)
          omega
        · have h5 : slo s j ≤ slo s i := by
            by_cases y2 : j = i
            · rw [y2]; exact Int.le_refl _
            · have bj := (h.2.2.1 j (by omega) (by omega)).2.2.1
              have := wf_hl h (show 0 ≤ j by omega) (show j < i by omega) i1
              omega
          omega
  · rintro ⟨_, hn, ht⟩ y y0 y1
    have key : ∀ c : Nat, f + c ≤ g → y < shi s (f + c) → ∃ i, f ≤ i ∧ i ≤ g ∧ slo s i ≤ y ∧ y < shi s i := by
      intro c
      induction c with
      | zero =>
        intro a b
        have e : f + ((0 : Nat) : Int) = f := by omega
        rw [e] at b
        exact ⟨f, Int.le_refl _, fg, by omega, b⟩
      | succ c ih =>
        intro a b
        have e : f + ((c + 1 : Nat) : Int) = f + c + 1 := by omega
        rw [e] at a b
        by_cases z : y < shi s (f + c)
        · exact ih (by omega) z
        · have := ht (f + c + 1) (by omega) a
          have e2 : f + (c : Int) + 1 - 1 = f + c := by omega
          rw [e2] at this
          exact ⟨f + c + 1, by omega, a, by omega, b⟩
    have e : f + (((g - f).toNat : Nat) : Int) = g := by omega
    obtain ⟨i, a, b, c, d⟩ := key (g - f).toNat (by omega) (by rw [e]; omega)
    exact ⟨i, by omega, by omega, c, d, hn i a b⟩
section
variable {sc : Nat × (Int → Int)} {M : mm_M} {X : Nat → mm_M → Prop}
theorem nar_at {M' : mm_M} {A : Nat} {s : sh} (e : rdA M' A = s) (h : wf s) {l r i : Int} (l0 : 0 ≤ l) (r0 : 0 ≤ r) (i0 : 0 ≤ i) (i1 : i < sn s) (x : Int) : (-1000 ≤ x ∧ x < 1000 ∧ ∃ j, bSt M' A i ≤ j ∧ j < bEn M' A i ∧ M'.1 (A + 4) j - (0 - l) ≤ x ∧ x < M'.1 (A + 5) j + (0 - r)) ↔ nar s l r i x := by
  have rr := rdA_row e i i0
  rw [rr.1, rr.2.1, rr.2.2.1, rr.2.2.2.1]
  constructor
  · rintro ⟨a, b, j, j0, j1, j2, j3⟩
    exact ⟨j, j0, j1, by omega, by omega⟩
  · intro g
    have := nar_rg h l0 r0 i0 i1 g
    obtain ⟨j, j0, j1, j2, j3⟩ := g
    exact ⟨by omega, by omega, j, j0, j1, by omega, by omega⟩
/-- CellAreas.layShrunkRow -/
theorem c97 {K : mm_M → Prop} {A : Nat} {p q l r : Int} (ho : mr_ok M) (h : AW M A) (hp : mr_rg p) (hq : mr_rg q) (pq : p ≤ q) (gl : 0 ≤ l ∧ l ≤ 2000) (gr : 0 ≤ r ∧ r ≤ 2000)
    (k : ∀ M1, fr (fun a _ => a = 12 ∨ a = 14) M M1 → (∀ x, ri M1 11 x ↔ ∀ y, p ≤ y → y ≤ q → hasS (rdA M A) l r x y) → K M1) : en_CV sc 97 [mm_r 0, mm_r A, mm_i p, mm_i q, mm_i l, mm_i r, mm_u, mm_u, mm_u] M K X := by
  have w := h.2.1
  have n0 := w.1
  have n1 : sn (rdA M A) ≤ 100 := h.2.2.1
  have fE : ∀ M' : mm_M, fr (rS 11) M M' → fr (fun a _ => a = 12 ∨ a = 14) M M' := fun M' f => fr_mono f (fun a k z => Or.inl z)
  have loop : ∀ (c : Nat) (f g i : Int) (M' : mm_M), c = (g + 1 - i).toNat → 0 ≤ f → f < sn (rdA M A) → 0 ≤ g → g < sn (rdA M A) → f < i → i ≤ g + 1 ∨ g < f → (slo (rdA M A) f ≤ p ∧ p < shi (rdA M A) f) → (slo (rdA M A) g ≤ q ∧ q < shi (rdA M A) g) → mr_ok M' → fr (fun a _ => a = 12 ∨ a = 14) M M' → (∀ x, ri M' 11 x ↔ (∀ j, f ≤ j → j < i → nar (rdA M A) l r j x) ∧ ∀ j, f < j → j < i → shi (rdA M A) (j - 1) = slo (rdA M A) j) → en_R sc 97 56 [mm_r 0, mm_r A, mm_i p, mm_i q, mm_i l, mm_i r, mm_i f, mm_i g, mm_i i] [] M' (QV K X) := by
    intro c
    induction c with
    | zero =>
      intro f g i M' hc f0 f1 g0 g1 fi ig hpf hqg ho' hf hr
      have fg : f ≤ g := by
        by_cases z : f ≤ g
        · exact z
        · have := wf_hl w g0 (show g < f by omega) f1
          omega
      have ei : i = g + 1 := by omega
      refine vc97_56 ho' ⟨by omega, by omega⟩ ⟨by omega, by omega⟩ h.1 ⟨fun _ => Or.inl ⟨rfl, k M' hf (fun x => ?_)⟩, fun z => absurd (by omega) z⟩
      rw [hr, rows_all w pq f0 f1 g0 g1 hpf hqg, ei]
      constructor
      · exact fun z => ⟨fg, fun j a b => z.1 j a (by omega), fun j a b => z.2 j a (by omega)⟩
      · exact fun z => ⟨fun j a b => z.2.1 j a (by omega), fun j a b => z.2.2 j a (by omega)⟩
    | succ c ih =>
      intro f g i M' hc f0 f1 g0 g1 fi ig hpf hqg ho' hf hr
      have fg : f ≤ g := by
        by_cases z : f ≤ g
        · exact z
        · have := wf_hl w g0 (show g < f by omega) f1
          omega
      have hA : ∀ (M' : mm_M), fr (fun a _ => a = 12 ∨ a = 14) M M' → AW M' A ∧ rdA M' A = rdA M A := fun M' f' => ⟨AW_fr f' (fun b k h0 h1 z => by have := h.1; unfold mr_A at this; omega) h, rdA_fr f' (fun b k h0 h1 z => by have := h.1; unfold mr_A at this; omega)⟩
      refine vc97_56 ho' ⟨by omega, by omega⟩ ⟨by omega, by omega⟩ h.1 ⟨fun z => absurd z (by omega), fun _ => c23 ho' w11 (fun no _ => ?_) (fun yes _ => ?_)⟩
      · refine ⟨⟨by decide, by decide⟩, fun _ => Or.inl ⟨rfl, k M' hf (fun x => ?_)⟩, fun z => absurd (by decide) z⟩
        have nx : ¬ ri M' 11 x := fun z => by
          have y1 := ((hr x).mp z).1 f (Int.le_refl _) fi
          have := nar_rg w gl.1 gr.1 f0 f1 y1
          exact no x this.2 z
        refine ⟨fun z => absurd z nx, fun z => ?_⟩
        rw [rows_all w pq f0 f1 g0 g1 hpf hqg] at z
        exact absurd ((hr x).mpr ⟨fun j a b => z.2.1 j a (by omega), fun j a b => z.2.2 j a (by omega)⟩) nx
      · refine ⟨⟨by decide, by decide⟩, fun z => absurd rfl z, fun _ => c12 ho' w13 (fun Ma fa ra hoa => ?_)⟩
        have fA : fr (fun a _ => a = 12 ∨ a = 14) M Ma := fr_trans hf (fr_mono fa (fun a k z => Or.inr z))
        obtain ⟨AA, sA⟩ := hA Ma fA
        have rr := rdA_row sA i (by omega)
        have rA : ∀ x, ri Ma 11 x ↔ ri M' 11 x := fun x => ri_fr fa (fun k z => by have z' : 11 + 1 = 13 + 1 := z; omega) x
        have both : ∀ (Mb : mm_M), mr_ok Mb → fr (fun a _ => a = 12 ∨ a = 14) M Mb → (∀ x, ri Mb 11 x ↔ ri M' 11 x) → (∀ x, ri Mb 13 x ↔ shi (rdA M A) (i - 1) = slo (rdA M A) i ∧ nar (rdA M A) l r i x) → en_R sc 97 106 [mm_r 0, mm_r A, mm_i p, mm_i q, mm_i l, mm_i r, mm_i f, mm_i g, mm_i i] [] Mb (QV K X) := by
          intro Mb hob fb r1 r2
          refine vc97_106 hob (c55x hob w11 w13 (by decide) ⟨by decide, by decide⟩ (fun Mc fc rc hoc => ?_))
          refine ih f g (i + 1) Mc (by omega) f0 f1 g0 g1 (by omega) (by omega) hpf hqg hoc (fr_trans fb (fr_mono fc (fun a k z => Or.inl z))) (fun x => ?_)
          rw [rc]
          have e1 : mp 1 (ri Mb 11 x) (ri Mb 13 x) ↔ ri Mb 11 x ∧ ri Mb 13 x := by
            unfold mp
            constructor
            · rintro (z | z | z | z)
              · exact absurd z.1 (by decide)
              · exact z.2
              · exact absurd z.1 (by decide)
              · exact absurd z.1 (by decide)
            · exact fun z => Or.inr (Or.inl ⟨rfl, z⟩)
          rw [e1, r1, r2, hr]
          constructor
          · rintro ⟨⟨z1, z2⟩, z3, z4⟩
            refine ⟨fun j a b => ?_, fun j a b => ?_⟩
            · by_cases y : j = i
              · rw [y]; exact z4
              · exact z1 j a (by omega)
            · by_cases y : j = i
              · rw [y]; exact z3
              · exact z2 j a (by omega)
          · rintro ⟨z1, z2⟩
            exact ⟨⟨fun j a b => z1 j a (by omega), fun j a b => z2 j a (by omega)⟩, z2 i (by omega) (by omega), z1 i (by omega) (by omega)⟩
        refine c96 hoa h.1 ⟨by omega, by omega⟩ (by omega) (fun no _ => ?_) (fun y0 y1 _ => ?_)
        · refine ⟨⟨by decide, by decide⟩, fun _ => both Ma hoa fA rA (fun x => ⟨fun z => absurd z (ra x), fun z => ?_⟩), fun z => absurd rfl z⟩
          rw [rr.2.2.2.2.1, rr.2.2.2.2.2.1] at no
          exact absurd ⟨by omega, z.1⟩ no
        · rw [rr.2.2.2.2.1, rr.2.2.2.2.2.1] at y1
          refine ⟨⟨by omega, by omega⟩, fun z => absurd z (by omega), fun _ => c52 hoa AA w13 (by omega) (Or.inl (by rw [rr.2.2.2.2.2.2.1]; omega)) ⟨by omega, by omega⟩ ⟨by omega, by omega⟩ (fun Mb fb rb' hob => ?_)⟩
          refine both Mb hob (fr_trans fA (fr_mono fb (fun a k z => Or.inr z))) (fun x => ?_) (fun x => ?_)
          · rw [ri_fr fb (fun k z => by have z' : 11 + 1 = 13 + 1 := z; omega)]
            exact rA x
          · rw [rb', nar_at sA w gl.1 gr.1 (by omega) (by omega) x]
            exact ⟨fun z => ⟨y1, z.elim (fun z => absurd z (ra x)) id⟩, fun z => Or.inr z.2⟩
  refine vc97_0 ho h.1 (c49 ho h hp (fun no _ => ?_) (fun f f0 f1 f2 f3 _ => ?_))
  · refine c49 ho h hq (fun no2 _ => ?_) (fun g g0 g1 g2 g3 _ => ?_)
    all_goals
      refine c12 ho w11 (fun Ma fa ra hoa => ⟨⟨by decide, by decide⟩, fun _ => Or.inl ⟨rfl, k Ma (fE Ma fa) (fun x => ⟨fun z => absurd z (ra x), fun z => ?_⟩)⟩, fun z => absurd rfl z⟩)
      obtain ⟨i, i0, i1, i2, i3, _⟩ := z p (Int.le_refl _) pq
      exact absurd ⟨i2, i3⟩ (no i i0 i1)
  · have f1' : f < sn (rdA M A) := f1
    refine c49 ho h hq (fun no2 _ => ?_) (fun g g0 g1 g2 g3 _ => ?_)
    · refine c12 ho w11 (fun Ma fa ra hoa => ⟨⟨by omega, by omega⟩, fun z => absurd z (by omega), fun _ => ⟨⟨by decide, by decide⟩, fun z => absurd rfl z, fun _ => Or.inl ⟨rfl, k Ma (fE Ma fa) (fun x => ⟨fun z => absurd z (ra x), fun z => ?_⟩)⟩⟩⟩)
      obtain ⟨i, i0, i1, i2, i3, _⟩ := z q pq (Int.le_refl _)
      exact absurd ⟨i2, i3⟩ (no2 i i0 i1)
    · have g1' : g < sn (rdA M A) := g1
      refine c12 ho w11 (fun Ma fa ra hoa => ⟨⟨by omega, by omega⟩, fun z => absurd z (by omega), fun _ => ⟨⟨by omega, by omega⟩, fun _ => ?_, fun z => absurd (by omega) z⟩⟩)
      have AA := AW_fr fa (rS_A w11 h.1) h
      have sA : rdA Ma A = rdA M A := rdA_fr fa (rS_A w11 h.1)
      have rr := rdA_row sA f f0
      refine c52 hoa AA w11 (by omega) (Or.inl (by rw [rr.2.2.2.2.2.2.1]; omega)) ⟨by omega, by omega⟩ ⟨by omega, by omega⟩ (fun Mb fb rb' hob => ?_)
      refine loop _ f g (f + 1) Mb rfl f0 f1' g0 g1' (by omega) (by omega) ⟨f2, f3⟩ ⟨g2, g3⟩ hob (fE Mb (fr_trans fa fb)) (fun x => ?_)
      rw [rb', nar_at sA w gl.1 gr.1 f0 f1' x]
      constructor
      · rintro (z | z)
        · exact absurd z (ra x)
        · refine ⟨fun j a b => ?_, fun j a b => absurd b (by omega)⟩
          have : j = f := by omega
          rw [this]; exact z
      · exact fun z => Or.inr (z.1 f (Int.le_refl _) (by omega))
/-- CellAreas.shrink -/
theorem c98 {K : Int → mm_M → Prop} {t a l r d u : Int} (ho : mr_ok M) (hO : OW M) (ht : mr_rg t) (ha : mr_rg a) (hl : mr_rg l) (hr : mr_rg r) (hd : mr_rg d) (hu : mr_rg u)
    (x1 : ¬ (isA t ∧ isA a) → X 1 (M.1, M.2.1, M.2.2 + 1)) (x2 : (isA t ∧ isA a) → ¬ reach l r d u → X 2 (M.1, M.2.1, M.2.2 + 1))
    (k : (isA t ∧ isA a) → reach l r d u → ∀ v M1, CB M M1 t (srT (rdA M (ar M a)) l r d u) v → K v M1) : en_CI sc 98 [mm_r 0, mm_i t, mm_i a, mm_i l, mm_i r, mm_i d, mm_i u, mm_u, mm_u, mm_u] M K X := by
  refine vc98_0 ho (c9 ho ht (fun gt _ => ?_) (fun q => Or.inr ⟨1, rfl, by decide, x1 (fun z => q z.1)⟩))
  refine c9 ho ha (fun ga _ => ?_) (fun q => Or.inr ⟨1, rfl, by decide, x1 (fun z => q z.2)⟩)
  refine c90 ho hl hr hd hu (fun gr _ => ?_) (fun q => Or.inr ⟨2, rfl, by decide, x2 ⟨gt, ga⟩ q⟩)
  replace k := k ⟨gt, ga⟩ gr
  have Aa := OW_A hO ga
  have w := Aa.2.2.1
  refine ⟨ga.1, ga.2, ar M a, Aa.1, Aa.2.1, c12 ho w15 (fun Ma fa ra hoa => ?_)⟩
  have ka : fr (kS (br M)) M Ma := fr_mono fa (kS_row (by decide))
  obtain ⟨_, A1, s1⟩ := kA hO ka ga
  refine c48x hoa A1 w15 ⟨by omega, by omega⟩ (fun Mb fb rb' hob => ?_)
  rw [s1] at rb'
  have kb : fr (kS (br M)) M Mb := fr_trans ka (fr_mono fb (kS_row (by decide)))
  obtain ⟨_, A2, s2⟩ := kA hO kb ga
  refine c48x hob A2 w15 ⟨by omega, by omega⟩ (fun Mc fc rc hoc => ?_)
  rw [s2] at rc
  have kc : fr (kS (br M)) M Mc := fr_trans kb (fr_mono fc (kS_row (by decide)))
  have mk : ∀ x, ri Mc 15 x ↔ mkr (rdA M (ar M a)) d x ∨ mkr (rdA M (ar M a)) (0 - u) x := by
    intro x
    rw [rc, rb']
    constructor
    · rintro ((z | z) | z)
      · exact absurd z (ra x)
      · exact Or.inl z
      · exact Or.inr z
    · rintro (z | z)
      · exact Or.inl (Or.inr z)
      · exact Or.inr z
  have hT : inF (srT (rdA M (ar M a)) l r d u) := fun x y z => srT_fld w gr z
  have H : cst (fun x => mkr (rdA M (ar M a)) d x ∨ mkr (rdA M (ar M a)) (0 - u) x) (srT (rdA M (ar M a)) l r d u) := by
    intro y y0 y1 q x
    exact srT_cst gr (fun i i0 i1 z => q (Or.inl ⟨by omega, by omega, i, i0, i1, Or.inl (by omega)⟩)) (fun i i0 i1 z => q (Or.inr ⟨by omega, by omega, i, i0, i1, Or.inr (by omega)⟩)) x
  refine c18y hoc hO kc mk hT (fun Md Ld => ?_)
  have fin : ∀ (low : Int) (l8 : mm_V) (M' : mm_M), -1000 ≤ low → LI M M' (fun x => mkr (rdA M (ar M a)) d x ∨ mkr (rdA M (ar M a)) (0 - u) x) (srT (rdA M (ar M a)) l r d u) low → (1000 ≤ low ∨ M'.1 2 2 ≠ 0) → en_R sc 98 147 [mm_r 0, mm_i t, mm_i a, mm_i l, mm_i r, mm_i d, mm_i u, mm_r (ar M a), l8, mm_i low] [] M' (QI K X) := by
    intro low l8 M' l0 hL h1
    exact vc98_147 hL.1 (c30z hO hT hL l0 h1 gt (fun r M1 c => Or.inl ⟨r, rfl, k r M1 c⟩))
  have loop : ∀ (c : Nat) (low : Int) (l8 : mm_V) (M' : mm_M), (1000 - low).toNat ≤ c → -1000 ≤ low → low ≤ 1000 → LI M M' (fun x => mkr (rdA M (ar M a)) d x ∨ mkr (rdA M (ar M a)) (0 - u) x) (srT (rdA M (ar M a)) l r d u) low → en_R sc 98 68 [mm_r 0, mm_i t, mm_i a, mm_i l, mm_i r, mm_i d, mm_i u, mm_r (ar M a), l8, mm_i low] [] M' (QI K X) := by
    intro c
    induction c with
    | zero =>
      intro low l8 M' hc l0 l1 hL
      exact vc98_68 hL.1 ⟨by omega, by omega⟩ ⟨fun q => fin low l8 M' l0 hL (Or.inl q), fun q => absurd (by omega) q⟩
    | succ c ih =>
      intro low l8 M' hc l0 l1 hL
      have ho' := hL.1
      obtain ⟨_, A', s'⟩ := kA hO hL.2.1 ga
      refine vc98_68 ho' ⟨by omega, by omega⟩ ⟨fun q => fin low l8 M' l0 hL (Or.inl q), fun q => ⟨fun q2 => fin low l8 M' l0 hL (Or.inr q2), fun _ => ?_⟩⟩
      refine c22 ho' w15 ⟨by omega, by omega⟩ (by omega) (fun v r0 r1 r2 r3 _ => ⟨⟨by omega, by omega⟩, ⟨by omega, by omega⟩, c97 ho' A' ⟨by omega, by omega⟩ ⟨by omega, by omega⟩ (by omega) gr.1 gr.2.1 (fun Mg fg rg hog => ?_)⟩)
      rw [s'] at rg
      exact c29y hO hT H hL hog fg rg l0 (by omega) r1 r2 (fun Mh Lh => ih _ _ Mh (by omega) (by omega) (by omega) Lh)
  exact loop _ (-1000) _ Md (Nat.le_refl _) (by decide) (by decide) Ld
end
