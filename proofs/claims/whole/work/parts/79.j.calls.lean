/-! ===== calls that build: what they leave, both sides ===== -/
/-- what is over is over with more rows too -/
theorem over_step {T : Int → Int → Prop} (hT : ∀ x y, T x y → -1000 ≤ x ∧ x < 1000 ∧ -1000 ≤ y ∧ y < 1000) {l : Int} (h0 : -1000 ≤ l) (h1 : l < 1000) (h : over (fun x y => T x y ∧ y < l)) : over (fun x y => T x y ∧ y < l + 1) := by
  obtain ⟨s, w, e, g⟩ := h
  by_cases q : ∃ x, T x l
  · obtain ⟨t, a, b, c, d⟩ := ext w h0 (show l < l + 1 by omega) (by omega) (R := fun x => T x l) (fun x z => by have := hT x l z; omega) q (fun x y z => ((e x y).mp z).2)
    refine ⟨t, a, fun x y => ?_, by omega⟩
    rw [b, e]
    constructor
    · rintro (z | ⟨z1, z2, z3⟩)
      · exact ⟨z.1, by omega⟩
      · have : y = l := by omega
        rw [this]
        exact ⟨z3, by omega⟩
    · rintro ⟨z1, z2⟩
      by_cases p : y < l
      · exact Or.inl ⟨z1, p⟩
      · have : y = l := by omega
        rw [this] at z1 ⊢
        exact Or.inr ⟨by omega, by omega, z1⟩
  · refine ⟨s, w, fun x y => ?_, g⟩
    rw [e]
    constructor
    · exact fun z => ⟨z.1, by omega⟩
    · rintro ⟨z1, z2⟩
      refine ⟨z1, ?_⟩
      by_cases p : y < l
      · exact p
      · have : y = l := by omega
        rw [this] at z1
        exact absurd ⟨x, z1⟩ q
theorem over_iff {T U : Int → Int → Prop} (h : over T) (e : ∀ x y, T x y ↔ U x y) : over U := by
  obtain ⟨s, w, g, i⟩ := h
  exact ⟨s, w, fun x y => (g x y).trans (e x y), i⟩
theorem over_all {T : Int → Int → Prop} (hT : ∀ x y, T x y → -1000 ≤ x ∧ x < 1000 ∧ -1000 ≤ y ∧ y < 1000) {l : Int} (h0 : -1000 ≤ l) (h : over (fun x y => T x y ∧ y < l)) : over T := by
  have key : ∀ (c : Nat) (l : Int), c = (1000 - l).toNat → -1000 ≤ l → over (fun x y => T x y ∧ y < l) → over T := by
    intro c
    induction c with
    | zero =>
      intro l hc h0 h
      exact over_iff h (fun x y => ⟨fun z => z.1, fun z => ⟨z, by have := hT x y z; omega⟩⟩)
    | succ c ih =>
      intro l hc h0 h
      exact ih (l + 1) (by omega) (by omega) (over_step hT h0 (by omega) h)
  exact key _ l rfl h0 h
/-- rows between two marks are the same -/
theorem rows_const {T : Int → Int → Prop} {mk : Int → Prop} {l h : Int} (H : ∀ y, l ≤ y → y + 1 < h → ¬ mk (y + 1) → ∀ x, T x (y + 1) ↔ T x y) (hm : ∀ y, l < y → y < h → ¬ mk y) {y : Int} (h0 : l ≤ y) (h1 : y < h) (x : Int) : T x y ↔ T x l := by
  have key : ∀ c : Nat, l + c < h → (T x (l + c) ↔ T x l) := by
    intro c
    induction c with
    | zero =>
      intro _
      have e : l + ((0 : Nat) : Int) = l := by omega
      rw [e]
    | succ c ih =>
      intro q
      have e : l + ((c + 1 : Nat) : Int) = l + c + 1 := by omega
      rw [e]
      rw [H (l + c) (by omega) (by omega) (hm _ (by omega) (by omega))]
      exact ih (by omega)
  have := key (y - l).toNat (by omega)
  have e : l + (((y - l).toNat : Nat) : Int) = y := by omega
  rw [e] at this
  exact this
/-- an area's rows change at the ends of its bands alone -/
theorem has_const {s : sh} {y : Int} (h : ¬ ∃ i, 0 ≤ i ∧ i < sn s ∧ (y + 1 = slo s i ∨ y + 1 = shi s i)) (x : Int) : has s x (y + 1) ↔ has s x y := by
  constructor
  · rintro ⟨i, a, b, c, d, e⟩
    have : y + 1 ≠ slo s i := fun z => h ⟨i, a, b, Or.inl z⟩
    exact ⟨i, a, b, by omega, by omega, e⟩
  · rintro ⟨i, a, b, c, d, e⟩
    have : y + 1 ≠ shi s i := fun z => h ⟨i, a, b, Or.inr z⟩
    exact ⟨i, a, b, by omega, by omega, e⟩
theorem has_rg {s : sh} (h : wf s) {x y : Int} (g : has s x y) : -1000 ≤ x ∧ x < 1000 ∧ -1000 ≤ y ∧ y < 1000 := by
  obtain ⟨i, a, b, c, d, e⟩ := g
  have bk := h.2.2.1 i a b
  have := inb_rg bk e
  have := bk.2.1
  have := bk.2.2.2.1
  omega
/-- what a class call writes while it builds -/
def kS (b : Nat) : Nat → Int → Prop := fun a k => a = 12 ∨ a = 14 ∨ a = 16 ∨ bS b a k
theorem kS_row {b w : Nat} (hw : w = 11 ∨ w = 13 ∨ w = 15) : ∀ a k, rS w a k → kS b a k := by
  intro a k h
  have h' : a = w + 1 := h
  unfold kS
  omega
theorem kS_b {b : Nat} : ∀ a k, bS b a k → kS b a k := fun a k h => Or.inr (Or.inr (Or.inr h))
theorem kS_keep {M M1 : mm_M} (hO : OW M) (h : fr (kS (br M)) M M1) : OW M1 ∧ (∀ j, ar M1 j = ar M j) ∧ br M1 = br M ∧ (∀ j, 0 ≤ j → j < 8 → rdA M1 (ar M j) = rdA M (ar M j)) ∧ cfr M M1 ∧ M1.1 0 6 = M.1 0 6 ∧ M1.2.2 = M.2.2 := by
  have hA := hO.2.2.2.1
  have o := OW_fr hO h (by
    intro a ha hn b k h0 h1 h2
    have := bS_O hA a ha hn b k h0 h1
    have := A_apart ha hA hn
    unfold kS at h2
    unfold mr_A at ha
    rcases h2 with h2 | h2 | h2 | h2
    · omega
    · omega
    · omega
    · exact this.elim (fun _ => bS_O hA a ha hn b k h0 h1 h2) (fun _ => bS_O hA a ha hn b k h0 h1 h2)) (by
    intro z
    unfold kS bS at z
    unfold mr_A at hA
    omega)
  refine ⟨o.1, o.2.1, o.2.2.1, o.2.2.2, fun a k q => h.2 _ _ (fun z => ?_), h.2 _ _ (fun z => ?_), by rw [h.1]⟩
  · unfold kS bS at z
    unfold mr_A at hA
    omega
  · unfold kS bS at z
    unfold mr_A at hA
    omega
/-- what a class call that builds leaves: the areas are M's but for t's, which is of the cells T, unless T has too much -/
def CB (M M1 : mm_M) (t : Int) (T : Int → Int → Prop) (r : Int) : Prop := M1.2.2 = M.2.2 ∧ OW M1 ∧ cfr M M1 ∧ (∀ j, 0 ≤ j → j < 8 → j ≠ t → rdA M1 (ar M1 j) = rdA M (ar M j)) ∧
  ((over T ∧ r = -2 ∧ rdA M1 (ar M1 t) = rdA M (ar M t) ∧ M1.1 0 6 = M.1 0 6) ∨ (fits (rdA M1 (ar M1 t)) T ∧ r = sn (rdA M1 (ar M1 t)) ∧ M1.1 0 6 = if M.1 0 6 = t then -1 else M.1 0 6))
/-- what a reference call that builds leaves -/
def RB (M M1 : mm_M) (t : Int) (T : Int → Int → Prop) (r : Int) : Prop := rfr M M1 ∧ M1.1 72 0 = 0 ∧ (∀ j, 0 ≤ j → j < 8 → RWk M1 j) ∧ (∀ j, 0 ≤ j → j < 8 → j ≠ t → eqv (rdB M j) (rdB M1 j)) ∧
  ((over T ∧ r = -2 ∧ eqv (rdB M t) (rdB M1 t)) ∨ (fits (rdB M1 t) T ∧ r = sn (rdB M1 t)))
/-- what a reference call writes while it builds; the areas and the field thrown stay -/
def vR : Nat → Int → Prop := fun a k => (a = 72 ∧ k ≠ 0) ∨ ((a = 73 ∨ a = 74 ∨ a = 75 ∨ a = 76) ∧ 816 ≤ k) ∨ ((a = 78 ∨ a = 79) ∧ 3216 ≤ k) ∨ ((a = 77 ∨ a = 80) ∧ k = 8) ∨ (81 ≤ a ∧ a ≤ 97)
def vT : Nat → Int → Prop := fun a k => vR a k ∨ (a = 72 ∧ k = 0)
/-- the same, but for the cuts -/
def vS : Nat → Int → Prop := fun a k => (a = 72 ∧ k ≠ 0 ∧ k ≠ 19) ∨ ((a = 73 ∨ a = 74 ∨ a = 75 ∨ a = 76) ∧ 816 ≤ k) ∨ ((a = 78 ∨ a = 79) ∧ 3216 ≤ k) ∨ ((a = 77 ∨ a = 80) ∧ k = 8) ∨ (81 ≤ a ∧ a ≤ 97 ∧ a ≠ 87)
theorem vS_vR : ∀ a k, vS a k → vR a k := by
  intro a k h
  unfold vS at h
  unfold vR
  omega
theorem gS_vS : ∀ a k, gS a k → vS a k := by
  intro a k h
  unfold gS at h
  unfold vS
  omega
theorem nS_vS : ∀ a k, nS a k → vS a k := by
  intro a k h
  unfold vS
  have h' : a = 85 ∨ a = 86 ∨ (a = 72 ∧ k = 17) := h
  omega
theorem uS_vR : ∀ a k, uS a k → vR a k := by
  intro a k h
  unfold vR
  have h' : a = 87 ∨ (a = 72 ∧ k = 19) := h
  omega
theorem vR_keep {M M1 : mm_M} (h : fr vR M M1) {j : Int} (h0 : 0 ≤ j) (h1 : j < 8) (hW : RWk M j) : eqv (rdB M j) (rdB M1 j) ∧ RWk M1 j :=
  rdB_same hW (fun a k z => h.2 _ _ (fun y => by
    unfold hS at z
    unfold vR at y
    omega))
theorem vR_vT : ∀ a k, vR a k → vT a k := fun a k h => Or.inl h
theorem vS_vT : ∀ a k, vS a k → vT a k := fun a k h => Or.inl (vS_vR a k h)
theorem vT_keep {M M1 : mm_M} (h : fr vT M M1) {j : Int} (h0 : 0 ≤ j) (h1 : j < 8) (hW : RWk M j) : eqv (rdB M j) (rdB M1 j) ∧ RWk M1 j :=
  rdB_same hW (fun a k z => h.2 _ _ (fun y => by
    unfold hS at z
    unfold vT vR at y
    omega))
theorem vT_rfr {M M1 : mm_M} (h : fr vT M M1) : rfr M M1 := rfr_fr h (fun a k z => by unfold vT vR at z; omega)
theorem vR_rfr {M M1 : mm_M} (h : fr vR M M1) : rfr M M1 := rfr_fr h (fun a k z => by unfold vR at z; omega)
theorem vS_cut {M M1 : mm_M} (h : fr vS M M1) : M1.1 72 19 = M.1 72 19 ∧ ∀ j, M1.1 87 j = M.1 87 j := ⟨h.2 _ _ (by unfold vS; omega), fun j => h.2 _ _ (by unfold vS; omega)⟩
/-- the same bands by number, not the shape alone -/
theorem vR_at {M M1 : mm_M} (h : fr vT M M1) {j i : Int} (h0 : 0 ≤ j) (h1 : j < 8) (i0 : 0 ≤ i) (i1 : i < 102) : M1.1 73 (102 * j + i) = M.1 73 (102 * j + i) ∧ M1.1 74 (102 * j + i) = M.1 74 (102 * j + i) ∧ M1.1 75 (102 * j + i) = M.1 75 (102 * j + i) ∧ M1.1 76 (102 * j + i) = M.1 76 (102 * j + i) ∧ M1.1 77 j = M.1 77 j ∧ M1.1 80 j = M.1 80 j := by
  refine ⟨h.2 _ _ ?_, h.2 _ _ ?_, h.2 _ _ ?_, h.2 _ _ ?_, h.2 _ _ ?_, h.2 _ _ ?_⟩ <;> (unfold vT vR; omega)
theorem vR_k {M M1 : mm_M} (h : fr vT M M1) {k : Int} (h0 : k < 3216) : M1.1 78 k = M.1 78 k ∧ M1.1 79 k = M.1 79 k := by
  refine ⟨h.2 _ _ ?_, h.2 _ _ ?_⟩ <;> (unfold vT vR; omega)
section
variable {sc : Nat × (Int → Int)} {M M0 : mm_M} {X : Nat → mm_M → Prop}
/-- keep, behind a building that began at M0 -/
theorem c30y {K : Int → mm_M → Prop} {t : Int} {T : Int → Int → Prop} (ho : mr_ok M) (hO : OW M0) (hf : fr (kS (br M0)) M0 M) (hB : BS M (br M0) T) (h0 : 0 ≤ t) (h1 : t < 8) (k : ∀ r M1, CB M0 M1 t T r → K r M1) : en_CI sc 30 [mm_r 0, mm_i t, mm_u] M K X := by
  obtain ⟨o1, o2, o3, o4, o5, o6, o7⟩ := kS_keep hO hf
  rw [← o3] at hB
  refine c30x ho o1 hB h0 h1 (fun ov => k _ _ ⟨o7, o1, o5, fun j j0 j1 _ => ?_, Or.inl ⟨ov, rfl, ?_, o6⟩⟩) (fun M1 e1 e2 e3 e4 e5 e6 => k _ _ ⟨e1.trans o7, e2, cfr_trans o5 (fun a k q => e6 a k (by omega)), fun j j0 j1 jt => ?_, Or.inr ⟨e3, rfl, ?_⟩⟩)
  · rw [o2]
    exact o4 j j0 j1
  · rw [o2]
    exact o4 t h0 h1
  · rw [e4 j j0 j1 jt, o2]
    exact o4 j j0 j1
  · rw [e5, o6]
/-- finish, behind a building that began at M0 -/
theorem c39y {K : Int → mm_M → Prop} {t : Int} {T : Int → Int → Prop} (ho : mr_ok M) (hW : ∀ j, 0 ≤ j → j < 8 → RWk M0 j) (hth : M.1 72 0 = 0) (hfr : fr vT M0 M) (hR : RS M T) (h0 : 0 ≤ t) (h1 : t < 8) (k : ∀ r M1, RB M0 M1 t T r → K r M1) : en_CI sc 39 [mm_r 72, mm_i t, mm_u] M K X := by
  have wk : ∀ j, 0 ≤ j → j < 8 → eqv (rdB M0 j) (rdB M j) ∧ RWk M j := fun j j0 j1 => vT_keep hfr j0 j1 (hW j j0 j1)
  have rf : rfr M0 M := vT_rfr hfr
  rcases hR with R0 | ⟨f1, ov⟩
  · refine c39 ho h0 h1 (fun _ => ⟨R0.2.1, R0.2.2.1, R0.2.2.2.1, R0.2.2.2.2.1⟩) (fun z => absurd R0.1 z) (fun _ Mf ff Ef af => ?_)
    have wt : RWk Mf t := by
      refine ⟨eqv_wf R0.2.1 Ef, af, ?_, ?_⟩
      · have := Ef.1
        have h8 := R0.2.2.2.1
        have e1 : M.1 77 8 = Mf.1 77 t := this
        omega
      · have e2 : sst (rdB M 8) (sn (rdB M 8)) = M.1 80 8 := rdB_end
        have e3 := Ef.2.2.1 (sn (rdB M 8)) R0.2.1.1 (Int.le_refl _)
        have e4 : sst (rdB Mf t) (sn (rdB Mf t)) = Mf.1 80 t := rdB_end
        rw [Ef.1, e4] at e3
        have h8 := R0.2.2.2.2.1
        rw [Ef.1] at e2
        omega
    have other : ∀ j, 0 ≤ j → j < 8 → j ≠ t → eqv (rdB M j) (rdB Mf j) ∧ RWk Mf j := fun j j0 j1 jt => rdB_same (wk j j0 j1).2 (fun a k z => ff.2 _ _ (fun y => by
      unfold hS at z y
      omega))
    have en : M.1 77 8 = sn (rdB Mf t) := Ef.1
    rw [en]
    refine k _ Mf ⟨rfr_trans rf (rfr_fr ff (fun a k z => by unfold hS at z; omega)), ?_, fun j j0 j1 => ?_, fun j j0 j1 jt => eqv_trans (hW j j0 j1).1 (wk j j0 j1).1 (other j j0 j1 jt).1, Or.inr ⟨⟨wt.1, wt.2.2.1, ?_, fun x y => ?_⟩, rfl⟩⟩
    · rw [ff.2 _ _ (by unfold hS; omega)]
      exact hth
    · by_cases jt : j = t
      · rw [jt]
        exact wt
      · exact (other j j0 j1 jt).2
    · have e4 : sst (rdB Mf t) (sn (rdB Mf t)) = Mf.1 80 t := rdB_end
      rw [e4]
      exact wt.2.2.2
    · rw [← eqv_has R0.2.1 Ef]
      exact R0.2.2.2.2.2 x y
  · exact c39 ho h0 h1 (fun z => absurd (z.symm.trans f1) (by decide)) (fun _ => k _ M ⟨rf, hth, fun j j0 j1 => (wk j j0 j1).2, fun j j0 j1 _ => (wk j j0 j1).1, Or.inl ⟨ov, rfl, (wk t h0 h1).1⟩⟩) (fun z => absurd (z.symm.trans f1) (by decide))
end
/-- from one cut to the next -/
theorem cu_stp {M : mm_M} (hC : CT M) {T : Int → Int → Prop} (H : ∀ y, ¬ cu M (y + 1) → ∀ x, T x (y + 1) ↔ T x y) {t : Int} (h0 : 0 ≤ t) (h1 : t + 1 < M.1 72 19) (x y : Int) :
    ((T x y ∧ t < M.1 72 19 ∧ y < M.1 87 t) ∨ (M.1 87 t ≤ y ∧ y < M.1 87 (t + 1) ∧ T x (M.1 87 t))) ↔ (T x y ∧ t + 1 < M.1 72 19 ∧ y < M.1 87 (t + 1)) := by
  have lt := hC.2.2 t (t + 1) h0 (by omega) h1
  have no : ∀ v, M.1 87 t < v → v < M.1 87 (t + 1) → ¬ cu M v := by
    rintro v a b ⟨j, j0, j1, j2⟩
    by_cases q : j ≤ t
    · by_cases q2 : j = t
      · rw [q2] at j2; omega
      · have := hC.2.2 j t j0 (by omega) (by omega)
        omega
    · by_cases q2 : j = t + 1
      · rw [q2] at j2; omega
      · have := hC.2.2 (t + 1) j (by omega) (by omega) j1
        omega
  have cst : ∀ y, M.1 87 t ≤ y → y < M.1 87 (t + 1) → (T x y ↔ T x (M.1 87 t)) := fun y a b => rows_const (mk := cu M) (fun y _ _ q => H y q) no a b x
  constructor
  · rintro (⟨a, b, c⟩ | ⟨a, b, c⟩)
    · exact ⟨a, h1, by omega⟩
    · exact ⟨(cst y a b).mpr c, h1, b⟩
  · rintro ⟨a, b, c⟩
    by_cases q : y < M.1 87 t
    · exact Or.inl ⟨a, by omega, q⟩
    · exact Or.inr ⟨by omega, c, (cst y (by omega) c).mp a⟩
theorem cu_fin {M : mm_M} (hC : CT M) {T : Int → Int → Prop} (HE : ∀ x y, T x y → ∃ v, cu M v ∧ y < v) {t : Int} (h1 : M.1 72 19 ≤ t + 1) (h2 : t < M.1 72 19 ∨ M.1 72 19 = 0) (x y : Int) :
    (T x y ∧ t < M.1 72 19 ∧ y < M.1 87 t) ↔ T x y := by
  refine ⟨fun z => z.1, fun z => ?_⟩
  obtain ⟨v, ⟨j, j0, j1, j2⟩, q⟩ := HE x y z
  refine ⟨z, by omega, ?_⟩
  by_cases p : j = t
  · rw [p] at j2; omega
  · have := hC.2.2 j t j0 (by omega) (by omega)
    omega
theorem cu_beg {M : mm_M} (hC : CT M) {T : Int → Int → Prop} (HB : ∀ x y, T x y → ∃ v, cu M v ∧ v ≤ y) (x y : Int) : False ↔ (T x y ∧ 0 < M.1 72 19 ∧ y < M.1 87 0) := by
  refine ⟨fun z => z.elim, ?_⟩
  rintro ⟨a, b, c⟩
  obtain ⟨v, ⟨j, j0, j1, j2⟩, q⟩ := HB x y a
  by_cases p : j = 0
  · rw [p] at j2; omega
  · have := hC.2.2 0 j (Int.le_refl _) (by omega) j1
    omega
