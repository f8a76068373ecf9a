/-! ===== count, on both sides ===== -/
theorem eqv_rfl {s : sh} : eqv s s := ⟨rfl, fun _ _ _ => ⟨rfl, rfl⟩, fun _ _ _ => rfl, fun _ _ _ => ⟨rfl, rfl⟩⟩
theorem LL_eqv {s s' : sh} {M : mm_M} (w : wf s) (q : eqv s s') (l : LL s M) : LL s' M := by
  obtain ⟨Mg, g, l⟩ := l
  have g' : GL s' Mg := GL_eqv (eqv_wf w q) (eqv_symm w q) g
  exact ⟨Mg, g', LLg_same w q g g' l⟩
/-- what count answers -/
def CVL (s : sh) (M : mm_M) (what v : Int) : Prop := (what = 0 → v = cells s) ∧ (what = 1 → v = SD s) ∧ (what = 2 → v = M.1 17 0) ∧ (what = 3 → v = M.1 17 1) ∧ (what = 4 → ∃ g, PN s g v) ∧ (what = 5 → v = sumN (fun l => iN (arF s M l < 0)) (M.1 17 0).toNat)
/-- where it looks at the loops -/
def wL (what : Int) : Prop := what ≠ 0 ∧ what ≠ 4
section
variable {s : sh} {M : mm_M} {what v : Int}
theorem CVL_0 (z : what = 0) (e : v = cells s) : CVL s M what v := ⟨fun _ => e, fun y => absurd y (by omega), fun y => absurd y (by omega), fun y => absurd y (by omega), fun y => absurd y (by omega), fun y => absurd y (by omega)⟩
theorem CVL_1 (z : what = 1) (e : v = SD s) : CVL s M what v := ⟨fun y => absurd y (by omega), fun _ => e, fun y => absurd y (by omega), fun y => absurd y (by omega), fun y => absurd y (by omega), fun y => absurd y (by omega)⟩
theorem CVL_2 (z : what = 2) (e : v = M.1 17 0) : CVL s M what v := ⟨fun y => absurd y (by omega), fun y => absurd y (by omega), fun _ => e, fun y => absurd y (by omega), fun y => absurd y (by omega), fun y => absurd y (by omega)⟩
theorem CVL_3 (z : what = 3) (e : v = M.1 17 1) : CVL s M what v := ⟨fun y => absurd y (by omega), fun y => absurd y (by omega), fun y => absurd y (by omega), fun _ => e, fun y => absurd y (by omega), fun y => absurd y (by omega)⟩
theorem CVL_4 (z : what = 4) (g : Int → Int) (e : PN s g v) : CVL s M what v := ⟨fun y => absurd y (by omega), fun y => absurd y (by omega), fun y => absurd y (by omega), fun y => absurd y (by omega), fun _ => ⟨g, e⟩, fun y => absurd y (by omega)⟩
theorem CVL_5 (z : what = 5) (e : v = sumN (fun l => iN (arF s M l < 0)) (M.1 17 0).toNat) : CVL s M what v := ⟨fun y => absurd y (by omega), fun y => absurd y (by omega), fun y => absurd y (by omega), fun y => absurd y (by omega), fun y => absurd y (by omega), fun _ => e⟩
theorem CVL_one {v' : Int} (h0 : 0 ≤ what) (h1 : what ≤ 5) (a : CVL s M what v) (b : CVL s M what v') : v = v' := by
  have c : what = 0 ∨ what = 1 ∨ what = 2 ∨ what = 3 ∨ what = 4 ∨ what = 5 := by omega
  obtain ⟨a0, a1, a2, a3, a4, a5⟩ := a
  obtain ⟨b0, b1, b2, b3, b4, b5⟩ := b
  rcases c with z | z | z | z | z | z
  · rw [a0 z, b0 z]
  · rw [a1 z, b1 z]
  · rw [a2 z, b2 z]
  · rw [a3 z, b3 z]
  · obtain ⟨g, p⟩ := a4 z
    obtain ⟨g', p'⟩ := b4 z
    exact (PN_unique p p').1
  · rw [a5 z, b5 z]
theorem CVL_same {M' : mm_M} (e : ∀ a k, 17 ≤ a → a ≤ 20 → M'.1 a k = M.1 a k) (c : CVL s M' what v) : CVL s M what v := by
  have e17 : ∀ k, M'.1 17 k = M.1 17 k := fun k => e 17 k (by decide) (by decide)
  have e18 : ∀ k, M'.1 18 k = M.1 18 k := fun k => e 18 k (by decide) (by decide)
  unfold CVL at c ⊢
  unfold arF at c ⊢
  simp only [e17, e18] at c
  exact c
end
theorem mu_rg (R : Int → Prop) : 0 ≤ mu R ∧ mu R ≤ 2000 := by
  unfold mu
  refine ⟨sumN_0 (fun k _ _ => ?_), ?_⟩
  · have := iN_01 (R (k - 1000))
    omega
  · have x := sumN_le (f := fun k => iN (R (k - 1000))) (g := fun _ => 1) (n := 2000) (fun k _ _ => by
      have := iN_01 (R (k - 1000))
      show iN (R (k - 1000)) ≤ 1
      omega)
    rw [sumN_const] at x
    omega
theorem SD_rg {s : sh} (w : wf s) (n1 : sn s ≤ 100) (n2 : nS_ s ≤ 400) : mr_rg (SD s) := by
  have n0 := w.1
  have bd : ∀ b, 0 ≤ b → b < sn s → -4000 ≤ sdB s b ∧ sdB s b ≤ 1604000 := fun b b0 b1 => by
    have bk := w.2.2.1 b b0 b1
    have k1 := bk.1
    have k2 := bk.2.1
    have k3 := bk.2.2.1
    have k4 := bk.2.2.2.1
    have z0 := sst_mono w (Int.le_refl 0) b0 (show b ≤ sn s by omega)
    have z1 := sst_mono w (show 0 ≤ b + 1 by omega) (show b + 1 ≤ sn s by omega) (Int.le_refl _)
    rw [w.2.1] at z0
    have n2' : sst s (sn s) ≤ 400 := n2
    have p0 : 0 ≤ 2 * (sst s (b + 1) - sst s b) * (shi s b - slo s b) := Int.mul_nonneg (by omega) (by omega)
    have p1 : 2 * (sst s (b + 1) - sst s b) * (shi s b - slo s b) ≤ 800 * 2000 := Int.mul_le_mul (by omega) (by omega) (by omega) (by omega)
    have m1 := mu_rg (inb s b)
    have m2 := mu_rg (fun x => inb s b x ∧ has s x (slo s b - 1))
    have m3 := mu_rg (fun x => inb s b x ∧ has s x (shi s b))
    unfold sdB
    generalize 2 * (sst s (b + 1) - sst s b) * (shi s b - slo s b) = p at *
    generalize mu (inb s b) = q1 at *
    generalize mu (fun x => inb s b x ∧ has s x (slo s b - 1)) = q2 at *
    generalize mu (fun x => inb s b x ∧ has s x (shi s b)) = q3 at *
    omega
  have u := sumN_le (f := sdB s) (g := fun _ => 1604000) (n := (sn s).toNat) (fun b b0 b1 => (bd b b0 (by omega)).2)
  have l := sumN_le (f := fun _ => -4000) (g := sdB s) (n := (sn s).toNat) (fun b b0 b1 => (bd b b0 (by omega)).1)
  rw [sumN_const] at u l
  unfold SD
  exact ⟨by omega, by omega⟩
section
variable {sc : Nat × (Int → Int)} {M : mm_M} {X : Nat → mm_M → Prop} {n : Nat}
/-- the lengths of all loops are the sides of the area -/
theorem SD_loops (sc : Nat × (Int → Int)) (ho : mr_ok M) {a : Int} (ga : isA a) (W : RWk M a) (l : LL (rdB M a) M) : sumN (fun l => clenF M l) (M.1 17 0).toNat = SD (rdB M a) := by
  have x := c153 (sc := sc) (K := fun M1 => fr vR M M1 ∧ FLS (rdB M a) M1) (X := fun _ _ => False) ho ga W (fun M1 f F => ⟨f, F⟩)
  obtain ⟨f, r, Mf, _, q⟩ := x
  rcases q with ⟨_, fv, F⟩ | ⟨_, _, _, g⟩
  · have kv := keep17 (fr_mono fv vR_vT)
    have T := mtc_of W.1 eqv_rfl l kv F
    have e := sides_eq W.1 F T
    have e17 : Mf.1 17 0 = M.1 17 0 := kv 17 0 (by decide) (by decide)
    rw [e17] at e
    rw [← e]
    exact sumN_eq (fun i _ _ => ((clen_same kv i).1).symm)
  · exact g.elim
/-- Loops.sides -/
theorem c132 {K : Int → mm_M → Prop} {s : sh} (ho : mr_ok M) (w : wf s) (l : LL s M) (k : K (sumN (fun l => clenF M l) (M.1 17 0).toNat) M) : en_CI sc 132 [mm_r 17, mm_u, mm_u] M K X := by
  obtain ⟨n0, n1, n2, n3, n4, cl⟩ := LL_clp w l
  have loop : ∀ (d : Nat) (i : Int), (M.1 17 0 - i).toNat ≤ d → 0 ≤ i → i ≤ M.1 17 0 → en_R sc 132 4 [mm_r 17, mm_i (sumN (fun l => clenF M l) i.toNat), mm_i i] [] M (QI K X) := by
    intro d
    induction d with
    | zero =>
      intro i hd i0 i1
      refine vc132_4 ho ⟨by omega, by omega⟩ ⟨fun _ => Or.inl ⟨_, rfl, ?_⟩, fun q => absurd (by omega) q⟩
      rw [show i = M.1 17 0 by omega]
      exact k
    | succ d ih =>
      intro i hd i0 i1
      refine vc132_4 ho ⟨by omega, by omega⟩ ⟨fun q => Or.inl ⟨_, rfl, ?_⟩, fun q => ?_⟩
      · rw [show i = M.1 17 0 by omega]
        exact k
      · obtain ⟨Mg, p, m, C, mk⟩ := cl i i0 (by omega)
        refine c131F ho C (fun _ => ?_)
        have x := ih (i + 1) (by omega) (by omega) (by omega)
        rw [show (i + 1).toNat = i.toNat + 1 by omega] at x
        have e : sumN (fun l => clenF M l) (i.toNat + 1) = sumN (fun l => clenF M l) i.toNat + clenF M i := by
          show _ + clenF M ((i.toNat : Nat) : Int) = _
          rw [show ((i.toNat : Nat) : Int) = i by omega]
        rw [e] at x
        exact x
  exact vc132_0 ho (loop _ 0 (Nat.le_refl _) (Int.le_refl _) n0)
/-- CellAreas.count -/
theorem c140 {K : Int → mm_M → Prop} {a what : Int} (ho : mr_ok M) (h : INV LL M n) (ha : mr_rg a) (hw : mr_rg what) (k1 : ¬ isA a → X 1 (M.1, M.2.1, M.2.2 + 1)) (k2 : isA a → ¬ (0 ≤ what ∧ what ≤ 5) → X 2 (M.1, M.2.1, M.2.2 + 1))
    (k : isA a → 0 ≤ what ∧ what ≤ 5 → ∀ M1 v, INV LL M1 n → (wL what → LL (rdB M1 a) M1) → mr_rg v → CVL (rdB M1 a) M1 what v → K v M1) : en_CI sc 140 [mm_r 0, mm_i a, mm_i what] M K X := by
  have r0 : mr_rg 0 := ⟨by decide, by decide⟩
  have r5 : mr_rg 5 := ⟨by decide, by decide⟩
  refine vc140_0 ho hw (c9 ho ha (fun ga _ => c10 ho hw r0 r5 (fun gw' _ => ?_) (fun q => Or.inr ⟨2, rfl, by decide, k2 ga q⟩)) (fun q => Or.inr ⟨1, rfl, by decide, k1 q⟩))
  replace k := k ga gw'
  have A := OW_A h.1 ga
  have lp : ∀ M1, INV LL M1 n → LL (rdA M1 (ar M1 a)) M1 → wf (rdA M1 (ar M1 a)) ∧ RWk M1 a ∧ LL (rdB M1 a) M1 ∧ nS_ (rdB M1 a) ≤ 400 ∧ sn (rdB M1 a) ≤ 100 := fun M1 I1 l1 => by
    have w1 := (I1.1.1 a ga.1 ga.2).2.1.2.1
    have q1 := I1.2.1 a ga.1 ga.2
    have e80 : nS_ (rdB M1 a) = M1.1 80 a := rdB_end
    have e77 : sn (rdB M1 a) = M1.1 77 a := rfl
    refine ⟨w1, q1.1, LL_eqv w1 q1.2 l1, ?_, ?_⟩
    · rw [e80]
      exact q1.1.2.2.2
    · rw [e77]
      exact q1.1.2.2.1
  refine ⟨fun z => ⟨ga.1, ga.2, ar M a, A.1, A.2.1, c42 ho A.2 (fun _ => Or.inl ⟨_, rfl, ?_⟩)⟩, fun z => c126 ho h ga (fun M1 ho1 I1 f1 l1 e1 => ⟨rfl, fun _ => ?_⟩), fun z => c126 ho h ga (fun M1 ho1 I1 f1 l1 e1 => ⟨rfl, fun _ => Or.inl ⟨_, rfl, ?_⟩⟩), fun z => c126 ho h ga (fun M1 ho1 I1 f1 l1 e1 => ⟨rfl, fun _ => Or.inl ⟨_, rfl, ?_⟩⟩), fun z => c137 ho h.1 ga (fun M1 ho1 f1 p1 => ⟨rfl, fun _ => Or.inl ⟨_, rfl, ?_⟩⟩), fun z0 z1 z2 z3 z4 => c126 ho h ga (fun M1 ho1 I1 f1 l1 e1 => ⟨rfl, fun _ => ?_⟩)⟩
  · have w := A.2.2.1
    have c := cells_rg w
    exact k M _ h (fun y => absurd z y.1) ⟨by omega, by omega⟩ (CVL_0 z (cells_eqv w (h.2.1 a ga.1 ga.2).2))
  · obtain ⟨w1, W1, l2, n4, n5⟩ := lp M1 I1 l1
    refine c132 ho1 w1 l1 (fun _ => Or.inl ⟨_, rfl, ?_⟩)
    have e := SD_loops sc ho1 ga W1 l2
    rw [e]
    exact k M1 _ I1 (fun _ => l2) (SD_rg W1.1 n5 n4) (CVL_1 z rfl)
  · obtain ⟨w1, W1, l2, n4, n5⟩ := lp M1 I1 l1
    obtain ⟨b0, b1, _⟩ := LL_crn w1 l1
    exact k M1 _ I1 (fun _ => l2) ⟨by omega, by omega⟩ (CVL_2 z rfl)
  · obtain ⟨w1, W1, l2, n4, n5⟩ := lp M1 I1 l1
    obtain ⟨_, _, ⟨b0, b1⟩, _⟩ := LL_crn w1 l1
    exact k M1 _ I1 (fun _ => l2) ⟨by omega, by omega⟩ (CVL_3 z rfl)
  · have w := A.2.2.1
    have Z := pS_zfr f1
    have I1 := INV_z LL_st h Z.1 (n' := n) (by rw [Z.2]; exact h.2.2.2)
    have er : rdB M1 a = rdB M a := rdB_fr f1 (fun b k z => by have z' : b = 22 ∨ (b = 21 ∧ k = 0) := z; omega) a
    have cr := cntR_rg (root (rdA M (ar M a))) (nS_ (rdA M (ar M a))).toNat
    have ec := p1.2.2
    have nS' : nS_ (rdA M (ar M a)) ≤ 400 := A.2.2.2.2
    have rg : mr_rg (M1.1 21 0) := by
      rw [ec]
      exact ⟨by omega, by omega⟩
    refine k M1 _ I1 (fun y => absurd z y.2) rg (CVL_4 z (M1.1 22) ?_)
    rw [er]
    exact PN_eqv w (h.2.1 a ga.1 ga.2).2 p1
  · obtain ⟨w1, W1, l2, n4, n5⟩ := lp M1 I1 l1
    obtain ⟨b0, b1, _⟩ := LL_crn w1 l1
    refine c139 ho1 W1.1 n4 l2 (fun _ => Or.inl ⟨_, rfl, ?_⟩)
    refine k M1 _ I1 (fun _ => l2) ?_ (CVL_5 (by omega) rfl)
    have x0 := sumN_0 (f := fun l => iN (arF (rdB M1 a) M1 l < 0)) (n := (M1.1 17 0).toNat) (fun l _ _ => by
      have := iN_01 (arF (rdB M1 a) M1 l < 0)
      show 0 ≤ iN (arF (rdB M1 a) M1 l < 0)
      omega)
    have x1 := sumN_le (f := fun l => iN (arF (rdB M1 a) M1 l < 0)) (g := fun _ => 1) (n := (M1.1 17 0).toNat) (fun l _ _ => by
      have := iN_01 (arF (rdB M1 a) M1 l < 0)
      show iN (arF (rdB M1 a) M1 l < 0) ≤ 1
      omega)
    rw [sumN_const] at x1
    exact ⟨by omega, by omega⟩
/-- CellAreasModel.count -/
theorem c155 {K : Int → mm_M → Prop} {a what : Int} (ho : mr_ok M) (hW : ∀ j, 0 ≤ j → j < 8 → RWk M j) (ha : mr_rg a) (hw : mr_rg what) (hl : isA a → 0 ≤ what ∧ what ≤ 5 → wL what → LL (rdB M a) M) (k1 : ¬ isA a → ∀ M1, fr thS M M1 → M1.1 72 0 = 1 → K 0 M1)
    (k2 : isA a → ¬ (0 ≤ what ∧ what ≤ 5) → ∀ M1, fr thS M M1 → M1.1 72 0 = 2 → K 0 M1) (k : isA a → 0 ≤ what ∧ what ≤ 5 → ∀ M1 v, fr vT M M1 → M1.1 72 0 = 0 → CVL (rdB M a) M what v → K v M1) : en_CI sc 155 [mm_r 72, mm_i a, mm_i what, mm_u, mm_u] M K X := by
  have r0 : mr_rg 0 := ⟨by decide, by decide⟩
  have r1 : mr_rg 1 := ⟨by decide, by decide⟩
  have r2 : mr_rg 2 := ⟨by decide, by decide⟩
  have r5 : mr_rg 5 := ⟨by decide, by decide⟩
  refine vc155_0 ho (c34 ho ha (fun ga _ => ⟨r1, fun _ => c33 ho hw r0 r5 (fun gw' _ => ⟨r1, fun _ => ?_, fun z => absurd (by decide) z⟩) (fun q _ => ⟨r0, fun z => absurd rfl z, fun _ => ?_⟩), fun z => absurd (by decide) z⟩) (fun q _ => ⟨r0, fun z => absurd rfl z, fun _ => ?_⟩))
  · replace k := k ga gw'
    replace hl := hl ga gw'
    have W := hW a ga.1 ga.2
    have a0 := ga.1
    have a1 := ga.2
    have w0 := gw'.1
    have w5 := gw'.2
    have hob : mr_ok (mm_putN M 72 0 0) := mr_ok_putI ho r0
    have fb : fr thS M (mm_putN M 72 0 0) := fr_put ⟨rfl, rfl⟩
    have tb : (mm_putN M 72 0 0).1 72 0 = 0 := put_eq
    refine vc155_27 ho r0 hw ?_
    generalize mm_putN M 72 0 0 = Mb at hob fb tb
    have vb : fr vT M Mb := fr_mono fb thS_vT
    have Wb := (vT_keep vb ga.1 ga.2 W).2
    have erb : rdB Mb a = rdB M a := rdB_fr fb (fun b k z => by have z' : b = 72 ∧ k = 0 := z; omega) a
    have tv : ∀ M1, fr vR Mb M1 → M1.1 72 0 = 0 := fun M1 f => by
      rw [f.2 72 0 (by unfold vR; omega)]
      exact tb
    refine ⟨fun _ => ⟨fun w2 => ⟨fun w3 => ?_, fun w3 => ⟨fun w4 => ?_, fun w4 => ?_⟩⟩, fun w2 => ⟨fun w1 => ?_, fun w1 => ?_⟩⟩, fun z => absurd (by omega) z⟩
    · refine c153 hob ga Wb (fun Mc fc Fc hoc => ?_)
      rw [erb] at Fc
      have vc : fr vT M Mc := fr_trans vb (fr_mono fc vR_vT)
      have tc := tv Mc fc
      have l := hl ⟨by omega, by omega⟩
      have T := mtc_of W.1 eqv_rfl l (keep17 vc) Fc
      have c17 : ∀ j, Mc.1 17 j = M.1 17 j := fun j => keep17 vc 17 j (by decide) (by decide)
      have c19 : ∀ j, Mc.1 19 j = M.1 19 j := fun j => keep17 vc 19 j (by decide) (by decide)
      have t1 := T.1
      have t2 := T.2.1
      have t3 := T.2.2.1
      have t4 := T.2.2.2.1
      have t5 := T.2.2.2.2.1
      rw [c17] at t1 t2 t3 t4
      rw [c19, c17] at t4
      rw [c19] at t5
      have fin : ∀ (i : Int) (M' : mm_M), fr meS Mc M' → i = M'.1 72 29 → (what ≠ 2 → QI K X (.inl (some (mm_i (M.1 19 i)))) M') ∧ (¬ (what ≠ 2) → QI K X (.inl (some (mm_i (M'.1 72 29)))) M') := fun i M' f' e' => by
        have e29 : M'.1 72 29 = Mc.1 72 29 := f'.2 72 29 (by omega)
        have v' : fr vT M M' := fr_trans vc (fr_mono f' (fun a k z => by
          have z' : a = 72 ∧ 31 ≤ k ∧ k ≤ 38 := z
          unfold vT vR
          omega))
        have t' : M'.1 72 0 = 0 := by rw [f'.2 72 0 (by omega)]; exact tc
        refine ⟨fun q => Or.inl ⟨_, rfl, k M' _ v' t' (CVL_3 (by omega) ?_)⟩, fun q => Or.inl ⟨_, rfl, k M' _ v' t' (CVL_2 (by omega) ?_)⟩⟩
        · rw [t4, e', e29, ← t1]
        · rw [e29, ← t1]
      have loop : ∀ (d : Nat) (i : Int) (M' : mm_M), (Mc.1 72 29 - i).toNat ≤ d → 0 ≤ i → i ≤ Mc.1 72 29 → mr_ok M' → fr meS Mc M' → en_R sc 155 96 [mm_r 72, mm_i a, mm_i what, mm_i (M.1 19 i), mm_i i] [] M' (QI K X) := by
        intro d
        induction d with
        | zero =>
          intro i M' hd i0 i1 ho' f'
          have e29 : M'.1 72 29 = Mc.1 72 29 := f'.2 72 29 (by omega)
          exact vc155_96 ho' ⟨by omega, by omega⟩ hw ⟨fun q => fin i M' f' (by omega), fun q => absurd (by omega) q⟩
        | succ d ih =>
          intro i M' hd i0 i1 ho' f'
          have e29 : M'.1 72 29 = Mc.1 72 29 := f'.2 72 29 (by omega)
          refine vc155_96 ho' ⟨by omega, by omega⟩ hw ⟨fun q => fin i M' f' (by omega), fun q => ?_⟩
          have F' : FLS (rdB M a) M' := FLS_fr Fc f' (fun a k z => ⟨z.1, Or.inr z.2⟩)
          have v' : fr vT M M' := fr_trans vc (fr_mono f' (fun a k z => by
            have z' : a = 72 ∧ 31 ≤ k ∧ k ≤ 38 := z
            unfold vT vR
            omega))
          have T' := mtc_of W.1 eqv_rfl l (keep17 v') F'
          have d19 : ∀ j, M'.1 19 j = M.1 19 j := fun j => keep17 v' 19 j (by decide) (by decide)
          obtain ⟨hp, m, m0, hm, nr⟩ := FLS_per F' i0 (show i < M'.1 72 29 by omega)
          refine c154 ho' W.1 F'.1 i0 (by omega) r0 hp m0 hm nr (fun M2 f2 E2 ho2 => ?_)
          have D := (mtc_mea T' i0 (show i < M'.1 72 29 by omega) m0 hm nr E2).1
          rw [d19, d19] at D
          rw [D, show M.1 19 i + (M.1 19 (i + 1) - M.1 19 i) = M.1 19 (i + 1) by omega]
          exact ih (i + 1) M2 (by omega) (by omega) (by omega) ho2 (fr_trans f' f2)
      have st := loop _ 0 Mc (Nat.le_refl _) (Int.le_refl _) (by omega) hoc ⟨rfl, fun _ _ _ => rfl⟩
      rw [t5] at st
      exact st
    · refine c148 hob ga Wb (fun Mf M1 f1 g1 _ => ?_)
      rw [erb] at g1 ⊢
      refine Or.inl ⟨_, rfl, k M1 _ (fr_trans vb (fr_mono f1 vR_vT)) (tv M1 f1) (CVL_5 (by omega) ?_)⟩
      obtain ⟨Mg, g, l⟩ := hl ⟨by omega, by omega⟩
      exact (holes_eq W.1 g1 (LLg_same W.1 eqv_rfl g g1 l)).symm
    · refine c144 hob ga Wb (fun c M1 f1 p1 _ _ _ => Or.inl ⟨_, rfl, k M1 _ (fr_trans vb (fr_mono f1 gS96_vT)) ?_ (CVL_4 (by omega) (M1.1 96) ?_)⟩)
      · rw [f1.2 72 0 (by omega)]
        exact tb
      · rw [← erb]
        exact p1
    · refine c143 hob ga Wb (fun M1 f1 _ => Or.inl ⟨_, rfl, k M1 _ (fr_trans vb (fr_mono f1 vR_vT)) (tv M1 f1) (CVL_1 (by omega) ?_)⟩)
      rw [erb]
    · refine c46 hob ga.1 (by omega) Wb (fun _ => Or.inl ⟨_, rfl, k Mb _ vb tb (CVL_0 (by omega) ?_)⟩)
      rw [erb]
  · refine vc155_27 ho r2 hw ?_
    rw [put_eq]
    exact ⟨fun z => absurd z (by decide), fun _ => Or.inl ⟨_, rfl, k2 ga q _ (fr_put ⟨rfl, rfl⟩) put_eq⟩⟩
  · refine vc155_27 ho r1 hw ?_
    rw [put_eq]
    exact ⟨fun z => absurd z (by decide), fun _ => Or.inl ⟨_, rfl, k1 q _ (fr_put ⟨rfl, rfl⟩) put_eq⟩⟩
theorem p_count {a what : Int} (ha : mr_rg a) (hw : mr_rg what) : PR LL sc 141 [mm_r 0, mm_i a, mm_i what, mm_r 98, mm_u] 155 [mm_r 72, mm_i a, mm_i what, mm_u, mm_u] := by
  intro M n ho h
  refine vc141_0 ho (c140 ho h ha hw (fun q ho2 => Or.inl ⟨rfl, Or.inl ⟨1, rfl, fun ho3 => ?_⟩⟩) (fun g q ho2 => Or.inr ⟨rfl, Or.inl ⟨2, rfl, fun ho3 => ?_⟩⟩) (fun g gw' M1 v I1 l1 rg c ho1 => ⟨rg, rj_of rg, Or.inl ⟨0, rfl, fun ho2 => ?_⟩⟩))
  · exact c155 ho3 (INV_W h) ha hw (fun g => absurd g q) (fun _ M2 f e _ => ⟨e, ⟨by decide, by decide⟩, fun z => absurd z (by decide), INV_t LL_st h f⟩) (fun g => absurd g q) (fun g => absurd g q)
  · exact c155 ho3 (INV_W h) ha hw (fun _ z => absurd z q) (fun q2 => absurd g q2) (fun _ _ M2 f e _ => ⟨e, ⟨by decide, by decide⟩, fun z => absurd z (by decide), INV_t LL_st h f⟩) (fun _ z => absurd z q)
  · have P := INV_p LL_st I1 zfr_refl rfl v
    have er : rdB (mm_putN M1 98 0 v) a = rdB M1 a := rdB_fr (fr_put (S := fun a k => a = 98 ∧ k = 0) ⟨rfl, rfl⟩) (fun b k z => by have z' : b = 98 ∧ k = 0 := z; omega) a
    refine c155 ho2 P.1 ha hw (fun _ _ wl => by rw [er]; exact LL_st _ M1 _ (fun b k b0 b1 => put_a (by omega)) (l1 wl)) (fun q => absurd g q) (fun _ q => absurd gw' q) (fun _ _ M2 v' f e c' _ => ?_)
    rw [er] at c'
    have ee := CVL_one gw'.1 gw'.2 c (CVL_same (fun b k b0 b1 => put_a (by omega)) c')
    exact p_read LL_st I1 zfr_refl rfl f e (by rw [← ee]; exact rg) ee
end
