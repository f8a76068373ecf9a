/-- the marks are the loop's upright sides -/
def G94 (s : sh) (Md : mm_M) (p : wlk) (M' : mm_M) : Prop := ∀ j c, 0 ≤ j → j < gh Md → 0 ≤ c → c ≤ gw Md → (M'.1 94 (j * (gw Md + 1) + c) ≠ 0 ↔ vcol (Cg s Md) p j c)
theorem ix94 {W H j c : Int} (W1 : W ≤ 799) (H1 : H ≤ 199) (j0 : 0 ≤ j) (j1 : j ≤ H) (c0 : 0 ≤ c) (c1 : c ≤ W) : 0 ≤ j * (W + 1) + c ∧ j * (W + 1) + c < (W + 1) * (H + 1) ∧ (W + 1) * (H + 1) ≤ 160000 := by
  have x := sx_rg (W := W) (H := H) (p := ((c, j, 0) : wlk)) W1 H1 c0 c1 j0 j1 (Or.inl rfl)
  have e : sx W (c, j, 0) = 4 * (j * (W + 1) + c) + 0 := rfl
  rw [e, Int.mul_assoc] at x
  omega
section
variable {sc : Nat × (Int → Int)} {s : sh} {M0 Md : mm_M} {X : Nat → mm_M → Prop} {K : Int → mm_M → Prop}
/-- one row -/
theorem m166_row {t a i l4 j : Int} {p : wlk} (w : wf s) (Gd : GRD s Md) (hp : isS (Cg s Md) p) (j0 : 0 ≤ j) (j1 : j < gh Md) (tt : sumN (cvn s Md p j 1000) (gw Md + 1).toNat % 2 = 0) :
    ∀ (d : Nat) (c od f : Int) (M' : mm_M), (gw Md + 1 - c).toNat ≤ d → 0 ≤ c → c ≤ gw Md + 1 → mr_ok M' → gKeep Md M' → G94 s Md p M' → RWI s Md p j c od f M' →
    (∀ (M1 : mm_M) (l6 l7 l8 : Int), mr_ok M1 → fr nS M' M1 → NR M1 → (∀ x, rN M1 x ↔ sumN (cvn s Md p j x) (gw Md + 1).toNat % 2 = 1) → en_CV sc 38 [mm_r 72, mm_i (gy Md j), mm_i (gy Md (j + 1)), mm_u, mm_u] M1 (fun M6 => mr_ok M6 → en_R sc 166 230 [mm_r 72, mm_i t, mm_i a, mm_i i, mm_i l4, mm_i (j + 1), mm_i l6, mm_i l7, mm_i l8] [] M6 (QI K X)) (fun e M9 => QI K X (.inr e) M9)) →
    en_R sc 166 253 [mm_r 72, mm_i t, mm_i a, mm_i i, mm_i l4, mm_i j, mm_i od, mm_i f, mm_i c] [] M' (QI K X) := by
  have g := Gd.1
  have h1 := g.2.1
  have h2 := g.2.2.2.1
  have B := GL_GB w g (isS_sn hp g)
  intro d
  induction d with
  | zero =>
    intro c od f M' hd c0 c1 ho' kp g94 R fin
    have e23 : M'.1 72 23 = gw Md := kp.1
    have e89 : M'.1 89 = gy Md := kp.2.2.2.1
    have od01 := R.2.1
    refine vc166_253 ho' ⟨by omega, by omega⟩ ⟨by omega, by omega⟩ ?_
    rw [e23, e89]
    refine ⟨fun _ => ⟨j0, by omega, by omega, by omega, fin M' od f c ho' fr_refl R.1 ?_⟩, fun q => absurd (by omega) q⟩
    rw [show c = gw Md + 1 by omega] at R
    exact RWI_fin R tt
  | succ d ih =>
    intro c od f M' hd c0 c1 ho' kp g94 R fin
    have e23 : M'.1 72 23 = gw Md := kp.1
    have e88 : M'.1 88 = gx Md := kp.2.2.1
    have e89 : M'.1 89 = gy Md := kp.2.2.2.1
    have od01 := R.2.1
    refine vc166_253 ho' ⟨by omega, by omega⟩ ⟨by omega, by omega⟩ ?_
    rw [e23, e89, e88]
    refine ⟨fun q => ⟨j0, by omega, by omega, by omega, fin M' od f c ho' fr_refl R.1 ?_⟩, fun q => ?_⟩
    · rw [show c = gw Md + 1 by omega] at R
      exact RWI_fin R tt
    · have ix := ix94 h1 h2 j0 (show j ≤ gh Md by omega) c0 (show c ≤ gw Md by omega)
      have gv := g94 j c j0 j1 c0 (by omega)
      refine ⟨ix.1, by omega, fun z => ?_, fun z => ?_⟩
      · exact ih (c + 1) od f M' (by omega) (by omega) (by omega) ho' kp g94 (RWI_no g R c0 (by omega) (fun v => gv.mpr v z)) fin
      · have v := gv.mp z
        refine ⟨fun o => ?_, fun o => ⟨c0, by omega, ?_⟩⟩
        · rw [o] at R
          refine vc166_300 ho' ⟨by omega, by omega⟩ ?_
          rw [e88, o]
          exact ⟨fun y => absurd rfl y, fun _ => ⟨c0, by omega, ih (c + 1) 1 _ M' (by omega) (by omega) (by omega) ho' kp g94 (RWI_on g B R c0 (by omega) v) fin⟩⟩
        · have o1 : od = 1 := by omega
          rw [o1] at R ⊢
          obtain ⟨c', a', b', e', d'⟩ := R.2.2.2.2.1 rfl
          have bf := B.1 c' a' (by omega)
          have bc := B.1 c c0 (by omega)
          refine c36 ho' R.1 (by omega) (by omega) bc.2 bc.1 (fun q => (R.2.2.2.2.2 q).1 rfl) (fun M1 f1 N1 R1 L1 ho1 => ?_)
          have kp1 : gKeep Md M1 := gKeep_trans kp (gKeep_fr f1 (fun a k z => by
            have z' : a = 85 ∨ a = 86 ∨ (a = 72 ∧ k = 17) := z
            omega))
          have e881 : M1.1 88 = gx Md := kp1.2.2.1
          have g941 : G94 s Md p M1 := fun j' c'' a b c d => by
            rw [f1.2 94 _ (by omega)]
            exact g94 j' c'' a b c d
          refine vc166_300 ho1 ⟨by decide, by decide⟩ ?_
          rw [e881]
          exact ⟨fun _ => ⟨c0, by omega, ih (c + 1) 0 _ M1 (by omega) (by omega) (by omega) ho1 kp1 g941 (RWI_off g B R c0 (by omega) v N1 R1 L1) (fun M2 l6 l7 l8 o2 f2 => fin M2 l6 l7 l8 o2 (fr_trans f1 f2))⟩, fun y => absurd (by decide) y⟩
/-- row by row -/
theorem m166_rows {t a i l4 : Int} {p : wlk} {m : Nat} (hW : ∀ j, 0 ≤ j → j < 8 → RWk M0 j) (gt : isA t) (w : wf s) (Gd : GRD s Md) (hp : isS (Cg s Md) p) (m0 : 0 < m) (hm : sti (Cg s Md) m p = p) (nr : ∀ u, 0 < u → u < m → sti (Cg s Md) u p ≠ p) (k : ∀ r M1, RB M0 M1 t (inTr s Md p (gh Md)) r → K r M1) :
    ∀ (d : Nat) (j : Int) (l6 l7 l8 : mm_V) (M' : mm_M), (gh Md - j).toNat ≤ d → 0 ≤ j → j ≤ gh Md → mr_ok M' → fr vT M0 M' → M'.1 72 0 = 0 → gKeep Md M' → G94 s Md p M' → RS M' (inTr s Md p j) → en_R sc 166 230 [mm_r 72, mm_i t, mm_i a, mm_i i, mm_i l4, mm_i j, l6, l7, l8] [] M' (QI K X) := by
  have g := Gd.1
  have h1 := g.2.1
  have h2 := g.2.2.2.1
  have B := GL_GB w g (isS_sn hp g)
  have r0 : mr_rg 0 := ⟨by decide, by decide⟩
  intro d
  induction d with
  | zero =>
    intro j l6 l7 l8 M' hd j0 j1 ho' hf ht kp g94 R
    have e24 : M'.1 72 24 = gh Md := kp.2.1
    refine vc166_230 ho' ⟨by omega, by omega⟩ ?_
    rw [e24]
    rw [show j = gh Md by omega] at R
    exact ⟨fun _ => c39y ho' hW ht hf R gt.1 gt.2 (fun v M1 c _ => Or.inl ⟨v, rfl, k v M1 c⟩), fun q => absurd (by omega) q⟩
  | succ d ih =>
    intro j l6 l7 l8 M' hd j0 j1 ho' hf ht kp g94 R
    have e24 : M'.1 72 24 = gh Md := kp.2.1
    refine vc166_230 ho' ⟨by omega, by omega⟩ ?_
    rw [e24]
    refine ⟨fun q => ?_, fun q => ?_⟩
    · rw [show j = gh Md by omega] at R
      exact c39y ho' hW ht hf R gt.1 gt.2 (fun v M1 c _ => Or.inl ⟨v, rfl, k v M1 c⟩)
    · have hoe : mr_ok (mm_putN M' 72 17 0) := mr_ok_putI ho' r0
      have fe : fr nS M' (mm_putN M' 72 17 0) := fr_put (Or.inr (Or.inr ⟨rfl, rfl⟩))
      have ee : (mm_putN M' 72 17 0).1 72 17 = 0 := put_eq
      generalize mm_putN M' 72 17 0 = Me at hoe fe ee
      have kpe : gKeep Md Me := gKeep_trans kp (gKeep_fr fe (fun a k z => by
        have z' : a = 85 ∨ a = 86 ∨ (a = 72 ∧ k = 17) := z
        omega))
      have g94e : G94 s Md p Me := fun j' c'' a b c d => by
        rw [fe.2 94 _ (by omega)]
        exact g94 j' c'' a b c d
      have tt := row_tot w g hp m0 hm nr j0 (show j < gh Md by omega)
      have zs : ∀ x, sumN (cvn s Md p j x) (0 : Int).toNat = 0 := fun x => rfl
      have y0 := B.2 j j0 (by omega)
      have y1 := B.2 (j + 1) (by omega) (by omega)
      have yl := g.2.2.2.2.2.1 j (j + 1) j0 (by omega) (by omega)
      refine m166_row w Gd hp j0 (by omega) tt _ 0 0 0 Me (Nat.le_refl _) (Int.le_refl _) (by have := g.1; omega) hoe kpe g94e ⟨NR_0 ee, Or.inl rfl, by rw [zs]; rfl, fun x => ⟨fun z => absurd z (rN_0 ee x), fun z => by rw [zs] at z; exact absurd z.1 (by decide)⟩, fun o => absurd o (by decide), fun z => absurd z (by omega)⟩ (fun M1 l6 l7 l8 o1 f1 N1 R1 => ?_)
      have fb1 : fr nS M' M1 := fr_trans fe f1
      refine c38 o1 N1 (RS_fr fb1 (fun a k z => by
        have z' : a = 85 ∨ a = 86 ∨ (a = 72 ∧ k = 17) := z
        omega) R) ⟨by omega, by omega⟩ ⟨by omega, by omega⟩ (fun _ => ⟨y0.1, y1.2⟩) (fun q x y z => ?_) (fun Mh fh Rh hoh => ?_)
      · obtain ⟨j', a1, a2, a3, a4, _⟩ := z
        by_cases y2 : j' + 1 = j
        · rw [y2] at a4; exact a4
        · have := g.2.2.2.2.2.1 (j' + 1) j (by omega) (by omega) (by omega)
          omega
      · have kph : gKeep Md Mh := gKeep_trans kp (gKeep_trans (gKeep_fr fb1 (fun a k z => by
          have z' : a = 85 ∨ a = 86 ∨ (a = 72 ∧ k = 17) := z
          omega)) (gKeep_fr fh (fun a k z => by
          unfold gS at z
          omega)))
        refine ih (j + 1) _ _ _ Mh (by omega) (by omega) (by omega) hoh (fr_trans hf (fr_mono (fr_trans (fr_mono fb1 nS_vS) (fr_mono fh gS_vS)) vS_vT)) ?_ kph (fun j' c'' a b c d => ?_) (RS_iff Rh (fun x y => ?_))
        · rw [fh.2 _ _ (by unfold gS; omega), fb1.2 _ _ (by omega)]
          exact ht
        · rw [fh.2 _ _ (by unfold gS; omega), fb1.2 _ _ (by omega)]
          exact g94 j' c'' a b c d
        · rw [R1]
          constructor
          · rintro (⟨j', a1, a2, a3⟩ | z)
            · exact ⟨j', a1, by omega, a3⟩
            · exact ⟨j, j0, by omega, z⟩
          · rintro ⟨j', a1, a2, a3, a4, a5⟩
            by_cases y2 : j' = j
            · rw [y2] at a3 a4 a5
              exact Or.inr ⟨a3, a4, a5⟩
            · exact Or.inl ⟨j', a1, by omega, a3, a4, a5⟩
end
