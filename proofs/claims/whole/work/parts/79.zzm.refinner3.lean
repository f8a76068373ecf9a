/-! ===== inner: the marks, and all of it ===== -/
/-- an upright side gone along before the time u -/
def vcu (C : Int → Int → Bool) (p : wlk) (u : Nat) (j c : Int) : Prop := ∃ v : Nat, v < u ∧ (sti C v p = (c, j, 1) ∨ sti C v p = (c, j + 1, 3))
theorem vcu_all {C : Int → Int → Bool} {p : wlk} {m : Nat} (m0 : 0 < m) (hm : sti C m p = p) {j c : Int} : vcu C p m j c ↔ vcol C p j c := by
  constructor
  · rintro ⟨v, _, h | h⟩
    · exact Or.inl ⟨v, h⟩
    · exact Or.inr ⟨v, h⟩
  · rintro (⟨v, h⟩ | ⟨v, h⟩)
    · exact ⟨v % m, Nat.mod_lt _ m0, Or.inl (by rw [← sti_mod hm]; exact h)⟩
    · exact ⟨v % m, Nat.mod_lt _ m0, Or.inr (by rw [← sti_mod hm]; exact h)⟩
theorem vcu_1 {C : Int → Int → Bool} {p : wlk} {u : Nat} {j c : Int} : vcu C p (u + 1) j c ↔ vcu C p u j c ∨ (sti C u p = (c, j, 1) ∨ sti C u p = (c, j + 1, 3)) := by
  constructor
  · rintro ⟨v, v1, h⟩
    by_cases z : v = u
    · rw [z] at h; exact Or.inr h
    · exact Or.inl ⟨v, by omega, h⟩
  · rintro (⟨v, v1, h⟩ | h)
    · exact ⟨v, by omega, h⟩
    · exact ⟨u, by omega, h⟩
def wkS : Nat → Int → Prop := fun a k => a = 94 ∨ (a = 72 ∧ 31 ≤ k ∧ k ≤ 33)
theorem wkS_vT : ∀ a k, wkS a k → vT a k := fun a k z => by
  have z' : a = 94 ∨ (a = 72 ∧ 31 ≤ k ∧ k ≤ 33) := z
  unfold vT vR
  omega
theorem wkS_keep {M M1 : mm_M} (h : fr wkS M M1) : gKeep M M1 := gKeep_fr h (fun a k z => by
  have z' : a = 94 ∨ (a = 72 ∧ 31 ≤ k ∧ k ≤ 33) := z
  omega)
def MK94 (C : Int → Int → Bool) (Md : mm_M) (p : wlk) (u : Nat) (M' : mm_M) : Prop := ∀ j c, 0 ≤ j → j < gh Md → 0 ≤ c → c ≤ gw Md → (M'.1 94 (j * (gw Md + 1) + c) ≠ 0 ↔ vcu C p u j c)
section
variable {sc : Nat × (Int → Int)} {s : sh} {M0 Md : mm_M} {X : Nat → mm_M → Prop} {K : Int → mm_M → Prop} {Q : mm_R → mm_M → Prop}
theorem MK94_put {p : wlk} {u : Nat} {M' : mm_M} {j c : Int} (h : MK94 (Cg s Md) Md p u M') (j0 : 0 ≤ j) (c0 : 0 ≤ c) (c1 : c ≤ gw Md) (e : sti (Cg s Md) u p = (c, j, 1) ∨ sti (Cg s Md) u p = (c, j + 1, 3)) : MK94 (Cg s Md) Md p (u + 1) (mm_putN M' 94 (j * (gw Md + 1) + c) 1) := by
  intro j' c' a1 a2 a3 a4
  rw [vcu_1]
  by_cases z : j' * (gw Md + 1) + c' = j * (gw Md + 1) + c
  · obtain ⟨y1, y2⟩ := ix_inj a3 (by omega) c0 (by omega) z
    rw [y1, y2, put_eq]
    exact ⟨fun _ => Or.inr e, fun _ => by decide⟩
  · rw [put_k z, h j' c' a1 a2 a3 a4]
    constructor
    · exact Or.inl
    · rintro (y | y)
      · exact y
      · exfalso
        apply z
        rcases e with e | e <;> rcases y with y | y <;> rw [e] at y
        · have y1 : c = c' := congrArg (fun z : wlk => z.1) y
          have y2 : j = j' := congrArg (fun z : wlk => z.2.1) y
          rw [y1, y2]
        · have y3 : (1 : Int) = 3 := congrArg (fun z : wlk => z.2.2) y
          omega
        · have y3 : (3 : Int) = 1 := congrArg (fun z : wlk => z.2.2) y
          omega
        · have y1 : c = c' := congrArg (fun z : wlk => z.1) y
          have y2 : j + 1 = j' + 1 := congrArg (fun z : wlk => z.2.1) y
          rw [y1, show j = j' by omega]
/-- from cut 170 on -/
theorem m166_170 {t a i l4 : Int} {p : wlk} {m u : Nat} {M6 : mm_M} (g : GRD s Md) (hp : isS (Cg s Md) p) (i0 : 0 ≤ i) (i1 : i < 900) (hl : st3 Md i = p) (ult : u < m) (hm : sti (Cg s Md) m p = p) (nr : ∀ u, 0 < u → u < m → sti (Cg s Md) u p ≠ p) (o6 : mr_ok M6) (f6 : fr wkS Md M6) (a6 : at3 M6 = sti (Cg s Md) u p) (k6 : MK94 (Cg s Md) Md p (u + 1) M6)
    (kk : ∀ (mo : Int) (Mw : mm_M), ((mo = 1 ∧ u + 1 < m) ∨ (mo = 0 ∧ u + 1 = m)) → mr_ok Mw → fr wkS Md Mw → at3 Mw = sti (Cg s Md) (u + 1) p → MK94 (Cg s Md) Md p (u + 1) Mw → en_R sc 166 116 [mm_r 72, mm_i t, mm_i a, mm_i i, mm_i mo, mm_u, mm_u, mm_u, mm_u] [] Mw Q) :
    en_R sc 166 170 [mm_r 72, mm_i t, mm_i a, mm_i i, mm_i l4, mm_u, mm_u, mm_u, mm_u] [] M6 Q := by
  have kp := wkS_keep f6
  have C' : Cg s M6 = Cg s Md := Cg_keep kp
  have isU := sti_isS hp u
  refine vc166_170 o6 (c151 o6 (gKeep_GRD kp g) (by rw [a6, C']; exact isU) (fun M2 f2 s2 o2 => ?_))
  rw [a6, C', ← sti_last] at s2
  have f2' : fr wkS Md M2 := fr_trans f6 (fr_mono f2 (fun a k z => Or.inr z))
  have e91 : M2.1 91 i = p.1 := by rw [f2'.2 91 i (by unfold wkS; omega), ← hl]; rfl
  have e92 : M2.1 92 i = p.2.1 := by rw [f2'.2 92 i (by unfold wkS; omega), ← hl]; rfl
  have e93 : M2.1 93 i = p.2.2 := by rw [f2'.2 93 i (by unfold wkS; omega), ← hl]; rfl
  have d31 : M2.1 72 31 = (sti (Cg s Md) (u + 1) p).1 := congrArg (fun z : wlk => z.1) s2
  have d32 : M2.1 72 32 = (sti (Cg s Md) (u + 1) p).2.1 := congrArg (fun z : wlk => z.2.1) s2
  have d33 : M2.1 72 33 = (sti (Cg s Md) (u + 1) p).2.2 := congrArg (fun z : wlk => z.2.2) s2
  have k2 : MK94 (Cg s Md) Md p (u + 1) M2 := fun j c a1 a2 a3 a4 => by
    rw [f2.2 94 _ (by intro z; have z' : (94 : Nat) = 72 ∧ _ := z; exact absurd z'.1 (by decide))]
    exact k6 j c a1 a2 a3 a4
  have mo1 : sti (Cg s Md) (u + 1) p ≠ p → u + 1 < m := fun y => by
    by_cases z : u + 1 = m
    · rw [z] at y; exact absurd hm y
    · omega
  have mo0 : sti (Cg s Md) (u + 1) p = p → u + 1 = m := fun y => by
    by_cases z : u + 1 = m
    · exact z
    · exact absurd y (nr (u + 1) (by omega) (by omega))
  rw [e91, e92, e93, d31, d32, d33]
  have ne : sti (Cg s Md) (u + 1) p ≠ p → en_R sc 166 116 [mm_r 72, mm_i t, mm_i a, mm_i i, mm_i 1, mm_u, mm_u, mm_u, mm_u] [] M2 Q := fun y => kk 1 M2 (Or.inl ⟨rfl, mo1 y⟩) o2 f2' s2 k2
  refine ⟨i0, i1, fun y => ne (fun z => y (congrArg (fun z : wlk => z.1) z)), fun y1 => ⟨i0, i1, fun y => ne (fun z => y (congrArg (fun z : wlk => z.2.1) z)), fun y2 => ⟨i0, i1, fun y3 => ?_, fun y => ne (fun z => y (congrArg (fun z : wlk => z.2.2) z))⟩⟩⟩
  have q1 : (sti (Cg s Md) (u + 1) p).1 = p.1 := Classical.byContradiction y1
  have q2 : (sti (Cg s Md) (u + 1) p).2.1 = p.2.1 := Classical.byContradiction y2
  exact kk 0 M2 (Or.inr ⟨rfl, mo0 (Prod.ext q1 (Prod.ext q2 y3))⟩) o2 f2' s2 k2
/-- once round -/
theorem m166_walk {t a i : Int} {p : wlk} {m : Nat} (g : GRD s Md) (hp : isS (Cg s Md) p) (i0 : 0 ≤ i) (i1 : i < 900) (hl : st3 Md i = p) (hm : sti (Cg s Md) m p = p) (nr : ∀ u, 0 < u → u < m → sti (Cg s Md) u p ≠ p)
    (fin : ∀ Mw : mm_M, mr_ok Mw → fr wkS Md Mw → MK94 (Cg s Md) Md p m Mw → en_R sc 166 116 [mm_r 72, mm_i t, mm_i a, mm_i i, mm_i 0, mm_u, mm_u, mm_u, mm_u] [] Mw (QI K X)) :
    ∀ (d u : Nat) (M' : mm_M), m - u ≤ d → u < m → mr_ok M' → fr wkS Md M' → at3 M' = sti (Cg s Md) u p → MK94 (Cg s Md) Md p u M' → en_R sc 166 116 [mm_r 72, mm_i t, mm_i a, mm_i i, mm_i 1, mm_u, mm_u, mm_u, mm_u] [] M' (QI K X) := by
  have h1 := g.1.2.1
  have h2 := g.1.2.2.2.1
  intro d
  induction d with
  | zero =>
    intro u M' hd hu
    exact absurd hu (by omega)
  | succ d ih =>
    intro u M' hd hu ho' hf ha hk
    have isU := sti_isS hp u
    have ru := isS_rg isU
    have kp := wkS_keep hf
    have e23 : M'.1 72 23 = gw Md := kp.1
    have a31 : M'.1 72 31 = (sti (Cg s Md) u p).1 := congrArg (fun z : wlk => z.1) ha
    have a32 : M'.1 72 32 = (sti (Cg s Md) u p).2.1 := congrArg (fun z : wlk => z.2.1) ha
    have a33 : M'.1 72 33 = (sti (Cg s Md) u p).2.2 := congrArg (fun z : wlk => z.2.2) ha
    have wy := isU.1
    have go : ∀ M6 : mm_M, mr_ok M6 → fr wkS Md M6 → at3 M6 = sti (Cg s Md) u p → MK94 (Cg s Md) Md p (u + 1) M6 → en_R sc 166 170 [mm_r 72, mm_i t, mm_i a, mm_i i, mm_i 1, mm_u, mm_u, mm_u, mm_u] [] M6 (QI K X) := fun M6 o6 f6 a6 k6 => m166_170 g hp i0 i1 hl hu hm nr o6 f6 a6 k6 (fun mo Mw hmo ow fw aw kw => by
      rcases hmo with ⟨e, lt⟩ | ⟨e, eq⟩
      · rw [e]; exact ih (u + 1) Mw (by omega) lt ow fw aw kw
      · rw [e]; rw [eq] at kw; exact fin Mw ow fw kw)
    have put : ∀ j : Int, 0 ≤ j → j ≤ gh Md → (sti (Cg s Md) u p = ((sti (Cg s Md) u p).1, j, 1) ∨ sti (Cg s Md) u p = ((sti (Cg s Md) u p).1, j + 1, 3)) → en_R sc 166 156 [mm_r 72, mm_i t, mm_i a, mm_i i, mm_i 1, mm_u, mm_u, mm_u, mm_u] [mm_i j, mm_r 94] M' (QI K X) := fun j j0 j1 e => by
      have ix := ix94 h1 h2 j0 j1 ru.1 ru.2.1
      refine vc166_156 ho' ?_
      rw [e23, a31]
      refine ⟨ix.1, by omega, go _ (mr_ok_putI ho' ⟨by decide, by decide⟩) (fr_trans hf (fr_put (Or.inl rfl))) ?_ (MK94_put hk j0 ru.1 ru.2.1 e)⟩
      unfold at3
      rw [put_a (by decide), put_a (by decide), put_a (by decide)]
      exact ha
    refine vc166_116 ho' ⟨by decide, by decide⟩ ⟨fun q => absurd q (by decide), fun _ => ?_⟩
    rw [a33, a32]
    generalize hq : sti (Cg s Md) u p = q at *
    obtain ⟨qc, qj, qw⟩ := q
    have wy' : qw = 0 ∨ qw = 1 ∨ qw = 2 ∨ qw = 3 := wy
    show 0 ≤ qw ∧ mr_rg (qw % 2) ∧ _
    refine ⟨by omega, ⟨by omega, by omega⟩, fun z => ?_, fun z => ⟨fun z2 => ?_, fun z2 => ?_⟩⟩
    · refine go M' ho' hf ha (fun j c a1 a2 a3 a4 => ?_)
      rw [hk j c a1 a2 a3 a4, vcu_1, hq]
      constructor
      · exact Or.inl
      · rintro (y | y | y)
        · exact y
        · have y3 : qw = 1 := congrArg (fun z : wlk => z.2.2) y
          have z' : qw % 2 ≠ 1 := z
          omega
        · have y3 : qw = 3 := congrArg (fun z : wlk => z.2.2) y
          have z' : qw % 2 ≠ 1 := z
          omega
    · have z' : qw % 2 = 1 := Classical.byContradiction z
      have z2' : ¬ qw = 1 := z2
      have z3 : qw = 3 := by omega
      have r3 : 0 < qj := (ru.2.2.2.2.2.2.2 z3).2
      have r4 : qj ≤ gh Md := ru.2.2.2.1
      refine put (qj - 1) (by omega) (by omega) (Or.inr ?_)
      rw [z3, show qj - 1 + 1 = qj by omega]
    · have z3 : qw = 1 := Classical.byContradiction z2
      have r3 : 0 ≤ qj := ru.2.2.1
      have r4 : qj ≤ gh Md := ru.2.2.2.1
      refine put qj r3 r4 (Or.inl ?_)
      rw [z3]
theorem c166 {t a i : Int} (ho : mr_ok M0) (hW : ∀ j, 0 ≤ j → j < 8 → RWk M0 j) (ht : mr_rg t) (ha : mr_rg a) (hi : mr_rg i) (k1 : ¬ (isA t ∧ isA a) → ∀ M1, fr thS M0 M1 → M1.1 72 0 = 1 → K 0 M1)
    (k2 : isA t ∧ isA a → ∀ Mf M1, fr vT M0 Mf → FLS (rdB M0 a) Mf → ¬ (0 ≤ i ∧ i ≤ Mf.1 72 29 - 1) → fr vT M0 M1 → M1.1 72 0 = 2 → K 0 M1)
    (k : isA t ∧ isA a → ∀ Mf r M1, mr_ok Mf → fr vT M0 Mf → FLS (rdB M0 a) Mf → 0 ≤ i → i < Mf.1 72 29 → RB M0 M1 t (inTr (rdB M0 a) Mf (st3 Mf i) (gh Mf)) r → K r M1) : en_CI sc 166 [mm_r 72, mm_i t, mm_i a, mm_i i, mm_u, mm_u, mm_u, mm_u, mm_u] M0 K X := by
  have r0 : mr_rg 0 := ⟨by decide, by decide⟩
  have r1 : mr_rg 1 := ⟨by decide, by decide⟩
  have r2 : mr_rg 2 := ⟨by decide, by decide⟩
  refine vc166_0 ho (c70 ho ht ha (fun g M1 f1 t1 o1 => ⟨r0, fun z => absurd rfl z, fun _ => Or.inl ⟨_, rfl, k1 g M1 f1 t1⟩⟩) (fun g Mb fb tb hob => ⟨r1, fun _ => ?_, fun z => absurd (by decide) z⟩))
  have W := hW a g.2.1 g.2.2
  have vb : fr vT M0 Mb := fr_mono fb thS_vT
  have Wb := vT_keep vb g.2.1 g.2.2 W
  have erb : rdB Mb a = rdB M0 a := rdB_fr fb (fun b k z => by have z' : b = 72 ∧ k = 0 := z; omega) a
  refine c153 hob g.2 Wb.2 (fun Mc fc Fc hoc => ?_)
  rw [erb] at Fc
  have vc : fr vT M0 Mc := fr_trans vb (fr_mono fc vR_vT)
  have n0 := Fc.2.1
  have n1 := Fc.2.2.1
  refine c33 hoc hi r0 ⟨by omega, by omega⟩ (fun gi _ => ⟨r1, fun y => absurd y (by decide), fun _ => ?_⟩) (fun gi _ => ⟨r0, fun _ => ?_, fun y => absurd rfl y⟩)
  · have hod : mr_ok (mm_putN Mc 72 0 0) := mr_ok_putI hoc r0
    have fd : fr thS Mc (mm_putN Mc 72 0 0) := fr_put ⟨rfl, rfl⟩
    have td : (mm_putN Mc 72 0 0).1 72 0 = 0 := put_eq
    refine vc166_36 hoc r0 ?_
    generalize mm_putN Mc 72 0 0 = Md at hod fd td
    have Fd : FLS (rdB M0 a) Md := FLS_fr Fc fd (fun a k z => ⟨z.1, Or.inl z.2⟩)
    have vd : fr vT M0 Md := fr_trans vc (fr_mono fd thS_vT)
    have e29 : Md.1 72 29 = Mc.1 72 29 := fd.2 72 29 (by omega)
    obtain ⟨hp, m, m0, hm, nr⟩ := FLS_per Fd gi.1 (show i < Md.1 72 29 by omega)
    refine ⟨fun _ => ?_, fun z => absurd (by omega) z⟩
    have kk := k g Md
    have g2 := Fd.1
    have h1 := g2.1.2.1
    have h2 := g2.1.2.2.2.1
    have w0 := g2.1.1
    have w1 := g2.1.2.2.1
    have pr := isS_rg hp
    have pw := hp.1
    have gi1 : i < 900 := by omega
    have gi2 : i < Md.1 72 29 := by omega
    have fin : ∀ Mw : mm_M, mr_ok Mw → fr wkS Md Mw → MK94 (Cg (rdB M0 a) Md) Md (st3 Md i) m Mw → en_R sc 166 116 [mm_r 72, mm_i t, mm_i a, mm_i i, mm_i 0, mm_u, mm_u, mm_u, mm_u] [] Mw (QI K X) := fun Mw ow fw kw => by
      refine vc166_116 ow r0 ⟨fun _ => c35 ow (fun M2 f2 e2 R2 o2 => ?_), fun q => absurd rfl q⟩
      have kp2 : gKeep Mw M2 := gKeep_fr f2 (fun a k z => by omega)
      have t2 : M2.1 72 0 = 0 := by
        rw [f2.2 72 0 (by omega), fw.2 72 0 (by unfold wkS; omega)]
        exact td
      refine m166_rows hW g.1 W.1 g2 hp m0 hm nr (fun r M1 rb => kk r M1 hod vd Fd gi.1 gi2 rb) _ 0 _ _ _ M2 (Nat.le_refl _) (Int.le_refl _) w1 o2 (fr_trans vd (fr_trans (fr_mono fw wkS_vT) (fr_mono f2 (fun a k z => by unfold vT vR; omega)))) t2 (gKeep_trans (wkS_keep fw) kp2) (fun j c a1 a2 a3 a4 => ?_) (RS_iff R2 (fun x y => ⟨fun z => z.elim, fun z => ?_⟩))
      · rw [f2.2 94 _ (by omega), kw j c a1 a2 a3 a4]
        exact vcu_all m0 hm
      · obtain ⟨j, a1, a2, _⟩ := z
        omega
    have clr : ∀ (d : Nat) (l4 : Int) (M' : mm_M), ((gw Md + 1) * (gh Md + 1) - l4).toNat ≤ d → 0 ≤ l4 → l4 ≤ (gw Md + 1) * (gh Md + 1) → mr_ok M' → fr wkS Md M' → (∀ n, 0 ≤ n → n < l4 → M'.1 94 n = 0) → en_R sc 166 51 [mm_r 72, mm_i t, mm_i a, mm_i i, mm_i l4, mm_u, mm_u, mm_u, mm_u] [] M' (QI K X) := by
      have ixx := ix94 h1 h2 (Int.le_refl 0) w1 (Int.le_refl 0) w0
      have last : ∀ M' : mm_M, mr_ok M' → fr wkS Md M' → (∀ n, 0 ≤ n → n < (gw Md + 1) * (gh Md + 1) → M'.1 94 n = 0) → 0 ≤ i ∧ (i < 900 ∧ (0 ≤ i ∧ (i < 900 ∧ (0 ≤ i ∧ (i < 900 ∧ (en_R sc 166 116 [mm_r 72, mm_i t, mm_i a, mm_i i, mm_i 1, mm_u, mm_u, mm_u, mm_u] [] (mm_putN (mm_putN (mm_putN M' 72 31 (M'.1 91 i)) 72 32 ((mm_putN M' 72 31 (M'.1 91 i)).1 92 i)) 72 33 ((mm_putN (mm_putN M' 72 31 (M'.1 91 i)) 72 32 ((mm_putN M' 72 31 (M'.1 91 i)).1 92 i)).1 93 i)) (QI K X))))))) := fun M' ho' hf hz => by
        simp (discharger := decide) only [put_eq, put_k, put_a]
        have e91 : M'.1 91 i = (st3 Md i).1 := hf.2 91 i (by unfold wkS; omega)
        have e92 : M'.1 92 i = (st3 Md i).2.1 := hf.2 92 i (by unfold wkS; omega)
        have e93 : M'.1 93 i = (st3 Md i).2.2 := hf.2 93 i (by unfold wkS; omega)
        rw [e91, e92, e93]
        have q1 : mr_rg (st3 Md i).1 := ⟨by omega, by omega⟩
        have q2 : mr_rg (st3 Md i).2.1 := ⟨by omega, by omega⟩
        have q3 : mr_rg (st3 Md i).2.2 := ⟨by omega, by omega⟩
        refine ⟨gi.1, gi1, gi.1, gi1, gi.1, gi1, ?_⟩
        refine m166_walk g2 hp gi.1 gi1 rfl hm nr fin m 0 _ (by omega) m0 (mr_ok_putI (mr_ok_putI (mr_ok_putI ho' q1) q2) q3) (fr_trans hf (fr_trans (fr_trans (fr_put (Or.inr ⟨rfl, by decide, by decide⟩)) (fr_put (Or.inr ⟨rfl, by decide, by decide⟩))) (fr_put (Or.inr ⟨rfl, by decide, by decide⟩)))) ?_ (fun j c a1 a2 a3 a4 => ?_)
        · unfold at3
          simp (discharger := decide) only [put_eq, put_k, put_a]
          rfl
        · simp (discharger := decide) only [put_eq, put_k, put_a]
          have ix := ix94 h1 h2 a1 (show j ≤ gh Md by omega) a3 a4
          rw [hz _ ix.1 ix.2.1]
          exact ⟨fun y => absurd rfl y, fun y => by obtain ⟨v, v1, _⟩ := y; omega⟩
      intro d
      induction d with
      | zero =>
        intro l4 M' hd l0 l1 ho' hf hz
        have e23 : M'.1 72 23 = gw Md := (wkS_keep hf).1
        have e24 : M'.1 72 24 = gh Md := (wkS_keep hf).2.1
        refine vc166_51 ho' ⟨by omega, by omega⟩ ?_
        rw [e23, e24]
        refine ⟨⟨by omega, by omega⟩, fun _ => last M' ho' hf (fun n n0 n1 => hz n n0 (by omega)), fun q => absurd (by omega) q⟩
      | succ d ih =>
        intro l4 M' hd l0 l1 ho' hf hz
        have e23 : M'.1 72 23 = gw Md := (wkS_keep hf).1
        have e24 : M'.1 72 24 = gh Md := (wkS_keep hf).2.1
        refine vc166_51 ho' ⟨by omega, by omega⟩ ?_
        rw [e23, e24]
        refine ⟨⟨by omega, by omega⟩, fun q => last M' ho' hf (fun n n0 n1 => hz n n0 (by omega)), fun q => ⟨l0, by omega, ih (l4 + 1) _ (by omega) (by omega) (by omega) (mr_ok_putI ho' r0) (fr_trans hf (fr_put (Or.inl rfl))) (fun n n0 n1 => ?_)⟩⟩
        by_cases y : n = l4
        · rw [y, put_eq]
        · rw [put_k y]
          exact hz n n0 (by omega)
    have ixx := ix94 h1 h2 (Int.le_refl 0) w1 (Int.le_refl 0) w0
    exact clr _ 0 Md (Nat.le_refl _) (Int.le_refl _) (by omega) hod fr_refl (fun n n0 n1 => by omega)
  · refine vc166_36 hoc r2 ?_
    rw [put_eq]
    exact ⟨fun z => absurd z (by decide), fun _ => Or.inl ⟨_, rfl, k2 g Mc _ vc Fc gi (fr_trans vc (fr_put (Or.inr ⟨rfl, rfl⟩))) put_eq⟩⟩
end
