/-! ===== CellAreasModel.findLoops ===== -/
/-- where a loop starts: at its least place, east (with a left end above) or north (along a right end) -/
def STp (s : sh) (M : mm_M) (p : wlk) : Prop := (p.2.2 = 0 ∧ cel s M p.1 p.2.1 ∧ ¬ cel s M (p.1 - 1) p.2.1) ∨ (p.2.2 = 1 ∧ cel s M (p.1 - 1) p.2.1 ∧ ¬ cel s M p.1 p.2.1)
section
variable {s : sh} {M : mm_M}
theorem Cg_no {i j : Int} : Cg s M i j = false ↔ ¬ cel s M i j := by
  rw [← Cg_iff]
  cases Cg s M i j <;> simp
theorem isS_mk {i j w : Int} (hw : w = 0 ∨ w = 1 ∨ w = 2 ∨ w = 3) (h : ldc (Cg s M) i j w = true) : isS (Cg s M) (i, j, w) := ⟨hw, h⟩
/-- the first side in order that is not gone starts a loop -/
theorem new_start {G : wlk → Prop} (hc : clo (Cg s M) G) {p : wlk} (hp : isS (Cg s M) p) (hn : ¬ G p) (hk : ∀ q, isS (Cg s M) q → sx (gw M) q < sx (gw M) p → G q) : STp s M p := by
  have r := isS_rg hp
  have lt : ∀ q, isS (Cg s M) q → (q.2.1 < p.2.1 ∨ (q.2.1 = p.2.1 ∧ (q.1 < p.1 ∨ (q.1 = p.1 ∧ q.2.2 < p.2.2)))) → G q := fun q hq z => hk q hq ((sx_lt (isS_rg hq).1 (isS_rg hq).2.1 r.1 r.2.1 hq.1 hp.1).mpr z)
  have nxt := stp_isS hp
  obtain ⟨i, j, w⟩ := p
  have hw : w = 0 ∨ w = 1 ∨ w = 2 ∨ w = 3 := hp.1
  rcases hw with rfl | rfl | rfl | rfl
  · refine Or.inl ⟨rfl, ?_, fun z => ?_⟩
    · have h : ldc (Cg s M) i j 0 = true := hp.2
      exact Cg_iff.mp (Bool.and_eq_true_iff.mp h).1
    · have h : ldc (Cg s M) i j 0 = true := hp.2
      have c1 : Cg s M i j = true := (Bool.and_eq_true_iff.mp h).1
      have c2 : Cg s M i (j - 1) = false := by
        have := (Bool.and_eq_true_iff.mp h).2
        revert this
        cases Cg s M i (j - 1) <;> simp
      have c3 : Cg s M (i - 1) j = true := Cg_iff.mpr z
      cases c4 : Cg s M (i - 1) (j - 1)
      · have hq : isS (Cg s M) (i - 1, j, 0) := isS_mk (Or.inl rfl) (by
          show (Cg s M (i - 1) j && !Cg s M (i - 1) (j - 1)) = true
          rw [c3, c4]; rfl)
        have gq : G (i - 1, j, 0) := lt _ hq (Or.inr ⟨rfl, Or.inl (show i - 1 < i by omega)⟩)
        have e : stp (Cg s M) (i - 1, j, 0) = (i, j, 0) := by
          have ex : goX (i - 1, j, 0) = i := by show i - 1 + 1 = i; omega
          have ey : goY (i - 1, j, 0) = j := rfl
          unfold stp
          rw [goW_4, ex, ey, c1, c2, c3, c4]
          rfl
        exact hn (e ▸ (hc _ hq).mpr gq)
      · have hq : isS (Cg s M) (i, j - 1, 1) := isS_mk (Or.inr (Or.inl rfl)) (by
          show (Cg s M (i - 1) (j - 1) && !Cg s M i (j - 1)) = true
          rw [c2, c4]; rfl)
        have gq : G (i, j - 1, 1) := lt _ hq (Or.inl (show j - 1 < j by omega))
        have e : stp (Cg s M) (i, j - 1, 1) = (i, j, 0) := by
          have ex : goX (i, j - 1, 1) = i := rfl
          have ey : goY (i, j - 1, 1) = j := by show j - 1 + 1 = j; omega
          unfold stp
          rw [goW_4, ex, ey, c1, c2, c3, c4]
          rfl
        exact hn (e ▸ (hc _ hq).mpr gq)
  · have h : ldc (Cg s M) i j 1 = true := hp.2
    refine Or.inr ⟨rfl, Cg_iff.mp (Bool.and_eq_true_iff.mp h).1, fun z => ?_⟩
    have := (Bool.and_eq_true_iff.mp h).2
    rw [Cg_iff.mpr z] at this
    exact absurd this (by decide)
  · exact absurd ((hc _ hp).mp (lt _ nxt (Or.inr ⟨rfl, Or.inl (show i - 1 < i by omega)⟩))) hn
  · exact absurd ((hc _ hp).mp (lt _ nxt (Or.inl (show j - 1 < j by omega)))) hn
theorem STp_edge (h : wf s) (g : GL s M) {p : wlk} (t : STp s M p) : (∃ f, EDG s M p.1 p.2.1 f ∧ f % 2 = p.2.2 % 2) ∧ 0 ≤ p.2.1 ∧ p.2.1 < gh M := by
  rcases t with ⟨e, a, b⟩ | ⟨e, a, b⟩
  · obtain ⟨bb, k, r, p', q⟩ := EDG_l h g a b
    exact ⟨⟨2 * k, ⟨bb, k, r, p', Or.inl ⟨rfl, q⟩⟩, by omega⟩, a.2.2.1, a.2.2.2.1⟩
  · obtain ⟨bb, k, r, p', q⟩ := EDG_r h g a b
    exact ⟨⟨2 * k + 1, ⟨bb, k, r, p', Or.inr ⟨rfl, q⟩⟩, by omega⟩, a.2.2.1, a.2.2.2.1⟩
end
/-- what is known of the loops found so far: n of them, all sides before the index K are in one of them -/
def LPr (s : sh) (M0 M : mm_M) (n K : Int) : Prop := M.1 72 29 = n ∧ 0 ≤ n ∧ v01 M ∧
  (∀ l, 0 ≤ l → l < n → isS (Cg s M0) (st3 M l) ∧ STp s M0 (st3 M l) ∧ (∃ m, 0 < m ∧ sti (Cg s M0) m (st3 M l) = st3 M l) ∧ (∀ q, orb (Cg s M0) (st3 M l) q → sx (gw M0) (st3 M l) ≤ sx (gw M0) q) ∧ sx (gw M0) (st3 M l) < K ∧ ∀ f, EDG s M0 (st3 M l).1 (st3 M l).2.1 f → l ≤ f) ∧
  (∀ l l', 0 ≤ l → l < l' → l' < n → sx (gw M0) (st3 M l) < sx (gw M0) (st3 M l')) ∧
  (∀ q, isS (Cg s M0) q → (Gn M q ↔ ∃ l, 0 ≤ l ∧ l < n ∧ orb (Cg s M0) (st3 M l) q)) ∧
  (∀ q, isS (Cg s M0) q → sx (gw M0) q < K → Gn M q)
/-- all loops are found -/
def FLS (s : sh) (M : mm_M) : Prop := GRD s M ∧ 0 ≤ M.1 72 29 ∧ M.1 72 29 ≤ 800 ∧
  (∀ l, 0 ≤ l → l < M.1 72 29 → isS (Cg s M) (st3 M l) ∧ STp s M (st3 M l) ∧ (∃ m, 0 < m ∧ sti (Cg s M) m (st3 M l) = st3 M l) ∧ (∀ q, orb (Cg s M) (st3 M l) q → sx (gw M) (st3 M l) ≤ sx (gw M) q)) ∧
  (∀ l l', 0 ≤ l → l < l' → l' < M.1 72 29 → sx (gw M) (st3 M l) < sx (gw M) (st3 M l')) ∧
  (∀ q, isS (Cg s M) q → ∃ l, 0 ≤ l ∧ l < M.1 72 29 ∧ orb (Cg s M) (st3 M l) q)
section
variable {s : sh}
theorem LPr_clo {M0 M : mm_M} {n K : Int} (h : LPr s M0 M n K) : clo (Cg s M0) (Gn M) := by
  obtain ⟨_, _, _, h4, _, h6, _⟩ := h
  intro p hp
  rw [h6 _ (stp_isS hp), h6 _ hp]
  constructor
  · rintro ⟨l, l0, l1, o⟩
    obtain ⟨a, _, ⟨m, m0, m1⟩, _⟩ := h4 l l0 l1
    exact ⟨l, l0, l1, (orb_clo a m0 m1 hp).mp o⟩
  · rintro ⟨l, l0, l1, o⟩
    obtain ⟨a, _, ⟨m, m0, m1⟩, _⟩ := h4 l l0 l1
    exact ⟨l, l0, l1, (orb_clo a m0 m1 hp).mpr o⟩
theorem LPr_up {M0 M : mm_M} {n K : Int} (h : LPr s M0 M n K) (q0 : ∀ q, isS (Cg s M0) q → sx (gw M0) q = K → Gn M q) : LPr s M0 M n (K + 1) := by
  obtain ⟨h1, h2, h3, h4, h5, h6, h7⟩ := h
  refine ⟨h1, h2, h3, fun l l0 l1 => ?_, h5, h6, fun q hq z => ?_⟩
  · obtain ⟨a, b, c, d, e, f⟩ := h4 l l0 l1
    exact ⟨a, b, c, d, by omega, f⟩
  · by_cases y : sx (gw M0) q = K
    · exact q0 q hq y
    · exact h7 q hq (by omega)
/-- fewer than the edges -/
theorem LPr_n {M0 M : mm_M} {n K : Int} (w : wf s) (g : GL s M0) (n1 : nS_ s ≤ 400) (h : LPr s M0 M n K) : n ≤ 800 := by
  obtain ⟨h1, h2, h3, h4, h5, h6, h7⟩ := h
  by_cases z : n = 0
  · omega
  · obtain ⟨a, b, c, d, e, f⟩ := h4 (n - 1) (by omega) (by omega)
    obtain ⟨⟨f', e', _⟩, _⟩ := STp_edge w g b
    have := f f' e'
    have := EDG_rg w e'
    omega
/-- one more -/
theorem LPr_new {M0 M M1 : mm_M} {n : Int} {p : wlk} (w : wf s) (g : GL s M0) (ew : gw M = gw M0) (ew1 : gw M1 = gw M0) (h : LPr s M0 M n (sx (gw M0) p)) (hp : isS (Cg s M0) p) (hn : ¬ Gn M p) (e29 : M1.1 72 29 = n + 1) (en : st3 M1 n = p) (eo : ∀ l, l ≠ n → st3 M1 l = st3 M l) (hcyc : ∃ m, 0 < m ∧ sti (Cg s M0) m p = p) (hG : ∀ q, isS (Cg s M0) q → (Gn M1 q ↔ Gn M q ∨ orb (Cg s M0) p q)) (hv : v01 M1) : LPr s M0 M1 (n + 1) (sx (gw M0) p + 1) := by
  have hc := LPr_clo h
  obtain ⟨h1, h2, h3, h4, h5, h6, h7⟩ := h
  have st := new_start hc hp hn (fun q hq z => h7 q hq z)
  refine ⟨e29, by omega, hv, fun l l0 l1 => ?_, fun l l' l0 l1 l2 => ?_, fun q hq => ?_, fun q hq z => ?_⟩
  · by_cases z : l = n
    · rw [z, en]
      refine ⟨hp, st, hcyc, fun q o => ?_, by omega, fun f ef => ?_⟩
      · obtain ⟨m, e⟩ := o
        have hq : isS (Cg s M0) q := by rw [← e]; exact sti_isS hp m
        by_cases y : sx (gw M0) q < sx (gw M0) p
        · exfalso
          have gq := h7 q hq y
          rw [← e] at gq
          exact hn ((clo_sti hc hp m).mp gq)
        · omega
      · by_cases z0 : n = 0
        · have := EDG_rg w ef
          omega
        · obtain ⟨a, b, c, d, e, f'⟩ := h4 (n - 1) (by omega) (by omega)
          obtain ⟨⟨g', eg, gp⟩, j0, j1⟩ := STp_edge w g b
          have := f' g' eg
          obtain ⟨⟨g2, eg2, gp2⟩, k0, k1⟩ := STp_edge w g st
          have e2 := EDG_one w ef eg2
          have r := isS_rg a
          have r' := isS_rg hp
          have lt := (sx_lt r.1 r.2.1 r'.1 r'.2.1 a.1 hp.1).mp e
          have lt' : (st3 M (n - 1)).2.1 < p.2.1 ∨ ((st3 M (n - 1)).2.1 = p.2.1 ∧ (st3 M (n - 1)).1 < p.1) := by
            rcases lt with y | ⟨y1, y2 | ⟨y2, y3⟩⟩
            · exact Or.inl y
            · exact Or.inr ⟨y1, y2⟩
            · exfalso
              unfold STp at b st
              rw [y1, y2] at b
              rcases b with b | b
              · rcases st with t | t
                · omega
                · exact b.2.2 t.2.1
              · rcases st with t | t
                · omega
                · omega
          have := EDG_lt w g r.1 r.2.1 j0 j1 r'.1 r'.2.1 k0 k1 eg eg2 lt'
          omega
    · rw [eo l z]
      obtain ⟨a, b, c, d, e, f⟩ := h4 l l0 (by omega)
      exact ⟨a, b, c, d, by omega, f⟩
  · rw [eo l (by omega)]
    by_cases z : l' = n
    · rw [z, en]
      exact (h4 l l0 (by omega)).2.2.2.2.1
    · rw [eo l' z]
      exact h5 l l' l0 l1 (by omega)
  · rw [hG q hq, h6 q hq]
    constructor
    · rintro (⟨l, l0, l1, o⟩ | o)
      · exact ⟨l, l0, by omega, by rw [eo l (by omega)]; exact o⟩
      · exact ⟨n, h2, by omega, by rw [en]; exact o⟩
    · rintro ⟨l, l0, l1, o⟩
      by_cases z : l = n
      · rw [z, en] at o
        exact Or.inr o
      · rw [eo l z] at o
        exact Or.inl ⟨l, l0, by omega, o⟩
  · rw [hG q hq]
    by_cases y : sx (gw M0) q < sx (gw M0) p
    · exact Or.inl (h7 q hq y)
    · have r := isS_rg hq
      have r' := isS_rg hp
      have e := sx_inj r.1 r.2.1 r'.1 r'.2.1 hq.1 hp.1 (show sx (gw M0) q = sx (gw M0) p by omega)
      rw [e]
      exact Or.inr ⟨0, rfl⟩
end
section
variable {sc : Nat × (Int → Int)} {M : mm_M} {X : Nat → mm_M → Prop}
theorem c153 {K : mm_M → Prop} {a : Int} (ho : mr_ok M) (ga : isA a) (W : RWk M a) (k : ∀ M1, fr vR M M1 → FLS (rdB M a) M1 → K M1) : en_CV sc 153 [mm_r 72, mm_i a, mm_u, mm_u, mm_u] M K X := by
  have w := W.1
  have nS1 : nS_ (rdB M a) ≤ 400 := by
    have e : sst (rdB M a) (sn (rdB M a)) = M.1 80 a := rdB_end
    show sst (rdB M a) (sn (rdB M a)) ≤ 400
    rw [e]
    exact W.2.2.2
  refine vc153_0 ho (c145 ho ga W (fun Ma fa Ga hoa => ?_))
  generalize hs : rdB M a = s at *
  have hob : mr_ok (mm_putN Ma 72 29 0) := mr_ok_putI hoa ⟨by decide, by decide⟩
  have fb : fr gfS Ma (mm_putN Ma 72 29 0) := fr_put (by omega)
  have e29 : (mm_putN Ma 72 29 0).1 72 29 = 0 := put_eq
  generalize mm_putN Ma 72 29 0 = Mb at hob fb e29
  have Gb := gKeep_GRD (gfS_keep fb) Ga
  have vb : fr vR M Mb := fr_trans fa (fr_mono fb (fun b k z => by
    have z' : b = 91 ∨ b = 92 ∨ b = 93 ∨ b = 94 ∨ (b = 72 ∧ (k = 29 ∨ k = 31 ∨ k = 32 ∨ k = 33)) := z
    unfold vR; omega))
  clear fa Ga hoa fb
  have h1 := Gb.1.2.1
  have h2 := Gb.1.2.2.2.1
  have h0 := Gb.1.1
  have h20 := Gb.1.2.2.1
  have egw : gw Mb = Mb.1 72 23 := rfl
  have egh : gh Mb = Mb.1 72 24 := rfl
  have Tr : 0 ≤ nT Mb ∧ nT Mb ≤ 640000 := by
    have x := sx_rg (W := gw Mb) (H := gh Mb) (p := ((0, 0, 0) : wlk)) h1 h2 (Int.le_refl 0) h0 (Int.le_refl 0) h20 (Or.inl rfl)
    have enT : nT Mb = 4 * (gw Mb + 1) * (gh Mb + 1) := rfl
    rw [enT]
    exact ⟨by have := x.1; have := x.2.1; omega, x.2.2⟩
  have at' : ∀ M', fr gfS Mb M' → M'.1 72 23 = gw Mb ∧ M'.1 72 24 = gh Mb ∧ gKeep Mb M' ∧ nT M' = nT Mb := fun M' f => by
    have kp := gfS_keep f
    exact ⟨kp.1, kp.2.1, kp, by show 4 * (gw M' + 1) * (gh M' + 1) = _; rw [kp.1, kp.2.1]⟩
  have vR' : ∀ M', fr gfS Mb M' → fr vR M M' := fun M' f => fr_trans vb (fr_mono f (fun b k z => by
    have z' : b = 91 ∨ b = 92 ∨ b = 93 ∨ b = 94 ∨ (b = 72 ∧ (k = 29 ∨ k = 31 ∨ k = 32 ∨ k = 33)) := z
    unfold vR; omega))
  -- the ways at one place
  have L3 : ∀ (c : Nat) (i j v n : Int) (M' : mm_M), c = (4 - v).toNat → 0 ≤ i → i ≤ gw Mb → 0 ≤ j → j ≤ gh Mb → 0 ≤ v → v ≤ 4 → mr_ok M' → fr gfS Mb M' → LPr s Mb M' n (4 * (j * (gw Mb + 1) + i) + v) →
      (∀ (l4 : mm_V) (n : Int) (M1 : mm_M), mr_ok M1 → fr gfS Mb M1 → LPr s Mb M1 n (4 * (j * (gw Mb + 1) + (i + 1))) → en_R sc 153 56 [mm_r 72, mm_i a, mm_i j, mm_i (i + 1), l4] [] M1 (QV K X)) →
      en_R sc 153 67 [mm_r 72, mm_i a, mm_i j, mm_i i, mm_i v] [] M' (QV K X) := by
    intro c
    induction c with
    | zero =>
      intro i j v n M' hc i0 i1 j0 j1 v0 v1 ho' hf hP g
      refine vc153_67 ho' ⟨by omega, by omega⟩ ⟨fun _ => g _ n M' ho' hf ?_, fun q => absurd (by omega) q⟩
      have e : 4 * (j * (gw Mb + 1) + i) + v = 4 * (j * (gw Mb + 1) + (i + 1)) := by omega
      rw [← e]; exact hP
    | succ c ih =>
      intro i j v n M' hc i0 i1 j0 j1 v0 v1 ho' hf hP g
      obtain ⟨a23, a24, kp, eT⟩ := at' M' hf
      have G' := gKeep_GRD kp Gb
      have C' : Cg s M' = Cg s Mb := Cg_keep kp
      have hv : v = 0 ∨ v = 1 ∨ v = 2 ∨ v = 3 := by omega
      have ke : sx (gw Mb) (i, j, v) = 4 * (j * (gw Mb + 1) + i) + v := rfl
      have uni : ∀ q, isS (Cg s Mb) q → sx (gw Mb) q = 4 * (j * (gw Mb + 1) + i) + v → q = (i, j, v) := fun q hq z => by
        have r := isS_rg hq
        exact sx_inj (q := (i, j, v)) r.1 r.2.1 i0 i1 hq.1 hv (by rw [ke]; exact z)
      have ee : 4 * (j * (gw Mb + 1) + i) + v + 1 = 4 * (j * (gw Mb + 1) + i) + (v + 1) := by omega
      refine vc153_67 ho' ⟨by omega, by omega⟩ ⟨fun q => absurd q (by omega), fun _ => c149 ho' G' ⟨by omega, by omega⟩ ⟨by omega, by omega⟩ hv (fun _ => ⟨b2i_rg _, fun z => ?_, fun z => ?_⟩)⟩
      · refine ih i j (v + 1) n M' (by omega) i0 i1 j0 j1 (by omega) (by omega) ho' hf ?_ g
        rw [← ee]
        refine LPr_up hP (fun q hq y => ?_)
        rw [C', b2i_0] at z
        have e := uni q hq y
        rw [e] at hq
        have := hq.2
        have t : ldc (Cg s Mb) i j v = true := this
        rw [z] at t
        exact absurd t (by decide)
      · have isP : isS (Cg s Mb) (i, j, v) := by
          refine ⟨hv, ?_⟩
          show ldc (Cg s Mb) i j v = true
          rw [C', b2i_0] at z
          revert z
          cases ldc (Cg s Mb) i j v <;> simp
        refine c150 (p := ((i, j, v) : wlk)) ho' (fun _ => ?_)
        have sr := side_rg Gb isP
        have ew : gw M' = gw Mb := kp.1
        rw [ew]
        refine ⟨sr.1, by omega, fun z2 => ?_, fun z2 => ?_⟩
        · refine ih i j (v + 1) n M' (by omega) i0 i1 j0 j1 (by omega) (by omega) ho' hf ?_ g
          rw [← ee]
          refine LPr_up hP (fun q hq y => ?_)
          rw [uni q hq y]
          show M'.1 94 (sx (gw M') _) ≠ 0
          rw [ew]; exact z2
        · have hn : ¬ Gn M' (i, j, v) := fun y => by
            have y' : M'.1 94 (sx (gw M') (i, j, v)) ≠ 0 := y
            rw [ew] at y'
            exact z2 y'
          have nn := LPr_n w Gb.1 nS1 hP
          have hc' : clo (Cg s M') (Gn M') := by rw [C']; exact LPr_clo hP
          refine c152 (p := ((i, j, v) : wlk)) (s := s) ho' G' (by rw [C']; exact isP) hn hc' hP.2.2.1 hP.1 hP.2.1 (by omega) (fun M1 f1 e1 e2 e3 e4 e5 e6 ho1 => ?_)
          rw [C'] at e4 e5
          have f1' : fr gfS Mb M1 := fr_trans hf f1
          refine ih i j (v + 1) (n + 1) M1 (by omega) i0 i1 j0 j1 (by omega) (by omega) ho1 f1' ?_ g
          rw [← ee, ← ke]
          rw [← ke] at hP
          exact LPr_new w Gb.1 ew (at' M1 f1').1 hP isP hn e1 e2 e3 e4 e5 e6
  -- the places of one line
  have L2 : ∀ (c : Nat) (i j n : Int) (l4 : mm_V) (M' : mm_M), c = (gw Mb + 1 - i).toNat → 0 ≤ i → i ≤ gw Mb + 1 → 0 ≤ j → j ≤ gh Mb → mr_ok M' → fr gfS Mb M' → LPr s Mb M' n (4 * (j * (gw Mb + 1) + i)) →
      (∀ (l3 : Int) (l4 : mm_V) (n : Int) (M1 : mm_M), mr_ok M1 → fr gfS Mb M1 → LPr s Mb M1 n (4 * ((j + 1) * (gw Mb + 1))) → en_R sc 153 46 [mm_r 72, mm_i a, mm_i (j + 1), mm_i l3, l4] [] M1 (QV K X)) →
      en_R sc 153 56 [mm_r 72, mm_i a, mm_i j, mm_i i, l4] [] M' (QV K X) := by
    intro c
    induction c with
    | zero =>
      intro i j n l4 M' hc i0 i1 j0 j1 ho' hf hP g
      refine vc153_56 ho' ⟨by omega, by omega⟩ ?_
      rw [(at' M' hf).1]
      refine ⟨fun _ => g _ _ n M' ho' hf ?_, fun q => absurd (by omega) q⟩
      have e : 4 * (j * (gw Mb + 1) + i) = 4 * ((j + 1) * (gw Mb + 1)) := by
        rw [Int.add_mul, Int.one_mul]
        omega
      rw [← e]; exact hP
    | succ c ih =>
      intro i j n l4 M' hc i0 i1 j0 j1 ho' hf hP g
      refine vc153_56 ho' ⟨by omega, by omega⟩ ?_
      rw [(at' M' hf).1]
      refine ⟨fun q => absurd q (by omega), fun _ => L3 _ i j 0 n M' rfl i0 (by omega) j0 j1 (Int.le_refl _) (by decide) ho' hf (by rw [Int.add_zero]; exact hP) (fun l4 n M1 o1 f1 P1 => ih (i + 1) j n l4 M1 (by omega) (by omega) (by omega) j0 j1 o1 f1 P1 g)⟩
  -- line by line
  have L1 : ∀ (c : Nat) (j n : Int) (l3 l4 : mm_V) (M' : mm_M), c = (gh Mb + 1 - j).toNat → 0 ≤ j → j ≤ gh Mb + 1 → mr_ok M' → fr gfS Mb M' → LPr s Mb M' n (4 * (j * (gw Mb + 1))) → en_R sc 153 46 [mm_r 72, mm_i a, mm_i j, l3, l4] [] M' (QV K X) := by
    intro c
    induction c with
    | zero =>
      intro j n l3 l4 M' hc j0 j1 ho' hf hP
      obtain ⟨a23, a24, kp, eT⟩ := at' M' hf
      refine vc153_46 ho' ⟨by omega, by omega⟩ ?_
      rw [a24]
      refine ⟨fun _ => Or.inl ⟨rfl, k M' (vR' M' hf) ?_⟩, fun q => absurd (by omega) q⟩
      have nn := LPr_n w Gb.1 nS1 hP
      obtain ⟨p1, p2, p3, p4, p5, p6, p7⟩ := hP
      have C' : Cg s M' = Cg s Mb := Cg_keep kp
      have ew : gw M' = gw Mb := kp.1
      have cl : ∀ i j, cel s M' i j ↔ cel s Mb i j := fun i j => gKeep_cel kp i j
      refine ⟨gKeep_GRD kp Gb, by omega, by omega, fun l l0 l1 => ?_, fun l l' l0 l1 l2 => ?_, fun q hq => ?_⟩
      · obtain ⟨a, b, c, d, _, _⟩ := p4 l l0 (by omega)
        rw [C', ew]
        refine ⟨a, ?_, c, d⟩
        unfold STp at b ⊢
        rw [cl, cl]
        exact b
      · rw [ew]
        exact p5 l l' l0 l1 (by omega)
      · rw [C'] at hq ⊢
        have r := isS_rg hq
        have sr := side_rg Gb hq
        have lt : sx (gw Mb) q < 4 * (j * (gw Mb + 1)) := by
          have e : j = gh Mb + 1 := by omega
          have e2 : nT Mb = 4 * ((gh Mb + 1) * (gw Mb + 1)) := by
            show 4 * (gw Mb + 1) * (gh Mb + 1) = _
            rw [Int.mul_assoc, Int.mul_comm (gw Mb + 1)]
          rw [e, ← e2]
          exact sr.2.1
        obtain ⟨l, l0, l1, o⟩ := (p6 q hq).mp (p7 q hq lt)
        exact ⟨l, l0, by omega, o⟩
    | succ c ih =>
      intro j n l3 l4 M' hc j0 j1 ho' hf hP
      obtain ⟨a23, a24, kp, eT⟩ := at' M' hf
      refine vc153_46 ho' ⟨by omega, by omega⟩ ?_
      rw [a24]
      refine ⟨fun q => absurd q (by omega), fun _ => L2 _ 0 j n _ M' rfl (Int.le_refl _) (by omega) j0 (by omega) ho' hf (by rw [Int.add_zero]; exact hP) (fun l3 l4 n M1 o1 f1 P1 => ih (j + 1) n _ _ M1 (by omega) (by omega) (by omega) o1 f1 P1)⟩
  -- none is gone at first
  have L0 : ∀ (c : Nat) (x : Int) (M' : mm_M), c = (nT Mb - x).toNat → 0 ≤ x → x ≤ nT Mb → mr_ok M' → fr (fun b _ => b = 94) Mb M' → (∀ y, 0 ≤ y → y < x → M'.1 94 y = 0) → en_R sc 153 12 [mm_r 72, mm_i a, mm_i x, mm_u, mm_u] [] M' (QV K X) := by
    intro c
    induction c with
    | zero =>
      intro x M' hc x0 x1 ho' hf hx
      have hf' : fr gfS Mb M' := fr_mono hf (fun b k z => by show b = 91 ∨ b = 92 ∨ b = 93 ∨ b = 94 ∨ _; omega)
      obtain ⟨a23, a24, kp, eT⟩ := at' M' hf'
      refine vc153_12 ho' ⟨by omega, by omega⟩ ?_
      rw [a23, a24]
      have z0 : 4 * (0 * (gw Mb + 1)) = 0 := by rw [Int.zero_mul]; rfl
      have ew : gw M' = gw Mb := kp.1
      refine ⟨⟨by have : nT Mb = 4 * (gw Mb + 1) * (gh Mb + 1) := rfl; omega, by have : nT Mb = 4 * (gw Mb + 1) * (gh Mb + 1) := rfl; omega⟩, fun _ => L1 _ 0 0 _ _ M' rfl (Int.le_refl _) (by omega) ho' hf' ⟨by rw [hf.2 72 29 (by omega)]; exact e29, Int.le_refl _, fun y y0 y1 => Or.inl (hx y y0 (by rw [eT] at y1; omega)), fun l l0 l1 => absurd l1 (by omega), fun l l' l0 l1 l2 => absurd l2 (by omega), fun q hq => ?_, fun q hq z => ?_⟩, fun q => absurd (by have : nT Mb = 4 * (gw Mb + 1) * (gh Mb + 1) := rfl; omega) q⟩
      · have sr := side_rg Gb hq
        constructor
        · intro z
          have z' : M'.1 94 (sx (gw M') q) ≠ 0 := z
          rw [ew] at z'
          exact absurd (hx _ sr.1 (by omega)) z'
        · rintro ⟨l, l0, l1, _⟩
          omega
      · have sr := side_rg Gb hq
        rw [z0] at z
        omega
    | succ c ih =>
      intro x M' hc x0 x1 ho' hf hx
      have hf' : fr gfS Mb M' := fr_mono hf (fun b k z => by show b = 91 ∨ b = 92 ∨ b = 93 ∨ b = 94 ∨ _; omega)
      obtain ⟨a23, a24, kp, eT⟩ := at' M' hf'
      have enT : nT Mb = 4 * (gw Mb + 1) * (gh Mb + 1) := rfl
      refine vc153_12 ho' ⟨by omega, by omega⟩ ?_
      rw [a23, a24]
      refine ⟨⟨by omega, by omega⟩, fun q => absurd q (by omega), fun _ => ⟨x0, by omega, ih (x + 1) _ (by omega) (by omega) (by omega) (mr_ok_putI ho' ⟨by decide, by decide⟩) (fr_trans hf (fr_put rfl)) (fun y y0 y1 => ?_)⟩⟩
      by_cases z : y = x
      · rw [z, put_eq]
      · rw [put_k z]
        exact hx y y0 (by omega)
  exact L0 _ 0 Mb rfl (Int.le_refl _) Tr.1 hob fr_refl (fun y y0 y1 => absurd y1 (by omega))
end
