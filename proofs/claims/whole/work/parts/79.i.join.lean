/-! ===== the reference: join ===== -/
/-- the t-th border of a row; 1001 behind the last -/
def bo (n : Int) (lf rt : Int → Int) (t : Int) : Int := if 2 * n ≤ t then 1001 else if t % 2 = 0 then lf (t / 2) else rt (t / 2)
theorem bo_end {n : Int} {lf rt : Int → Int} {t : Int} (h : 2 * n ≤ t) : bo n lf rt t = 1001 := if_pos h
theorem bo_l {n : Int} {lf rt : Int → Int} {k : Int} (h : k < n) : bo n lf rt (2 * k) = lf k := by
  unfold bo
  rw [if_neg (by omega), if_pos (by omega)]
  have e : 2 * k / 2 = k := by omega
  rw [e]
theorem bo_r {n : Int} {lf rt : Int → Int} {k : Int} (h : k < n) : bo n lf rt (2 * k + 1) = rt k := by
  unfold bo
  rw [if_neg (by omega), if_neg (by omega)]
  have e : (2 * k + 1) / 2 = k := by omega
  rw [e]
theorem bo_rg {n : Int} {lf rt : Int → Int} (hd : ds 0 n lf rt) (hb : dbd 0 n lf rt) {t : Int} (h0 : 0 ≤ t) : -1000 ≤ bo n lf rt t ∧ bo n lf rt t ≤ 1001 ∧ (t < 2 * n → bo n lf rt t ≤ 1000) := by
  by_cases g : t < 2 * n
  · have hk := hd.1 (t / 2) (by omega) (by omega)
    have hk2 := hb (t / 2) (by omega) (by omega)
    unfold bo
    rw [if_neg (by omega)]
    split <;> omega
  · rw [bo_end (by omega)]
    omega
theorem bo_lt {n : Int} {lf rt : Int → Int} (hd : ds 0 n lf rt) (hb : dbd 0 n lf rt) {t : Int} (h0 : 0 ≤ t) (h1 : t < 2 * n) : bo n lf rt t < bo n lf rt (t + 1) := by
  have hk := hd.1 (t / 2) (by omega) (by omega)
  have hk2 := hb (t / 2) (by omega) (by omega)
  by_cases p : t % 2 = 0
  · have e1 : t = 2 * (t / 2) := by omega
    have a := bo_l (lf := lf) (rt := rt) (show t / 2 < n by omega)
    have b := bo_r (lf := lf) (rt := rt) (show t / 2 < n by omega)
    rw [← e1] at a b
    omega
  · have e1 : t = 2 * (t / 2) + 1 := by omega
    have b := bo_r (lf := lf) (rt := rt) (show t / 2 < n by omega)
    rw [← e1] at b
    by_cases q : t + 1 < 2 * n
    · have a := bo_l (lf := lf) (rt := rt) (show t / 2 + 1 < n by omega)
      have e2 : 2 * (t / 2 + 1) = t + 1 := by omega
      rw [e2] at a
      have hk3 := hd.2 (t / 2) (by omega) (by omega)
      omega
    · rw [bo_end (show 2 * n ≤ t + 1 by omega)]
      omega
theorem bo_le {n : Int} {lf rt : Int → Int} (hd : ds 0 n lf rt) (hb : dbd 0 n lf rt) {t u : Int} (h0 : 0 ≤ t) (h1 : t ≤ u) (h2 : u ≤ 2 * n) : bo n lf rt t ≤ bo n lf rt u := by
  have key : ∀ c : Nat, t + c ≤ 2 * n → bo n lf rt t ≤ bo n lf rt (t + c) := by
    intro c
    induction c with
    | zero =>
      intro _
      have e : t + ((0 : Nat) : Int) = t := by omega
      rw [e]
      exact Int.le_refl _
    | succ c ih =>
      intro q
      have x := ih (by omega)
      have y := bo_lt hd hb (t := t + c) (by omega) (by omega)
      have e : t + ((c + 1 : Nat) : Int) = t + c + 1 := by omega
      rw [e]
      omega
  have := key (u - t).toNat (by omega)
  have e : t + (((u - t).toNat : Nat) : Int) = u := by omega
  rw [e] at this
  exact this
/-- where the walk along the borders stands: i of them are at x or before -/
def bp (n : Int) (lf rt : Int → Int) (i x : Int) : Prop := 0 ≤ i ∧ i ≤ 2 * n ∧ (0 < i → bo n lf rt (i - 1) ≤ x) ∧ x < bo n lf rt i
theorem bp_in {n : Int} {lf rt : Int → Int} (hd : ds 0 n lf rt) (hb : dbd 0 n lf rt) {i x z : Int} (h : bp n lf rt i x) (h0 : x ≤ z) (h1 : z < bo n lf rt i) : din 0 n lf rt z ↔ i % 2 = 1 := by
  obtain ⟨i0, i1, p1, p2⟩ := h
  constructor
  · rintro ⟨k, k0, k1, k2, k3⟩
    by_cases q : i % 2 = 1
    · exact q
    · exfalso
      rw [← bo_l (lf := lf) (rt := rt) k1] at k2
      rw [← bo_r (lf := lf) (rt := rt) k1] at k3
      by_cases q2 : i ≤ 2 * k
      · have := bo_le hd hb i0 q2 (by omega)
        omega
      · have := bo_le hd hb (t := 2 * k + 1) (u := i - 1) (by omega) (by omega) (by omega)
        have := p1 (by omega)
        omega
  · intro q
    have e1 : i = 2 * (i / 2) + 1 := by omega
    have a := bo_l (lf := lf) (rt := rt) (show i / 2 < n by omega)
    have b := bo_r (lf := lf) (rt := rt) (show i / 2 < n by omega)
    rw [← e1] at b
    have e2 : 2 * (i / 2) = i - 1 := by omega
    rw [e2] at a
    have := p1 (by omega)
    exact ⟨i / 2, by omega, by omega, by omega, by omega⟩
theorem bp_step {n : Int} {lf rt : Int → Int} (hd : ds 0 n lf rt) (hb : dbd 0 n lf rt) {i x y : Int} (h : bp n lf rt i x) (h0 : x ≤ y) (h1 : y ≤ bo n lf rt i) (h2 : y ≤ 1000) : bp n lf rt (if bo n lf rt i ≠ y then i else i + 1) y := by
  obtain ⟨i0, i1, p1, p2⟩ := h
  by_cases q : bo n lf rt i = y
  · rw [if_neg (fun z => z q)]
    have l1 : i < 2 * n := by
      by_cases g : i < 2 * n
      · exact g
      · rw [bo_end (by omega)] at q
        omega
    have := bo_lt hd hb i0 l1
    have e : i + 1 - 1 = i := by omega
    exact ⟨by omega, by omega, fun _ => by rw [e]; omega, by omega⟩
  · rw [if_pos q]
    exact ⟨i0, i1, fun z => by have := p1 z; omega, by omega⟩
def jop (how i k : Int) : Int := if how = 0 then (if i % 2 = 1 ∨ k % 2 = 1 then 1 else 0) else if how = 1 then (if i % 2 = 1 ∧ k % 2 = 1 then 1 else 0) else if how = 2 then (if i % 2 = 1 ∧ ¬ k % 2 = 1 then 1 else 0) else if (i % 2 = 1 ↔ k % 2 = 1) then 0 else 1
theorem jop_mp {how i k : Int} (hh : 0 ≤ how ∧ how ≤ 3) : (jop how i k = 1 ↔ mp how (i % 2 = 1) (k % 2 = 1)) ∧ (jop how i k = 0 ∨ jop how i k = 1) := by
  have h4 : how = 0 ∨ how = 1 ∨ how = 2 ∨ how = 3 := by omega
  unfold jop mp
  rcases h4 with rfl | rfl | rfl | rfl <;> by_cases a : i % 2 = 1 <;> by_cases b : k % 2 = 1 <;> simp [a, b]
section
variable {sc : Nat × (Int → Int)} {M : mm_M} {X : Nat → mm_M → Prop}
/-- the part of a turn behind the borders: which way it is now -/
theorem c65_98 {K : mm_M → Prop} {how i i' k' st be x : Int} {l7 l8 l9 : mm_V} {M' : mm_M} (ho : mr_ok M') (hh : 0 ≤ how ∧ how ≤ 3) (hi : 0 ≤ i ∧ i ≤ 10000) (hk : 0 ≤ k' ∧ k' ≤ 10000)
    (g : ∀ l7 l8 : Int, en_R sc 65 207 [mm_r 72, mm_i how, mm_i i, mm_i k', mm_i st, mm_i be, mm_i x, mm_i l7, mm_i l8, l9] [mm_i (jop how i k')] M' (QV K X)) : en_R sc 65 98 [mm_r 72, mm_i how, mm_i i, mm_i i', mm_i st, mm_i be, mm_i x, l7, l8, l9] [mm_i k'] M' (QV K X) := by
  have r01 : ∀ z : Int, z = 0 ∨ z = 1 → mr_rg z := fun z hz => ⟨by omega, by omega⟩
  have fin : ∀ a b : Int, (a = 0 ∧ ¬ i % 2 = 1 ∨ a = 1 ∧ i % 2 = 1) → (b = 0 ∧ ¬ k' % 2 = 1 ∨ b = 1 ∧ k' % 2 = 1) → en_R sc 65 125 [mm_r 72, mm_i how, mm_i i, mm_i k', mm_i st, mm_i be, mm_i x, mm_i a, l8, l9] [mm_i b] M' (QV K X) := by
    intro a b ha hb
    have gg := g a b
    have to : ∀ v : Int, jop how i k' = v → en_R sc 65 207 [mm_r 72, mm_i how, mm_i i, mm_i k', mm_i st, mm_i be, mm_i x, mm_i a, mm_i b, l9] [mm_i v] M' (QV K X) := fun v e => by rw [← e]; exact gg
    unfold jop at to
    refine vc65_125 ho ⟨by omega, by omega⟩ (r01 a (by omega)) (r01 b (by omega)) ⟨fun h0 => ⟨fun h1 => ⟨fun h2 => ⟨fun q => to 0 ?_, fun q => to 1 ?_⟩, fun h2 => ⟨fun q => vc65_191 ho (to 0 ?_), fun q => ⟨fun q2 => vc65_191 ho (to 0 ?_), fun q2 => to 1 ?_⟩⟩⟩, fun h1 => ⟨fun q => vc65_168 ho (to 0 ?_), fun q => ⟨fun q2 => vc65_168 ho (to 0 ?_), fun q2 => to 1 ?_⟩⟩⟩, fun h0 => ⟨fun q => vc65_141 ho (to 1 ?_), fun q => ⟨fun q2 => to 0 ?_, fun q2 => vc65_141 ho (to 1 ?_)⟩⟩⟩
    · rw [if_neg h0, if_neg h1, if_neg h2, if_pos (by omega)]
    · rw [if_neg h0, if_neg h1, if_neg h2, if_neg (by omega)]
    · rw [if_neg h0, if_neg h1, if_pos (by omega), if_neg (by omega)]
    · rw [if_neg h0, if_neg h1, if_pos (by omega), if_neg (by omega)]
    · rw [if_neg h0, if_neg h1, if_pos (by omega), if_pos (by omega)]
    · rw [if_neg h0, if_pos (by omega), if_neg (by omega)]
    · rw [if_neg h0, if_pos (by omega), if_neg (by omega)]
    · rw [if_neg h0, if_pos (by omega), if_pos (by omega)]
    · rw [if_pos (by omega), if_pos (by omega)]
    · rw [if_pos (by omega), if_neg (by omega)]
    · rw [if_pos (by omega), if_pos (by omega)]
  have mid : ∀ a : Int, (a = 0 ∧ ¬ i % 2 = 1 ∨ a = 1 ∧ i % 2 = 1) → en_R sc 65 111 [mm_r 72, mm_i how, mm_i i, mm_i k', mm_i st, mm_i be, mm_i x, l7, l8, l9] [mm_i a] M' (QV K X) := fun a ha => vc65_111 ho ⟨by omega, by omega⟩ ⟨hk.1, ⟨by omega, by omega⟩, fun q => fin a 0 ha (Or.inl ⟨rfl, by omega⟩), fun q => fin a 1 ha (Or.inr ⟨rfl, by omega⟩)⟩
  exact vc65_98 ho ⟨by omega, by omega⟩ ⟨hi.1, ⟨by omega, by omega⟩, fun q => mid 0 (Or.inl ⟨rfl, by omega⟩), fun q => mid 1 (Or.inr ⟨rfl, by omega⟩)⟩
/-- CellAreasModel.join -/
theorem c65 {K : mm_M → Prop} {how : Int} (ho : mr_ok M) (hh : 0 ≤ how ∧ how ≤ 3) (h1 : NRg M 81 82 11) (h2 : NRg M 83 84 14)
    (k : ∀ M1, fr nS M M1 → NR M1 → (∀ x, rN M1 x ↔ mp how (rNg M 81 82 11 x) (rNg M 83 84 14 x)) → K M1) : en_CV sc 65 [mm_r 72, mm_i how, mm_u, mm_u, mm_u, mm_u, mm_u, mm_u, mm_u, mm_u] M K X := by
  obtain ⟨n1, d1, b1⟩ := h1
  obtain ⟨n2, d2, b2⟩ := h2
  have m1 := ds_le d1 b1 n1
  have m2 := ds_le d2 b2 n2
  refine vc65_0 ho ?_
  have fin : ∀ (i j st be x : Int) (l6 l7 l8 l9 : mm_V) (M' : mm_M), 2 * M.1 72 11 ≤ i → 2 * M.1 72 14 ≤ j → mr_ok M' → fr nS M M' → NR M' → bp (M.1 72 11) (M.1 81) (M.1 82) i x → bp (M.1 72 14) (M.1 83) (M.1 84) j x → be = jop how i j → -1001 ≤ x → x ≤ 1000 → (be = 1 → -1000 ≤ st ∧ st ≤ x) → (be = 0 → mr_rg st) →
      (∀ z, rN M' z ↔ mp how (rNg M 81 82 11 z) (rNg M 83 84 14 z) ∧ z < (if be = 1 then st else x)) → (be = 1 → ∀ z, st ≤ z → z < x → mp how (rNg M 81 82 11 z) (rNg M 83 84 14 z)) →
      en_R sc 65 15 [mm_r 72, mm_i how, mm_i i, mm_i j, mm_i st, mm_i be, l6, l7, l8, l9] [] M' (QV K X) := by
    intro i j st be x l6 l7 l8 l9 M' hc1 hc2 ho' hf hN p1 p2 hbe x0 x1 hs1 hs0 hr hr1
    have e11 : M'.1 72 11 = M.1 72 11 := hf.2 _ _ (by omega)
    have e14 : M'.1 72 14 = M.1 72 14 := hf.2 _ _ (by omega)
    have i0 := p1.1
    have i1 := p1.2.1
    have j0 := p2.1
    have j1 := p2.2.1
    have jm := jop_mp (how := how) (i := i) (k := j) hh
    have no : ¬ mp how (i % 2 = 1) (j % 2 = 1) := mp_no (by omega) (by omega)
    have be0 : be = 0 := by
      rcases jm.2 with g | g
      · omega
      · exact absurd (jm.1.mp g) no
    refine vc65_15 ho' ⟨by omega, by omega⟩ ⟨by omega, by omega⟩ ?_
    rw [e11, e14]
    refine ⟨⟨by omega, by omega⟩, fun q => absurd q (by omega), fun _ => ⟨⟨by omega, by omega⟩, fun _ => Or.inl ⟨rfl, k M' hf hN (fun z => ?_)⟩, fun q => absurd (by omega) q⟩⟩
    rw [hr z, if_neg (by omega)]
    refine ⟨fun g => g.1, fun g => ⟨g, ?_⟩⟩
    by_cases q : z < x
    · exact q
    · exfalso
      have a1 : ¬ rNg M 81 82 11 z := by
        rintro ⟨t, t0, t1, t2, t3⟩
        have := b1 t t0 t1
        have w := bp_in d1 b1 p1 (z := z) (by omega) (by rw [bo_end (by omega)]; omega)
        have := w.mp ⟨t, t0, t1, t2, t3⟩
        omega
      have a2 : ¬ rNg M 83 84 14 z := by
        rintro ⟨t, t0, t1, t2, t3⟩
        have := b2 t t0 t1
        have w := bp_in d2 b2 p2 (z := z) (by omega) (by rw [bo_end (by omega)]; omega)
        have := w.mp ⟨t, t0, t1, t2, t3⟩
        omega
      exact mp_no a1 a2 g
  have loop : ∀ (c : Nat) (i j st be x : Int) (l6 l7 l8 l9 : mm_V) (M' : mm_M), (2 * M.1 72 11 - i + (2 * M.1 72 14 - j)).toNat ≤ c → mr_ok M' → fr nS M M' → NR M' → bp (M.1 72 11) (M.1 81) (M.1 82) i x → bp (M.1 72 14) (M.1 83) (M.1 84) j x → be = jop how i j → -1001 ≤ x → x ≤ 1000 → (be = 1 → -1000 ≤ st ∧ st ≤ x) → (be = 0 → mr_rg st) →
      (∀ z, rN M' z ↔ mp how (rNg M 81 82 11 z) (rNg M 83 84 14 z) ∧ z < (if be = 1 then st else x)) → (be = 1 → ∀ z, st ≤ z → z < x → mp how (rNg M 81 82 11 z) (rNg M 83 84 14 z)) →
      en_R sc 65 15 [mm_r 72, mm_i how, mm_i i, mm_i j, mm_i st, mm_i be, l6, l7, l8, l9] [] M' (QV K X) := by
    intro c
    induction c with
    | zero =>
      intro i j st be x l6 l7 l8 l9 M' hc ho' hf hN p1 p2 hbe x0 x1 hs1 hs0 hr hr1
      have i1 := p1.2.1
      have j1 := p2.2.1
      exact fin i j st be x l6 l7 l8 l9 M' (by omega) (by omega) ho' hf hN p1 p2 hbe x0 x1 hs1 hs0 hr hr1
    | succ c ih =>
      intro i j st be x l6 l7 l8 l9 M' hc ho' hf hN p1 p2 hbe x0 x1 hs1 hs0 hr hr1
      by_cases hgo : 2 * M.1 72 11 ≤ i ∧ 2 * M.1 72 14 ≤ j
      · exact fin i j st be x l6 l7 l8 l9 M' hgo.1 hgo.2 ho' hf hN p1 p2 hbe x0 x1 hs1 hs0 hr hr1
      have e11 : M'.1 72 11 = M.1 72 11 := hf.2 _ _ (by omega)
      have e14 : M'.1 72 14 = M.1 72 14 := hf.2 _ _ (by omega)
      have i0 := p1.1
      have i1 := p1.2.1
      have j0 := p2.1
      have j1 := p2.2.1
      have jm := jop_mp (how := how) (i := i) (k := j) hh
      have eA : ∀ t, bor M' 81 82 11 t = bo (M.1 72 11) (M.1 81) (M.1 82) t := by
        intro t
        unfold bor bo
        rw [e11, hf.2 81 _ (by omega), hf.2 82 _ (by omega)]
      have eB : ∀ t, bor M' 83 84 14 t = bo (M.1 72 14) (M.1 83) (M.1 84) t := by
        intro t
        unfold bor bo
        rw [e14, hf.2 83 _ (by omega), hf.2 84 _ (by omega)]
      have gA := bo_rg d1 b1 i0
      have gB := bo_rg d2 b2 j0
      have qA := p1.2.2.2
      have qB := p2.2.2.2
      have turn : ∀ y : Int, y = (if bo (M.1 72 14) (M.1 83) (M.1 84) j ≤ bo (M.1 72 11) (M.1 81) (M.1 82) i then bo (M.1 72 14) (M.1 83) (M.1 84) j else bo (M.1 72 11) (M.1 81) (M.1 82) i) → en_R sc 65 61 [mm_r 72, mm_i how, mm_i i, mm_i j, mm_i st, mm_i be, l6, l7, l8, l9] [mm_i y] M' (QV K X) := by
        intro y hy
        have y1 : y ≤ bo (M.1 72 11) (M.1 81) (M.1 82) i ∧ y ≤ bo (M.1 72 14) (M.1 83) (M.1 84) j ∧ x < y ∧ y ≤ 1000 ∧ -1000 ≤ y ∧ (y = bo (M.1 72 11) (M.1 81) (M.1 82) i ∨ y = bo (M.1 72 14) (M.1 83) (M.1 84) j) := by
          have g1 : i < 2 * M.1 72 11 ∨ j < 2 * M.1 72 14 := by omega
          have g2 := gA.2.2
          have g3 := gB.2.2
          split at hy <;> omega
        have s1 := bp_step d1 b1 p1 (y := y) (by omega) y1.1 y1.2.2.2.1
        have s2 := bp_step d2 b2 p2 (y := y) (by omega) y1.2.1 y1.2.2.2.1
        have le : ((2 * M.1 72 11 - (if bo (M.1 72 11) (M.1 81) (M.1 82) i ≠ y then i else i + 1)) + (2 * M.1 72 14 - (if bo (M.1 72 14) (M.1 83) (M.1 84) j ≠ y then j else j + 1))).toNat ≤ c := by
          have := s1.2.1
          have := s2.2.1
          have g1 := y1.2.2.2.2.2
          split <;> split <;> omega
        have lt0 : ∀ z, mp how (rNg M 81 82 11 z) (rNg M 83 84 14 z) ∧ x ≤ z ∧ z < y → be = 1 := by
          rintro z ⟨g, g1, g2⟩
          have w1 := bp_in d1 b1 p1 g1 (by omega)
          have w2 := bp_in d2 b2 p2 g1 (by omega)
          have g' : mp how (i % 2 = 1) (j % 2 = 1) := by
            have e1 : rNg M 81 82 11 z ↔ i % 2 = 1 := w1
            have e2 : rNg M 83 84 14 z ↔ j % 2 = 1 := w2
            unfold mp at g ⊢
            rw [e1, e2] at g
            exact g
          rw [hbe]
          exact jm.1.mpr g'
        have be1 : be = 1 → ∀ z, x ≤ z → z < y → mp how (rNg M 81 82 11 z) (rNg M 83 84 14 z) := by
          intro g z g1 g2
          have w1 := bp_in d1 b1 p1 g1 (by omega)
          have w2 := bp_in d2 b2 p2 g1 (by omega)
          have e1 : rNg M 81 82 11 z ↔ i % 2 = 1 := w1
          have e2 : rNg M 83 84 14 z ↔ j % 2 = 1 := w2
          have := jm.1.mp (by rw [← hbe]; exact g)
          unfold mp at this ⊢
          rw [e1, e2]
          exact this
        generalize hi' : (if bo (M.1 72 11) (M.1 81) (M.1 82) i ≠ y then i else i + 1) = i' at s1 le
        generalize hj' : (if bo (M.1 72 14) (M.1 83) (M.1 84) j ≠ y then j else j + 1) = j' at s2 le
        have i'0 := s1.1
        have i'1 := s1.2.1
        have j'0 := s2.1
        have j'1 := s2.2.1
        have jm' := jop_mp (how := how) (i := i') (k := j') hh
        have ih' : ∀ (st be' : Int) (l6 l7 l8 l9 : mm_V) (M'' : mm_M), mr_ok M'' → fr nS M M'' → NR M'' → be' = jop how i' j' → (be' = 1 → -1000 ≤ st ∧ st ≤ y) → (be' = 0 → mr_rg st) → (∀ z, rN M'' z ↔ mp how (rNg M 81 82 11 z) (rNg M 83 84 14 z) ∧ z < (if be' = 1 then st else y)) → (be' = 1 → ∀ z, st ≤ z → z < y → mp how (rNg M 81 82 11 z) (rNg M 83 84 14 z)) → en_R sc 65 15 [mm_r 72, mm_i how, mm_i i', mm_i j', mm_i st, mm_i be', l6, l7, l8, l9] [] M'' (QV K X) := by
          intro st be' l6 l7 l8 l9 M'' a1 a2 a3 a4 a5 a6 a7 a8
          exact ih i' j' st be' y l6 l7 l8 l9 M'' le a1 a2 a3 s1 s2 a4 (by omega) (by omega) a5 a6 a7 a8
        have behind : ∀ (l7 l8 : Int) (l9 : mm_V), en_R sc 65 207 [mm_r 72, mm_i how, mm_i i', mm_i j', mm_i st, mm_i be, mm_i y, mm_i l7, mm_i l8, l9] [mm_i (jop how i' j')] M' (QV K X) := by
          intro l7 l8 l9
          have rbe : mr_rg be := by rcases jm.2 with g | g <;> rw [hbe, g] <;> exact ⟨by decide, by decide⟩
          have rnow : mr_rg (jop how i' j') := by rcases jm'.2 with g | g <;> rw [g] <;> exact ⟨by decide, by decide⟩
          generalize hnow : jop how i' j' = now at jm' rnow ih'
          have b01 : be = 0 ∨ be = 1 := by rw [hbe]; exact jm.2
          have n01 := jm'.2
          refine vc65_207 ho' rbe rnow ⟨fun q => ?_, fun q => ⟨fun q2 => ?_, fun q2 => ?_⟩⟩
          · refine vc65_227 ho' rnow rbe ⟨fun g => ?_, fun g => ⟨fun g2 => absurd q g2, fun _ => ?_⟩⟩
            · refine ih' st now _ _ _ _ M' ho' hf hN rfl (fun z => absurd z (by omega)) (fun _ => hs0 q) (fun z => ?_) (fun z => absurd z (by omega))
              rw [hr z, if_neg (by omega), if_neg (by omega)]
              refine ⟨fun g => ⟨g.1, by omega⟩, fun g => ⟨g.1, ?_⟩⟩
              by_cases w : z < x
              · exact w
              · have := lt0 z ⟨g.1, by omega, g.2⟩
                omega
            · refine ih' y now _ _ _ _ M' ho' hf hN rfl (fun z => ⟨by omega, by omega⟩) (fun z => absurd z g) (fun z => ?_) (fun _ z g1 g2 => absurd g1 (by omega))
              rw [hr z, if_neg (by omega), if_pos (by omega)]
              refine ⟨fun g => ⟨g.1, by omega⟩, fun g => ⟨g.1, ?_⟩⟩
              by_cases w : z < x
              · exact w
              · have := lt0 z ⟨g.1, by omega, g.2⟩
                omega
          · have b1' : be = 1 := by omega
            have s := hs1 b1'
            refine vc65_227 ho' rnow rbe ⟨fun g => absurd g q2, fun g => ⟨fun _ => ?_, fun g2 => absurd q g2⟩⟩
            refine ih' st now _ _ _ _ M' ho' hf hN rfl (fun z => ⟨by omega, by omega⟩) (fun z => absurd z q2) (fun z => ?_) (fun _ z g1 g2 => ?_)
            · rw [hr z, if_pos b1', if_pos (by omega)]
            · by_cases w : z < x
              · exact hr1 b1' z g1 w
              · exact be1 b1' z (by omega) g2
          · have b1' : be = 1 := by omega
            have s := hs1 b1'
            refine c36 ho' hN (by omega) (by omega) (by omega) (by omega) (fun g => ?_) (fun Ma fa Na ra _ hoa => ?_)
            · have lt := hN.2.1.1 (M'.1 72 17 - 1) (by omega) (by omega)
              have w := (hr (M'.1 85 (M'.1 72 17 - 1))).mp ⟨M'.1 72 17 - 1, by omega, by omega, Int.le_refl _, lt⟩
              rw [if_pos b1'] at w
              omega
            · refine vc65_227 hoa rnow rbe ⟨fun g => ?_, fun g => absurd g (by omega)⟩
              refine ih' st now _ _ _ _ Ma hoa (fr_trans hf fa) Na rfl (fun z => absurd z (by omega)) (fun _ => ⟨by omega, by omega⟩) (fun z => ?_) (fun z => absurd z (by omega))
              rw [ra, hr z, if_pos b1', if_neg (by omega)]
              constructor
              · rintro (g | g)
                · exact ⟨g.1, by omega⟩
                · by_cases w : z < x
                  · exact ⟨hr1 b1' z g.1 w, g.2⟩
                  · exact ⟨be1 b1' z (by omega) g.2, g.2⟩
              · rintro ⟨g1, g2⟩
                by_cases w : z < st
                · exact Or.inl ⟨g1, w⟩
                · exact Or.inr ⟨by omega, g2⟩
        have rgA : mr_rg (bo (M.1 72 11) (M.1 81) (M.1 82) i) := ⟨by omega, by omega⟩
        have rgB : mr_rg (bo (M.1 72 14) (M.1 83) (M.1 84) j) := ⟨by omega, by omega⟩
        have two : en_R sc 65 80 [mm_r 72, mm_i how, mm_i i, mm_i j, mm_i st, mm_i be, mm_i y, l7, l8, l9] [mm_i i'] M' (QV K X) := by
          refine vc65_80 ho' ⟨by omega, by omega⟩ (c64 ho' (by omega) (by omega) j0 (by omega) (fun _ => ?_))
          rw [eB]
          refine ⟨rgB, fun q => ?_, fun q => ?_⟩
          · rw [if_pos q] at hj'
            rw [hj']
            exact c65_98 ho' hh ⟨i'0, by omega⟩ ⟨j'0, by omega⟩ (fun l7 l8 => behind l7 l8 l9)
          · rw [if_neg q] at hj'
            rw [hj']
            exact c65_98 ho' hh ⟨i'0, by omega⟩ ⟨j'0, by omega⟩ (fun l7 l8 => behind l7 l8 l9)
        refine vc65_61 ho' ⟨by omega, by omega⟩ (c63 ho' (by omega) (by omega) i0 (by omega) (fun _ => ?_))
        rw [eA]
        refine ⟨rgA, fun q => ?_, fun q => ?_⟩
        · rw [if_pos q] at hi'
          rw [← hi'] at two
          exact two
        · rw [if_neg q] at hi'
          rw [← hi'] at two
          exact two
      have go : en_R sc 65 35 [mm_r 72, mm_i how, mm_i i, mm_i j, mm_i st, mm_i be, l6, l7, l8, l9] [] M' (QV K X) := by
        refine vc65_35 ho' (c63 ho' (by omega) (by omega) i0 (by omega) (fun _ => c64 ho' (by omega) (by omega) j0 (by omega) (fun _ => ?_)))
        rw [eA, eB]
        refine ⟨⟨by omega, by omega⟩, ⟨by omega, by omega⟩, fun q => c64 ho' (by omega) (by omega) j0 (by omega) (fun _ => ?_), fun q => c63 ho' (by omega) (by omega) i0 (by omega) (fun _ => ?_)⟩
        · rw [eB]
          exact turn _ (by rw [if_pos q])
        · rw [eA]
          exact turn _ (by rw [if_neg q])
      refine vc65_15 ho' ⟨by omega, by omega⟩ ⟨by omega, by omega⟩ ?_
      rw [e11, e14]
      exact ⟨⟨by omega, by omega⟩, fun _ => go, fun _ => ⟨⟨by omega, by omega⟩, fun q => absurd q (by omega), fun _ => go⟩⟩
  have ho0 : mr_ok (mm_putN M 72 17 0) := mr_ok_putI ho ⟨by decide, by decide⟩
  have e0 : (mm_putN M 72 17 0).1 72 17 = 0 := put_eq
  refine loop _ 0 0 0 0 (-1001) mm_u mm_u mm_u mm_u (mm_putN M 72 17 0) (Nat.le_refl _) ho0 (fr_put (Or.inr (Or.inr ⟨rfl, rfl⟩))) (NR_0 e0) ⟨by decide, by omega, fun z => absurd z (by decide), ?_⟩ ⟨by decide, by omega, fun z => absurd z (by decide), ?_⟩ ?_ (by decide) (by decide) (fun z => absurd z (by decide)) (fun _ => ⟨by decide, by decide⟩) (fun z => ?_) (fun z => absurd z (by decide))
  · have := bo_rg d1 b1 (Int.le_refl 0)
    omega
  · have := bo_rg d2 b2 (Int.le_refl 0)
    omega
  · have jm := jop_mp (how := how) (i := 0) (k := 0) hh
    rcases jm.2 with g | g
    · exact g.symm
    · exact absurd (jm.1.mp g) (mp_no (by decide) (by decide))
  · rw [if_neg (by decide)]
    refine ⟨fun g => absurd g (rN_0 e0 z), fun g => ?_⟩
    have a1 : ¬ rNg M 81 82 11 z := by
      rintro ⟨t, t0, t1, t2, t3⟩
      have := b1 t t0 t1
      omega
    have a2 : ¬ rNg M 83 84 14 z := by
      rintro ⟨t, t0, t1, t2, t3⟩
      have := b2 t t0 t1
      omega
    exact absurd g.1 (mp_no a1 a2)
end
