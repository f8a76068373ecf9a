/-! ===== what check asks of the loops ===== -/
/-- the corners are read without harm -/
def CRN (M : mm_M) : Prop := 0 ≤ M.1 17 0 ∧ M.1 17 0 ≤ 400 ∧ (0 ≤ M.1 17 1 ∧ M.1 17 1 ≤ 1600) ∧ (∀ c, 0 ≤ c → c < M.1 17 1 → 0 ≤ M.1 20 c ∧ (-1000 ≤ cX M c ∧ cX M c ≤ 1000) ∧ -1000 ≤ cY M c ∧ cY M c ≤ 1000) ∧
  ∀ l, 0 ≤ l → l < M.1 17 0 → 0 ≤ M.1 19 l ∧ M.1 19 l < M.1 19 (l + 1) ∧ M.1 19 (l + 1) ≤ M.1 17 1
theorem find_le {a : Int → Int} {c : Int} (h0 : a 0 ≤ c) : ∀ n : Nat, c < a n → ∃ l : Int, 0 ≤ l ∧ l < (n : Int) ∧ a l ≤ c ∧ c < a (l + 1) := by
  intro n
  induction n with
  | zero =>
    intro h
    have h' : c < a 0 := h
    omega
  | succ n ih =>
    intro h
    have e : ((n + 1 : Nat) : Int) = (n : Int) + 1 := by omega
    rw [e] at h
    by_cases z : c < a n
    · obtain ⟨l, l0, l1, l2⟩ := ih z
      exact ⟨l, l0, by omega, l2⟩
    · exact ⟨n, by omega, by omega, by omega, h⟩
theorem LL_crn {s : sh} {M : mm_M} (w : wf s) (h : LL s M) : CRN M := by
  obtain ⟨n0, n1, n2, n3, n4, cl⟩ := LL_clp w h
  have lt : ∀ l, 0 ≤ l → l < M.1 17 0 → M.1 19 l < M.1 19 (l + 1) := fun l l0 l1 => by
    obtain ⟨Mg, p, m, C, _⟩ := cl l l0 l1
    have e := (clen_eq C).2.2
    have tl := C.2.2.2.2.2.2.2.1
    have m0 := C.2.2.2.2.2.2.2.2.1
    have a1 := tcn_1 tl
    rw [show m - 1 + 1 = m by omega] at a1
    have := tcn_ge (C := Cg s Mg) (p := p) (m - 1)
    omega
  have up : ∀ l, 0 ≤ l → l < M.1 17 0 → M.1 19 l ≤ M.1 19 (l + 1) := fun l l0 l1 => by
    have := lt l l0 l1
    omega
  have st := stair up (Int.le_refl 0) n0 (Int.le_refl _)
  refine ⟨n0, n1, ⟨by omega, n4⟩, fun c c0 c1 => ?_, fun l l0 l1 => ⟨?_, lt l l0 l1, ?_⟩⟩
  · obtain ⟨l, l0, l1, l2, l3⟩ := find_le (a := M.1 19) (c := c) (by omega) (M.1 17 0).toNat (by rw [show (((M.1 17 0).toNat : Nat) : Int) = M.1 17 0 by omega]; omega)
    obtain ⟨Mg, p, m, C, _⟩ := cl l l0 (by omega)
    have ec : (((c - M.1 19 l).toNat : Nat) : Int) = c - M.1 19 l := by omega
    obtain ⟨t, t1, t2, t3, t4, t5, _, _⟩ := CLP_times C (c - M.1 19 l).toNat (by omega)
    rw [ec] at t4
    have e := t4 (by omega)
    rw [show M.1 19 l + (c - M.1 19 l) = c by omega] at e
    have D := cor_xy (M := M) w C.2.1 C.2.2.2.2.2.2.1 e
    have R := pxy_rg w C.2.1 (sti_isS C.2.2.2.2.2.2.1 t)
    have x1 : cX M c = px Mg (sti (Cg s Mg) t p) := D.2.1
    have y1 : cY M c = py Mg (sti (Cg s Mg) t p) := D.2.2
    rw [x1, y1]
    exact ⟨D.1, ⟨R.1, R.2.1⟩, R.2.2.1, R.2.2.2⟩
  · have := stair up (Int.le_refl 0) l0 (by omega)
    omega
  · have := stair up (show 0 ≤ l + 1 by omega) (show l + 1 ≤ M.1 17 0 by omega) (Int.le_refl _)
    omega
theorem nxt_in {M : mm_M} {l c : Int} (c0 : M.1 19 l ≤ c) (c1 : c < M.1 19 (l + 1)) : M.1 19 l ≤ nxt M l c ∧ nxt M l c < M.1 19 (l + 1) := by
  unfold nxt
  split <;> omega
section
variable {sc : Nat × (Int → Int)} {M : mm_M} {X : Nat → mm_M → Prop}
/-- Loops.markRows -/
theorem c192 {K : mm_M → Prop} (ho : mr_ok M) (H : CRN M) (k : ∀ M1, fr (rS 15) M M1 → (∀ x, ri M1 15 x ↔ ri M 15 x ∨ (-1000 ≤ x ∧ x < 1000 ∧ ∃ c, 0 ≤ c ∧ c < M.1 17 1 ∧ cY M c = x)) → K M1) : en_CV sc 192 [mm_r 17, mm_r 15, mm_u] M K X := by
  obtain ⟨h1, h2, h3, h4, h5⟩ := H
  have e17 : ∀ M', fr (rS 15) M M' → ∀ i, M'.1 17 i = M.1 17 i := fun M' f i => f.2 17 i (fun z => by have z' : 17 = 15 + 1 := z; omega)
  have e20 : ∀ M', fr (rS 15) M M' → ∀ i, M'.1 20 i = M.1 20 i := fun M' f i => f.2 20 i (fun z => by have z' : 20 = 15 + 1 := z; omega)
  have loop : ∀ (d : Nat) (c : Int) (M' : mm_M), (M.1 17 1 - c).toNat ≤ d → 0 ≤ c → c ≤ M.1 17 1 → mr_ok M' → fr (rS 15) M M' → (∀ x, ri M' 15 x ↔ ri M 15 x ∨ (-1000 ≤ x ∧ x < 1000 ∧ ∃ c', 0 ≤ c' ∧ c' < c ∧ cY M c' = x)) → en_R sc 192 2 [mm_r 17, mm_r 15, mm_i c] [] M' (QV K X) := by
    intro d
    induction d with
    | zero =>
      intro c M' hd c0 c1 ho' hf hr
      refine vc192_2 ho' ⟨by omega, by omega⟩ w15 ?_
      rw [e17 M' hf]
      rw [show c = M.1 17 1 by omega] at hr
      exact ⟨fun q => Or.inl ⟨rfl, k M' hf hr⟩, fun q => absurd (by omega) q⟩
    | succ d ih =>
      intro c M' hd c0 c1 ho' hf hr
      refine vc192_2 ho' ⟨by omega, by omega⟩ w15 ?_
      rw [e17 M' hf]
      refine ⟨fun q => ?_, fun q => ?_⟩
      · rw [show c = M.1 17 1 by omega] at hr
        exact Or.inl ⟨rfl, k M' hf hr⟩
      · obtain ⟨q0, q1, q2⟩ := h4 c c0 (by omega)
        have g0 : 0 ≤ M'.1 20 c := by rw [e20 M' hf]; exact q0
        have ey : M'.1 20 c / 2001 + (-1000) = cY M c := by rw [e20 M' hf]; rfl
        refine c130 ho' c0 (by omega) g0 (fun _ => c130 ho' c0 (by omega) g0 (fun _ => ?_))
        rw [ey]
        refine c17 ho' w15 ⟨by omega, by omega⟩ ⟨by omega, by omega⟩ (by omega) (fun Mb fb rb' hob => ?_)
        refine ih (c + 1) Mb (by omega) (by omega) (by omega) hob (fr_trans hf fb) (fun x => ?_)
        rw [rb', hr]
        constructor
        · rintro ((z | ⟨a, b, c', d, e, g⟩) | ⟨a, b, z⟩)
          · exact Or.inl z
          · exact Or.inr ⟨a, b, c', d, by omega, g⟩
          · exact Or.inr ⟨a, b, c, c0, by omega, by omega⟩
        · rintro (z | ⟨a, b, c', d, e, g⟩)
          · exact Or.inl (Or.inl z)
          · by_cases y : c' = c
            · rw [y] at g
              exact Or.inr ⟨a, b, by omega, by omega⟩
            · exact Or.inl (Or.inr ⟨a, b, c', d, by omega, g⟩)
  refine vc192_0 ho (loop _ 0 M (Nat.le_refl _) (Int.le_refl _) h3.1 ho fr_refl (fun x => ⟨Or.inl, fun z => z.elim id (fun ⟨_, _, c', d, e, _⟩ => absurd e (by omega))⟩))
/-- one flip more -/
theorem flip11 {M' M1 : mm_M} {a : Int} {v d : Int → Int} (r1 : ∀ x, ri M' 11 x ↔ (-1000 ≤ x ∧ x < 1000 ∧ v x % 2 = 1)) (r2 : ∀ x, ri M1 11 x ↔ ¬ (ri M' 11 x ↔ (-1000 ≤ x ∧ x < 1000 ∧ a ≤ x ∧ x < 1000))) (hd : ∀ x, d x = if a ≤ x then 1 else 0) : ∀ x, ri M1 11 x ↔ (-1000 ≤ x ∧ x < 1000 ∧ (v x + d x) % 2 = 1) := fun x => by
  rw [r2, r1, hd]
  by_cases q : -1000 ≤ x ∧ x < 1000
  · obtain ⟨q1, q2⟩ := q
    by_cases y : a ≤ x
    · rw [if_pos y]
      constructor
      · intro z
        refine ⟨q1, q2, ?_⟩
        by_cases t : v x % 2 = 1
        · exact absurd ⟨fun _ => ⟨q1, q2, y, q2⟩, fun _ => ⟨q1, q2, t⟩⟩ z
        · omega
      · rintro ⟨_, _, t⟩ z
        have := (z.mpr ⟨q1, q2, y, q2⟩).2.2
        omega
    · rw [if_neg y, Int.add_zero]
      constructor
      · intro z
        refine ⟨q1, q2, ?_⟩
        by_cases t : v x % 2 = 1
        · exact t
        · exact absurd ⟨fun u => absurd u.2.2 t, fun u => absurd u.2.2.1 y⟩ z
      · rintro ⟨_, _, t⟩ z
        exact y (z.mp ⟨q1, q2, t⟩).2.2.1
  · constructor
    · intro z
      exact absurd ⟨fun u => absurd ⟨u.1, u.2.1⟩ q, fun u => absurd ⟨u.1, u.2.1⟩ q⟩ z
    · rintro ⟨u1, u2, _⟩
      exact absurd ⟨u1, u2⟩ q
/-- Loops.layInsideOfAll -/
theorem c193 {K : mm_M → Prop} {y : Int} (ho : mr_ok M) (H : CRN M) (hy : mr_rg y) (he : ∀ x, ¬ ri M 11 x) (k : ∀ M1, fr (rS 11) M M1 → (∀ x, ri M1 11 x ↔ (-1000 ≤ x ∧ x < 1000 ∧ FT M y x % 2 = 1)) → K M1) : en_CV sc 193 [mm_r 17, mm_i y, mm_r 11, mm_u, mm_u, mm_u] M K X := by
  obtain ⟨h1, h2, h3, h4, h5⟩ := H
  have eK : ∀ M', fr (rS 11) M M' → ∀ a i, a ≠ 12 → M'.1 a i = M.1 a i := fun M' f a i ha => f.2 a i (fun z => ha z)
  have inner : ∀ (d : Nat) (l c : Int) (l5 : mm_V) (M' : mm_M), (M.1 19 (l + 1) - c).toNat ≤ d → 0 ≤ l → l < M.1 17 0 → M.1 19 l ≤ c → c ≤ M.1 19 (l + 1) → mr_ok M' → fr (rS 11) M M' → (∀ x, ri M' 11 x ↔ (-1000 ≤ x ∧ x < 1000 ∧ (sumN (fun l => flF M l y x) l.toNat + sumU (fun k => fl M l y x (M.1 19 l + k)) (c - M.1 19 l).toNat) % 2 = 1)) →
      (∀ (M1 : mm_M) (l4 l5 : mm_V), mr_ok M1 → fr (rS 11) M M1 → (∀ x, ri M1 11 x ↔ (-1000 ≤ x ∧ x < 1000 ∧ sumN (fun l => flF M l y x) (l + 1).toNat % 2 = 1)) → en_R sc 193 2 [mm_r 17, mm_i y, mm_r 11, mm_i (l + 1), l4, l5] [] M1 (QV K X)) → en_R sc 193 18 [mm_r 17, mm_i y, mm_r 11, mm_i l, mm_i c, l5] [] M' (QV K X) := by
    intro d
    induction d with
    | zero =>
      intro l c l5 M' hd l0 l1 c0 c1 ho' hf hr fin
      have := h5 l l0 l1
      refine vc193_18 ho' ⟨by omega, by omega⟩ hy w11 ?_
      rw [eK M' hf 19 _ (by decide)]
      refine ⟨by omega, by omega, fun q => fin M' _ _ ho' hf (fun x => ?_), fun q => absurd (by omega) q⟩
      rw [hr, show (l + 1).toNat = l.toNat + 1 by omega, show c = M.1 19 (l + 1) by omega]
      show _ ↔ (-1000 ≤ x ∧ x < 1000 ∧ (sumN (fun l => flF M l y x) l.toNat + flF M ((l.toNat : Nat) : Int) y x) % 2 = 1)
      rw [show ((l.toNat : Nat) : Int) = l by omega]
      exact Iff.rfl
    | succ d ih =>
      intro l c l5 M' hd l0 l1 c0 c1 ho' hf hr fin
      have b5 := h5 l l0 l1
      refine vc193_18 ho' ⟨by omega, by omega⟩ hy w11 ?_
      rw [eK M' hf 19 _ (by decide)]
      refine ⟨by omega, by omega, fun q => fin M' _ _ ho' hf (fun x => ?_), fun q => ?_⟩
      · rw [hr, show (l + 1).toNat = l.toNat + 1 by omega, show c = M.1 19 (l + 1) by omega]
        show _ ↔ (-1000 ≤ x ∧ x < 1000 ∧ (sumN (fun l => flF M l y x) l.toNat + flF M ((l.toNat : Nat) : Int) y x) % 2 = 1)
        rw [show ((l.toNat : Nat) : Int) = l by omega]
        exact Iff.rfl
      · have clt : c < M.1 19 (l + 1) := by omega
        have N := nxt_in c0 clt
        have P := h4 c (by omega) (by omega)
        have P' := h4 (nxt M l c) (by omega) (by omega)
        obtain ⟨P0, P1, P2⟩ := P
        obtain ⟨Q0, Q1, Q2⟩ := P'
        have g20 : ∀ i, M'.1 20 i = M.1 20 i := fun i => eK M' hf 20 i (by decide)
        have st1 : ∀ x, sumU (fun k => fl M l y x (M.1 19 l + k)) (c + 1 - M.1 19 l).toNat = sumU (fun k => fl M l y x (M.1 19 l + k)) (c - M.1 19 l).toNat + fl M l y x c := fun x => by
          rw [show (c + 1 - M.1 19 l).toNat = (c - M.1 19 l).toNat + 1 by omega, sumU_1]
          show _ + fl M l y x (M.1 19 l + (((c - M.1 19 l).toNat : Nat) : Int)) = _
          rw [show M.1 19 l + (((c - M.1 19 l).toNat : Nat) : Int) = c by omega]
        have no : (∀ x, fl M l y x c = 0) → en_R sc 193 18 [mm_r 17, mm_i y, mm_r 11, mm_i l, mm_i (c + 1), mm_i (nxt M l c)] [] M' (QV K X) := fun z => ih l (c + 1) _ M' (by omega) l0 l1 (by omega) (by omega) ho' hf (fun x => by
          rw [st1, z, Int.add_zero]
          exact hr x) fin
        refine c127 ho' l0 (by omega) (by omega) (by omega) (fun _ => ?_)
        have en : (if M'.1 19 (l + 1) ≤ c + 1 then M'.1 19 l else c + 1) = nxt M l c := by
          unfold nxt
          rw [eK M' hf 19 _ (by decide), eK M' hf 19 _ (by decide)]
        rw [en]
        have c128c : ∀ {K' : Int → mm_M → Prop}, K' (cX M c) M' → en_CI sc 128 [mm_r 17, mm_i c] M' K' (fun e M9 => QV K X (.inr e) M9) := fun kk => c128 ho' (by omega) (by omega) (by rw [g20]; exact P0) (by rw [g20]; exact kk)
        have c128n : ∀ {K' : Int → mm_M → Prop}, K' (cX M (nxt M l c)) M' → en_CI sc 128 [mm_r 17, mm_i (nxt M l c)] M' K' (fun e M9 => QV K X (.inr e) M9) := fun kk => c128 ho' (by omega) (by omega) (by rw [g20]; exact Q0) (by rw [g20]; exact kk)
        have c130c : ∀ {K' : Int → mm_M → Prop}, K' (cY M c) M' → en_CI sc 130 [mm_r 17, mm_i c] M' K' (fun e M9 => QV K X (.inr e) M9) := fun kk => c130 ho' (by omega) (by omega) (by rw [g20]; exact P0) (by rw [g20]; exact kk)
        have c130n : ∀ {K' : Int → mm_M → Prop}, K' (cY M (nxt M l c)) M' → en_CI sc 130 [mm_r 17, mm_i (nxt M l c)] M' K' (fun e M9 => QV K X (.inr e) M9) := fun kk => c130 ho' (by omega) (by omega) (by rw [g20]; exact Q0) (by rw [g20]; exact kk)
        refine c128c (fun _ => c128n (fun _ => ⟨⟨by omega, by omega⟩, ⟨by omega, by omega⟩, fun z => no (fun x => if_neg (fun u => z u.1)), fun z1 => ?_⟩))
        have z1' : cX M c = cX M (nxt M l c) := Classical.byContradiction z1
        refine c130c (fun _ => c130n (fun _ => ⟨⟨by omega, by omega⟩, ⟨by omega, by omega⟩, ⟨by omega, by omega⟩, fun z => no (fun x => if_neg (fun u => by omega)), fun z2 => ?_⟩))
        refine c130c (fun _ => c130n (fun _ => ⟨⟨by omega, by omega⟩, ⟨by omega, by omega⟩, ⟨by omega, by omega⟩, fun z => no (fun x => if_neg (fun u => by omega)), fun z3 => ?_⟩))
        refine c128c (fun _ => c67 ho' w11 ⟨by omega, by omega⟩ ⟨by decide, by decide⟩ (by omega) (fun Mb fb rb' hob => ?_))
        refine ih l (c + 1) _ Mb (by omega) l0 l1 (by omega) (by omega) hob (fr_trans hf fb) (fun x => ?_) fin
        rw [st1, ← Int.add_assoc]
        refine flip11 (v := fun x => sumN (fun l => flF M l y x) l.toNat + sumU (fun k => fl M l y x (M.1 19 l + k)) (c - M.1 19 l).toNat) (d := fun x => fl M l y x c) hr rb' (fun x => ?_) x
        show fl M l y x c = if cX M c ≤ x then 1 else 0
        unfold fl
        by_cases z : cX M c ≤ x
        · rw [if_pos z, if_pos ⟨z1', by omega, by omega, z⟩]
        · rw [if_neg z, if_neg (fun u => z u.2.2.2)]
  have outer : ∀ (d : Nat) (l : Int) (l4 l5 : mm_V) (M' : mm_M), (M.1 17 0 - l).toNat ≤ d → 0 ≤ l → l ≤ M.1 17 0 → mr_ok M' → fr (rS 11) M M' → (∀ x, ri M' 11 x ↔ (-1000 ≤ x ∧ x < 1000 ∧ sumN (fun l => flF M l y x) l.toNat % 2 = 1)) → en_R sc 193 2 [mm_r 17, mm_i y, mm_r 11, mm_i l, l4, l5] [] M' (QV K X) := by
    intro d
    induction d with
    | zero =>
      intro l l4 l5 M' hd l0 l1 ho' hf hr
      refine vc193_2 ho' ⟨by omega, by omega⟩ ?_
      rw [eK M' hf 17 _ (by decide)]
      rw [show l = M.1 17 0 by omega] at hr
      exact ⟨fun q => Or.inl ⟨rfl, k M' hf hr⟩, fun q => absurd (by omega) q⟩
    | succ d ih =>
      intro l l4 l5 M' hd l0 l1 ho' hf hr
      refine vc193_2 ho' ⟨by omega, by omega⟩ ?_
      rw [eK M' hf 17 _ (by decide), eK M' hf 19 _ (by decide)]
      refine ⟨fun q => ?_, fun q => ⟨l0, by omega, ?_⟩⟩
      · rw [show l = M.1 17 0 by omega] at hr
        exact Or.inl ⟨rfl, k M' hf hr⟩
      · have b5 := h5 l l0 (by omega)
        refine inner _ l (M.1 19 l) _ M' (Nat.le_refl _) l0 (by omega) (Int.le_refl _) (by omega) ho' hf (fun x => ?_) (fun M1 l4 l5 o1 f1 r1 => ih (l + 1) l4 l5 M1 (by omega) (by omega) (by omega) o1 f1 r1)
        rw [show (M.1 19 l - M.1 19 l).toNat = 0 by omega]
        show _ ↔ (-1000 ≤ x ∧ x < 1000 ∧ (sumN (fun l => flF M l y x) l.toNat + 0) % 2 = 1)
        rw [Int.add_zero]
        exact hr x
  refine vc193_0 ho (outer _ 0 _ _ M (Nat.le_refl _) (Int.le_refl _) h1 ho fr_refl (fun x => ⟨fun z => absurd z (he x), fun z => ?_⟩))
  have z2 : (0 : Int) % 2 = 1 := z.2.2
  exact absurd z2 (by decide)
/-- Area.sameAs, of the same -/
theorem c194 {K : Int → mm_M → Prop} {a b : Nat} (ho : mr_ok M) (ha : AW M a) (hb : AW M b) (e : eqv (rdA M a) (rdA M b)) (k : K 1 M) : en_CI sc 194 [mm_r a, mm_r b, mm_u] M K X := by
  have w := ha.2.1
  have n0 : 0 ≤ M.1 a 0 := w.1
  have n1 : M.1 a 0 ≤ 100 := ha.2.2.1
  have en : M.1 a 0 = M.1 b 0 := e.1
  have eS : M.1 (a + 3) (M.1 a 0) = M.1 (b + 3) (M.1 b 0) := by
    rw [← en]
    exact e.2.2.1 (M.1 a 0) n0 (Int.le_refl _)
  have s0 : 0 ≤ M.1 (a + 3) (M.1 a 0) := nS0_ w
  have s1 : M.1 (a + 3) (M.1 a 0) ≤ 400 := ha.2.2.2
  have rS : mr_rg (M.1 (a + 3) (M.1 a 0)) := ⟨by omega, by omega⟩
  have last : ∀ (d : Nat) (j : Int), (M.1 (a + 3) (M.1 a 0) - j).toNat ≤ d → 0 ≤ j → j ≤ M.1 (a + 3) (M.1 a 0) → en_R sc 194 89 [mm_r a, mm_r b, mm_i j] [] M (QI K X) := by
    intro d
    induction d with
    | zero =>
      intro j hd j0 j1
      exact vc194_89 ho ha.1 ⟨by omega, by omega⟩ hb.1 (c79 ho ha (fun _ => ⟨rS, fun _ => Or.inl ⟨_, rfl, k⟩, fun q => absurd (by omega) q⟩))
    | succ d ih =>
      intro j hd j0 j1
      refine vc194_89 ho ha.1 ⟨by omega, by omega⟩ hb.1 (c79 ho ha (fun _ => ⟨rS, fun _ => Or.inl ⟨_, rfl, k⟩, fun q => ?_⟩))
      have x := e.2.2.2 j j0 (by show j < M.1 (a + 3) (M.1 a 0); omega)
      exact ⟨j0, by omega, j0, by omega, fun z => absurd x.1 z, fun _ => ⟨j0, by omega, j0, by omega, fun _ => ih (j + 1) (by omega) (by omega) (by omega), fun z => absurd x.2 z⟩⟩
  have bands : ∀ (d : Nat) (j : Int), (M.1 a 0 - j).toNat ≤ d → 0 ≤ j → j ≤ M.1 a 0 → en_R sc 194 26 [mm_r a, mm_r b, mm_i j] [] M (QI K X) := by
    intro d
    induction d with
    | zero =>
      intro j hd j0 j1
      exact vc194_26 ho ha.1 ⟨by omega, by omega⟩ hb.1 ⟨fun _ => last _ 0 (Nat.le_refl _) (Int.le_refl _) s0, fun q => absurd (by omega) q⟩
    | succ d ih =>
      intro j hd j0 j1
      refine vc194_26 ho ha.1 ⟨by omega, by omega⟩ hb.1 ⟨fun _ => last _ 0 (Nat.le_refl _) (Int.le_refl _) s0, fun q => ?_⟩
      have x := e.2.1 j j0 (by show j < M.1 a 0; omega)
      have x3 := e.2.2.1 j j0 (by show j ≤ M.1 a 0; omega)
      exact ⟨j0, by omega, j0, by omega, fun z => absurd x.1 z, fun _ => ⟨j0, by omega, j0, by omega, fun z => absurd x.2 z, fun _ => ⟨j0, by omega, j0, by omega, fun _ => ih (j + 1) (by omega) (by omega) (by omega), fun z => absurd x3 z⟩⟩⟩
  refine vc194_0 ho ha.1 hb.1 ⟨fun z => absurd en z, fun _ => c79 ho ha (fun _ => c79 ho hb (fun _ => ⟨rS, ?_, fun _ => bands _ 0 (Nat.le_refl _) (Int.le_refl _) n0, fun z => absurd eS z⟩))⟩
  rw [← eS]
  exact rS
/-- Loops.allGoRound -/
theorem c195 {K : Int → mm_M → Prop} {s : sh} (ho : mr_ok M) (w : wf s) (nS : nS_ s ≤ 400) (l : LL s M) (k : K (cells s) M) : en_CI sc 195 [mm_r 17, mm_u, mm_u] M K X := by
  obtain ⟨n0, n1, n2, n3, n4, cl⟩ := LL_clp w l
  have loop : ∀ (d : Nat) (i : Int), (M.1 17 0 - i).toNat ≤ d → 0 ≤ i → i ≤ M.1 17 0 → en_R sc 195 4 [mm_r 17, mm_i (sumN (fun l => arF s M l) i.toNat), mm_i i] [] M (QI K X) := by
    intro d
    induction d with
    | zero =>
      intro i hd i0 i1
      refine vc195_4 ho ⟨by omega, by omega⟩ ⟨fun _ => Or.inl ⟨_, rfl, ?_⟩, fun q => absurd (by omega) q⟩
      rw [show i = M.1 17 0 by omega, all_round w l]
      exact k
    | succ d ih =>
      intro i hd i0 i1
      refine vc195_4 ho ⟨by omega, by omega⟩ ⟨fun q => Or.inl ⟨_, rfl, ?_⟩, fun q => ?_⟩
      · rw [show i = M.1 17 0 by omega, all_round w l]
        exact k
      · obtain ⟨Mg, p, m, C, mk⟩ := cl i i0 (by omega)
        refine c138F ho C (fun _ => ?_)
        have b := arF_rg w nS M i
        rw [crnd_ar C mk, ldiv2 (by omega) (by omega)]
        have x := ih (i + 1) (by omega) (by omega) (by omega)
        rw [show (i + 1).toNat = i.toNat + 1 by omega] at x
        have e : sumN (fun l => arF s M l) (i.toNat + 1) = sumN (fun l => arF s M l) i.toNat + arF s M i := by
          show _ + arF s M ((i.toNat : Nat) : Int) = _
          rw [show ((i.toNat : Nat) : Int) = i by omega]
        rw [e] at x
        exact x
  exact vc195_0 ho (loop _ 0 (Nat.le_refl _) (Int.le_refl _) n0)
end
