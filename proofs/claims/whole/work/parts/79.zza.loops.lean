/-! ===== CellAreas.Loops.trace ===== -/
/-- st 0 .. st (n - 1) are the least sides of their loops, in order -/
def LSo (s : sh) (Mg : mm_M) (n : Int) (st : Int → wlk) : Prop := (∀ l, 0 ≤ l → l < n → isS (Cg s Mg) (st l) ∧ STp s Mg (st l) ∧ ∀ q, orb (Cg s Mg) (st l) q → sx (gw Mg) (st l) ≤ sx (gw Mg) q) ∧ ∀ l l', 0 ≤ l → l < l' → l' < n → sx (gw Mg) (st l) < sx (gw Mg) (st l')
/-- while tracing: edges before e are marked -/
def TI (s : sh) (Mg M : mm_M) (n e : Int) (st : Int → wlk) : Prop := M.1 17 0 = n ∧ 0 ≤ n ∧ M.1 17 1 = M.1 19 n ∧ M.1 19 0 = 0 ∧ M.1 17 1 ≤ 2 * mkn M (2 * nS_ s).toNat ∧ 2 * n ≤ mkn M (2 * nS_ s).toNat ∧ LSo s Mg n st ∧
  (∀ l, 0 ≤ l → l < n → ∃ m, LPC s Mg (st l) m (M.1 19 l) (M.1 19 (l + 1)) (M.1 20)) ∧
  (∀ l f, 0 ≤ l → l < n → EDG s Mg (st l).1 (st l).2.1 f → f < e) ∧
  (∀ e' p, VS s Mg e' p → (M.1 18 e' = -1 ∨ (0 ≤ M.1 18 e' ∧ M.1 18 e' < n)) ∧ ∀ l, 0 ≤ l → l < n → (M.1 18 e' = l ↔ orb (Cg s Mg) (st l) p)) ∧
  ∀ e', 0 ≤ e' → e' < e → M.1 18 e' ≠ -1
/-- what is kept of the loops -/
def LLg (s : sh) (Mg M : mm_M) : Prop := ∃ st : Int → wlk, 0 ≤ M.1 17 0 ∧ M.1 17 0 ≤ 400 ∧ M.1 17 1 = M.1 19 (M.1 17 0) ∧ M.1 19 0 = 0 ∧ M.1 17 1 ≤ 1600 ∧ LSo s Mg (M.1 17 0) st ∧
  (∀ l, 0 ≤ l → l < M.1 17 0 → ∃ m, LPC s Mg (st l) m (M.1 19 l) (M.1 19 (l + 1)) (M.1 20)) ∧
  (∀ e p, VS s Mg e p → 0 ≤ M.1 18 e ∧ M.1 18 e < M.1 17 0 ∧ ∀ l, 0 ≤ l → l < M.1 17 0 → (M.1 18 e = l ↔ orb (Cg s Mg) (st l) p))
def LL (s : sh) (M : mm_M) : Prop := ∃ Mg, GL s Mg ∧ LLg s Mg M
theorem LL_st : ∀ (s : sh) (M M1 : mm_M), (∀ a k, 17 ≤ a → a ≤ 20 → M1.1 a k = M.1 a k) → LL s M → LL s M1 := by
  intro s M M1 h ⟨Mg, g, st, l⟩
  have e17 : ∀ k, M1.1 17 k = M.1 17 k := fun k => h 17 k (by decide) (by decide)
  have e18 : ∀ k, M1.1 18 k = M.1 18 k := fun k => h 18 k (by decide) (by decide)
  have e19 : ∀ k, M1.1 19 k = M.1 19 k := fun k => h 19 k (by decide) (by decide)
  have e20 : M1.1 20 = M.1 20 := funext (fun k => h 20 k (by decide) (by decide))
  refine ⟨Mg, g, st, ?_⟩
  rw [e17, e17, e19, e19, e20]
  simp only [e18, e19]
  exact l
theorem stair {a : Int → Int} {n : Int} (h : ∀ l, 0 ≤ l → l < n → a l ≤ a (l + 1)) {l l' : Int} (l0 : 0 ≤ l) (l1 : l ≤ l') (l2 : l' ≤ n) : a l ≤ a l' := by
  have key : ∀ c : Nat, l + c ≤ n → a l ≤ a (l + c) := by
    intro c
    induction c with
    | zero =>
      intro _
      have e : l + ((0 : Nat) : Int) = l := by omega
      rw [e]; exact Int.le_refl _
    | succ c ih =>
      intro hc
      have x := ih (by omega)
      have y := h (l + c) (by omega) (by omega)
      have e : l + ((c + 1 : Nat) : Int) = l + c + 1 := by omega
      rw [e]
      omega
  have e : l + ((l' - l).toNat : Int) = l' := by omega
  have x := key (l' - l).toNat (by omega)
  rw [e] at x
  exact x
section
variable {sc : Nat × (Int → Int)} {M : mm_M} {X : Nat → mm_M → Prop}
/-- java.util.Arrays.fill -/
theorem c115 {K : mm_M → Prop} (ho : mr_ok M) (k : ∀ M1, fr trS M M1 → (∀ a j, a ≠ 18 → M1.1 a j = M.1 a j) → (∀ j, 0 ≤ j → j < 800 → M1.1 18 j = -1) → K M1) : en_CV sc 115 [mm_r 18, mm_i (-1), mm_u, mm_u] M K X := by
  have loop : ∀ (c : Nat) (i : Int) (M' : mm_M), (800 - i).toNat ≤ c → 0 ≤ i → i ≤ 800 → mr_ok M' → fr (fun a _ => a = 18) M M' → (∀ j, 0 ≤ j → j < i → M'.1 18 j = -1) → en_R sc 115 5 [mm_r 18, mm_i (-1), mm_i i, mm_i 800] [] M' (QV K X) := by
    intro c
    induction c with
    | zero =>
      intro i M' hc i0 i1 ho' hf hv
      refine vc115_5 ho' ⟨by omega, by omega⟩ ⟨by decide, by decide⟩ ⟨by decide, by decide⟩ ⟨fun _ => Or.inl ⟨rfl, k M' (fr_mono hf (fun a _ z => Or.inr (Or.inl z))) (fun a j z => hf.2 a j z) (fun j a b => hv j a (by omega))⟩, fun q => absurd (by omega) q⟩
    | succ c ih =>
      intro i M' hc i0 i1 ho' hf hv
      refine vc115_5 ho' ⟨by omega, by omega⟩ ⟨by decide, by decide⟩ ⟨by decide, by decide⟩ ⟨fun _ => Or.inl ⟨rfl, k M' (fr_mono hf (fun a _ z => Or.inr (Or.inl z))) (fun a j z => hf.2 a j z) (fun j a b => hv j a (by omega))⟩, fun q => ⟨i0, by omega, ih (i + 1) _ (by omega) (by omega) (by omega) (mr_ok_putI ho' ⟨by decide, by decide⟩) (fr_trans hf (fr_put rfl)) (fun j a b => ?_)⟩⟩
      by_cases z : j = i
      · rw [z]; exact put_eq
      · rw [put_k z]; exact hv j a (by omega)
  exact vc115_0 ho (loop _ 0 M (Nat.le_refl _) (Int.le_refl _) (by decide) ho ⟨rfl, fun _ _ _ => rfl⟩ (fun j a b => absurd b (by omega)))
theorem TI_19 {s : sh} {Mg M' : mm_M} {n e : Int} {st : Int → wlk} (t : TI s Mg M' n e st) : ∀ l, 0 ≤ l → l ≤ n → 0 ≤ M'.1 19 l ∧ M'.1 19 l ≤ M'.1 17 1 := by
  obtain ⟨t1, t2, t3, t4, t5, t6, t7, t8, t9, t10, t11⟩ := t
  have h : ∀ l, 0 ≤ l → l < n → M'.1 19 l ≤ M'.1 19 (l + 1) := fun l l0 l1 => by
    obtain ⟨m, _, _, _, q, _⟩ := t8 l l0 l1
    have := tcn_ge (C := Cg s Mg) (p := st l) m
    omega
  intro l l0 l1
  have a := stair h (Int.le_refl 0) l0 l1
  have b := stair h l0 l1 (Int.le_refl n)
  omega
theorem c125 {K : mm_M → Prop} {A : Nat} {s : sh} {Mg : mm_M} (ho : mr_ok M) (h : AW M A) (hs : rdA M A = s) (g : GL s Mg) (h19 : M.1 19 0 = 0) (k : ∀ M1, fr trS M M1 → LLg s Mg M1 → K M1) : en_CV sc 125 [mm_r 17, mm_r A, mm_u, mm_u] M K X := by
  have w : wf s := by rw [← hs]; exact h.2.1
  have nS' : nS_ s ≤ 400 := by rw [← hs]; exact h.2.2.2
  have nS0 : 0 ≤ nS_ s := by
    have := sst_mono w (Int.le_refl 0) w.1 (Int.le_refl _)
    rw [w.2.1] at this
    exact this
  have N0 : ((2 * nS_ s).toNat : Int) = 2 * nS_ s := by omega
  -- edge by edge
  have loop : ∀ (c : Nat) (n e : Int) (st : Int → wlk) (M' : mm_M), (2 * nS_ s - e).toNat ≤ c → 0 ≤ e → e ≤ 2 * nS_ s → mr_ok M' → fr trS M M' → TI s Mg M' n e st → en_R sc 125 27 [mm_r 17, mm_r A, mm_i (2 * nS_ s), mm_i e] [] M' (QV K X) := by
    intro c
    induction c with
    | zero =>
      intro n e st M' hc e0 e1 ho' hf t
      refine vc125_27 ho' ⟨by omega, by omega⟩ ⟨by omega, by omega⟩ ⟨fun _ => Or.inl ⟨rfl, k M' hf ?_⟩, fun q => absurd (by omega) q⟩
      obtain ⟨t1, t2, t3, t4, t5, t6, t7, t8, t9, t10, t11⟩ := t
      have ml1 := mkn_le (M := M') (N := (2 * nS_ s).toNat)
      refine ⟨st, by omega, by omega, by rw [t1]; exact t3, t4, by omega, by rw [t1]; exact t7, by rw [t1]; exact t8, fun e' p v => ?_⟩
      rw [t1]
      obtain ⟨_, _, r0, r1⟩ := VS_isS w g v
      have a := t10 e' p v
      have b := t11 e' r0 (by omega)
      have a1 := a.1
      exact ⟨by omega, by omega, a.2⟩
    | succ c ih =>
      intro n e st M' hc e0 e1 ho' hf t
      by_cases ee : e = 2 * nS_ s
      · refine vc125_27 ho' ⟨by omega, by omega⟩ ⟨by omega, by omega⟩ ⟨fun _ => Or.inl ⟨rfl, k M' hf ?_⟩, fun q => absurd (by omega) q⟩
        obtain ⟨t1, t2, t3, t4, t5, t6, t7, t8, t9, t10, t11⟩ := t
        have ml1 := mkn_le (M := M') (N := (2 * nS_ s).toNat)
        refine ⟨st, by omega, by omega, by rw [t1]; exact t3, t4, by omega, by rw [t1]; exact t7, by rw [t1]; exact t8, fun e' p v => ?_⟩
        rw [t1]
        obtain ⟨_, _, r0, r1⟩ := VS_isS w g v
        have a := t10 e' p v
        have b := t11 e' r0 (by omega)
        have a1 := a.1
        exact ⟨by omega, by omega, a.2⟩
      · refine vc125_27 ho' ⟨by omega, by omega⟩ ⟨by omega, by omega⟩ ⟨fun q => absurd q (by omega), fun _ => ⟨e0, by omega, fun z => ?_, fun z => ?_⟩⟩
        · refine ih n (e + 1) st M' (by omega) (by omega) (by omega) ho' hf ?_
          obtain ⟨t1, t2, t3, t4, t5, t6, t7, t8, t9, t10, t11⟩ := t
          refine ⟨t1, t2, t3, t4, t5, t6, t7, t8, fun l f a b d => by have := t9 l f a b d; omega, t10, fun e' a b => ?_⟩
          by_cases y : e' = e
          · rw [y]; exact z
          · exact t11 e' a (by omega)
        · have un : M'.1 18 e = -1 := Classical.byContradiction z
          have st19 := TI_19 t
          obtain ⟨t1, t2, t3, t4, t5, t6, t7, t8, t9, t10, t11⟩ := t
          have ml1 := mkn_le (M := M') (N := (2 * nS_ s).toNat)
          obtain ⟨P, v⟩ := VS_ex w g e0 (show e < 2 * nS_ s by omega)
          have A' := AW_fr hf (trS_A h.1) h
          have s' : rdA M' A = s := (rdA_fr hf (trS_A h.1)).trans hs
          have cyc : ∀ l, 0 ≤ l → l < n → ∃ m, 0 < m ∧ sti (Cg s Mg) m (st l) = st l := fun l a b => by
            obtain ⟨m, m0, m1, _⟩ := t8 l a b
            exact ⟨m, m0, m1⟩
          have hc' : clo (Cg s Mg) (fun q => ∃ l, 0 ≤ l ∧ l < n ∧ orb (Cg s Mg) (st l) q) := fun p hp => by
            constructor
            · rintro ⟨l, l0, l1, o⟩
              obtain ⟨m, m0, m1⟩ := cyc l l0 l1
              exact ⟨l, l0, l1, (orb_clo (t7.1 l l0 l1).1 m0 m1 hp).mp o⟩
            · rintro ⟨l, l0, l1, o⟩
              obtain ⟨m, m0, m1⟩ := cyc l l0 l1
              exact ⟨l, l0, l1, (orb_clo (t7.1 l l0 l1).1 m0 m1 hp).mpr o⟩
          have hG : ∀ e' p, VS s Mg e' p → (M'.1 18 e' ≠ -1 ↔ ∃ l, 0 ≤ l ∧ l < n ∧ orb (Cg s Mg) (st l) p) := fun e' p v' => by
            have x := t10 e' p v'
            constructor
            · intro y
              rcases x.1 with q | q
              · exact absurd q y
              · exact ⟨_, q.1, q.2, (x.2 _ q.1 q.2).mp rfl⟩
            · rintro ⟨l, l0, l1, o⟩
              have := (x.2 l l0 l1).mpr o
              omega
          have b0 := (st19 n t2 (Int.le_refl _)).1
          refine c124 ho' A' s' g v un hc' hG t1 t2 rfl (by omega) t5 t6 (fun M1 m f1 m0 hm nr e170 e171 e19n e19k e20 mk cE cO b1 n1 o1 => ?_)
          have nG : ¬ ∃ l, 0 ≤ l ∧ l < n ∧ orb (Cg s Mg) (st l) P := fun y => (hG e P v).mpr y un
          have hP := (VS_isS w g v).1
          obtain ⟨q, oq, sq, eq, lq, qe, qo⟩ := first_ok w g v hc' nG m0 hm (fun e' p v' ng => by
            have nm : ¬ M'.1 18 e' ≠ -1 := fun y => ng ((hG e' p v').mp y)
            have r0 := (VS_isS w g v').2.2.1
            by_cases y : e ≤ e'
            · exact y
            · exact absurd (t11 e' r0 (by omega)) nm)
          have hq := orb_isS hP oq
          have oPq : ∀ x, orb (Cg s Mg) q x ↔ orb (Cg s Mg) P x := fun x => ⟨fun y => orb_tr oq y, fun y => orb_tr (orb_sym m0 hm oq) y⟩
          have lpc : LPC s Mg q m (M'.1 17 1) (M'.1 17 1 + tcn (Cg s Mg) P m) (M1.1 20) := by
            by_cases par : e % 2 = 0
            · rw [(qe par).1]
              exact LPC_even hP m0 hm nr (qe par).2 (cE par)
            · have par' : e % 2 = 1 := by omega
              rw [qo par']
              refine ⟨m0, hm, nr, rfl, (cO par').1, fun u a b _ => ?_⟩
              have x := (cO par').2 u a b
              have y : M'.1 17 1 + 1 + tcn (Cg s Mg) P u = M'.1 17 1 + tcn (Cg s Mg) P u + 1 := by omega
              rw [y] at x
              exact x
          have same : ∀ l, 0 ≤ l → l < n → M1.1 19 l = M'.1 19 l ∧ M1.1 19 (l + 1) = M'.1 19 (l + 1) := fun l l0 l1 => ⟨e19k l (by omega), e19k (l + 1) (by omega)⟩
          have n19 : M1.1 19 n = M'.1 17 1 := by rw [e19k n (by omega), t3]
          have sE : ∀ l, l ≠ n → (fun l => if l = n then q else st l) l = st l := fun l y => if_neg y
          have sN : (fun l => if l = n then q else st l) n = q := if_pos rfl
          have pl : ∀ l, 0 ≤ l → l < n → sx (gw Mg) (st l) < sx (gw Mg) q := fun l l0 l1 => by
            obtain ⟨a1, a2, a3⟩ := t7.1 l l0 l1
            obtain ⟨⟨f', ed', _⟩, j0, j1⟩ := STp_edge w g a2
            have lt := t9 l f' l0 l1 ed'
            have r1 := isS_rg a1
            have r2 := isS_rg hq
            have jq := (STp_edge w g sq).2
            refine (sx_lt r1.1 r1.2.1 r2.1 r2.2.1 a1.1 hq.1).mpr ?_
            by_cases y : q.2.1 < (st l).2.1 ∨ (q.2.1 = (st l).2.1 ∧ q.1 < (st l).1)
            · have := EDG_lt w g r2.1 r2.2.1 jq.1 jq.2 r1.1 r1.2.1 j0 j1 eq ed' y
              omega
            · by_cases y2 : q.2.1 = (st l).2.1 ∧ q.1 = (st l).1
              · rw [y2.1, y2.2] at eq
                have := EDG_one w eq ed'
                omega
              · omega
          refine ih (n + 1) (e + 1) (fun l => if l = n then q else st l) M1 (by omega) (by omega) (by omega) o1 (fr_trans hf f1) ⟨e170, by omega, by rw [e171, e19n], by rw [e19k 0 (by omega)]; exact t4, by rw [e171]; exact b1, n1, ⟨fun l l0 l1 => ?_, fun l l' l0 l1 l2 => ?_⟩, fun l l0 l1 => ?_, fun l f l0 l1 ed => ?_, fun e' p v' => ?_, fun e' r0 r1 => ?_⟩
          · by_cases y : l = n
            · rw [y, sN]
              exact ⟨hq, sq, fun x ox => lq x ((oPq x).mp ox)⟩
            · rw [sE l y]
              exact t7.1 l l0 (by omega)
          · rw [sE l (by omega)]
            by_cases y : l' = n
            · rw [y, sN]
              exact pl l l0 (by omega)
            · rw [sE l' y]
              exact t7.2 l l' l0 l1 (by omega)
          · by_cases y : l = n
            · rw [y, sN, n19, e19n]
              exact ⟨m, lpc⟩
            · rw [sE l y, (same l l0 (by omega)).1, (same l l0 (by omega)).2]
              obtain ⟨m', L⟩ := t8 l l0 (by omega)
              obtain ⟨a1, a2, a3⟩ := t7.1 l l0 (by omega)
              have wy : (st l).2.2 = 0 ∨ (st l).2.2 = 1 := by
                rcases a2 with z | z
                · exact Or.inl z.1
                · exact Or.inr z.1
              refine ⟨m', LPC_keep L (LPC_pos L wy a1 a3) (fun j hj => e20 j ?_)⟩
              have := (st19 (l + 1) (by omega) (by omega)).2
              omega
          · by_cases y : l = n
            · rw [y, sN] at ed
              have := EDG_one w ed eq
              omega
            · rw [sE l y] at ed
              have := t9 l f l0 (by omega) ed
              omega
          · have mk' := mk e' p v'
            have x := t10 e' p v'
            have fin : (∃ u, u < m ∧ sti (Cg s Mg) u P = p) ↔ orb (Cg s Mg) P p := by
              constructor
              · rintro ⟨u, _, y⟩
                exact ⟨u, y⟩
              · rintro ⟨u, y⟩
                exact ⟨u % m, Nat.mod_lt u m0, by rw [← sti_mod hm]; exact y⟩
            by_cases y : orb (Cg s Mg) P p
            · have e1 := mk'.1 (fin.mpr y)
              refine ⟨Or.inr (by omega), fun l l0 l1 => ?_⟩
              by_cases z2 : l = n
              · rw [z2, sN, e1]
                exact ⟨fun _ => (oPq p).mpr y, fun _ => rfl⟩
              · rw [sE l z2, e1]
                constructor
                · intro z3; omega
                · intro o
                  exfalso
                  apply nG
                  obtain ⟨mm, mm0, mm1⟩ := cyc l l0 (by omega)
                  refine ⟨l, l0, by omega, orb_tr o (orb_sym m0 hm y)⟩
            · have e1 := mk'.2 (fun z => y (fin.mp z))
              rw [e1]
              refine ⟨?_, fun l l0 l1 => ?_⟩
              · rcases x.1 with q1 | q1
                · exact Or.inl q1
                · exact Or.inr ⟨q1.1, by omega⟩
              · by_cases z2 : l = n
                · rw [z2, sN]
                  constructor
                  · intro z3
                    have x1 := x.1
                    omega
                  · intro o
                    exact absurd ((oPq p).mp o) y
                · rw [sE l z2]
                  exact x.2 l l0 (by omega)
          · obtain ⟨p, v'⟩ := VS_ex w g r0 (show e' < 2 * nS_ s by omega)
            have mk' := mk e' p v'
            by_cases y : ∃ u, u < m ∧ sti (Cg s Mg) u P = p
            · rw [mk'.1 y]; omega
            · rw [mk'.2 y]
              by_cases y2 : e' = e
              · exfalso
                rw [y2] at v'
                have := VS_fun w g v v'
                exact y ⟨0, m0, this⟩
              · exact t11 e' r0 (by omega)
  have hoa : mr_ok (mm_putN (mm_putN M 17 0 0) 17 1 0) := mr_ok_putI (mr_ok_putI ho ⟨by decide, by decide⟩) ⟨by decide, by decide⟩
  have fa : fr trS M (mm_putN (mm_putN M 17 0 0) 17 1 0) := fr_trans (fr_put (Or.inl rfl)) (fr_put (Or.inl rfl))
  have a0 : (mm_putN (mm_putN M 17 0 0) 17 1 0).1 17 0 = 0 := by rw [put_k (by decide)]; exact put_eq
  have a1 : (mm_putN (mm_putN M 17 0 0) 17 1 0).1 17 1 = 0 := put_eq
  have a9 : ∀ j, (mm_putN (mm_putN M 17 0 0) 17 1 0).1 19 j = M.1 19 j := fun j => by rw [put_a (by decide), put_a (by decide)]
  refine vc125_0 ho h.1 ?_
  generalize mm_putN (mm_putN M 17 0 0) 17 1 0 = Ma at hoa fa a0 a1 a9
  have Aa := AW_fr fa (trS_A h.1) h
  have sa : rdA Ma A = s := (rdA_fr fa (trS_A h.1)).trans hs
  refine c79 hoa Aa (fun _ => c115 hoa (fun Mb fb kb vb hob => ?_))
  have en : Ma.1 (A + 3) (Ma.1 A 0) = nS_ s := by rw [← sa]; rfl
  rw [en]
  have z0 : mkn Mb (2 * nS_ s).toNat = 0 := by
    have : mkn Mb (2 * nS_ s).toNat ≤ 0 := by
      have x := sumN_le (f := fun e => if Mb.1 18 e = -1 then (0 : Int) else 1) (g := fun _ => 0) (n := (2 * nS_ s).toNat) (fun k a b => by
        show (if Mb.1 18 k = -1 then (0 : Int) else 1) ≤ 0
        rw [if_pos (vb k a (by omega))]
        exact Int.le_refl _)
      have y : ∀ n : Nat, sumN (fun _ => 0) n = 0 := by
        intro n
        induction n with
        | zero => rfl
        | succ n ih => show sumN (fun _ => 0) n + 0 = 0; omega
      rw [y] at x
      exact x
    have := mkn_ge (M := Mb) (N := (2 * nS_ s).toNat)
    omega
  refine loop _ 0 0 (fun _ => (0, 0, 0)) Mb (Nat.le_refl _) (Int.le_refl _) (by omega) hob (fr_trans fa fb) ⟨by rw [kb 17 0 (by decide)]; exact a0, Int.le_refl _, by rw [kb 17 1 (by decide), kb 19 0 (by decide), a1, a9, h19], by rw [kb 19 0 (by decide), a9, h19], by rw [z0, kb 17 1 (by decide), a1]; decide, by rw [z0]; decide, ⟨fun l l0 l1 => absurd l1 (by omega), fun l l' l0 l1 l2 => absurd l2 (by omega)⟩, fun l l0 l1 => absurd l1 (by omega), fun l f l0 l1 => absurd l1 (by omega), fun e' p v => ?_, fun e' a b => absurd b (by omega)⟩
  obtain ⟨_, _, r0, r1⟩ := VS_isS w g v
  exact ⟨Or.inl (vb e' r0 (by omega)), fun l l0 l1 => absurd l1 (by omega)⟩
end
