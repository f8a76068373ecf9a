/-! ===== holesOf ===== -/
/-- the number of holes: their first cells, by index -/
noncomputable def hol (C : Int → Int → Bool) (W H : Int) (n : Nat) : Int := sumN (fun K => iN (∃ a, HL C W H a ∧ idx W a = K)) n
/-- what is marked before the cell with index n is looked at -/
def mkH (C : Int → Int → Bool) (W H n K : Int) : Prop := C (clK W K).1 (clK W K).2 = true ∨ (okc C W H (clK W K) ∧ (cmp C W H (-1, -1) (clK W K) ∨ ∃ K', 0 ≤ K' ∧ K' < n ∧ K' < (W + 2) * (H + 2) ∧ okc C W H (clK W K') ∧ cmp C W H (clK W K') (clK W K)))
section
variable {C : Int → Int → Bool} {W H : Int}
theorem mkH_fla (n : Int) : FLA C W H (mkH C W H n) := by
  refine ⟨fun K k0 k1 h => Or.inl h, fun K K' k0 k1 l0 l1 ok ok' c h => ?_⟩
  rcases h with h | ⟨_, h | ⟨K2, a, b, d, e, f⟩⟩
  · have := ok.2.2.2.2
    rw [h] at this
    exact absurd this (by decide)
  · exact Or.inr ⟨ok', Or.inl (cmp_trans h c)⟩
  · exact Or.inr ⟨ok', Or.inr ⟨K2, a, b, d, e, cmp_trans f c⟩⟩
/-- not marked: the first cell of a hole -/
theorem mkH_no (W0 : 0 ≤ W) (H0 : 0 ≤ H) {n : Int} (n0 : 0 ≤ n) (n1 : n < (W + 2) * (H + 2)) (h : ¬ mkH C W H n n) : HL C W H (clK W n) := by
  have ok : okc C W H (clK W n) := (clK_ok W0 H0 n0 n1).mpr (by
    cases e : C (clK W n).1 (clK W n).2
    · rfl
    · exact absurd (Or.inl e) h)
  refine ⟨ok, fun c => h (Or.inr ⟨ok, Or.inl c⟩), fun b c => ?_⟩
  rw [clK_ix W0]
  refine Classical.byContradiction (fun z => h (Or.inr ⟨ok, Or.inr ?_⟩))
  have okb := cmp_ok ok c
  have r := idx_rg okb
  have e := ix_clK (W := W) okb.1 okb.2.1
  exact ⟨idx W b, r.1, by omega, r.2, by rw [e]; exact okb, by rw [e]; exact cmp_sym c⟩
/-- marked: not the first cell of a hole, and nothing more is to be marked -/
theorem mkH_yes (W0 : 0 ≤ W) (H0 : 0 ≤ H) {n : Int} (n0 : 0 ≤ n) (n1 : n < (W + 2) * (H + 2)) (h : mkH C W H n n) : (¬ ∃ a, HL C W H a ∧ idx W a = n) ∧ ∀ K, mkH C W H (n + 1) K ↔ mkH C W H n K := by
  constructor
  · rintro ⟨a, l, e⟩
    have ea : clK W n = a := by rw [← e]; exact ix_clK l.1.1 l.1.2.1
    rw [← ea] at l
    rcases h with h | ⟨ok, h | ⟨K', a0, a1, a2, a3, a4⟩⟩
    · have := l.1.2.2.2.2
      rw [h] at this
      exact absurd this (by decide)
    · exact l.2.1 h
    · have := l.2.2 _ (cmp_sym a4)
      rw [clK_ix W0, clK_ix W0] at this
      omega
  · intro K
    constructor
    · rintro (z | ⟨ok, z | ⟨K', a0, a1, a2, a3, a4⟩⟩)
      · exact Or.inl z
      · exact Or.inr ⟨ok, Or.inl z⟩
      · by_cases y : K' = n
        · rw [y] at a3 a4
          rcases h with h | ⟨_, h | ⟨K2, b0, b1, b2, b3, b4⟩⟩
          · have := a3.2.2.2.2
            rw [h] at this
            exact absurd this (by decide)
          · exact Or.inr ⟨ok, Or.inl (cmp_trans h a4)⟩
          · exact Or.inr ⟨ok, Or.inr ⟨K2, b0, b1, b2, b3, cmp_trans b4 a4⟩⟩
        · exact Or.inr ⟨ok, Or.inr ⟨K', a0, by omega, a2, a3, a4⟩⟩
    · rintro (z | ⟨ok, z | ⟨K', a0, a1, a2, a3, a4⟩⟩)
      · exact Or.inl z
      · exact Or.inr ⟨ok, Or.inl z⟩
      · exact Or.inr ⟨ok, Or.inr ⟨K', a0, by omega, a2, a3, a4⟩⟩
theorem mkH_more (W0 : 0 ≤ W) (H0 : 0 ≤ H) {n : Int} (n0 : 0 ≤ n) (n1 : n < (W + 2) * (H + 2)) (ok : okc C W H (clK W n)) (K : Int) : mkH C W H (n + 1) K ↔ mkH C W H n K ∨ (okc C W H (clK W K) ∧ cmp C W H (clK W n) (clK W K)) := by
  constructor
  · rintro (z | ⟨ok', z | ⟨K', a0, a1, a2, a3, a4⟩⟩)
    · exact Or.inl (Or.inl z)
    · exact Or.inl (Or.inr ⟨ok', Or.inl z⟩)
    · by_cases y : K' = n
      · rw [y] at a4
        exact Or.inr ⟨ok', a4⟩
      · exact Or.inl (Or.inr ⟨ok', Or.inr ⟨K', a0, by omega, a2, a3, a4⟩⟩)
  · rintro ((z | ⟨ok', z | ⟨K', a0, a1, a2, a3, a4⟩⟩) | ⟨ok', z⟩)
    · exact Or.inl z
    · exact Or.inr ⟨ok', Or.inl z⟩
    · exact Or.inr ⟨ok', Or.inr ⟨K', a0, by omega, a2, a3, a4⟩⟩
    · exact Or.inr ⟨ok', Or.inr ⟨n, n0, by omega, n1, ok, z⟩⟩
end
section
variable {sc : Nat × (Int → Int)} {M : mm_M} {X : Nat → mm_M → Prop} {s : sh}
theorem hol_1 {C : Int → Int → Bool} {W H n : Int} (n0 : 0 ≤ n) : hol C W H (n + 1).toNat = hol C W H n.toNat + iN (∃ a, HL C W H a ∧ idx W a = n) := by
  unfold hol
  rw [show (n + 1).toNat = n.toNat + 1 by omega]
  show sumN _ _ + iN (∃ a, HL C W H a ∧ idx W a = ((n.toNat : Nat) : Int)) = _
  rw [show ((n.toNat : Nat) : Int) = n by omega]
/-- one by one -/
theorem m148_scan {K : Int → mm_M → Prop} {a : Int} {C : Int → Int → Bool} {Md : mm_M} (W0 : 0 ≤ gw Md) (W1 : gw Md ≤ 799) (H0 : 0 ≤ gh Md) (H1 : gh Md ≤ 199) (k : ∀ M1, fr flS Md M1 → K (hol C (gw Md) (gh Md) ((gw Md + 2) * (gh Md + 2)).toNat) M1) :
    ∀ (d : Nat) (n : Int) (M' : mm_M), ((gw Md + 2) * (gh Md + 2) - n).toNat ≤ d → 0 ≤ n → n ≤ (gw Md + 2) * (gh Md + 2) → mr_ok M' → fr flS Md M' → (∀ K, 0 ≤ K → K < (gw Md + 2) * (gh Md + 2) → (M'.1 94 K ≠ 0 ↔ mkH C (gw Md) (gh Md) n K)) → en_R sc 148 77 [mm_r 72, mm_i a, mm_i (hol C (gw Md) (gh Md) n.toNat), mm_i ((gw Md + 2) * (gh Md + 2)), mm_i n] [] M' (QI K X) := by
  have nb := NB W0 W1 H0 H1
  intro d
  induction d with
  | zero =>
    intro n M' hd n0 n1 ho' hf hm
    refine vc148_77 ho' ⟨by omega, by omega⟩ ⟨by omega, by omega⟩ ⟨fun _ => Or.inl ⟨_, rfl, ?_⟩, fun q => absurd (by omega) q⟩
    rw [show n = (gw Md + 2) * (gh Md + 2) by omega]
    exact k M' hf
  | succ d ih =>
    intro n M' hd n0 n1 ho' hf hm
    refine vc148_77 ho' ⟨by omega, by omega⟩ ⟨by omega, by omega⟩ ⟨fun q => Or.inl ⟨_, rfl, ?_⟩, fun q => ?_⟩
    · rw [show n = (gw Md + 2) * (gh Md + 2) by omega]
      exact k M' hf
    · have nlt : n < (gw Md + 2) * (gh Md + 2) := by omega
      have hn := hm n n0 nlt
      have ew : gw M' = gw Md := fl_keep hf 72 23 (by decide) (by decide)
      have eh : gh M' = gh Md := fl_keep hf 72 24 (by decide) (by decide)
      refine ⟨n0, by omega, fun z => ?_, fun z => ?_⟩
      · have Y := mkH_yes W0 H0 n0 nlt (hn.mp z)
        have x := ih (n + 1) M' (by omega) (by omega) (by omega) ho' hf (fun K k0 k1 => (hm K k0 k1).trans (Y.2 K).symm)
        rw [hol_1 n0, iN_f Y.1, Int.add_zero] at x
        exact x
      · have nm : ¬ mkH C (gw Md) (gh Md) n n := fun y => z (hn.mpr y)
        have L := mkH_no W0 H0 n0 nlt nm
        refine c147 (C := C) (A := mkH C (gw Md) (gh Md) n) ho' (by rw [ew]; exact W0) (by rw [ew]; exact W1) (by rw [eh]; exact H0) (by rw [eh]; exact H1) (by rw [ew, eh]; exact mkH_fla n) n0 (by rw [ew, eh]; exact nlt) (by rw [ew, eh]; exact hm) nm (fun M1 f1 m1 o1 => ?_)
        rw [ew, eh] at m1
        have x := ih (n + 1) M1 (by omega) (by omega) (by omega) o1 (fr_trans hf f1) (fun K k0 k1 => (m1 K k0 k1).trans (mkH_more W0 H0 n0 nlt L.1 K).symm)
        rw [hol_1 n0, iN_t ⟨clK (gw Md) n, L, clK_ix W0 n⟩] at x
        exact x
theorem c148 {K : Int → mm_M → Prop} {a : Int} (ho : mr_ok M) (ga : isA a) (Wa : RWk M a) (k : ∀ Mf M1, fr vR M M1 → GL (rdB M a) Mf → K (hol (Cg (rdB M a) Mf) (gw Mf) (gh Mf) ((gw Mf + 2) * (gh Mf + 2)).toNat) M1) : en_CI sc 148 [mm_r 72, mm_i a, mm_u, mm_u, mm_u] M K X := by
  refine vc148_0 ho (c145 ho ga Wa (fun Md fd Gd hod => ?_))
  have g := Gd.1
  have W0 := g.1
  have W1 := g.2.1
  have H0 := g.2.2.1
  have H1 := g.2.2.2.1
  have nb := NB W0 W1 H0 H1
  have bc := BC_Cg g
  have fv : ∀ M1, fr flS Md M1 → fr vR M M1 := fun M1 f => fr_trans fd (fr_mono f (fun a k z => by
    have z' : a = 94 ∨ a = 95 := z
    unfold vR
    omega))
  have kk : ∀ M1, fr flS Md M1 → K (hol (Cg (rdB M a) Md) (gw Md) (gh Md) ((gw Md + 2) * (gh Md + 2)).toNat) M1 := fun M1 f => k Md M1 (fv M1 f) g
  have r0 : mr_rg 0 := ⟨by decide, by decide⟩
  have r1 : mr_rg 1 := ⟨by decide, by decide⟩
  -- the cells of the area alone are marked
  have fin : ∀ M' : mm_M, mr_ok M' → fr flS Md M' → (∀ K, 0 ≤ K → K < (gw Md + 2) * (gh Md + 2) → (M'.1 94 K ≠ 0 ↔ Cg (rdB M a) Md (clK (gw Md) K).1 (clK (gw Md) K).2 = true)) → en_CV sc 147 [mm_r 72, mm_i 0, mm_u, mm_u, mm_u, mm_u, mm_u, mm_u, mm_u] M' (fun M2 => mr_ok M2 → en_R sc 148 77 [mm_r 72, mm_i a, mm_i 0, mm_i ((gw Md + 2) * (gh Md + 2)), mm_i 0] [] M2 (QI K X)) (fun e M9 => QI K X (.inr e) M9) := fun M' ho' hf hm => by
    have ew : gw M' = gw Md := fl_keep hf 72 23 (by decide) (by decide)
    have eh : gh M' = gh Md := fl_keep hf 72 24 (by decide) (by decide)
    have e0 : clK (gw Md) 0 = (-1, -1) := by
      refine Prod.ext ?_ ?_
      · show 0 % (gw Md + 2) - 1 = -1
        rw [Int.zero_emod]
        decide
      · show 0 / (gw Md + 2) - 1 = -1
        rw [Int.zero_ediv]
        decide
    refine c147 (C := Cg (rdB M a) Md) (A := fun K => Cg (rdB M a) Md (clK (gw Md) K).1 (clK (gw Md) K).2 = true) ho' (by rw [ew]; exact W0) (by rw [ew]; exact W1) (by rw [eh]; exact H0) (by rw [eh]; exact H1) ?_ (Int.le_refl _) (by rw [ew, eh]; exact nb.1) (by rw [ew, eh]; exact hm) ?_ (fun M1 f1 m1 o1 => ?_)
    · rw [ew, eh]
      refine ⟨fun K k0 k1 h => h, fun K K' k0 k1 l0 l1 ok ok' c h => ?_⟩
      have := ok.2.2.2.2
      rw [h] at this
      exact absurd this (by decide)
    · rw [e0, BC_f bc (by show ¬ ((0 : Int) ≤ -1 ∧ _); omega)]
      decide
    · rw [ew, eh, e0] at m1
      refine m148_scan W0 W1 H0 H1 kk _ 0 M1 (Nat.le_refl _) (Int.le_refl _) (by omega) o1 (fr_trans hf f1) (fun K k0 k1 => (m1 K k0 k1).trans ?_)
      constructor
      · rintro (z | ⟨z1, z2⟩)
        · exact Or.inl z
        · exact Or.inr ⟨z1, Or.inl z2⟩
      · rintro (z | ⟨z1, z2 | ⟨K', a0, a1, _⟩⟩)
        · exact Or.inl z
        · exact Or.inr ⟨z1, z2⟩
        · omega
  have clr : ∀ (d : Nat) (n : Int) (M' : mm_M), ((gw Md + 2) * (gh Md + 2) - n).toNat ≤ d → 0 ≤ n → n ≤ (gw Md + 2) * (gh Md + 2) → mr_ok M' → fr flS Md M' → (∀ K, 0 ≤ K → K < n → (M'.1 94 K ≠ 0 ↔ Cg (rdB M a) Md (clK (gw Md) K).1 (clK (gw Md) K).2 = true)) → en_R sc 148 24 [mm_r 72, mm_i a, mm_i 0, mm_i ((gw Md + 2) * (gh Md + 2)), mm_i n] [] M' (QI K X) := by
    intro d
    induction d with
    | zero =>
      intro n M' hd n0 n1 ho' hf hm
      refine vc148_24 ho' ⟨by omega, by omega⟩ ⟨by omega, by omega⟩ ⟨fun _ => fin M' ho' hf (fun K k0 k1 => hm K k0 (by omega)), fun q => absurd (by omega) q⟩
    | succ d ih =>
      intro n M' hd n0 n1 ho' hf hm
      refine vc148_24 ho' ⟨by omega, by omega⟩ ⟨by omega, by omega⟩ ⟨fun q => fin M' ho' hf (fun K k0 k1 => hm K k0 (by omega)), fun q => ?_⟩
      have nlt : n < (gw Md + 2) * (gh Md + 2) := by omega
      have e23 : M'.1 72 23 = gw Md := fl_keep hf 72 23 (by decide) (by decide)
      have kp : gKeep Md M' := gKeep_fr hf (fun a k z => by
        have z' : a = 94 ∨ a = 95 := z
        omega)
      have r := K_rg W0 H0 n0 nlt
      rw [e23]
      refine ⟨⟨by omega, by omega⟩, n0, by omega, n0, by omega, ?_⟩
      have step : ∀ x : Int, (x = 0 ∨ x = 1) → (x ≠ 0 ↔ Cg (rdB M a) Md (clK (gw Md) n).1 (clK (gw Md) n).2 = true) → en_R sc 148 24 [mm_r 72, mm_i a, mm_i 0, mm_i ((gw Md + 2) * (gh Md + 2)), mm_i (n + 1)] [] (mm_putN M' 94 n x) (QI K X) := fun x hx hc => by
        have rx : mr_rg x := by
          rcases hx with rfl | rfl
          · exact r0
          · exact r1
        refine ih (n + 1) _ (by omega) (by omega) (by omega) (mr_ok_putI ho' rx) (fr_trans hf (fr_put (Or.inl rfl))) (fun K k0 k1 => ?_)
        by_cases y : K = n
        · rw [y, put_eq]
          exact hc
        · rw [put_k y]
          exact hm K k0 (by omega)
      refine c146 ho' (gKeep_GRD kp Gd) ⟨by omega, by omega⟩ ⟨by omega, by omega⟩ (fun c _ => ⟨n0, by omega, Or.inr rfl, step 1 (Or.inr rfl) ⟨fun _ => ?_, fun _ => by decide⟩⟩) (fun c _ => ⟨n0, by omega, Or.inl rfl, step 0 (Or.inl rfl) ⟨fun y => absurd rfl y, fun y => ?_⟩⟩)
      · exact Cg_iff.mpr ((gKeep_cel kp _ _).mp c)
      · exact absurd ((gKeep_cel kp _ _).mpr (Cg_iff.mp y)) c
  exact clr _ 0 Md (Nat.le_refl _) (Int.le_refl _) (by omega) hod fr_refl (fun K k0 k1 => by omega)
end
/-! ===== as many holes as loops that go round less than nothing ===== -/
section
variable {s : sh} {Mg M : mm_M}
/-- all that a loop that is kept has -/
theorem LLg_clp (w : wf s) (g : GL s Mg) (h : LLg s Mg M) : ∃ st : Int → wlk, (∀ l, 0 ≤ l → l < M.1 17 0 → (∃ m, CLP s Mg M l (st l) m) ∧ STp s Mg (st l) ∧ (∀ q, orb (Cg s Mg) (st l) q → sx (gw Mg) (st l) ≤ sx (gw Mg) q) ∧ ∀ e q, VS s Mg e q → (M.1 18 e = l ↔ orb (Cg s Mg) (st l) q)) ∧ (∀ l l', 0 ≤ l → l < l' → l' < M.1 17 0 → sx (gw Mg) (st l) < sx (gw Mg) (st l')) ∧ 0 ≤ M.1 17 0 ∧ ∀ e q, VS s Mg e q → 0 ≤ M.1 18 e ∧ M.1 18 e < M.1 17 0 := by
  obtain ⟨st, h1, h2, h3, h4, h5, h6, h7, h8⟩ := h
  have up : ∀ l, 0 ≤ l → l < M.1 17 0 → M.1 19 l ≤ M.1 19 (l + 1) := fun l l0 l1 => by
    obtain ⟨m, _, _, _, q, _⟩ := h7 l l0 l1
    have := tcn_ge (C := Cg s Mg) (p := st l) m
    omega
  refine ⟨st, fun l l0 l1 => ?_, h6.2, h1, fun e q v => ⟨(h8 e q v).1, (h8 e q v).2.1⟩⟩
  obtain ⟨m, L⟩ := h7 l l0 l1
  obtain ⟨a, b, c⟩ := h6.1 l l0 l1
  have lo := stair up (Int.le_refl 0) l0 (by omega)
  have hi := stair up (show 0 ≤ l + 1 by omega) (show l + 1 ≤ M.1 17 0 by omega) (Int.le_refl _)
  have tl := last_turn a b c L.1 L.2.1
  exact ⟨⟨m, w, g, l0, by omega, by omega, by omega, a, tl, L⟩, b, c, fun e q v => (h8 e q v).2.2 l l0 l1⟩
theorem holes_eq (w : wf s) (g : GL s Mg) (h : LLg s Mg M) : sumN (fun l => iN (arF s M l < 0)) (M.1 17 0).toNat = hol (Cg s Mg) (gw Mg) (gh Mg) ((gw Mg + 2) * (gh Mg + 2)).toNat := by
  obtain ⟨st, h1, h2, h3, h4⟩ := LLg_clp w g h
  have b := BC_Cg g
  have W0 := g.1
  have fact : ∀ l, 0 ≤ l → l < M.1 17 0 → isS (Cg s Mg) (st l) ∧ OS (Cg s Mg) (orb (Cg s Mg) (st l)) ∧ (arF s M l < 0 ↔ wn (orb (Cg s Mg) (st l)) (cL (st l)).1 (cL (st l)).2 = 0) ∧ (∃ m, 0 < m ∧ sti (Cg s Mg) m (st l) = st l) := fun l l0 l1 => by
    obtain ⟨⟨m, C⟩, t, lst, mk⟩ := h1 l l0 l1
    have hp := C.2.2.2.2.2.2.1
    have L := C.2.2.2.2.2.2.2.2
    obtain ⟨c, j, v⟩ := st_vcol hp L.1 L.2.1 t
    have sg := ar_sign g hp L.1 L.2.1 L.2.2.1 v
    have e1 := (clen_eq C).2.1
    have e2 := crnd_ar C mk
    have e3 := rnd2 g hp L.2.1
    refine ⟨hp, OS_orb hp L.1 L.2.1, ?_, m, L.1, L.2.1⟩
    rw [← sg]
    omega
  have one : ∀ l l' q, 0 ≤ l → l < M.1 17 0 → 0 ≤ l' → l' < M.1 17 0 → orb (Cg s Mg) (st l) q → orb (Cg s Mg) (st l') q → l = l' := fun l l' q l0 l1 k0 k1 o o' => by
    obtain ⟨_, _, _, m, m0, hm⟩ := fact l l0 l1
    obtain ⟨_, _, _, m', m0', hm'⟩ := fact l' k0 k1
    have x := (h1 l l0 l1).2.2.1 _ (orb_tr o (orb_sym m0' hm' o'))
    have y := (h1 l' k0 k1).2.2.1 _ (orb_tr o' (orb_sym m0 hm o))
    by_cases z : l < l'
    · have := h2 l l' l0 z k1
      omega
    · by_cases z2 : l' < l
      · have := h2 l' l k0 z2 l1
        omega
      · omega
  have hcE : ∀ l, 0 ≤ l → l < M.1 17 0 → arF s M l < 0 → HL (Cg s Mg) (gw Mg) (gh Mg) (Classical.epsilon (fun a => HL (Cg s Mg) (gw Mg) (gh Mg) a ∧ orb (Cg s Mg) (st l) (bsd a))) ∧ orb (Cg s Mg) (st l) (bsd (Classical.epsilon (fun a => HL (Cg s Mg) (gw Mg) (gh Mg) a ∧ orb (Cg s Mg) (st l) (bsd a)))) := fun l l0 l1 ng => by
    obtain ⟨f1, f2, f3, _⟩ := fact l l0 l1
    exact Classical.epsilon_spec (p := fun a => HL (Cg s Mg) (gw Mg) (gh Mg) a ∧ orb (Cg s Mg) (st l) (bsd a)) (neg_HL b f1 f2 (f3.mp ng))
  have x := sum_imgP (P := fun u => arF s M (u : Int) < 0) (g := fun u => idx (gw Mg) (Classical.epsilon (fun a => HL (Cg s Mg) (gw Mg) (gh Mg) a ∧ orb (Cg s Mg) (st (u : Int)) (bsd a)))) (w := fun _ => 1) (N := ((gw Mg + 2) * (gh Mg + 2)).toNat) (M.1 17 0).toNat (fun u u1 pu => by
    have y := hcE u (by omega) (by omega) pu
    have r := idx_rg y.1.1
    exact ⟨r.1, by omega⟩) (fun u v uv vm pu pv e => by
    have y := hcE u (by omega) (by omega) pu
    have z := hcE v (by omega) (by omega) pv
    have ee := idx_one ⟨y.1.1.1, y.1.1.2.1⟩ ⟨z.1.1.1, z.1.1.2.1⟩ e
    rw [ee] at y
    have := one u v _ (by omega) (by omega) (by omega) (by omega) y.2 z.2
    omega)
  rw [← sumU_N]
  unfold hol
  have e1 : sumU (fun u => iN (arF s M (u : Int) < 0)) (M.1 17 0).toNat = sumU (fun u => @ite _ (arF s M (u : Int) < 0) (Classical.propDecidable _) ((fun _ => (1 : Int)) (idx (gw Mg) (Classical.epsilon (fun a => HL (Cg s Mg) (gw Mg) (gh Mg) a ∧ orb (Cg s Mg) (st (u : Int)) (bsd a))))) 0) (M.1 17 0).toNat := rfl
  rw [e1, x]
  refine (sumN_eq (fun K k0 k1 => ?_)).symm
  show iN (∃ a, HL (Cg s Mg) (gw Mg) (gh Mg) a ∧ idx (gw Mg) a = K) = iN (∃ v : Nat, v < (M.1 17 0).toNat ∧ arF s M (v : Int) < 0 ∧ idx (gw Mg) (Classical.epsilon (fun a => HL (Cg s Mg) (gw Mg) (gh Mg) a ∧ orb (Cg s Mg) (st (v : Int)) (bsd a))) = K)
  refine iN_iff ⟨?_, ?_⟩
  · rintro ⟨⟨i, j⟩, l, e⟩
    obtain ⟨s1, s2, s3⟩ := HL_side b l
    obtain ⟨ed, v⟩ := VS_of w g s3 (Or.inl rfl)
    have r := h4 ed _ v
    have o := ((h1 _ r.1 r.2).2.2.2 ed _ v).mp rfl
    generalize M.1 18 ed = q at r o
    obtain ⟨f1, f2, f3, _⟩ := fact q r.1 r.2
    have o2 : orb (Cg s Mg) (st q) (bsd (i, j)) := by
      have y := f2.2 _ s1
      rw [s2] at y
      exact y.mp o
    have ng := f3.mpr (HL_neg b f1 f2 l o2)
    have y := hcE q r.1 r.2 ng
    have ee := HL_one b f1 f2 l y.1 o2 y.2
    refine ⟨q.toNat, by omega, ?_, ?_⟩
    · rw [show ((q.toNat : Nat) : Int) = q by omega]
      exact ng
    · rw [show ((q.toNat : Nat) : Int) = q by omega, ← ee]
      exact e
  · rintro ⟨v, v1, ng, e⟩
    have y := hcE v (by omega) (by omega) ng
    exact ⟨_, y.1, e⟩
end
section
variable {sc : Nat × (Int → Int)} {M : mm_M} {X : Nat → mm_M → Prop}
/-- Loops.holes -/
theorem c139 {K : Int → mm_M → Prop} {s : sh} (ho : mr_ok M) (w : wf s) (nS : nS_ s ≤ 400) (l : LL s M) (k : K (sumN (fun l => iN (arF s M l < 0)) (M.1 17 0).toNat) M) : en_CI sc 139 [mm_r 17, mm_u, mm_u] M K X := by
  obtain ⟨n0, n1, n2, n3, n4, cl⟩ := LL_clp w l
  have loop : ∀ (d : Nat) (i : Int), (M.1 17 0 - i).toNat ≤ d → 0 ≤ i → i ≤ M.1 17 0 → en_R sc 139 4 [mm_r 17, mm_i (sumN (fun l => iN (arF s M l < 0)) i.toNat), mm_i i] [] M (QI K X) := by
    intro d
    induction d with
    | zero =>
      intro i hd i0 i1
      refine vc139_4 ho ⟨by omega, by omega⟩ ⟨fun _ => Or.inl ⟨_, rfl, ?_⟩, fun q => absurd (by omega) q⟩
      rw [show i = M.1 17 0 by omega]
      exact k
    | succ d ih =>
      intro i hd i0 i1
      refine vc139_4 ho ⟨by omega, by omega⟩ ⟨fun q => Or.inl ⟨_, rfl, ?_⟩, fun q => ?_⟩
      · rw [show i = M.1 17 0 by omega]
        exact k
      · obtain ⟨Mg, p, m, C, mk⟩ := cl i i0 (by omega)
        refine c138F ho C (fun _ => ?_)
        have b := arF_rg w nS M i
        rw [crnd_ar C mk, ldiv2 (by omega) (by omega)]
        have x := ih (i + 1) (by omega) (by omega) (by omega)
        rw [show (i + 1).toNat = i.toNat + 1 by omega] at x
        have e : sumN (fun l => iN (arF s M l < 0)) (i.toNat + 1) = sumN (fun l => iN (arF s M l < 0)) i.toNat + iN (arF s M i < 0) := by
          show _ + iN (arF s M ((i.toNat : Nat) : Int) < 0) = _
          rw [show ((i.toNat : Nat) : Int) = i by omega]
        rw [e] at x
        refine ⟨⟨by omega, by omega⟩, fun z => ?_, fun z => ?_⟩
        · rw [iN_f (show ¬ arF s M i < 0 by omega), Int.add_zero] at x
          exact x
        · rw [iN_t (show arF s M i < 0 by omega)] at x
          exact x
  exact vc139_0 ho (loop _ 0 (Nat.le_refl _) (Int.le_refl _) n0)
end
