/-! ===== how many x there are; CellAreasModel.shared, sidesOf ===== -/
noncomputable def mu (R : Int → Prop) : Int := sumN (fun k => iN (R (k - 1000))) 2000
theorem mu_eq {P Q : Int → Prop} (h : ∀ x, -1000 ≤ x → x < 1000 → (P x ↔ Q x)) : mu P = mu Q := by
  unfold mu
  exact sumN_eq (fun k k0 k1 => iN_iff (h (k - 1000) (by omega) (by omega)))
theorem mu_add {P Q : Int → Prop} (h : ∀ x, ¬ (P x ∧ Q x)) : mu (fun x => P x ∨ Q x) = mu P + mu Q := by
  unfold mu
  rw [← sumN_add]
  refine sumN_eq (fun k k0 k1 => ?_)
  by_cases p : P (k - 1000)
  · rw [iN_t (Or.inl p), iN_t p, iN_f (fun q => h _ ⟨p, q⟩)]
    rfl
  · by_cases q : Q (k - 1000)
    · rw [iN_t (Or.inr q), iN_t q, iN_f p]
      rfl
    · rw [iN_f (fun z => z.elim p q), iN_f q, iN_f p]
      rfl
theorem mu_0 {P : Int → Prop} (h : ∀ x, ¬ P x) : mu P = 0 := by
  unfold mu
  exact sumN_z (fun k _ _ => iN_f (h _))
theorem mu_int {a b : Int} (h0 : -1000 ≤ a) (h1 : a ≤ b) (h2 : b ≤ 1000) : mu (fun x => a ≤ x ∧ x < b) = b - a := by
  have key : ∀ n : Nat, sumN (fun k => iN (a ≤ k - 1000 ∧ k - 1000 < b)) n = if (n : Int) - 1000 ≤ a then 0 else if (n : Int) - 1000 ≤ b then (n : Int) - 1000 - a else b - a := by
    intro n
    induction n with
    | zero => rw [if_pos (by omega)]; rfl
    | succ n ih =>
      show sumN (fun k => iN (a ≤ k - 1000 ∧ k - 1000 < b)) n + iN (a ≤ (n : Int) - 1000 ∧ (n : Int) - 1000 < b) = _
      rw [ih]
      by_cases z : a ≤ (n : Int) - 1000 ∧ (n : Int) - 1000 < b
      · rw [iN_t z]
        by_cases y : (n : Int) - 1000 ≤ a
        · rw [if_pos y, if_neg (by omega), if_pos (by omega)]
          omega
        · rw [if_neg y, if_pos (by omega), if_neg (by omega), if_pos (by omega)]
          omega
      · rw [iN_f z]
        by_cases y : (n : Int) - 1000 ≤ a
        · rw [if_pos y]
          by_cases y2 : ((n + 1 : Nat) : Int) - 1000 ≤ a
          · rw [if_pos y2]
            rfl
          · rw [if_neg y2]
            split <;> omega
        · rw [if_neg y]
          rw [if_neg (show ¬ ((n + 1 : Nat) : Int) - 1000 ≤ a by omega)]
          split <;> split <;> omega
  have x := key 2000
  unfold mu
  rw [x]
  rw [show ((2000 : Nat) : Int) = 2000 from rfl]
  split
  · omega
  · split <;> omega
theorem ds_mu {p : Int} {lf rt : Int → Int} : ∀ m : Nat, ds p (p + m) lf rt → dbd p (p + m) lf rt → sumN (fun k => rt (p + k) - lf (p + k)) m = mu (din p (p + m) lf rt) := by
  intro m
  induction m with
  | zero =>
    intro _ _
    rw [mu_0 (fun x z => by
      obtain ⟨k, a, b, _⟩ := z
      omega)]
    rfl
  | succ m ih =>
    intro d b
    have e := ih ⟨fun k a a' => d.1 k a (by omega), fun k a a' => d.2 k a (by omega)⟩ (fun k a a' => b k a (by omega))
    show sumN (fun k => rt (p + k) - lf (p + k)) m + (rt (p + m) - lf (p + m)) = _
    have lr := d.1 (p + m) (by omega) (by omega)
    have br := b (p + m) (by omega) (by omega)
    rw [e, ← mu_int br.1 (show lf (p + m) ≤ rt (p + m) by omega) br.2, ← mu_add (fun x z => by
      obtain ⟨⟨k, a, a', a2, a3⟩, c⟩ := z
      have := ds_mono d a a' (show p + (m : Int) < p + ((m + 1 : Nat) : Int) by omega)
      omega)]
    refine mu_eq (fun x _ _ => ⟨?_, ?_⟩)
    · rintro (⟨k, a, a', z⟩ | z)
      · exact ⟨k, a, by omega, z⟩
      · exact ⟨p + m, by omega, by omega, z⟩
    · rintro ⟨k, a, a', z⟩
      by_cases y : k = p + m
      · rw [y] at z
        exact Or.inr z
      · exact Or.inl ⟨k, a, by omega, z⟩
/-- the sides of an area, band by band -/
noncomputable def sdB (s : sh) (b : Int) : Int := 2 * (sst s (b + 1) - sst s b) * (shi s b - slo s b) + 2 * mu (inb s b) - mu (fun x => inb s b x ∧ has s x (slo s b - 1)) - mu (fun x => inb s b x ∧ has s x (shi s b))
noncomputable def SD (s : sh) : Int := sumN (sdB s) (sn s).toNat
section
variable {sc : Nat × (Int → Int)} {M : mm_M} {X : Nat → mm_M → Prop}
theorem c142 {K : Int → mm_M → Prop} (ho : mr_ok M) (h1 : NRg M 81 82 11) (h2 : NRg M 83 84 14) (k : ∀ M1, fr nS M M1 → K (mu (fun x => rNg M 81 82 11 x ∧ rNg M 83 84 14 x)) M1) : en_CI sc 142 [mm_r 72, mm_u, mm_u] M K X := by
  refine vc142_0 ho (c65 ho ⟨by decide, by decide⟩ h1 h2 (fun M1 f1 N1 R1 ho1 => ?_))
  obtain ⟨n0, d, b⟩ := N1
  have n1 := ds_le d b n0
  have x := ds_mu (p := 0) (M1.1 72 17).toNat (by rw [show (0 : Int) + (((M1.1 72 17).toNat : Nat) : Int) = M1.1 72 17 by omega]; exact d) (by rw [show (0 : Int) + (((M1.1 72 17).toNat : Nat) : Int) = M1.1 72 17 by omega]; exact b)
  rw [show (0 : Int) + (((M1.1 72 17).toNat : Nat) : Int) = M1.1 72 17 by omega] at x
  have e : mu (din 0 (M1.1 72 17) (M1.1 85) (M1.1 86)) = mu (fun x => rNg M 81 82 11 x ∧ rNg M 83 84 14 x) := mu_eq (fun x _ _ => (R1 x).trans mp1)
  rw [e] at x
  have kk := k M1 f1
  rw [← x] at kk
  clear x e
  have loop : ∀ (c : Nat) (j : Int), (M1.1 72 17 - j).toNat ≤ c → 0 ≤ j → j ≤ M1.1 72 17 → en_R sc 142 9 [mm_r 72, mm_i (sumN (fun k => M1.1 86 (0 + k) - M1.1 85 (0 + k)) j.toNat), mm_i j] [] M1 (QI K X) := by
    intro c
    induction c with
    | zero =>
      intro j hc j0 j1
      refine vc142_9 ho1 ⟨by omega, by omega⟩ ⟨fun _ => Or.inl ⟨_, rfl, ?_⟩, fun q => absurd (by omega) q⟩
      rw [show j = M1.1 72 17 by omega]
      exact kk
    | succ c ih =>
      intro j hc j0 j1
      refine vc142_9 ho1 ⟨by omega, by omega⟩ ⟨fun q => Or.inl ⟨_, rfl, ?_⟩, fun q => ⟨j0, by omega, j0, by omega, ?_⟩⟩
      · rw [show j = M1.1 72 17 by omega]
        exact kk
      · have y := ih (j + 1) (by omega) (by omega) (by omega)
        rw [show (j + 1).toNat = j.toNat + 1 by omega] at y
        have e : sumN (fun k => M1.1 86 (0 + k) - M1.1 85 (0 + k)) (j.toNat + 1) = sumN (fun k => M1.1 86 (0 + k) - M1.1 85 (0 + k)) j.toNat + M1.1 86 j - M1.1 85 j := by
          show _ + (M1.1 86 (0 + ((j.toNat : Nat) : Int)) - M1.1 85 (0 + ((j.toNat : Nat) : Int))) = _
          rw [show 0 + ((j.toNat : Nat) : Int) = j by omega]
          omega
        rw [e] at y
        exact y
  exact loop _ 0 (Nat.le_refl _) (Int.le_refl _) n0
def ovS : Nat → Int → Prop := fun a k => (81 ≤ a ∧ a ≤ 86) ∨ (a = 72 ∧ (k = 11 ∨ k = 14 ∨ k = 17))
theorem ovS_B : ∀ a k, ovS a k → a < 73 ∨ 80 < a := fun a k z => by
  unfold ovS at z
  omega
theorem ovS_vR : ∀ a k, ovS a k → vR a k := fun a k z => by
  unfold ovS at z
  unfold vR
  omega
/-- behind the stretches of a band -/
theorem m143_end {K : Int → mm_M → Prop} {a b l2 l5 : Int} {M' : mm_M} (ga : isA a) (Wa : RWk M a) (b0 : 0 ≤ b) (b1 : b < sn (rdB M a)) (ho' : mr_ok M') (hf : fr ovS M M') (e5 : sst (rdB M a) (b + 1) + 402 * a ≤ l5) (r5 : mr_rg l5)
    (k : ∀ (l4 l5 : mm_V) (M1 : mm_M), mr_ok M1 → fr ovS M M1 → en_R sc 143 7 [mm_r 72, mm_i a, mm_i (l2 + sdB (rdB M a) b), mm_i (102 * a + b + 1), l4, l5] [] M1 (QI K X)) :
    en_R sc 143 27 [mm_r 72, mm_i a, mm_i l2, mm_i (102 * a + b), mm_i (mu (inb (rdB M a) b)), mm_i l5] [] M' (QI K X) := by
  have a0 := ga.1
  have a1 := ga.2
  have w := Wa.1
  have n1 : sn (rdB M a) ≤ 100 := Wa.2.2.1
  have nS : nS_ (rdB M a) ≤ 400 := by
    have e : nS_ (rdB M a) = M.1 80 a := if_neg (by show ¬ M.1 77 a < M.1 77 a; omega)
    rw [e]
    exact Wa.2.2.2
  have nS2 : sst (rdB M a) (sn (rdB M a)) ≤ 400 := nS
  have z0 := sst_mono w (Int.le_refl 0) b0 (show b ≤ sn (rdB M a) by omega)
  have z1 := sst_mono w (show 0 ≤ b + 1 by omega) (show b + 1 ≤ sn (rdB M a) by omega) (Int.le_refl _)
  rw [w.2.1] at z0
  have bk := w.2.2.1 b b0 b1
  have bk1 := bk.1
  have bk2 := bk.2.1
  have bk3 := bk.2.2.1
  have bk4 := bk.2.2.2.1
  have ek : ∀ M', fr ovS M M' → ∀ c i, 73 ≤ c → c ≤ 80 → M'.1 c i = M.1 c i := fun M' f c i h0 h1 => f.2 c i (fun z => by have := ovS_B c i z; omega)
  have e73 : ∀ M', fr ovS M M' → M'.1 73 (102 * a + b) = slo (rdB M a) b := fun M' f => ek M' f 73 _ (by decide) (by decide)
  have e74 : ∀ M', fr ovS M M' → M'.1 74 (102 * a + b) = shi (rdB M a) b := fun M' f => ek M' f 74 _ (by decide) (by decide)
  have e75 : ∀ M', fr ovS M M' → M'.1 75 (102 * a + b) = sst (rdB M a) b + 402 * a := fun M' f => by
    rw [ek M' f 75 _ (by decide) (by decide)]
    have e : sst (rdB M a) b = M.1 75 (102 * a + b) - 402 * a := if_pos b1
    omega
  have e76 : ∀ M', fr ovS M M' → M'.1 76 (102 * a + b) = sst (rdB M a) (b + 1) - sst (rdB M a) b := fun M' f => by
    rw [ek M' f 76 _ (by decide) (by decide)]
    exact Wa.2.1 b b0 b1
  have W' : ∀ M', fr ovS M M' → RWk M' a ∧ rdB M' a = rdB M a := fun M' f => ⟨RWk_fr f ovS_B Wa, rdB_fr f ovS_B a⟩
  have row : ∀ x, has (rdB M a) x (slo (rdB M a) b) ↔ inb (rdB M a) b x := fun x => has_at w b0 b1 (Int.le_refl _) bk3 x
  have i0 : 0 ≤ 102 * a + b := by omega
  have i1 : 102 * a + b < 918 := by omega
  refine vc143_27 ho' r5 ?_
  rw [e75 M' hf, e76 M' hf, e73 M' hf]
  refine ⟨i0, i1, i0, i1, ⟨by omega, by omega⟩, fun _ => ⟨i0, i1, ?_⟩, fun q => absurd (by omega) q⟩
  have W1 := W' M' hf
  refine c61 ho' ga.1 (by omega) W1.1 ⟨by omega, by omega⟩ (fun M9 f9 N9 _ R9 ho9 => ?_)
  have F9 : fr ovS M M9 := fr_trans hf (fr_mono f9 (fun a k z => by unfold ovS; omega))
  have W9 := W' M9 F9
  rw [W1.2] at R9
  rw [e73 M9 F9]
  refine ⟨i0, i1, c62 ho9 ga.1 (by omega) W9.1 ⟨by omega, by omega⟩ (fun Ma fa Na _ Ra hoa => ?_)⟩
  have Fa : fr ovS M Ma := fr_trans F9 (fr_mono fa (fun a k z => by unfold ovS; omega))
  rw [W9.2] at Ra
  have N9a := NRg_fr (p := 81) (q := 82) (f := 11) fa (fun a k z => by omega) N9
  refine c142 hoa N9a.1 Na (fun Mb fb hob => ?_)
  have Fb : fr ovS M Mb := fr_trans Fa (fr_mono fb (fun a k z => by
    have z' : a = 85 ∨ a = 86 ∨ (a = 72 ∧ k = 17) := z
    unfold ovS
    omega))
  have Wb := W' Mb Fb
  have N9b := NRg_fr (p := 81) (q := 82) (f := 11) fb (fun a k z => by
    have z' : a = 85 ∨ a = 86 ∨ (a = 72 ∧ k = 17) := z
    omega) N9a.1
  rw [e74 Mb Fb]
  refine ⟨i0, i1, c62 hob ga.1 (by omega) Wb.1 ⟨by omega, by omega⟩ (fun Mc fc Nc _ Rc hoc => ?_)⟩
  have Fc : fr ovS M Mc := fr_trans Fb (fr_mono fc (fun a k z => by unfold ovS; omega))
  rw [Wb.2] at Rc
  have N9c := NRg_fr (p := 81) (q := 82) (f := 11) fc (fun a k z => by omega) N9b.1
  refine ⟨i0, i1, i0, i1, i0, i1, c142 hoc N9c.1 Nc (fun Md fd hod => ?_)⟩
  have Fd : fr ovS M Md := fr_trans Fc (fr_mono fd (fun a k z => by
    have z' : a = 85 ∨ a = 86 ∨ (a = 72 ∧ k = 17) := z
    unfold ovS
    omega))
  have m1 : mu (fun x => rNg Ma 81 82 11 x ∧ rNg Ma 83 84 14 x) = mu (fun x => inb (rdB M a) b x ∧ has (rdB M a) x (slo (rdB M a) b - 1)) := mu_eq (fun x _ _ => by
    rw [N9a.2, R9, row, Ra])
  have m2 : mu (fun x => rNg Mc 81 82 11 x ∧ rNg Mc 83 84 14 x) = mu (fun x => inb (rdB M a) b x ∧ has (rdB M a) x (shi (rdB M a) b)) := mu_eq (fun x _ _ => by
    rw [N9c.2, N9b.2, N9a.2, R9, row, Rc])
  rw [m1, m2, e76 Mc Fc, e74 Mc Fc, e73 Mc Fc]
  have fin := k (mm_i (mu (inb (rdB M a) b))) (mm_i (mu (fun x => inb (rdB M a) b x ∧ has (rdB M a) x (slo (rdB M a) b - 1)))) Md hod Fd
  have es : l2 + sdB (rdB M a) b = l2 + 2 * (sst (rdB M a) (b + 1) - sst (rdB M a) b) * (shi (rdB M a) b - slo (rdB M a) b) + 2 * mu (inb (rdB M a) b) - mu (fun x => inb (rdB M a) b x ∧ has (rdB M a) x (slo (rdB M a) b - 1)) - mu (fun x => inb (rdB M a) b x ∧ has (rdB M a) x (shi (rdB M a) b)) := by
    unfold sdB
    omega
  rw [es] at fin
  exact fin
theorem c143 {K : Int → mm_M → Prop} {a : Int} (ho : mr_ok M) (ga : isA a) (Wa : RWk M a) (k : ∀ M1, fr vR M M1 → K (SD (rdB M a)) M1) : en_CI sc 143 [mm_r 72, mm_i a, mm_u, mm_u, mm_u, mm_u] M K X := by
  have a0 := ga.1
  have a1 := ga.2
  have w := Wa.1
  have n0 := w.1
  have n1 : sn (rdB M a) ≤ 100 := Wa.2.2.1
  have nS : nS_ (rdB M a) ≤ 400 := by
    have e : nS_ (rdB M a) = M.1 80 a := if_neg (by show ¬ M.1 77 a < M.1 77 a; omega)
    rw [e]
    exact Wa.2.2.2
  have ek : ∀ M', fr ovS M M' → ∀ c i, 73 ≤ c → c ≤ 80 → M'.1 c i = M.1 c i := fun M' f c i h0 h1 => f.2 c i (fun z => by have := ovS_B c i z; omega)
  -- along the stretches
  have inner : ∀ (c : Nat) (b j l2 : Int) (M' : mm_M), (sst (rdB M a) (b + 1) - j).toNat ≤ c → 0 ≤ b → b < sn (rdB M a) → sst (rdB M a) b ≤ j → j ≤ sst (rdB M a) (b + 1) → mr_ok M' → fr ovS M M' → (∀ (l4 l5 : mm_V) (M1 : mm_M), mr_ok M1 → fr ovS M M1 → en_R sc 143 7 [mm_r 72, mm_i a, mm_i (l2 + sdB (rdB M a) b), mm_i (102 * a + b + 1), l4, l5] [] M1 (QI K X)) → en_R sc 143 27 [mm_r 72, mm_i a, mm_i l2, mm_i (102 * a + b), mm_i (sumN (fun k => srt (rdB M a) (sst (rdB M a) b + k) - slf (rdB M a) (sst (rdB M a) b + k)) (j - sst (rdB M a) b).toNat), mm_i (402 * a + j)] [] M' (QI K X) := by
    have last : ∀ (b j l2 : Int) (M' : mm_M), 0 ≤ b → b < sn (rdB M a) → j = sst (rdB M a) (b + 1) → mr_ok M' → fr ovS M M' → (∀ (l4 l5 : mm_V) (M1 : mm_M), mr_ok M1 → fr ovS M M1 → en_R sc 143 7 [mm_r 72, mm_i a, mm_i (l2 + sdB (rdB M a) b), mm_i (102 * a + b + 1), l4, l5] [] M1 (QI K X)) → en_R sc 143 27 [mm_r 72, mm_i a, mm_i l2, mm_i (102 * a + b), mm_i (sumN (fun k => srt (rdB M a) (sst (rdB M a) b + k) - slf (rdB M a) (sst (rdB M a) b + k)) (j - sst (rdB M a) b).toNat), mm_i (402 * a + j)] [] M' (QI K X) := fun b j l2 M' b0 b1 ej ho' hf g => by
      have bk := w.2.2.1 b b0 b1
      have bk1 := bk.1
      have z0 := sst_mono w (Int.le_refl 0) b0 (show b ≤ sn (rdB M a) by omega)
      have z1 : sst (rdB M a) (b + 1) ≤ nS_ (rdB M a) := sst_mono w (show 0 ≤ b + 1 by omega) (show b + 1 ≤ sn (rdB M a) by omega) (Int.le_refl _)
      rw [w.2.1] at z0
      have ee : sst (rdB M a) b + (((sst (rdB M a) (b + 1) - sst (rdB M a) b).toNat : Nat) : Int) = sst (rdB M a) (b + 1) := by omega
      have x := ds_mu (p := sst (rdB M a) b) (lf := slf (rdB M a)) (rt := srt (rdB M a)) (sst (rdB M a) (b + 1) - sst (rdB M a) b).toNat (by rw [ee]; exact bk.2.2.2.2.1) (by rw [ee]; exact bk.2.2.2.2.2)
      rw [ee] at x
      have x' : sumN (fun k => srt (rdB M a) (sst (rdB M a) b + k) - slf (rdB M a) (sst (rdB M a) b + k)) (j - sst (rdB M a) b).toNat = mu (inb (rdB M a) b) := by
        rw [ej]
        exact x
      rw [x']
      exact m143_end ga Wa b0 b1 ho' hf (by omega) ⟨by omega, by omega⟩ g
    intro c
    induction c with
    | zero =>
      intro b j l2 M' hc b0 b1 j0 j1 ho' hf g
      exact last b j l2 M' b0 b1 (by omega) ho' hf g
    | succ c ih =>
      intro b j l2 M' hc b0 b1 j0 j1 ho' hf g
      by_cases ej : j = sst (rdB M a) (b + 1)
      · exact last b j l2 M' b0 b1 ej ho' hf g
      · have bk1 := (w.2.2.1 b b0 b1).1
        have z0 := sst_mono w (Int.le_refl 0) b0 (show b ≤ sn (rdB M a) by omega)
        have z1 : sst (rdB M a) (b + 1) ≤ nS_ (rdB M a) := sst_mono w (show 0 ≤ b + 1 by omega) (show b + 1 ≤ sn (rdB M a) by omega) (Int.le_refl _)
        rw [w.2.1] at z0
        have e75 : M'.1 75 (102 * a + b) = sst (rdB M a) b + 402 * a := by
          rw [ek M' hf 75 _ (by decide) (by decide)]
          have e : sst (rdB M a) b = M.1 75 (102 * a + b) - 402 * a := if_pos b1
          omega
        have e76 : M'.1 76 (102 * a + b) = sst (rdB M a) (b + 1) - sst (rdB M a) b := by
          rw [ek M' hf 76 _ (by decide) (by decide)]
          exact Wa.2.1 b b0 b1
        refine vc143_27 ho' ⟨by omega, by omega⟩ ?_
        rw [e75, e76]
        refine ⟨by omega, by omega, by omega, by omega, ⟨by omega, by omega⟩, fun q => absurd q (by omega), fun _ => ⟨by omega, by omega, by omega, by omega, ?_⟩⟩
        rw [ek M' hf 79 _ (by decide) (by decide), ek M' hf 78 _ (by decide) (by decide)]
        have y := ih b (j + 1) l2 M' (by omega) b0 b1 (by omega) (by omega) ho' hf g
        rw [show (j + 1 - sst (rdB M a) b).toNat = (j - sst (rdB M a) b).toNat + 1 by omega] at y
        have e : sumN (fun k => srt (rdB M a) (sst (rdB M a) b + k) - slf (rdB M a) (sst (rdB M a) b + k)) ((j - sst (rdB M a) b).toNat + 1) = sumN (fun k => srt (rdB M a) (sst (rdB M a) b + k) - slf (rdB M a) (sst (rdB M a) b + k)) (j - sst (rdB M a) b).toNat + M.1 79 (402 * a + j) - M.1 78 (402 * a + j) := by
          show _ + (srt (rdB M a) (sst (rdB M a) b + (((j - sst (rdB M a) b).toNat : Nat) : Int)) - slf (rdB M a) (sst (rdB M a) b + (((j - sst (rdB M a) b).toNat : Nat) : Int))) = _
          rw [show sst (rdB M a) b + (((j - sst (rdB M a) b).toNat : Nat) : Int) = j by omega]
          show _ + (M.1 79 (402 * a + j) - M.1 78 (402 * a + j)) = _
          omega
        rw [e, ← Int.add_assoc] at y
        exact y
  have outer : ∀ (c : Nat) (b : Int) (l4 l5 : mm_V) (M' : mm_M), (sn (rdB M a) - b).toNat ≤ c → 0 ≤ b → b ≤ sn (rdB M a) → mr_ok M' → fr ovS M M' → en_R sc 143 7 [mm_r 72, mm_i a, mm_i (sumN (sdB (rdB M a)) b.toNat), mm_i (102 * a + b), l4, l5] [] M' (QI K X) := by
    intro c
    induction c with
    | zero =>
      intro b l4 l5 M' hc b0 b1 ho' hf
      refine vc143_7 ho' ⟨by omega, by omega⟩ (c45 ho' ga.1 (by omega) (fun _ => ?_))
      have e77 : M'.1 77 a = sn (rdB M a) := ek M' hf 77 _ (by decide) (by decide)
      rw [e77]
      refine ⟨⟨by omega, by omega⟩, fun _ => Or.inl ⟨_, rfl, ?_⟩, fun q => absurd (by omega) q⟩
      rw [show b = sn (rdB M a) by omega]
      exact k M' (fr_mono hf ovS_vR)
    | succ c ih =>
      intro b l4 l5 M' hc b0 b1 ho' hf
      refine vc143_7 ho' ⟨by omega, by omega⟩ (c45 ho' ga.1 (by omega) (fun _ => ?_))
      have e77 : M'.1 77 a = sn (rdB M a) := ek M' hf 77 _ (by decide) (by decide)
      rw [e77]
      refine ⟨⟨by omega, by omega⟩, fun q => Or.inl ⟨_, rfl, ?_⟩, fun q => ⟨by omega, by omega, ?_⟩⟩
      · rw [show b = sn (rdB M a) by omega]
        exact k M' (fr_mono hf ovS_vR)
      · have blt : b < sn (rdB M a) := by omega
        have e75 : M'.1 75 (102 * a + b) = 402 * a + sst (rdB M a) b := by
          rw [ek M' hf 75 _ (by decide) (by decide)]
          have e : sst (rdB M a) b = M.1 75 (102 * a + b) - 402 * a := if_pos blt
          omega
        rw [e75]
        have bk1 := (w.2.2.1 b b0 blt).1
        have y := inner _ b (sst (rdB M a) b) (sumN (sdB (rdB M a)) b.toNat) M' (Nat.le_refl _) b0 blt (Int.le_refl _) (by omega) ho' hf (fun l4 l5 M1 o1 f1 => by
          have z := ih (b + 1) l4 l5 M1 (by omega) (by omega) (by omega) o1 f1
          rw [show (b + 1).toNat = b.toNat + 1 by omega] at z
          have e : sumN (sdB (rdB M a)) (b.toNat + 1) = sumN (sdB (rdB M a)) b.toNat + sdB (rdB M a) b := by
            show _ + sdB (rdB M a) ((b.toNat : Nat) : Int) = _
            rw [show ((b.toNat : Nat) : Int) = b by omega]
          rw [e, ← Int.add_assoc] at z
          exact z)
        rw [show (sst (rdB M a) b - sst (rdB M a) b).toNat = 0 by omega] at y
        exact y
  refine vc143_0 ho ?_
  have y := outer _ 0 mm_u mm_u M (Nat.le_refl _) (Int.le_refl _) n0 ho fr_refl
  rw [Int.add_zero] at y
  exact y
end
