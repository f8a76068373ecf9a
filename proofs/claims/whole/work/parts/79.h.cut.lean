/-! ===== the reference: cut, cutBands ===== -/
abbrev QV (K : mm_M → Prop) (X : Nat → mm_M → Prop) : mm_R → mm_M → Prop := fun r M1 => (r = .inl none ∧ K M1) ∨ ∃ e, r = .inr e ∧ e < 100 ∧ X e M1
abbrev QI (K : Int → mm_M → Prop) (X : Nat → mm_M → Prop) : mm_R → mm_M → Prop := fun r M1 => (∃ x, r = .inl (some (mm_i x)) ∧ K x M1) ∨ ∃ e, r = .inr e ∧ e < 100 ∧ X e M1
/-- the cuts: ascending, in the field -/
def CT (M : mm_M) : Prop := 0 ≤ M.1 72 19 ∧ (∀ i, 0 ≤ i → i < M.1 72 19 → -1000 ≤ M.1 87 i ∧ M.1 87 i ≤ 1000) ∧ ∀ i j, 0 ≤ i → i < j → j < M.1 72 19 → M.1 87 i < M.1 87 j
def cu (M : mm_M) (v : Int) : Prop := ∃ k, 0 ≤ k ∧ k < M.1 72 19 ∧ M.1 87 k = v
abbrev uS : Nat → Int → Prop := fun a k => a = 87 ∨ (a = 72 ∧ k = 19)
def clp (v : Int) : Int := if v < -1000 then -1000 else if 1000 < v then 1000 else v
theorem clp_rg (v : Int) : -1000 ≤ clp v ∧ clp v ≤ 1000 := by
  unfold clp
  split
  · omega
  · split <;> omega
theorem clp_in {v : Int} (h0 : -1000 ≤ v) (h1 : v ≤ 1000) : clp v = v := by
  unfold clp
  rw [if_neg (by omega), if_neg (by omega)]
theorem CT_0 {M : mm_M} (h : M.1 72 19 = 0) : CT M := ⟨by omega, fun i a b => absurd b (by omega), fun i j a b c => absurd c (by omega)⟩
theorem cu_0 {M : mm_M} (h : M.1 72 19 = 0) (v : Int) : ¬ cu M v := by
  rintro ⟨k, a, b, _⟩
  omega
section
variable {sc : Nat × (Int → Int)} {M : mm_M} {X : Nat → mm_M → Prop}
/-- CellAreasModel.cut -/
theorem c58 {K : mm_M → Prop} {v : Int} (ho : mr_ok M) (hC : CT M) (hn : M.1 72 19 < 1700) (hv : mr_rg v) (k : ∀ M1, fr uS M M1 → CT M1 → M1.1 72 19 ≤ M.1 72 19 + 1 → (∀ w, cu M1 w ↔ cu M w ∨ w = clp v) → K M1) : en_CV sc 58 [mm_r 72, mm_i v, mm_u, mm_u, mm_u] M K X := by
  have ⟨n0, hb, hs⟩ := hC
  have cr := clp_rg v
  have main : en_R sc 58 33 [mm_r 72, mm_i v, mm_i (clp v), mm_i (M.1 72 19), mm_u] [] M (QV K X) := by
    generalize clp v = w at cr k
    have shift : ∀ (c : Nat) (p i : Int) (M' : mm_M), c = (i - p).toNat → 0 ≤ p → p ≤ i → i ≤ M.1 72 19 → mr_ok M' → fr uS M M' → M'.1 72 19 = M.1 72 19 → (∀ j, 0 ≤ j → j < i → M'.1 87 j = M.1 87 j) → (∀ j, i < j → j ≤ M.1 72 19 → M'.1 87 j = M.1 87 (j - 1)) → (∀ j, 0 ≤ j → j < p → M.1 87 j < w) → (∀ j, p ≤ j → j < M.1 72 19 → w < M.1 87 j) → en_R sc 58 78 [mm_r 72, mm_i v, mm_i w, mm_i p, mm_i i] [] M' (QV K X) := by
      intro c
      induction c with
      | zero =>
        intro p i M' hc p0 p1 i1 ho' hf e19 ha hb' hlo hhi
        have ei : i = p := by omega
        have g19 : (mm_putN M' 87 p w).1 72 19 = M.1 72 19 := by rw [put_a (by decide)]; exact e19
        refine vc58_78 ho' ⟨by omega, by omega⟩ ⟨by omega, by omega⟩ ⟨by omega, by omega⟩ ⟨fun _ => ?_, fun q => absurd (by omega) q⟩
        rw [g19]
        refine ⟨by omega, by omega, ⟨by omega, by omega⟩, Or.inl ⟨rfl, ?_⟩⟩
        have hf1 : fr uS M (mm_putN (mm_putN M' 87 p w) 72 19 (M.1 72 19 + 1)) := fr_trans hf (fr_trans (fr_put (Or.inl rfl)) (fr_put (Or.inr ⟨rfl, rfl⟩)))
        have f19 : (mm_putN (mm_putN M' 87 p w) 72 19 (M.1 72 19 + 1)).1 72 19 = M.1 72 19 + 1 := put_eq
        have fp : (mm_putN (mm_putN M' 87 p w) 72 19 (M.1 72 19 + 1)).1 87 p = w := by rw [put_a (by decide), put_eq]
        have fo : ∀ j, j ≠ p → (mm_putN (mm_putN M' 87 p w) 72 19 (M.1 72 19 + 1)).1 87 j = M'.1 87 j := fun j z => by rw [put_a (by decide), put_k z]
        generalize mm_putN (mm_putN M' 87 p w) 72 19 (M.1 72 19 + 1) = M1 at hf1 f19 fp fo
        have fl : ∀ j, 0 ≤ j → j < p → M1.1 87 j = M.1 87 j := fun j j0 j1 => by rw [fo j (by omega)]; exact ha j j0 (by omega)
        have fh : ∀ j, p < j → j ≤ M.1 72 19 → M1.1 87 j = M.1 87 (j - 1) := fun j j0 j1 => by rw [fo j (by omega)]; exact hb' j (by omega) j1
        refine k M1 hf1 ⟨by omega, fun j j0 j1 => ?_, fun j j' j0 j1 j2 => ?_⟩ (by omega) (fun u => ⟨?_, ?_⟩)
        · by_cases z : j < p
          · rw [fl j j0 z]; exact hb j j0 (by omega)
          · by_cases z2 : j = p
            · rw [z2, fp]; exact cr
            · rw [fh j (by omega) (by omega)]; exact hb (j - 1) (by omega) (by omega)
        · by_cases z : j' < p
          · rw [fl j j0 (by omega), fl j' (by omega) z]; exact hs j j' j0 j1 (by omega)
          · by_cases z2 : j' = p
            · rw [z2, fp, fl j j0 (by omega)]; exact hlo j j0 (by omega)
            · rw [fh j' (by omega) (by omega)]
              by_cases z3 : j < p
              · rw [fl j j0 z3]; exact hs j (j' - 1) j0 (by omega) (by omega)
              · by_cases z4 : j = p
                · rw [z4, fp]; exact hhi (j' - 1) (by omega) (by omega)
                · rw [fh j (by omega) (by omega)]; exact hs (j - 1) (j' - 1) (by omega) (by omega) (by omega)
        · rintro ⟨j, j0, j1, j2⟩
          by_cases z : j < p
          · rw [fl j j0 z] at j2; exact Or.inl ⟨j, j0, by omega, j2⟩
          · by_cases z2 : j = p
            · rw [z2, fp] at j2; exact Or.inr j2.symm
            · rw [fh j (by omega) (by omega)] at j2; exact Or.inl ⟨j - 1, by omega, by omega, j2⟩
        · rintro (⟨j, j0, j1, j2⟩ | e)
          · by_cases z : j < p
            · exact ⟨j, j0, by omega, by rw [fl j j0 z]; exact j2⟩
            · refine ⟨j + 1, by omega, by omega, ?_⟩
              rw [fh (j + 1) (by omega) (by omega)]
              have e : j + 1 - 1 = j := by omega
              rw [e]; exact j2
          · exact ⟨p, p0, by omega, by rw [fp, e]⟩
      | succ c ih =>
        intro p i M' hc p0 p1 i1 ho' hf e19 ha hb' hlo hhi
        refine vc58_78 ho' ⟨by omega, by omega⟩ ⟨by omega, by omega⟩ ⟨by omega, by omega⟩ ⟨fun q => absurd q (by omega), fun q => ⟨by omega, by omega, by omega, by omega, ?_⟩⟩
        have r1 : mr_rg (M'.1 87 (i - 1)) := by
          rw [ha (i - 1) (by omega) (by omega)]
          have := hb (i - 1) (by omega) (by omega)
          exact ⟨by omega, by omega⟩
        refine ih p (i + -1) _ (by omega) p0 (by omega) (by omega) (mr_ok_putI ho' r1) (fr_trans hf (fr_put (Or.inl rfl))) (by rw [put_a (by decide)]; exact e19) (fun j j0 j1 => ?_) (fun j j0 j1 => ?_) hlo hhi
        · rw [put_k (by omega)]; exact ha j j0 (by omega)
        · by_cases z : j = i
          · rw [z, put_eq]; exact ha (i - 1) (by omega) (by omega)
          · rw [put_k z]; exact hb' j (by omega) j1
    have find : ∀ (c : Nat) (p : Int), c = p.toNat → 0 ≤ p → p ≤ M.1 72 19 → (∀ j, p ≤ j → j < M.1 72 19 → w < M.1 87 j) → en_R sc 58 33 [mm_r 72, mm_i v, mm_i w, mm_i p, mm_u] [] M (QV K X) := by
      intro c
      induction c with
      | zero =>
        intro p hc p0 p1 hhi
        refine vc58_33 ho ⟨by omega, by omega⟩ ⟨by omega, by omega⟩ ⟨fun _ => ?_, fun q => absurd (by omega) q⟩
        refine vc58_55 ho ⟨by omega, by omega⟩ ⟨by omega, by omega⟩ ⟨fun _ => ?_, fun q => absurd (by omega) q⟩
        exact shift _ p _ M rfl p0 p1 (Int.le_refl _) ho fr_refl rfl (fun _ _ _ => rfl) (fun j a b => absurd b (by omega)) (fun j a b => absurd b (by omega)) hhi
      | succ c ih =>
        intro p hc p0 p1 hhi
        refine vc58_33 ho ⟨by omega, by omega⟩ ⟨by omega, by omega⟩ ⟨fun q => absurd q (by omega), fun _ => ⟨by omega, by omega, fun q => ?_, fun q => ?_⟩⟩
        · refine vc58_55 ho ⟨by omega, by omega⟩ ⟨by omega, by omega⟩ ⟨fun q => absurd q (by omega), fun _ => ⟨by omega, by omega, fun q2 => ?_, fun q2 => Or.inl ⟨rfl, k M fr_refl hC (by omega) (fun u => ⟨Or.inl, fun z => z.elim id (fun z => ⟨p - 1, by omega, by omega, by omega⟩)⟩)⟩⟩⟩
          refine shift _ p _ M rfl p0 p1 (Int.le_refl _) ho fr_refl rfl (fun _ _ _ => rfl) (fun j a b => absurd b (by omega)) (fun j j0 j1 => ?_) hhi
          by_cases z : j = p - 1
          · rw [z]; omega
          · have := hs j (p - 1) j0 (by omega) (by omega)
            omega
        · refine ih (p + -1) (by omega) (by omega) (by omega) (fun j j0 j1 => ?_)
          by_cases z : j = p - 1
          · rw [z]; omega
          · exact hhi j (by omega) j1
    exact find _ _ rfl n0 (Int.le_refl _) (fun j a b => absurd b (by omega))
  unfold clp at main
  refine vc58_0 ho hv ⟨fun q => ⟨fun q2 => ?_, fun q2 => ?_⟩, fun q => ?_⟩
  · rwa [if_neg (by omega), if_neg (by omega)] at main
  · rwa [if_neg (by omega), if_pos (by omega)] at main
  · rwa [if_pos (by omega)] at main
/-- the reference's areas stay where only cuts change -/
theorem rdB_fr {M M1 : mm_M} {S : Nat → Int → Prop} (h : fr S M M1) (hs : ∀ a k, S a k → a < 73 ∨ 80 < a) (j : Int) : rdB M1 j = rdB M j := by
  have e : ∀ a, 73 ≤ a → a ≤ 80 → M1.1 a = M.1 a := fun a q1 q2 => by
    funext i
    exact h.2 a i (fun z => by have := hs a i z; omega)
  unfold rdB
  rw [e 73 (by decide) (by decide), e 74 (by decide) (by decide), e 75 (by decide) (by decide), e 77 (by decide) (by decide), e 78 (by decide) (by decide), e 79 (by decide) (by decide), e 80 (by decide) (by decide)]
theorem RWk_fr {M M1 : mm_M} {S : Nat → Int → Prop} (h : fr S M M1) (hs : ∀ a k, S a k → a < 73 ∨ 80 < a) {j : Int} (g : RWk M j) : RWk M1 j := by
  have e : ∀ a k, 73 ≤ a → a ≤ 80 → M1.1 a k = M.1 a k := fun a k q1 q2 => h.2 a k (fun z => by have := hs a k z; omega)
  have er := rdB_fr h hs j
  obtain ⟨g1, g2, g3, g4⟩ := g
  refine ⟨by rw [er]; exact g1, fun i a b => ?_, by rw [e 77 j (by decide) (by decide)]; exact g3, by rw [e 80 j (by decide) (by decide)]; exact g4⟩
  rw [er, e 76 _ (by decide) (by decide)]
  exact g2 i a (by rw [← e 77 j (by decide) (by decide)]; exact b)
theorem RS_fr {M M1 : mm_M} {S : Nat → Int → Prop} {T : Int → Int → Prop} (h : fr S M M1) (hs : ∀ a k, S a k → (a < 73 ∨ 80 < a) ∧ ¬ (a = 72 ∧ k = 20)) (g : RS M T) : RS M1 T := by
  have e : ∀ a k, 73 ≤ a → a ≤ 80 → M1.1 a k = M.1 a k := fun a k q1 q2 => h.2 a k (fun z => by have := hs a k z; omega)
  have e20 : M1.1 72 20 = M.1 72 20 := h.2 _ _ (fun z => (hs _ _ z).2 ⟨rfl, rfl⟩)
  have er := rdB_fr h (fun a k z => (hs a k z).1) 8
  rcases g with ⟨a, b, c, d, g, i⟩ | ⟨a, g⟩
  · refine Or.inl ⟨by rw [e20]; exact a, by rw [er]; exact b, fun i a b => ?_, by rw [e 77 8 (by decide) (by decide)]; exact d, by rw [e 80 8 (by decide) (by decide)]; exact g, fun x y => by rw [er]; exact i x y⟩
    rw [er, e 76 _ (by decide) (by decide)]
    exact c i a (by rw [← e 77 8 (by decide) (by decide)]; exact b)
  · exact Or.inr ⟨by rw [e20]; exact a, g⟩
/-- CellAreasModel.cutBands -/
theorem c59 {K : mm_M → Prop} {a : Int} (ho : mr_ok M) (h0 : 0 ≤ a) (h1 : a < 8) (hW : RWk M a) (hC : CT M) (hn : M.1 72 19 ≤ 1000)
    (k : ∀ M1, fr uS M M1 → CT M1 → M1.1 72 19 ≤ M.1 72 19 + 200 → (∀ w, cu M1 w ↔ cu M w ∨ ∃ i, 0 ≤ i ∧ i < M.1 77 a ∧ (w = M.1 73 (102 * a + i) ∨ w = M.1 74 (102 * a + i))) → K M1) : en_CV sc 59 [mm_r 72, mm_i a, mm_u] M K X := by
  have n0 : 0 ≤ M.1 77 a := hW.1.1
  have n1 := hW.2.2.1
  refine vc59_0 ho ?_
  have loop : ∀ (c : Nat) (i : Int) (M' : mm_M), c = (M.1 77 a - i).toNat → 0 ≤ i → i ≤ M.1 77 a → mr_ok M' → fr uS M M' → CT M' → M'.1 72 19 ≤ M.1 72 19 + 2 * i → (∀ w, cu M' w ↔ cu M w ∨ ∃ j, 0 ≤ j ∧ j < i ∧ (w = M.1 73 (102 * a + j) ∨ w = M.1 74 (102 * a + j))) →
      en_R sc 59 5 [mm_r 72, mm_i a, mm_i (102 * a + i)] [] M' (QV K X) := by
    intro c
    induction c with
    | zero =>
      intro i M' hc i0 i1 ho' hf hC' hn' hw'
      have e77 : M'.1 77 a = M.1 77 a := hf.2 _ _ (by omega)
      have ei : i = M.1 77 a := by omega
      rw [ei] at hw'
      refine vc59_5 ho' ⟨by omega, by omega⟩ (c45 ho' h0 (by omega) (fun _ => ?_))
      rw [e77]
      exact ⟨⟨by omega, by omega⟩, fun q => Or.inl ⟨rfl, k M' hf hC' (by omega) hw'⟩, fun q => absurd (by omega) q⟩
    | succ c ih =>
      intro i M' hc i0 i1 ho' hf hC' hn' hw'
      have e77 : M'.1 77 a = M.1 77 a := hf.2 _ _ (by omega)
      have bk := hW.1.2.2.1 i i0 (show i < M.1 77 a by omega)
      have b2 : -1000 ≤ M.1 73 (102 * a + i) := bk.2.1
      have b3 : M.1 73 (102 * a + i) < M.1 74 (102 * a + i) := bk.2.2.1
      have b4 : M.1 74 (102 * a + i) ≤ 1000 := bk.2.2.2.1
      refine vc59_5 ho' ⟨by omega, by omega⟩ (c45 ho' h0 (by omega) (fun _ => ?_))
      rw [e77]
      refine ⟨⟨by omega, by omega⟩, fun q => absurd q (by omega), fun q => ⟨by omega, by omega, ?_⟩⟩
      have e73 : M'.1 73 (102 * a + i) = M.1 73 (102 * a + i) := hf.2 _ _ (by omega)
      rw [e73]
      refine c58 ho' hC' (by omega) ⟨by omega, by omega⟩ (fun Ma fa Ca na wa hoa => ⟨by omega, by omega, ?_⟩)
      have e74 : Ma.1 74 (102 * a + i) = M.1 74 (102 * a + i) := by rw [fa.2 _ _ (by omega), hf.2 _ _ (by omega)]
      rw [e74]
      refine c58 hoa Ca (by omega) ⟨by omega, by omega⟩ (fun Mb fb Cb nb wb hob => ?_)
      have e : 102 * a + i + 1 = 102 * a + (i + 1) := by omega
      rw [e]
      rw [clp_in (by omega) (by omega)] at wa wb
      refine ih (i + 1) Mb (by omega) (by omega) (by omega) hob (fr_trans hf (fr_trans fa fb)) Cb (by omega) (fun w => ?_)
      rw [wb, wa, hw']
      constructor
      · rintro ((((z | ⟨j, j0, j1, j2⟩)) | z) | z)
        · exact Or.inl z
        · exact Or.inr ⟨j, j0, by omega, j2⟩
        · exact Or.inr ⟨i, i0, by omega, Or.inl z⟩
        · exact Or.inr ⟨i, i0, by omega, Or.inr z⟩
      · rintro (z | ⟨j, j0, j1, j2⟩)
        · exact Or.inl (Or.inl (Or.inl z))
        · by_cases z : j = i
          · rw [z] at j2
            rcases j2 with j2 | j2
            · exact Or.inl (Or.inr j2)
            · exact Or.inr j2
          · exact Or.inl (Or.inl (Or.inr ⟨j, j0, by omega, j2⟩))
  have := loop _ 0 M rfl (Int.le_refl _) n0 ho fr_refl hC (by omega) (fun w => ⟨Or.inl, fun z => z.elim id (fun ⟨j, a, b, _⟩ => absurd b (by omega))⟩)
  have e : 102 * a + 0 = 102 * a := by omega
  rw [e] at this
  exact this
end
