/-! ===== the reference's new row ===== -/
def dbd (p m : Int) (lf rt : Int → Int) : Prop := ∀ k, p ≤ k → k < m → -1000 ≤ lf k ∧ rt k ≤ 1000
def NR (M : mm_M) : Prop := 0 ≤ M.1 72 17 ∧ ds 0 (M.1 72 17) (M.1 85) (M.1 86) ∧ dbd 0 (M.1 72 17) (M.1 85) (M.1 86)
def rN (M : mm_M) (x : Int) : Prop := din 0 (M.1 72 17) (M.1 85) (M.1 86) x
abbrev nS : Nat → Int → Prop := fun a k => a = 85 ∨ a = 86 ∨ (a = 72 ∧ k = 17)
theorem ds_le {m : Int} {lf rt : Int → Int} (h : ds 0 m lf rt) (hb : dbd 0 m lf rt) (h0 : 0 ≤ m) : m ≤ 1000 := by
  have key : ∀ n : Nat, (n : Int) < m → -1000 + 2 * (n : Int) ≤ lf n := by
    intro n
    induction n with
    | zero => intro g; have := (hb 0 (Int.le_refl 0) g).1; exact this
    | succ n ih =>
      intro g
      have a := ih (by omega)
      have b := h.1 n (by omega) (by omega)
      have c := h.2 n (by omega) (by omega)
      have e : ((n + 1 : Nat) : Int) = (n : Int) + 1 := by omega
      rw [e]
      omega
  by_cases g : m ≤ 1000
  · exact g
  · have a := key (m - 1).toNat (by omega)
    have e : (((m - 1).toNat : Nat) : Int) = m - 1 := by omega
    rw [e] at a
    have b := h.1 (m - 1) (by omega) (by omega)
    have c := (hb (m - 1) (by omega) (by omega)).2
    omega
theorem NR_le {M : mm_M} (h : NR M) : M.1 72 17 ≤ 1000 := ds_le h.2.1 h.2.2 h.1
theorem NR_0 {M : mm_M} (h : M.1 72 17 = 0) : NR M := by
  unfold NR
  rw [h]
  exact ⟨by decide, ⟨fun k a b => absurd b (by omega), fun k a b => absurd b (by omega)⟩, fun k a b => absurd b (by omega)⟩
theorem rN_0 {M : mm_M} (h : M.1 72 17 = 0) (x : Int) : ¬ rN M x := by
  unfold rN
  rw [h]
  rintro ⟨k, a, b, _⟩
  omega
theorem rN_rg {M : mm_M} (h : NR M) {x : Int} (g : rN M x) : -1000 ≤ x ∧ x < 1000 := by
  obtain ⟨k, a, b, c, d⟩ := g
  have := h.2.2 k a b
  omega
section
variable {sc : Nat × (Int → Int)} {M : mm_M} {X : Nat → mm_M → Prop}
/-- CellAreasModel.push -/
theorem c36 {K : mm_M → Prop} {l r : Int} (ho : mr_ok M) (hN : NR M) (hl : -1000 ≤ l) (hl1 : l ≤ 1000) (hr : r ≤ 1000) (hr0 : -1000 ≤ r) (hlast : 0 < M.1 72 17 → M.1 85 (M.1 72 17 - 1) ≤ l)
    (k : ∀ M1, fr nS M M1 → NR M1 → (∀ x, rN M1 x ↔ rN M x ∨ (l ≤ x ∧ x < r)) → (0 < M1.1 72 17 → M1.1 85 (M1.1 72 17 - 1) ≤ l) → K M1) : en_CV sc 36 [mm_r 72, mm_i l, mm_i r] M K X := by
  have hle := NR_le hN
  have ⟨h0, hd, hb⟩ := hN
  have rest : (0 < M.1 72 17 → M.1 86 (M.1 72 17 - 1) < l) → en_R sc 36 66 [mm_r 72, mm_i l, mm_i r] [] M (fun r M1 => (r = .inl none ∧ K M1) ∨ ∃ e, r = .inr e ∧ e < 100 ∧ X e M1) := by
    intro q
    refine vc36_66 ho ⟨by omega, by omega⟩ ⟨by omega, by omega⟩ ⟨fun g => Or.inl ⟨rfl, k M fr_refl hN (fun x => ⟨Or.inl, fun z => z.elim id (fun z => by omega)⟩) hlast⟩, fun g => ?_⟩
    have e1 : (mm_putN M 85 (M.1 72 17) l).1 72 17 = M.1 72 17 := put_a (by decide)
    rw [e1]
    have e2 : (mm_putN (mm_putN M 85 (M.1 72 17) l) 86 (M.1 72 17) r).1 72 17 = M.1 72 17 := by rw [put_a (by decide), put_a (by decide)]
    rw [e2]
    refine ⟨h0, by omega, h0, by omega, ⟨by omega, by omega⟩, Or.inl ⟨rfl, ?_⟩⟩
    generalize hM1 : mm_putN (mm_putN (mm_putN M 85 (M.1 72 17) l) 86 (M.1 72 17) r) 72 17 (M.1 72 17 + 1) = M1
    have es : M1.1 72 17 = M.1 72 17 + 1 := by rw [← hM1, put_eq]
    have el : M1.1 85 = fu (M.1 85) (M.1 72 17) l := by
      funext j
      rw [← hM1, put_a (by decide), put_a (by decide)]
      unfold fu
      by_cases z : j = M.1 72 17
      · rw [if_pos z, z, put_eq]
      · rw [if_neg z, put_k z]
    have er : M1.1 86 = fu (M.1 86) (M.1 72 17) r := by
      funext j
      rw [← hM1, put_a (by decide)]
      unfold fu
      by_cases z : j = M.1 72 17
      · rw [if_pos z, z, put_eq]
      · rw [if_neg z, put_k z, put_a (by decide)]
    have hfr : fr nS M M1 := by
      rw [← hM1]
      exact fr_trans (fr_put (Or.inl rfl)) (fr_trans (fr_put (Or.inr (Or.inl rfl))) (fr_put (Or.inr (Or.inr ⟨rfl, rfl⟩))))
    have U : ∀ k, k ≠ M.1 72 17 → M1.1 85 k = M.1 85 k ∧ M1.1 86 k = M.1 86 k := fun k z => ⟨by rw [el]; exact fu_ne z, by rw [er]; exact fu_ne z⟩
    have Us : M1.1 85 (M.1 72 17) = l ∧ M1.1 86 (M.1 72 17) = r := ⟨by rw [el]; exact fu_eq, by rw [er]; exact fu_eq⟩
    refine k M1 hfr ⟨by omega, ?_, ?_⟩ (fun x => ?_) (fun _ => ?_)
    · rw [es]
      refine ⟨fun j a b => ?_, fun j a b => ?_⟩
      · by_cases z : j = M.1 72 17
        · rw [z, Us.1, Us.2]; omega
        · rw [(U j z).1, (U j z).2]; exact hd.1 j a (by omega)
      · rw [(U j (by omega)).2]
        by_cases z : j + 1 = M.1 72 17
        · rw [z, Us.1]
          have e : M.1 72 17 - 1 = j := by omega
          rw [e] at q
          exact q (by omega)
        · rw [(U (j + 1) z).1]
          exact hd.2 j a (by omega)
    · rw [es]
      intro j a b
      by_cases z : j = M.1 72 17
      · rw [z, Us.1, Us.2]; omega
      · rw [(U j z).1, (U j z).2]; exact hb j a (by omega)
    · unfold rN
      rw [es]
      constructor
      · rintro ⟨j, a, b, c, d⟩
        by_cases z : j = M.1 72 17
        · rw [z, Us.1] at c
          rw [z, Us.2] at d
          exact Or.inr ⟨c, d⟩
        · rw [(U j z).1] at c
          rw [(U j z).2] at d
          exact Or.inl ⟨j, a, by omega, c, d⟩
      · rintro (⟨j, a, b, c, d⟩ | ⟨a, b⟩)
        · exact ⟨j, a, by omega, by rw [(U j (by omega)).1]; exact c, by rw [(U j (by omega)).2]; exact d⟩
        · exact ⟨M.1 72 17, h0, by omega, by rw [Us.1]; exact a, by rw [Us.2]; exact b⟩
    · rw [es]
      have e : M.1 72 17 + 1 - 1 = M.1 72 17 := by omega
      rw [e, Us.1]
      exact Int.le_refl _
  refine vc36_0 ho ⟨by omega, by omega⟩ ⟨by omega, by omega⟩ ⟨fun q => rest (fun z => by omega), fun q => ⟨by omega, by omega, fun q2 => rest (fun _ => q2), fun q2 => ⟨by omega, by omega, fun q3 => ⟨by omega, by omega, by omega, by omega, ?_⟩, fun q3 => ⟨by omega, by omega, ?_⟩⟩⟩⟩
  all_goals
    have hlast' := hlast (by omega)
    have hd1 := hd.1 (M.1 72 17 - 1) (by omega) (by omega)
    have hb1 := hb (M.1 72 17 - 1) (by omega) (by omega)
  · have e : mm_putN M 86 (M.1 72 17 - 1) (M.1 86 (M.1 72 17 - 1)) = M := by
      refine Prod.ext ?_ rfl
      funext b j
      show (if b = 86 ∧ j = M.1 72 17 - 1 then _ else M.1 b j) = M.1 b j
      split
      · rename_i z
        rw [z.1, z.2]
      · rfl
    rw [e]
    refine Or.inl ⟨rfl, k M fr_refl hN (fun x => ⟨Or.inl, fun z => z.elim id (fun z => ?_)⟩) hlast⟩
    exact ⟨M.1 72 17 - 1, by omega, by omega, by omega, by omega⟩
  · have es : (mm_putN M 86 (M.1 72 17 - 1) r).1 72 17 = M.1 72 17 := put_a (by decide)
    have el : (mm_putN M 86 (M.1 72 17 - 1) r).1 85 = M.1 85 := by funext j; exact put_a (by decide)
    have er : ∀ j, j ≠ M.1 72 17 - 1 → (mm_putN M 86 (M.1 72 17 - 1) r).1 86 j = M.1 86 j := fun j z => put_k z
    have er2 : (mm_putN M 86 (M.1 72 17 - 1) r).1 86 (M.1 72 17 - 1) = r := put_eq
    have hfr : fr nS M (mm_putN M 86 (M.1 72 17 - 1) r) := fr_put (Or.inr (Or.inl rfl))
    generalize mm_putN M 86 (M.1 72 17 - 1) r = M1 at es el er er2 hfr
    refine Or.inl ⟨rfl, k M1 hfr ⟨by omega, ?_, ?_⟩ (fun x => ?_) (fun _ => ?_)⟩
    · rw [es, el]
      refine ⟨fun j a b => ?_, fun j a b => ?_⟩
      · by_cases z : j = M.1 72 17 - 1
        · rw [z, er2]; omega
        · rw [er j z]; exact hd.1 j a b
      · rw [er j (by omega)]; exact hd.2 j a b
    · rw [es, el]
      intro j a b
      by_cases z : j = M.1 72 17 - 1
      · rw [z, er2]; omega
      · rw [er j z]; exact hb j a b
    · unfold rN
      rw [es, el]
      constructor
      · rintro ⟨j, a, b, c, d⟩
        by_cases z : j = M.1 72 17 - 1
        · rw [z] at c d
          rw [er2] at d
          by_cases z2 : x < M.1 86 (M.1 72 17 - 1)
          · exact Or.inl ⟨M.1 72 17 - 1, by omega, by omega, c, z2⟩
          · exact Or.inr ⟨by omega, d⟩
        · rw [er j z] at d
          exact Or.inl ⟨j, a, b, c, d⟩
      · rintro (⟨j, a, b, c, d⟩ | ⟨a, b⟩)
        · refine ⟨j, a, b, c, ?_⟩
          by_cases z : j = M.1 72 17 - 1
          · rw [z] at d ⊢
            rw [er2]; omega
          · rw [er j z]; exact d
        · exact ⟨M.1 72 17 - 1, by omega, by omega, by omega, by rw [er2]; exact b⟩
    · rw [es, el]
      exact hlast'
end
