/-! ===== endingBehind, stretchAt ===== -/
/-- band i is NONE or one of the area's -/
def bIs (M : mm_M) (a : Nat) (i : Int) : Prop := i = -1 ∨ (0 ≤ i ∧ i < M.1 a 0)
theorem bIs_ds {M : mm_M} {a : Nat} (h : AW M a) {i : Int} (hi : bIs M a i) : 0 ≤ bSt M a i ∧ bSt M a i ≤ bEn M a i ∧ bEn M a i ≤ 400 ∧ ds (bSt M a i) (bEn M a i) (M.1 (a + 4)) (M.1 (a + 5)) := by
  unfold bSt bEn
  rcases hi with e | ⟨i0, i1⟩
  · rw [if_pos e, if_pos e]
    exact ⟨by decide, by decide, by decide, fun k a b => absurd b (by omega), fun k a b => absurd b (by omega)⟩
  · rw [if_neg (by omega), if_neg (by omega)]
    have x1 := AW_st h i0 (by omega)
    have x2 := AW_st h (by omega : 0 ≤ i + 1) (by omega)
    have b := h.2.1.2.2.1 i i0 i1
    have x3 : M.1 (a + 3) i < M.1 (a + 3) (i + 1) := b.1
    exact ⟨x1.1, by omega, x2.2, b.2.2.2.2.1⟩
section
variable {sc : Nat × (Int → Int)} {M : mm_M} {X : Nat → mm_M → Prop}
/-- Area.endingBehind -/
theorem c81 {K : Int → mm_M → Prop} {a : Nat} {i x : Int} (ho : mr_ok M) (h : AW M a) (hi : bIs M a i) (hx : mr_rg x)
    (k : ∀ s, bSt M a i ≤ s → s ≤ bEn M a i → (∀ j, bSt M a i ≤ j → j < s → M.1 (a + 5) j ≤ x) → (∀ j, s ≤ j → j < bEn M a i → x < M.1 (a + 5) j) → K s M) : en_CI sc 81 [mm_r a, mm_i i, mm_i x, mm_u, mm_u, mm_u] M K X := by
  have hA := h.1
  have hn := h.2.2.1
  obtain ⟨b0, b1, b2, hd⟩ := bIs_ds h hi
  have ir : -1 ≤ i ∧ i < 100 := by
    unfold bIs at hi
    have : 0 ≤ M.1 a 0 := h.2.1.1
    omega
  have mono : ∀ j j', bSt M a i ≤ j → j ≤ j' → j' < bEn M a i → M.1 (a + 5) j ≤ M.1 (a + 5) j' := by
    intro j j' q0 q1 q2
    by_cases e : j = j'
    · rw [e]; exact Int.le_refl _
    · have x1 := ds_mono hd q0 (by omega : j < j') q2
      have x2 := hd.1 j' (by omega) q2
      omega
  have loop : ∀ (c : Nat) (f t : Int) (l5 : mm_V), (t - f).toNat < c → bSt M a i ≤ f → f ≤ t → t ≤ bEn M a i → (∀ j, bSt M a i ≤ j → j < f → M.1 (a + 5) j ≤ x) → (∀ j, t ≤ j → j < bEn M a i → x < M.1 (a + 5) j) →
      en_R sc 81 35 [mm_r a, mm_i i, mm_i x, mm_i f, mm_i t, l5] [] M (fun r M1 => (∃ x, r = .inl (some (mm_i x)) ∧ K x M1) ∨ ∃ e, r = .inr e ∧ e < 100 ∧ X e M1) := by
    intro c
    induction c with
    | zero => intro f t l5 hc; omega
    | succ c ih =>
      intro f t l5 hc f0 ft tn hlo hhi
      refine vc81_35 ho ⟨by omega, by omega⟩ ⟨by omega, by omega⟩ hA hx ⟨fun q => Or.inl ⟨_, rfl, k f f0 (by omega) hlo (fun j j0 j1 => hhi j (by omega) j1)⟩, fun q => ⟨⟨by omega, by omega⟩, by omega, by omega, by omega, fun q2 => ?_, fun q2 => ?_⟩⟩
      · refine ih _ _ _ (by omega) (by omega) (by omega) tn (fun j j0 j1 => ?_) hhi
        have := mono j ((f + t) / 2) j0 (by omega) (by omega)
        omega
      · refine ih _ _ _ (by omega) f0 (by omega) (by omega) hlo (fun j j0 j1 => ?_)
        have := mono ((f + t) / 2) j (by omega) j0 j1
        omega
  have fin := loop _ (bSt M a i) (bEn M a i) mm_u (Nat.lt_succ_self _) (Int.le_refl _) b1 (Int.le_refl _) (fun j p q => absurd q (by omega)) (fun j p q => absurd q (by omega))
  have fin2 : en_R sc 81 15 [mm_r a, mm_i i, mm_i x, mm_u, mm_u, mm_u] [mm_i (bSt M a i)] M (fun r M1 => (∃ x, r = .inl (some (mm_i x)) ∧ K x M1) ∨ ∃ e, r = .inr e ∧ e < 100 ∧ X e M1) := by
    unfold bEn at fin
    refine vc81_15 ho ⟨by omega, by omega⟩ hA ⟨fun q => ⟨by omega, by omega, ?_⟩, fun q => ?_⟩
    · rwa [if_neg q] at fin
    · rwa [if_pos (Classical.byContradiction q)] at fin
  unfold bSt at fin2
  refine vc81_0 ho ⟨by omega, by omega⟩ hA ⟨fun q => ⟨by omega, by omega, ?_⟩, fun q => ?_⟩
  · rwa [if_neg q] at fin2
  · rwa [if_pos (Classical.byContradiction q)] at fin2
/-- Area.stretchAt -/
theorem c82 {K : Int → mm_M → Prop} {a : Nat} {i x : Int} (ho : mr_ok M) (h : AW M a) (hi : bIs M a i) (hx : mr_rg x)
    (k1 : (∀ j, bSt M a i ≤ j → j < bEn M a i → ¬ (M.1 (a + 4) j ≤ x ∧ x < M.1 (a + 5) j)) → K (-1) M) (k2 : ∀ s, bSt M a i ≤ s → s < bEn M a i → M.1 (a + 4) s ≤ x → x < M.1 (a + 5) s → K s M) : en_CI sc 82 [mm_r a, mm_i i, mm_i x, mm_u] M K X := by
  have hA := h.1
  have hn := h.2.2.1
  obtain ⟨b0, b1, b2, hd⟩ := bIs_ds h hi
  have ir : -1 ≤ i ∧ i < 100 := by
    unfold bIs at hi
    have : 0 ≤ M.1 a 0 := h.2.1.1
    omega
  refine vc82_0 ho hA hx (c81 ho h hi hx (fun s s0 s1 lo hi' _ => c51 ho hA ir.1 ir.2 (fun _ => ⟨⟨by omega, by omega⟩, ⟨by omega, by omega⟩, fun q => Or.inl ⟨_, rfl, k1 (fun j j0 j1 g => ?_)⟩, fun q => ⟨by omega, by omega, fun q2 => Or.inl ⟨_, rfl, k1 (fun j j0 j1 g => ?_)⟩, fun q2 => Or.inl ⟨_, rfl, k2 s s0 (by omega) (by omega) (hi' s (Int.le_refl _) (by omega))⟩⟩⟩)))
  · have := lo j j0 (by omega)
    omega
  · by_cases z : j < s
    · have := lo j j0 z
      omega
    · by_cases z2 : j = s
      · rw [z2] at g
        omega
      · have y1 := ds_mono hd s0 (by omega : s < j) j1
        have y2 := hd.1 s s0 (by omega)
        omega
end
