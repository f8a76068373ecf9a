/-! ===== CellAreas.Loops: length, goesRound ===== -/
/-- loop l of the class is the walk from p, m steps -/
def CLP (s : sh) (Mg M : mm_M) (l : Int) (p : wlk) (m : Nat) : Prop := wf s ∧ GL s Mg ∧ 0 ≤ l ∧ l < 400 ∧ 0 ≤ M.1 19 l ∧ M.1 19 (l + 1) ≤ 1600 ∧ isS (Cg s Mg) p ∧ trn (Cg s Mg) p (m - 1) ∧ LPC s Mg p m (M.1 19 l) (M.1 19 (l + 1)) (M.1 20)
section
variable {sc : Nat × (Int → Int)} {M : mm_M} {X : Nat → mm_M → Prop}
theorem c128 {K : Int → mm_M → Prop} {c : Int} (ho : mr_ok M) (c0 : 0 ≤ c) (c1 : c < 1601) (h : 0 ≤ M.1 20 c) (k : K (M.1 20 c % 2001 + (-1000)) M) : en_CI sc 128 [mm_r 17, mm_i c] M K X := vc128_0 ho ⟨c0, c1, h, Or.inl ⟨_, rfl, k⟩⟩
theorem c130 {K : Int → mm_M → Prop} {c : Int} (ho : mr_ok M) (c0 : 0 ≤ c) (c1 : c < 1601) (h : 0 ≤ M.1 20 c) (k : K (M.1 20 c / 2001 + (-1000)) M) : en_CI sc 130 [mm_r 17, mm_i c] M K X := vc130_0 ho ⟨c0, c1, h, Or.inl ⟨_, rfl, k⟩⟩
theorem c127 {K : Int → mm_M → Prop} {l c : Int} (ho : mr_ok M) (l0 : 0 ≤ l) (l1 : l < 400) (c0 : 0 ≤ c) (c1 : c < 1601) (k : K (if M.1 19 (l + 1) ≤ c + 1 then M.1 19 l else c + 1) M) : en_CI sc 127 [mm_r 17, mm_i l, mm_i c] M K X := by
  refine vc127_0 ho ⟨by omega, by omega, ⟨by omega, by omega⟩, fun q => ⟨l0, by omega, ?_⟩, fun q => ?_⟩
  · rw [if_pos q] at k
    exact Or.inl ⟨_, rfl, k⟩
  · rw [if_neg q] at k
    exact Or.inl ⟨_, rfl, k⟩
theorem c156 {K : Int → mm_M → Prop} {l : Int} (ho : mr_ok M) (l0 : 0 ≤ l) (l1 : l < 400) (k : K (M.1 19 (l + 1) - M.1 19 l) M) : en_CI sc 156 [mm_r 17, mm_i l] M K X := vc156_0 ho ⟨by omega, by omega, l0, by omega, Or.inl ⟨_, rfl, k⟩⟩
/-- the corner that stands at a time of the walk -/
theorem cor_xy {s : sh} {Mg : mm_M} {p : wlk} (w : wf s) (g : GL s Mg) (hp : isS (Cg s Mg) p) {c : Int} {t : Nat} (e : M.1 20 c = pq Mg (sti (Cg s Mg) t p)) : 0 ≤ M.1 20 c ∧ M.1 20 c % 2001 + (-1000) = px Mg (sti (Cg s Mg) t p) ∧ M.1 20 c / 2001 + (-1000) = py Mg (sti (Cg s Mg) t p) := by
  rw [e]
  exact pq_de w g (sti_isS hp t)
theorem str2 {s : sh} {Mg : mm_M} (g : GL s Mg) {p : wlk} (hp : isS (Cg s Mg) p) {t t' : Nat} (lt : t < t') (h : ∀ u, t ≤ u → u < t' → (sti (Cg s Mg) u p).2.2 = (sti (Cg s Mg) t p).2.2) :
    sumU (slen (Cg s Mg) Mg p) t' = sumU (slen (Cg s Mg) Mg p) t + (max (px Mg (sti (Cg s Mg) t' p) - px Mg (sti (Cg s Mg) t p)) (0 - (px Mg (sti (Cg s Mg) t' p) - px Mg (sti (Cg s Mg) t p))) + max (py Mg (sti (Cg s Mg) t' p) - py Mg (sti (Cg s Mg) t p)) (0 - (py Mg (sti (Cg s Mg) t' p) - py Mg (sti (Cg s Mg) t p)))) ∧
    sumU (srnd (Cg s Mg) Mg p) t' = sumU (srnd (Cg s Mg) Mg p) t + (px Mg (sti (Cg s Mg) t p) * py Mg (sti (Cg s Mg) t' p) - px Mg (sti (Cg s Mg) t' p) * py Mg (sti (Cg s Mg) t p)) := by
  have x := straight g hp t (t' - t) (fun u hu => h (t + u) (by omega) (by omega))
  rw [show t + (t' - t) = t' by omega] at x
  exact ⟨x.1, x.2.1⟩
theorem c131 {K : Int → mm_M → Prop} {s : sh} {Mg : mm_M} {l : Int} {p : wlk} {m : Nat} (ho : mr_ok M) (h : CLP s Mg M l p m) (k : K (sumU (slen (Cg s Mg) Mg p) m) M) : en_CI sc 131 [mm_r 17, mm_i l, mm_u, mm_u, mm_u] M K X := by
  obtain ⟨w, g, l0, l1, b0, b1, hp, tl, L⟩ := h
  have L' := L
  obtain ⟨m0, hm, nr, eb, h5, h6⟩ := L'
  have tg := tcn_ge (C := Cg s Mg) (p := p) m
  refine vc131_0 ho ⟨l0, by omega, ?_⟩
  have loop : ∀ (d t : Nat) (c x : Int) (l4 : mm_V), (M.1 19 (l + 1) - c).toNat ≤ d → M.1 19 l ≤ c → c ≤ M.1 19 (l + 1) → t ≤ m → tcn (Cg s Mg) p t = c - M.1 19 l → (t = 0 ∨ trn (Cg s Mg) p (t - 1)) → (c < M.1 19 (l + 1) → M.1 20 c = pq Mg (sti (Cg s Mg) t p)) → (c = M.1 19 (l + 1) → t = m) → x = sumU (slen (Cg s Mg) Mg p) t → en_R sc 131 9 [mm_r 17, mm_i l, mm_i x, mm_i c, l4] [] M (QI K X) := by
    intro d
    induction d with
    | zero =>
      intro t c x l4 hd c0 c1 t1 ht hc ec em ex
      refine vc131_9 ho ⟨by omega, by omega⟩ ⟨by omega, by omega, fun _ => Or.inl ⟨_, rfl, ?_⟩, fun q => absurd (by omega) q⟩
      rw [ex, em (by omega)]
      exact k
    | succ d ih =>
      intro t c x l4 hd c0 c1 t1 ht hc ec em ex
      refine vc131_9 ho ⟨by omega, by omega⟩ ⟨by omega, by omega, fun _ => Or.inl ⟨_, rfl, ?_⟩, fun q => ?_⟩
      · rw [ex, em (by omega)]
        exact k
      · have clt : c < M.1 19 (l + 1) := by omega
        obtain ⟨t', a1, a2, a3, a4, a5, a6, a7⟩ := nextc g hp L tl c0 clt t1 ht hc
        have S := str2 g hp a1 a7
        have D := cor_xy (M := M) w g hp (ec clt)
        have D' := cor_xy (M := M) w g hp a6
        refine c127 ho l0 l1 (by omega) (by omega) (fun _ => ?_)
        generalize hn : (if M.1 19 (l + 1) ≤ c + 1 then M.1 19 l else c + 1) = n at *
        have n0 : 0 ≤ n ∧ n < 1601 := by
          rw [← hn]
          split <;> omega
        have P := pxy_rg w g (sti_isS hp t)
        have P' := pxy_rg w g (sti_isS hp t')
        refine c128 ho n0.1 n0.2 D'.1 (fun _ => c128 ho (by omega) (by omega) D.1 (fun _ => ?_))
        rw [D.2.1, D'.2.1]
        refine ⟨⟨by omega, by omega⟩, c130 ho n0.1 n0.2 D'.1 (fun _ => c130 ho (by omega) (by omega) D.1 (fun _ => ?_))⟩
        rw [D.2.2, D'.2.2]
        refine ⟨⟨by omega, by omega⟩, ?_⟩
        refine ih t' (c + 1) _ _ (by omega) (by omega) (by omega) a2 a3 (Or.inr a4) (fun z => ?_) a5 ?_
        · rw [if_neg (by omega)] at hn
          rw [hn]; exact a6
        · rw [ex, S.1]
  exact loop _ 0 _ _ _ (Nat.le_refl _) (Int.le_refl _) (by omega) (Nat.zero_le _) (by show (0 : Int) = _; omega) (Or.inl rfl) (fun _ => h5) (fun z => by
    exfalso
    have a1 := tcn_1 tl
    rw [show m - 1 + 1 = m by omega] at a1
    have := tcn_ge (C := Cg s Mg) (p := p) (m - 1)
    omega) rfl
theorem c138 {K : Int → mm_M → Prop} {s : sh} {Mg : mm_M} {l : Int} {p : wlk} {m : Nat} (ho : mr_ok M) (h : CLP s Mg M l p m) (k : K (mr_ldiv (sumU (srnd (Cg s Mg) Mg p) m) 2) M) : en_CI sc 138 [mm_r 17, mm_i l, mm_u, mm_u, mm_u, mm_u] M K X := by
  obtain ⟨w, g, l0, l1, b0, b1, hp, tl, L⟩ := h
  have L' := L
  obtain ⟨m0, hm, nr, eb, h5, h6⟩ := L'
  have tg := tcn_ge (C := Cg s Mg) (p := p) m
  refine vc138_0 ho ⟨l0, by omega, ?_⟩
  have loop : ∀ (d t : Nat) (c x : Int) (l4 : mm_V), (M.1 19 (l + 1) - c).toNat ≤ d → M.1 19 l ≤ c → c ≤ M.1 19 (l + 1) → t ≤ m → tcn (Cg s Mg) p t = c - M.1 19 l → (t = 0 ∨ trn (Cg s Mg) p (t - 1)) → (c < M.1 19 (l + 1) → M.1 20 c = pq Mg (sti (Cg s Mg) t p)) → (c = M.1 19 (l + 1) → t = m) → x = sumU (srnd (Cg s Mg) Mg p) t → en_R sc 138 10 [mm_r 17, mm_i l, mm_j x, mm_u, mm_i c, l4] [] M (QI K X) := by
    intro d
    induction d with
    | zero =>
      intro t c x l4 hd c0 c1 t1 ht hc ec em ex
      refine vc138_10 ho ⟨by omega, by omega⟩ ⟨by omega, by omega, fun _ => Or.inl ⟨_, rfl, ?_⟩, fun q => absurd (by omega) q⟩
      rw [ex, em (by omega)]
      exact k
    | succ d ih =>
      intro t c x l4 hd c0 c1 t1 ht hc ec em ex
      refine vc138_10 ho ⟨by omega, by omega⟩ ⟨by omega, by omega, fun _ => Or.inl ⟨_, rfl, ?_⟩, fun q => ?_⟩
      · rw [ex, em (by omega)]
        exact k
      · have clt : c < M.1 19 (l + 1) := by omega
        obtain ⟨t', a1, a2, a3, a4, a5, a6, a7⟩ := nextc g hp L tl c0 clt t1 ht hc
        have S := str2 g hp a1 a7
        have D := cor_xy (M := M) w g hp (ec clt)
        have D' := cor_xy (M := M) w g hp a6
        refine c127 ho l0 l1 (by omega) (by omega) (fun _ => ?_)
        generalize hn : (if M.1 19 (l + 1) ≤ c + 1 then M.1 19 l else c + 1) = n at *
        have n0 : 0 ≤ n ∧ n < 1601 := by
          rw [← hn]
          split <;> omega
        have P := pxy_rg w g (sti_isS hp t)
        have P' := pxy_rg w g (sti_isS hp t')
        refine c128 ho (by omega) (by omega) D.1 (fun _ => ?_)
        rw [D.2.1]
        refine ⟨⟨by omega, by omega⟩, c130 ho n0.1 n0.2 D'.1 (fun _ => ?_)⟩
        rw [D'.2.2]
        refine ⟨⟨by omega, by omega⟩, c128 ho n0.1 n0.2 D'.1 (fun _ => ?_)⟩
        rw [D'.2.1]
        refine ⟨⟨by omega, by omega⟩, c130 ho (by omega) (by omega) D.1 (fun _ => ?_)⟩
        rw [D.2.2]
        refine ⟨⟨by omega, by omega⟩, ?_⟩
        refine ih t' (c + 1) _ _ (by omega) (by omega) (by omega) a2 a3 (Or.inr a4) (fun z => ?_) a5 ?_
        · rw [if_neg (by omega)] at hn
          rw [hn]; exact a6
        · rw [ex, S.2]
  exact loop _ 0 _ _ _ (Nat.le_refl _) (Int.le_refl _) (by omega) (Nat.zero_le _) (by show (0 : Int) = _; omega) (Or.inl rfl) (fun _ => h5) (fun z => by
    exfalso
    have a1 := tcn_1 tl
    rw [show m - 1 + 1 = m by omega] at a1
    have := tcn_ge (C := Cg s Mg) (p := p) (m - 1)
    omega) rfl
end
