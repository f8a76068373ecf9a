/-! ===== CellAreas.Parts ===== -/
abbrev pS22 : Nat → Int → Prop := fun a _ => a = 22
abbrev pS : Nat → Int → Prop := fun a k => a = 22 ∨ (a = 21 ∧ k = 0)
theorem pS_A {A : Nat} (hA : mr_A A) : ∀ b (k : Int), A ≤ b → b ≤ A + 5 → ¬ pS b k := by
  intro b k h0 h1 h2
  have h2' : b = 22 ∨ (b = 21 ∧ k = 0) := h2
  unfold mr_A at hA
  omega
section
variable {sc : Nat × (Int → Int)} {M : mm_M} {X : Nat → mm_M → Prop}
theorem c133 {K : Int → mm_M → Prop} {s : sh} {t : Int → Int} {k : Int} (ho : mr_ok M) (hn : nS_ s ≤ 400) (h : UF s (M.1 22) t) (k0 : 0 ≤ k) (k1 : k < nS_ s) (kk : K (t k) M) : en_CI sc 133 [mm_r 21, mm_i k, mm_u] M K X := by
  refine vc133_0 ho ?_
  have loop : ∀ (c : Nat) (e : Int), e.toNat ≤ c → 0 ≤ e → e < nS_ s → t e = t k → en_R sc 133 2 [mm_r 21, mm_i k, mm_i e] [] M (QI K X) := by
    intro c
    induction c with
    | zero =>
      intro e hc e0 e1 et
      obtain ⟨w1, w2, w3, w4, _⟩ := h e e0 e1
      refine vc133_2 ho ⟨by omega, by omega⟩ ⟨e0, by omega, fun q => Or.inl ⟨_, rfl, ?_⟩, fun q => absurd (by omega) q⟩
      have : t e = e := w4 (by omega)
      rw [← this, et]
      exact kk
    | succ c ih =>
      intro e hc e0 e1 et
      obtain ⟨w1, w2, w3, w4, _⟩ := h e e0 e1
      refine vc133_2 ho ⟨by omega, by omega⟩ ⟨e0, by omega, fun q => Or.inl ⟨_, rfl, ?_⟩, fun q => ⟨e0, by omega, ih _ (by omega) w1 (by omega) (by rw [w3]; exact et)⟩⟩
      have : t e = e := w4 (by omega)
      rw [← this, et]
      exact kk
  exact loop _ k (Nat.le_refl _) k0 k1 rfl
theorem c134 {K : mm_M → Prop} {s : sh} {t : Int → Int} {a b : Int} (ho : mr_ok M) (hn : nS_ s ≤ 400) (h : UF s (M.1 22) t) (a0 : 0 ≤ a) (a1 : a < nS_ s) (b0 : 0 ≤ b) (b1 : b < nS_ s) (q : cnn s a b)
    (k : ∀ M1 t', fr pS22 M M1 → UF s (M1.1 22) t' → (∀ e f, t e = t f → t' e = t' f) → t' a = t' b → K M1) : en_CV sc 134 [mm_r 21, mm_i a, mm_i b, mm_u, mm_u] M K X := by
  have x := h a a0 a1
  have y := h b b0 b1
  refine vc134_0 ho (c133 ho hn h a0 a1 (fun _ => c133 ho hn h b0 b1 (fun _ => ⟨⟨by omega, by omega⟩, ⟨by omega, by omega⟩, by omega, by omega, ⟨by omega, by omega⟩, Or.inl ⟨rfl, k _ (fun k => if t k = max (t a) (t b) then min (t a) (t b) else t k) (fr_put rfl) (UF_join h a0 a1 b0 b1 q (fun k z => put_k z) put_eq) (fun e f z => by simp only [z]) ?_⟩⟩)))
  show (if t a = max (t a) (t b) then min (t a) (t b) else t a) = (if t b = max (t a) (t b) then min (t a) (t b) else t b)
  split <;> split <;> omega
/-- CellAreas.Parts.joinBands -/
theorem c135 {K : mm_M → Prop} {A : Nat} {s : sh} {t : Int → Int} {i v : Int} (ho : mr_ok M) (hA : AW M A) (hs : rdA M A = s) (h : UF s (M.1 22) t) (i0 : 0 ≤ i) (i1 : i < sn s) (hv : v = -1 ∨ (v = i + 1 ∧ i + 1 < sn s ∧ shi s i = slo s (i + 1)))
    (k : ∀ M1 t', fr pS22 M M1 → UF s (M1.1 22) t' → (∀ e f, t e = t f → t' e = t' f) → (v ≠ -1 → ∀ e f, sst s i ≤ e → e < sst s (i + 1) → sst s (i + 1) ≤ f → f < sst s (i + 2) → slf s e < srt s f → slf s f < srt s e → t' e = t' f) → K M1) : en_CV sc 135 [mm_r 21, mm_r A, mm_i i, mm_i v, mm_u, mm_u] M K X := by
  have w : wf s := by rw [← hs]; exact hA.2.1
  have n1 : sn s ≤ 100 := by rw [← hs]; exact hA.2.2.1
  have nS : nS_ s ≤ 400 := by rw [← hs]; exact hA.2.2.2
  have rr := rdA_row hs i i0
  have z0 := sst_mono w (Int.le_refl 0) i0 (show i ≤ sn s by omega)
  have z1 := sst_mono w (show 0 ≤ i + 1 by omega) (show i + 1 ≤ sn s by omega) (Int.le_refl _)
  rw [w.2.1] at z0
  have nS' : sst s (sn s) ≤ 400 := nS
  have bi := (w.2.2.1 i i0 i1).1
  refine vc135_0 ho hA.1 (c50 ho hA.1 (by omega) (by omega) (fun _ => c50 ho hA.1 (by omega) (by omega) (fun _ => ?_)))
  rw [rr.1]
  rcases hv with hv | ⟨hv, v1, v2⟩
  · rw [hv] at k ⊢
    refine vc135_14 ho hA.1 ⟨by omega, by omega⟩ ⟨by unfold bSt; rw [if_pos rfl]; decide, by unfold bSt; rw [if_pos rfl]; decide⟩ (c51 ho hA.1 (by omega) (by omega) (fun _ => ?_))
    rw [rr.2.1]
    refine ⟨⟨by omega, by omega⟩, fun q => absurd q (by omega), fun _ => c51 ho hA.1 (by decide) (by decide) (fun _ => ?_)⟩
    have e1 : bEn M A (-1) = 0 := if_pos rfl
    have e2 : bSt M A (-1) = 0 := if_pos rfl
    rw [e1, e2]
    exact ⟨⟨by decide, by decide⟩, fun _ => Or.inl ⟨rfl, k M t fr_refl h (fun _ _ z => z) (fun z => absurd rfl z)⟩, fun q => absurd (by decide) q⟩
  · have r2 := rdA_row hs (i + 1) (by omega)
    rw [hv] at k ⊢
    rw [r2.1]
    have e12 : i + 1 + 1 = i + 2 := by omega
    have bi2 := (w.2.2.1 (i + 1) (by omega) v1).1
    rw [e12] at bi2
    have z2 := sst_mono w (show 0 ≤ i + 2 by omega) (show i + 2 ≤ sn s by omega) (Int.le_refl _)
    have dA := (w.2.2.1 i i0 i1).2.2.2.2.1
    have dB := (w.2.2.1 (i + 1) (by omega) v1).2.2.2.2.1
    rw [e12] at dB
    have loop : ∀ (c : Nat) (a b : Int) (M' : mm_M) (t' : Int → Int), (sst s (i + 1) - a + (sst s (i + 2) - b)).toNat ≤ c → sst s i ≤ a → a ≤ sst s (i + 1) → sst s (i + 1) ≤ b → b ≤ sst s (i + 2) → mr_ok M' → fr pS22 M M' → UF s (M'.1 22) t' → (∀ e f, t e = t f → t' e = t' f) → (∀ e f, sst s i ≤ e → e < sst s (i + 1) → sst s (i + 1) ≤ f → f < sst s (i + 2) → (e < a ∨ f < b) → slf s e < srt s f → slf s f < srt s e → t' e = t' f) → en_R sc 135 14 [mm_r 21, mm_r A, mm_i i, mm_i (i + 1), mm_i a, mm_i b] [] M' (QV K X) := by
      intro c
      induction c with
      | zero =>
        intro a b M' t' hc a0 a1 b0 b1 ho' hf hU hm hp
        have s' : rdA M' A = s := (rdA_fr hf (fun x y h0 h1 z => by have z' : x = 22 := z; have := hA.1; unfold mr_A at this; omega)).trans hs
        have rr := rdA_row s' i i0
        refine vc135_14 ho' hA.1 ⟨by omega, by omega⟩ ⟨by omega, by omega⟩ (c51 ho' hA.1 (by omega) (by omega) (fun _ => ?_))
        rw [rr.2.1]
        exact ⟨⟨by omega, by omega⟩, fun _ => Or.inl ⟨rfl, k M' t' hf hU hm (fun _ e f e0 e1 f0 f1 => hp e f e0 e1 f0 f1 (by omega))⟩, fun q => absurd (by omega) q⟩
      | succ c ih =>
        intro a b M' t' hc a0 a1 b0 b1 ho' hf hU hm hp
        have s' : rdA M' A = s := (rdA_fr hf (fun x y h0 h1 z => by have z' : x = 22 := z; have := hA.1; unfold mr_A at this; omega)).trans hs
        have rr := rdA_row s' i i0
        have r2 := rdA_row s' (i + 1) (by omega)
        rw [e12] at r2
        refine vc135_14 ho' hA.1 ⟨by omega, by omega⟩ ⟨by omega, by omega⟩ (c51 ho' hA.1 (by omega) (by omega) (fun _ => ?_))
        rw [rr.2.1]
        refine ⟨⟨by omega, by omega⟩, fun _ => Or.inl ⟨rfl, k M' t' hf hU hm (fun _ e f e0 e1 f0 f1 => hp e f e0 e1 f0 f1 (by omega))⟩, fun q => c51 ho' hA.1 (by omega) (by omega) (fun _ => ?_)⟩
        rw [r2.2.1]
        refine ⟨⟨by omega, by omega⟩, fun _ => Or.inl ⟨rfl, k M' t' hf hU hm (fun _ e f e0 e1 f0 f1 => hp e f e0 e1 f0 f1 (by omega))⟩, fun q2 => ?_⟩
        have step : ∀ (M2 : mm_M) (t2 : Int → Int), mr_ok M2 → fr pS22 M M2 → UF s (M2.1 22) t2 → (∀ e f, t' e = t' f → t2 e = t2 f) → (slf s a < srt s b → slf s b < srt s a → t2 a = t2 b) → en_R sc 135 76 [mm_r 21, mm_r A, mm_i i, mm_i (i + 1), mm_i a, mm_i b] [] M2 (QV K X) := by
          intro M2 t2 ho2 hf2 hU2 hm2 hab
          have s2 : rdA M2 A = s := (rdA_fr hf2 (fun x y h0 h1 z => by have z' : x = 22 := z; have := hA.1; unfold mr_A at this; omega)).trans hs
          have r3 := rdA_row s2 i i0
          refine vc135_76 ho2 hA.1 ?_
          rw [r3.2.2.2.1]
          have ga := dA.1 a a0 (by omega)
          have gb := dB.1 b b0 (by omega)
          refine ⟨by omega, by omega, by omega, by omega, fun q3 => ih a (b + 1) M2 t2 (by omega) a0 a1 (by omega) (by omega) ho2 hf2 hU2 (fun e f z => hm2 e f (hm e f z)) (fun e f e0 e1 f0 f1 d o1 o2 => ?_), fun q3 => ih (a + 1) b M2 t2 (by omega) (by omega) (by omega) b0 b1 ho2 hf2 hU2 (fun e f z => hm2 e f (hm e f z)) (fun e f e0 e1 f0 f1 d o1 o2 => ?_)⟩
          · by_cases y : e < a ∨ f < b
            · exact hm2 e f (hp e f e0 e1 f0 f1 y o1 o2)
            · have ef : f = b := by omega
              rw [ef] at o1 o2 ⊢
              by_cases y2 : e = a
              · rw [y2] at o1 o2 ⊢
                exact hab o1 o2
              · have := ds_mono dA a0 (show a < e by omega) e1
                omega
          · by_cases y : e < a ∨ f < b
            · exact hm2 e f (hp e f e0 e1 f0 f1 y o1 o2)
            · have ef : e = a := by omega
              rw [ef] at o1 o2 ⊢
              by_cases y2 : f = b
              · rw [y2] at o1 o2 ⊢
                exact hab o1 o2
              · have := ds_mono dB b0 (show b < f by omega) f1
                omega
        rw [rr.2.2.1, rr.2.2.2.1]
        refine ⟨by omega, by omega, by omega, by omega, fun q3 => step M' t' ho' hf hU (fun _ _ z => z) (fun z => absurd z (by omega)), fun q3 => ⟨by omega, by omega, by omega, by omega, fun q4 => step M' t' ho' hf hU (fun _ _ z => z) (fun _ z => absurd z (by omega)), fun q4 => ?_⟩⟩
        refine c134 ho' nS hU (by omega) (show a < sst s (sn s) by omega) (by omega) (show b < sst s (sn s) by omega) (cnn_lnk ⟨i, i0, v1, v2, a0, by omega, b0, by omega, by omega, by omega⟩) (fun M2 t2 f2 U2 m2 e2 ho2 => step M2 t2 ho2 (fr_trans hf f2) U2 m2 (fun _ _ => e2))
    exact loop _ _ _ M t (Nat.le_refl _) (Int.le_refl _) (by omega) (Int.le_refl _) (by omega) ho fr_refl h (fun _ _ z => z) (fun e f e0 e1 f0 f1 d => by omega)
/-- CellAreas.Parts.find -/
theorem c136 {K : mm_M → Prop} {A : Nat} (ho : mr_ok M) (hA : AW M A) (k : ∀ M1, fr pS M M1 → PN (rdA M A) (M1.1 22) (M1.1 21 0) → K M1) : en_CV sc 136 [mm_r 21, mm_r A, mm_u] M K X := by
  generalize hs : rdA M A = s at k
  have w : wf s := by rw [← hs]; exact hA.2.1
  have n0 := w.1
  have n1 : sn s ≤ 100 := by rw [← hs]; exact hA.2.2.1
  have nS : nS_ s ≤ 400 := by rw [← hs]; exact hA.2.2.2
  have nS' : sst s (sn s) ≤ 400 := nS
  have N0 := sst_mono w (Int.le_refl 0) n0 (Int.le_refl _)
  rw [w.2.1] at N0
  have keep : ∀ M' : mm_M, fr pS M M' → AW M' A ∧ rdA M' A = s := fun M' f => ⟨AW_fr f (pS_A hA.1) hA, (rdA_fr f (pS_A hA.1)).trans hs⟩
  have p22 : ∀ M1 M2 : mm_M, fr pS22 M1 M2 → fr pS M1 M2 := fun M1 M2 f => fr_mono f (fun a k z => Or.inl z)
  -- the numbers
  have third : ∀ (c : Nat) (n : Int) (p : Int → Int) (M' : mm_M), PP s p → c = (sst s (sn s) - n).toNat → 0 ≤ n → n ≤ sst s (sn s) → mr_ok M' → fr pS M M' → PH s p (M'.1 22) n (M'.1 21 0) → en_R sc 136 57 [mm_r 21, mm_r A, mm_i n] [] M' (QV K X) := by
    intro c
    induction c with
    | zero =>
      intro n p M' hp hc n0' n1' ho' hf hP
      obtain ⟨A', s'⟩ := keep M' hf
      have rr := rdA_row s' 0 (Int.le_refl 0)
      have en : n = sst s (sn s) := by omega
      rw [en] at hP
      refine vc136_57 ho' hA.1 ⟨by omega, by omega⟩ (c79 ho' A' (fun _ => ?_))
      rw [rr.2.2.2.2.2.2.1, rr.2.2.2.2.2.2.2]
      exact ⟨⟨by omega, by omega⟩, fun _ => Or.inl ⟨rfl, k M' hf (PH_end hP)⟩, fun q => absurd (by omega) q⟩
    | succ c ih =>
      intro n p M' hp hc n0' n1' ho' hf hP
      obtain ⟨A', s'⟩ := keep M' hf
      have rr := rdA_row s' 0 (Int.le_refl 0)
      obtain ⟨p0, p1, p2, p3⟩ := hp n n0' (show n < sst s (sn s) by omega)
      have e22 : M'.1 22 n = p n := hP.1 n (Int.le_refl _) (show n < sst s (sn s) by omega)
      have cr := cntR_rg (root s) n.toNat
      have ec : M'.1 21 0 = cntR (root s) n.toNat := hP.2.2.2
      refine vc136_57 ho' hA.1 ⟨by omega, by omega⟩ (c79 ho' A' (fun _ => ?_))
      rw [rr.2.2.2.2.2.2.1, rr.2.2.2.2.2.2.2, e22]
      refine ⟨⟨by omega, by omega⟩, fun q => absurd q (by omega), fun _ => ⟨n0', by omega, fun q => ⟨n0', by omega, p0, by omega, n0', by omega, ?_⟩, fun q => ⟨⟨by omega, by omega⟩, n0', by omega, ?_⟩⟩⟩
      · have r1 : mr_rg (M'.1 22 (p n)) := ho'.2.1 _ _ (by unfold mr_lg; omega)
        refine ih (n + 1) p _ hp (by omega) (by omega) (by omega) (mr_ok_putI ho' r1) (fr_trans hf (fr_put (Or.inl rfl))) ?_
        have e21 : (mm_putN M' 22 n (M'.1 22 (p n))).1 21 0 = M'.1 21 0 := put_a (by decide)
        rw [e21]
        refine PH_step hp hP n0' (show n < sst s (sn s) by omega) (fun k z => put_k z) ?_ ?_
        · rw [put_eq, if_neg q]
        · rw [if_neg q]
      · have q' : p n = n := Classical.byContradiction q
        refine ih (n + 1) p _ hp (by omega) (by omega) (by omega) (mr_ok_putI (mr_ok_putI ho' ⟨by omega, by omega⟩) ⟨by omega, by omega⟩) (fr_trans hf (fr_trans (fr_put (Or.inr ⟨rfl, rfl⟩)) (fr_put (Or.inl rfl)))) ?_
        have e21 : (mm_putN (mm_putN M' 21 0 (M'.1 21 0 + 1)) 22 n (M'.1 21 0)).1 21 0 = M'.1 21 0 + 1 := by rw [put_a (by decide), put_eq]
        rw [e21]
        refine PH_step hp hP n0' (show n < sst s (sn s) by omega) (fun k z => by rw [put_k z, put_a (by decide)]) ?_ ?_
        · rw [put_eq, if_pos q']
        · rw [if_pos q']
  -- the links
  have second : ∀ (c : Nat) (i : Int) (M' : mm_M) (t : Int → Int), c = (sn s - i).toNat → 0 ≤ i → i ≤ sn s → mr_ok M' → fr pS M M' → UF s (M'.1 22) t → (∀ e f j, 0 ≤ j → j < i → j + 1 < sn s → shi s j = slo s (j + 1) → sst s j ≤ e → e < sst s (j + 1) → sst s (j + 1) ≤ f → f < sst s (j + 2) → slf s e < srt s f → slf s f < srt s e → t e = t f) → en_R sc 136 25 [mm_r 21, mm_r A, mm_i i] [] M' (QV K X) := by
    intro c
    induction c with
    | zero =>
      intro i M' t hc i0 i1 ho' hf hU hp
      obtain ⟨A', s'⟩ := keep M' hf
      have rr := rdA_row s' 0 (Int.le_refl 0)
      refine vc136_25 ho' hA.1 ⟨by omega, by omega⟩ ?_
      rw [rr.2.2.2.2.2.2.1]
      refine ⟨fun _ => third _ 0 (M'.1 22) _ (UF_PP hU (fun a b g => lnk_rg w g) (fun a b g => ?_)) rfl (Int.le_refl _) N0 (mr_ok_putI ho' ⟨by decide, by decide⟩) (fr_trans hf (fr_put (Or.inr ⟨rfl, rfl⟩))) ?_, fun q => absurd (by omega) q⟩
      · obtain ⟨j, j0, j1, j2, a0, a1, b0, b1, c, d⟩ := g
        exact hp a b j j0 (by omega) j1 j2 a0 a1 b0 b1 c d
      · have e21 : (mm_putN M' 21 0 0).1 21 0 = 0 := put_eq
        rw [e21]
        exact PH_0 (fun k _ _ => put_a (by decide))
    | succ c ih =>
      intro i M' t hc i0 i1 ho' hf hU hp
      obtain ⟨A', s'⟩ := keep M' hf
      have rr := rdA_row s' i i0
      refine vc136_25 ho' hA.1 ⟨by omega, by omega⟩ ?_
      rw [rr.2.2.2.2.2.2.1]
      have go : ∀ v, (v = -1 ∨ (v = i + 1 ∧ i + 1 < sn s ∧ shi s i = slo s (i + 1))) → (v = -1 → ¬ (i + 1 < sn s ∧ shi s i = slo s (i + 1))) → en_CV sc 135 [mm_r 21, mm_r A, mm_i i, mm_i v, mm_u, mm_u] M' (fun M5 => mr_ok M5 → en_R sc 136 25 [mm_r 21, mm_r A, mm_i (i + 1)] [] M5 (QV K X)) (fun e M9 => QV K X (.inr e) M9) := by
        intro v hv hv2
        refine c135 ho' A' s' hU i0 (by omega) hv (fun M2 t2 f2 U2 m2 l2 ho2 => ?_)
        refine ih (i + 1) M2 t2 (by omega) (by omega) (by omega) ho2 (fr_trans hf (p22 _ _ f2)) U2 (fun e f j j0 j1 j2 j3 e0 e1 f0 f1 o1 o2 => ?_)
        by_cases y : j = i
        · rw [y] at j2 j3 e0 e1 f0 f1
          exact l2 (fun z => hv2 z ⟨j2, j3⟩) e f e0 e1 f0 f1 o1 o2
        · exact m2 e f (hp e f j j0 (by omega) j2 j3 e0 e1 f0 f1 o1 o2)
      refine ⟨fun q => absurd q (by omega), fun _ => c119 ho' A' i0 (by omega) (fun no _ => go (-1) (Or.inl rfl) (fun _ z => no ?_)) (fun y0 y1 _ => go (i + 1) (Or.inr ⟨rfl, ?_, ?_⟩) (fun z => absurd z (by omega)))⟩
      · rw [rr.2.2.2.2.2.2.1, rr.2.2.2.2.1, rr.2.2.2.2.2.1]
        exact ⟨z.1, z.2.symm⟩
      · rw [rr.2.2.2.2.2.2.1] at y0
        exact y0
      · rw [rr.2.2.2.2.1, rr.2.2.2.2.2.1] at y1
        exact y1.symm
  -- each for itself
  have first : ∀ (c : Nat) (n : Int) (M' : mm_M), c = (sst s (sn s) - n).toNat → 0 ≤ n → n ≤ sst s (sn s) → mr_ok M' → fr pS M M' → (∀ k, 0 ≤ k → k < n → M'.1 22 k = k) → en_R sc 136 2 [mm_r 21, mm_r A, mm_i n] [] M' (QV K X) := by
    intro c
    induction c with
    | zero =>
      intro n M' hc n0' n1' ho' hf hP
      obtain ⟨A', s'⟩ := keep M' hf
      have rr := rdA_row s' 0 (Int.le_refl 0)
      refine vc136_2 ho' hA.1 ⟨by omega, by omega⟩ (c79 ho' A' (fun _ => ?_))
      rw [rr.2.2.2.2.2.2.1, rr.2.2.2.2.2.2.2]
      refine ⟨⟨by omega, by omega⟩, fun _ => second _ 0 M' (fun k => k) rfl (Int.le_refl _) n0 ho' hf (fun k k0 k1 => ?_) (fun e f j j0 j1 => absurd j1 (by omega)), fun q => absurd (by omega) q⟩
      have k1' : k < sst s (sn s) := k1
      have e := hP k k0 (by omega)
      show 0 ≤ M'.1 22 k ∧ M'.1 22 k ≤ k ∧ M'.1 22 k = k ∧ (M'.1 22 k = k → k = k) ∧ 0 ≤ k ∧ k ≤ k ∧ M'.1 22 k = k ∧ cnn s k k
      exact ⟨by omega, by omega, e, fun _ => rfl, k0, Int.le_refl _, e, cnn_refl k⟩
    | succ c ih =>
      intro n M' hc n0' n1' ho' hf hP
      obtain ⟨A', s'⟩ := keep M' hf
      have rr := rdA_row s' 0 (Int.le_refl 0)
      refine vc136_2 ho' hA.1 ⟨by omega, by omega⟩ (c79 ho' A' (fun _ => ?_))
      rw [rr.2.2.2.2.2.2.1, rr.2.2.2.2.2.2.2]
      refine ⟨⟨by omega, by omega⟩, fun q => absurd q (by omega), fun _ => ⟨n0', by omega, ih (n + 1) _ (by omega) (by omega) (by omega) (mr_ok_putI ho' ⟨by omega, by omega⟩) (fr_trans hf (fr_put (Or.inl rfl))) (fun k k0 k1 => ?_)⟩⟩
      by_cases z : k = n
      · rw [z, put_eq]
      · rw [put_k z]
        exact hP k k0 (by omega)
  exact vc136_0 ho (first _ 0 M rfl (Int.le_refl _) N0 ho fr_refl (fun k a b => absurd b (by omega)))
end
