/-! ===== parts: what they are; the class's side ===== -/
/-- e in one band and k in the next one share a side -/
def lnk (s : sh) (e k : Int) : Prop := ∃ i, 0 ≤ i ∧ i + 1 < sn s ∧ shi s i = slo s (i + 1) ∧ sst s i ≤ e ∧ e < sst s (i + 1) ∧ sst s (i + 1) ≤ k ∧ k < sst s (i + 2) ∧ slf s e < srt s k ∧ slf s k < srt s e
abbrev eqR (P : Int → Int → Prop) : Prop := (∀ a, P a a) ∧ (∀ a b, P a b → P b a) ∧ ∀ a b c, P a b → P b c → P a c
/-- e and k belong together -/
def cnn (s : sh) (e k : Int) : Prop := ∀ P : Int → Int → Prop, eqR P → (∀ a b, lnk s a b → P a b) → P e k
theorem cnn_refl {s : sh} (a : Int) : cnn s a a := fun _ h _ => h.1 a
theorem cnn_symm {s : sh} {a b : Int} (h : cnn s a b) : cnn s b a := fun P e l => e.2.1 _ _ (h P e l)
theorem cnn_trans {s : sh} {a b c : Int} (h : cnn s a b) (g : cnn s b c) : cnn s a c := fun P e l => e.2.2 _ _ _ (h P e l) (g P e l)
theorem cnn_lnk {s : sh} {a b : Int} (h : lnk s a b) : cnn s a b := fun _ _ l => l a b h
abbrev nS_ (s : sh) : Int := sst s (sn s)
/-- the first of its part -/
def root (s : sh) (k : Int) : Prop := ∀ e, 0 ≤ e → e < k → ¬ cnn s e k
noncomputable def cntR (P : Int → Prop) : Nat → Int
  | 0 => 0
  | n + 1 => cntR P n + @ite Int (P (n : Int)) (Classical.propDecidable _) 1 0
theorem cntR_yes {P : Int → Prop} {n : Nat} (h : P (n : Int)) : cntR P (n + 1) = cntR P n + 1 := by
  show cntR P n + @ite Int (P (n : Int)) (Classical.propDecidable _) 1 0 = _
  rw [if_pos h]
theorem cntR_no {P : Int → Prop} {n : Nat} (h : ¬ P (n : Int)) : cntR P (n + 1) = cntR P n := by
  show cntR P n + @ite Int (P (n : Int)) (Classical.propDecidable _) 1 0 = _
  rw [if_neg h]
  omega
theorem cntR_rg (P : Int → Prop) (n : Nat) : 0 ≤ cntR P n ∧ cntR P n ≤ n := by
  induction n with
  | zero => exact ⟨Int.le_refl 0, Int.le_refl 0⟩
  | succ n ih =>
    by_cases h : P (n : Int)
    · rw [cntR_yes h]; omega
    · rw [cntR_no h]; omega
/-- g numbers the parts, c of them -/
def PN (s : sh) (g : Int → Int) (c : Int) : Prop := (∀ k, 0 ≤ k → k < nS_ s → root s k → g k = cntR (root s) k.toNat) ∧ (∀ e k, 0 ≤ e → e < nS_ s → 0 ≤ k → k < nS_ s → cnn s e k → g e = g k) ∧ c = cntR (root s) (nS_ s).toNat
theorem has_root {s : sh} {k : Int} (h0 : 0 ≤ k) : ∃ e, 0 ≤ e ∧ e ≤ k ∧ root s e ∧ cnn s e k := by
  have key : ∀ n : Nat, ∀ k : Int, 0 ≤ k → k ≤ n → ∃ e, 0 ≤ e ∧ e ≤ k ∧ root s e ∧ cnn s e k := by
    intro n
    induction n with
    | zero =>
      intro k h0 h1
      exact ⟨k, h0, Int.le_refl _, fun e a b => absurd b (by omega), cnn_refl k⟩
    | succ n ih =>
      intro k h0 h1
      by_cases q : root s k
      · exact ⟨k, h0, Int.le_refl _, q, cnn_refl k⟩
      · have : ∃ e, 0 ≤ e ∧ e < k ∧ cnn s e k := Classical.byContradiction fun z => q (fun e a b c => z ⟨e, a, b, c⟩)
        obtain ⟨e, a, b, c⟩ := this
        obtain ⟨r, r0, r1, r2, r3⟩ := ih e a (by omega)
        exact ⟨r, r0, by omega, r2, cnn_trans r3 c⟩
  exact key k.toNat k h0 (by omega)
theorem PN_unique {s : sh} {g g' : Int → Int} {c c' : Int} (h : PN s g c) (h' : PN s g' c') : c = c' ∧ ∀ k, 0 ≤ k → k < nS_ s → g k = g' k := by
  refine ⟨h.2.2.trans h'.2.2.symm, fun k k0 k1 => ?_⟩
  obtain ⟨e, e0, e1, e2, e3⟩ := has_root (s := s) k0
  rw [← h.2.1 e k e0 (by omega) k0 k1 e3, ← h'.2.1 e k e0 (by omega) k0 k1 e3, h.1 e e0 (by omega) e2, h'.1 e e0 (by omega) e2]
theorem lnk_eqv {s t : sh} (h : wf s) (e : eqv s t) {a b : Int} (g : lnk s a b) : lnk t a b := by
  obtain ⟨i, i0, i1, i2, a0, a1, b0, b1, c, d⟩ := g
  have x := e.2.1 i i0 (by omega)
  have y := e.2.1 (i + 1) (by omega) i1
  have z0 := sst_mono h (Int.le_refl 0) i0 (show i ≤ sn s by omega)
  have z1 := sst_mono h (show 0 ≤ i + 1 by omega) (show i + 1 ≤ sn s by omega) (Int.le_refl _)
  have z2 := sst_mono h (show 0 ≤ i + 2 by omega) (show i + 2 ≤ sn s by omega) (Int.le_refl _)
  have z3 := sst_mono h (show 0 ≤ i + 1 by omega) (show i + 1 ≤ i + 2 by omega) (show i + 2 ≤ sn s by omega)
  have z4 := sst_mono h i0 (show i ≤ i + 1 by omega) (show i + 1 ≤ sn s by omega)
  rw [h.2.1] at z0
  have u := e.2.2.2 a (by omega) (by omega)
  have v := e.2.2.2 b (by omega) (by omega)
  have e1 := e.2.2.1 i i0 (by omega)
  have e2 := e.2.2.1 (i + 1) (by omega) (by omega)
  have e3 := e.2.2.1 (i + 2) (by omega) (by omega)
  refine ⟨i, i0, by rw [← e.1]; exact i1, by rw [← x.2, ← y.1]; exact i2, ?_, ?_, ?_, ?_, ?_, ?_⟩
  · rw [← e1]; exact a0
  · rw [← e2]; exact a1
  · rw [← e2]; exact b0
  · rw [← e3]; exact b1
  · rw [← u.1, ← v.2]; exact c
  · rw [← u.2, ← v.1]; exact d
theorem PN_eqv {s t : sh} (h : wf s) (e : eqv s t) {g : Int → Int} {c : Int} (p : PN s g c) : PN t g c := by
  have e' := eqv_symm h e
  have h' := eqv_wf h e
  have cn : ∀ a b, cnn s a b ↔ cnn t a b := fun a b => ⟨fun q P x l => q P x (fun u v w => l u v (lnk_eqv h e w)), fun q P x l => q P x (fun u v w => l u v (lnk_eqv h' e' w))⟩
  have rt : root s = root t := by
    funext k
    exact propext ⟨fun q e a b c => q e a b ((cn e k).mpr c), fun q e a b c => q e a b ((cn e k).mp c)⟩
  have n : nS_ s = nS_ t := by
    show sst s (sn s) = sst t (sn t)
    rw [e.2.2.1 (sn s) h.1 (Int.le_refl _), e.1]
  unfold PN at p ⊢
  rw [← rt, ← n]
  exact ⟨p.1, fun a b a0 a1 b0 b1 c => p.2.1 a b a0 a1 b0 b1 ((cn a b).mpr c), p.2.2⟩
/-- the last walk over the numbers: p tells an earlier one of the same part, or is the root -/
def PH (s : sh) (p g : Int → Int) (n c : Int) : Prop := (∀ k, n ≤ k → k < nS_ s → g k = p k) ∧ (∀ k, 0 ≤ k → k < n → root s k → g k = cntR (root s) k.toNat) ∧ (∀ e k, 0 ≤ e → e < n → 0 ≤ k → k < n → cnn s e k → g e = g k) ∧ c = cntR (root s) n.toNat
abbrev PP (s : sh) (p : Int → Int) : Prop := ∀ k, 0 ≤ k → k < nS_ s → 0 ≤ p k ∧ p k ≤ k ∧ cnn s (p k) k ∧ (p k = k ↔ root s k)
theorem PH_step {s : sh} {p g g' : Int → Int} {n c c' : Int} (hp : PP s p) (h : PH s p g n c) (n0 : 0 ≤ n) (n1 : n < nS_ s) (ho : ∀ k, k ≠ n → g' k = g k) (hn : g' n = if p n = n then c else g (p n)) (hc : c' = if p n = n then c + 1 else c) : PH s p g' (n + 1) c' := by
  obtain ⟨h1, h2, h3, h4⟩ := h
  obtain ⟨p0, p1, p2, p3⟩ := hp n n0 n1
  have en : (n + 1).toNat = n.toNat + 1 := by omega
  have ei : ((n.toNat : Nat) : Int) = n := by omega
  -- the value at n is that of any earlier one of its part
  have key : ∀ e, 0 ≤ e → e < n → cnn s e n → g' n = g e := by
    intro e e0 e1 e2
    have nr : ¬ p n = n := fun z => (p3.mp z) e e0 e1 e2
    rw [if_neg nr] at hn
    rw [hn]
    exact (h3 e (p n) e0 e1 p0 (by omega) (cnn_trans e2 (cnn_symm p2))).symm
  refine ⟨fun k a b => by rw [ho k (by omega)]; exact h1 k (by omega) b, fun k a b r => ?_, fun e k a b a' b' q => ?_, ?_⟩
  · by_cases z : k = n
    · rw [z] at r ⊢
      rw [hn, if_pos (p3.mpr r)]
      exact h4
    · rw [ho k z]
      exact h2 k a (by omega) r
  · by_cases z : e = n
    · by_cases z2 : k = n
      · rw [z, z2]
      · rw [z] at q ⊢
        rw [ho k z2]
        exact key k a' (by omega) (cnn_symm q)
    · rw [ho e z]
      by_cases z2 : k = n
      · rw [z2] at q ⊢
        exact (key e a (by omega) q).symm
      · rw [ho k z2]
        exact h3 e k a (by omega) a' (by omega) q
  · rw [hc, en]
    by_cases z : p n = n
    · have r : root s ((n.toNat : Nat) : Int) := by rw [ei]; exact p3.mp z
      rw [if_pos z, cntR_yes r, ← h4]
    · have r : ¬ root s ((n.toNat : Nat) : Int) := by rw [ei]; exact fun y => z (p3.mpr y)
      rw [if_neg z, cntR_no r, ← h4]
theorem PH_end {s : sh} {p g : Int → Int} {c : Int} (h : PH s p g (nS_ s) c) : PN s g c := ⟨h.2.1, h.2.2.1, h.2.2.2⟩
theorem PH_0 {s : sh} {p g : Int → Int} (h : ∀ k, 0 ≤ k → k < nS_ s → g k = p k) : PH s p g 0 0 := ⟨h, fun k a b => absurd b (by omega), fun e k a b => absurd b (by omega), rfl⟩
/-- the class's forest: p with its roots t -/
def UF (s : sh) (p t : Int → Int) : Prop := ∀ k, 0 ≤ k → k < nS_ s → 0 ≤ p k ∧ p k ≤ k ∧ t (p k) = t k ∧ (p k = k → t k = k) ∧ 0 ≤ t k ∧ t k ≤ k ∧ p (t k) = t k ∧ cnn s (t k) k
theorem UF_join {s : sh} {p p' t : Int → Int} (h : UF s p t) {a b : Int} (a0 : 0 ≤ a) (a1 : a < nS_ s) (b0 : 0 ≤ b) (b1 : b < nS_ s) (q : cnn s a b) (ho : ∀ k, k ≠ max (t a) (t b) → p' k = p k) (hn : p' (max (t a) (t b)) = min (t a) (t b)) :
    UF s p' (fun k => if t k = max (t a) (t b) then min (t a) (t b) else t k) := by
  obtain ⟨u1, u2, u3, u4, u5, u6, u7, u8⟩ := h a a0 a1
  obtain ⟨v1, v2, v3, v4, v5, v6, v7, v8⟩ := h b b0 b1
  have tt : ∀ k, 0 ≤ k → k < nS_ s → t (t k) = t k := fun k k0 k1 => by
    have x := h k k0 k1
    have y := h (t k) x.2.2.2.2.1 (by omega)
    exact y.2.2.2.1 x.2.2.2.2.2.2.1
  have tab := cnn_trans (cnn_trans u8 q) (cnn_symm v8)
  have tmm : cnn s (min (t a) (t b)) (max (t a) (t b)) := by
    by_cases z : t a ≤ t b
    · have e1 : min (t a) (t b) = t a := by omega
      have e2 : max (t a) (t b) = t b := by omega
      rw [e1, e2]; exact tab
    · have e1 : min (t a) (t b) = t b := by omega
      have e2 : max (t a) (t b) = t a := by omega
      rw [e1, e2]; exact cnn_symm tab
  have tmax : t (max (t a) (t b)) = max (t a) (t b) := by
    by_cases z : t a ≤ t b
    · have e2 : max (t a) (t b) = t b := by omega
      rw [e2]; exact tt b b0 b1
    · have e2 : max (t a) (t b) = t a := by omega
      rw [e2]; exact tt a a0 a1
  have tmin : t (min (t a) (t b)) = min (t a) (t b) ∧ p (min (t a) (t b)) = min (t a) (t b) := by
    by_cases z : t a ≤ t b
    · have e2 : min (t a) (t b) = t a := by omega
      rw [e2]; exact ⟨tt a a0 a1, u7⟩
    · have e2 : min (t a) (t b) = t b := by omega
      rw [e2]; exact ⟨tt b b0 b1, v7⟩
  intro k k0 k1
  obtain ⟨w1, w2, w3, w4, w5, w6, w7, w8⟩ := h k k0 k1
  have wt := tt k k0 k1
  show 0 ≤ p' k ∧ p' k ≤ k ∧ (if t (p' k) = max (t a) (t b) then min (t a) (t b) else t (p' k)) = (if t k = max (t a) (t b) then min (t a) (t b) else t k) ∧ (p' k = k → (if t k = max (t a) (t b) then min (t a) (t b) else t k) = k) ∧ 0 ≤ (if t k = max (t a) (t b) then min (t a) (t b) else t k) ∧ (if t k = max (t a) (t b) then min (t a) (t b) else t k) ≤ k ∧ p' (if t k = max (t a) (t b) then min (t a) (t b) else t k) = (if t k = max (t a) (t b) then min (t a) (t b) else t k) ∧ cnn s (if t k = max (t a) (t b) then min (t a) (t b) else t k) k
  have pmin : p' (min (t a) (t b)) = min (t a) (t b) := by
    by_cases z : min (t a) (t b) = max (t a) (t b)
    · rw [← z] at hn; exact hn
    · rw [ho _ z]; exact tmin.2
  by_cases z : k = max (t a) (t b)
  · have tk : t k = max (t a) (t b) := by rw [z]; exact tmax
    rw [if_pos tk, z, hn]
    refine ⟨by omega, by omega, ?_, fun e => ?_, by omega, by omega, pmin, tmm⟩
    · by_cases y : t (min (t a) (t b)) = max (t a) (t b)
      · rw [if_pos y]
      · rw [if_neg y]; exact tmin.1
    · omega
  · rw [ho k z]
    refine ⟨w1, w2, by rw [w3], fun e => ?_, ?_, ?_, ?_, ?_⟩
    · have := w4 e
      rw [if_neg (by omega)]
      exact this
    · split <;> omega
    · split <;> omega
    · by_cases y : t k = max (t a) (t b)
      · rw [if_pos y]; exact pmin
      · rw [if_neg y, ho _ y]; exact w7
    · by_cases y : t k = max (t a) (t b)
      · rw [if_pos y]
        rw [y] at w8
        exact cnn_trans tmm w8
      · rw [if_neg y]; exact w8
theorem UF_PP {s : sh} {p t : Int → Int} (h : UF s p t) (hl : ∀ a b, lnk s a b → 0 ≤ a ∧ a < nS_ s ∧ 0 ≤ b ∧ b < nS_ s) (hc : ∀ a b, lnk s a b → t a = t b) : PP s p := by
  intro k k0 k1
  obtain ⟨w1, w2, w3, w4, w5, w6, w7, w8⟩ := h k k0 k1
  have x := h (p k) w1 (by omega)
  have cp : cnn s (p k) k := by
    have y := x.2.2.2.2.2.2.2
    rw [w3] at y
    exact cnn_trans (cnn_symm y) w8
  refine ⟨w1, w2, cp, fun e => ?_, fun r => ?_⟩
  · intro f f0 f1 f2
    have e1 := f2 (fun a b => t a = t b) ⟨fun _ => rfl, fun _ _ q => q.symm, fun _ _ _ q r => q.trans r⟩ hc
    have e2 := w4 e
    have e3 := (h f f0 (by omega)).2.2.2.2.2.1
    have e1' : t f = t k := e1
    omega
  · by_cases z : p k = k
    · exact z
    · exact absurd cp (r (p k) w1 (by omega))
theorem lnk_rg {s : sh} (h : wf s) {a b : Int} (g : lnk s a b) : 0 ≤ a ∧ a < nS_ s ∧ 0 ≤ b ∧ b < nS_ s := by
  obtain ⟨i, i0, i1, i2, a0, a1, b0, b1, c, d⟩ := g
  have z0 := sst_mono h (Int.le_refl 0) i0 (show i ≤ sn s by omega)
  have z1 := sst_mono h (show 0 ≤ i + 1 by omega) (show i + 1 ≤ sn s by omega) (Int.le_refl _)
  have z2 := sst_mono h (show 0 ≤ i + 2 by omega) (show i + 2 ≤ sn s by omega) (Int.le_refl _)
  have z4 := sst_mono h i0 (show i ≤ i + 1 by omega) (show i + 1 ≤ sn s by omega)
  rw [h.2.1] at z0
  show 0 ≤ a ∧ a < sst s (sn s) ∧ 0 ≤ b ∧ b < sst s (sn s)
  omega
