/-! ===== CellAreasModel.findParts ===== -/
def sumN (f : Int → Int) : Nat → Int
  | 0 => 0
  | n + 1 => sumN f n + f (n : Int)
theorem sumN_0 {f : Int → Int} {n : Nat} (h : ∀ k, 0 ≤ k → k < (n : Int) → 0 ≤ f k) : 0 ≤ sumN f n := by
  induction n with
  | zero => exact Int.le_refl _
  | succ n ih =>
    have a := ih (fun k a b => h k a (by omega))
    have b := h (n : Int) (by omega) (by omega)
    show 0 ≤ sumN f n + f (n : Int)
    omega
theorem sumN_le {f g : Int → Int} {n : Nat} (h : ∀ k, 0 ≤ k → k < (n : Int) → f k ≤ g k) : sumN f n ≤ sumN g n := by
  induction n with
  | zero => exact Int.le_refl _
  | succ n ih =>
    have a := ih (fun k a b => h k a (by omega))
    have b := h (n : Int) (by omega) (by omega)
    show sumN f n + f (n : Int) ≤ sumN g n + g (n : Int)
    omega
theorem sumN_lt {f g : Int → Int} {n : Nat} (h : ∀ k, 0 ≤ k → k < (n : Int) → f k ≤ g k) {j : Int} (j0 : 0 ≤ j) (j1 : j < (n : Int)) (hj : f j < g j) : sumN f n < sumN g n := by
  induction n with
  | zero => exact absurd j1 (by omega)
  | succ n ih =>
    have b := h (n : Int) (by omega) (by omega)
    show sumN f n + f (n : Int) < sumN g n + g (n : Int)
    by_cases q : j = (n : Int)
    · have a := sumN_le (f := f) (g := g) (n := n) (fun k a b => h k a (by omega))
      rw [q] at hj
      omega
    · have a := ih (fun k a b => h k a (by omega)) (by omega)
      omega
abbrev GI (s : sh) (g : Int → Int) : Prop := ∀ k, 0 ≤ k → k < nS_ s → 0 ≤ g k ∧ g k ≤ k ∧ cnn s (g k) k
/-- in the midst of a pass -/
def QP (s : sh) (g : Int → Int) (more m : Int) (P : Int → Int → Prop) : Prop := (more = 0 ∨ more = 1) ∧ (more = 0 → ∀ e k, lnk s e k → P e k → g e = g k) ∧ (more = 1 → sumN g (nS_ s).toNat < m) ∧ sumN g (nS_ s).toNat ≤ m
theorem QP_iff {s : sh} {g : Int → Int} {more m : Int} {P P' : Int → Int → Prop} (h : QP s g more m P) (e : ∀ a b, lnk s a b → P' a b → P a b) : QP s g more m P' := ⟨h.1, fun q a b l p => h.2.1 q a b l (e a b l p), h.2.2.1, h.2.2.2⟩
theorem GI_PP {s : sh} {g : Int → Int} (h : GI s g) (hl : ∀ a b, lnk s a b → g a = g b) : PP s g := by
  intro k k0 k1
  obtain ⟨a, b, c⟩ := h k k0 k1
  refine ⟨a, b, c, fun e f f0 f1 f2 => ?_, fun r => ?_⟩
  · have e1 : g f = g k := f2 (fun a b => g a = g b) ⟨fun _ => rfl, fun _ _ q => q.symm, fun _ _ _ q r => q.trans r⟩ hl
    have := (h f f0 (by omega)).2.1
    omega
  · by_cases z : g k = k
    · exact z
    · exact absurd c (r (g k) a (by omega))
abbrev gS96 : Nat → Int → Prop := fun a _ => a = 96
theorem gS96_vT : ∀ a k, gS96 a k → vT a k := by
  intro a k h
  have h' : a = 96 := h
  unfold vT vR
  omega
section
variable {sc : Nat × (Int → Int)} {M : mm_M} {X : Nat → mm_M → Prop}
theorem c144 {K : Int → mm_M → Prop} {a : Int} (ho : mr_ok M) (ga : isA a) (W : RWk M a) (k : ∀ c M1, fr gS96 M M1 → PN (rdB M a) (M1.1 96) c → 0 ≤ c → c ≤ 400 → K c M1) : en_CI sc 144 [mm_r 72, mm_i a, mm_u, mm_u, mm_u, mm_u, mm_u, mm_u] M K X := by
  have a0 := ga.1
  have a1 := ga.2
  have w := W.1
  have nN : nS_ (rdB M a) = M.1 80 a := rdB_end
  have N1 := W.2.2.2
  have N0 := sst_mono w (Int.le_refl 0) w.1 (Int.le_refl _)
  rw [w.2.1] at N0
  have N0' : 0 ≤ nS_ (rdB M a) := N0
  have n1 := W.2.2.1
  have n0 : 0 ≤ M.1 77 a := w.1
  have sn' : sn (rdB M a) = M.1 77 a := rfl
  have tN : (((nS_ (rdB M a)).toNat : Nat) : Int) = M.1 80 a := by omega
  have at' : ∀ M' : mm_M, fr gS96 M M' → M'.1 80 a = M.1 80 a ∧ M'.1 77 a = M.1 77 a ∧ (∀ j, M'.1 75 j = M.1 75 j ∧ M'.1 76 j = M.1 76 j ∧ M'.1 73 j = M.1 73 j ∧ M'.1 74 j = M.1 74 j ∧ M'.1 78 j = M.1 78 j ∧ M'.1 79 j = M.1 79 j) := fun M' f => ⟨f.2 _ _ (by omega), f.2 _ _ (by omega), fun j => ⟨f.2 _ _ (by omega), f.2 _ _ (by omega), f.2 _ _ (by omega), f.2 _ _ (by omega), f.2 _ _ (by omega), f.2 _ _ (by omega)⟩⟩
  -- the numbers
  have third : ∀ (c : Nat) (n m : Int) (p : Int → Int) (l3 : Int) (l6 l7 : mm_V) (M' : mm_M), PP (rdB M a) p → c = (M.1 80 a - n).toNat → 0 ≤ n → n ≤ M.1 80 a → mr_ok M' → fr gS96 M M' → PH (rdB M a) p (M'.1 96) n m → en_R sc 144 290 [mm_r 72, mm_i a, mm_i (402 * a), mm_i l3, mm_i m, mm_i n, l6, l7] [] M' (QI K X) := by
    intro c
    induction c with
    | zero =>
      intro n m p l3 l6 l7 M' hp hc n0' n1' ho' hf hP
      have em : m = cntR (root (rdB M a)) n.toNat := hP.2.2.2
      have cr := cntR_rg (root (rdB M a)) n.toNat
      have en : n = nS_ (rdB M a) := by omega
      refine vc144_290 ho' ⟨by omega, by omega⟩ ⟨by omega, by omega⟩ ?_
      rw [(at' M' hf).1]
      rw [en] at hP
      exact ⟨a0, by omega, fun _ => Or.inl ⟨_, rfl, k m M' hf (PH_end hP) (by omega) (by omega)⟩, fun q => absurd (by omega) q⟩
    | succ c ih =>
      intro n m p l3 l6 l7 M' hp hc n0' n1' ho' hf hP
      have em : m = cntR (root (rdB M a)) n.toNat := hP.2.2.2
      have cr := cntR_rg (root (rdB M a)) n.toNat
      obtain ⟨p0, p1, p2, p3⟩ := hp n n0' (by omega)
      have e96 : M'.1 96 n = p n := hP.1 n (Int.le_refl _) (by omega)
      refine vc144_290 ho' ⟨by omega, by omega⟩ ⟨by omega, by omega⟩ ?_
      rw [(at' M' hf).1, e96]
      refine ⟨a0, by omega, fun q => absurd q (by omega), fun _ => ⟨n0', by omega, fun q => ⟨n0', by omega, p0, by omega, n0', by omega, ?_⟩, fun q => ⟨n0', by omega, ?_⟩⟩⟩
      · have r1 : mr_rg (M'.1 96 (p n)) := ho'.2.1 _ _ (by unfold mr_lg; omega)
        refine ih (n + 1) m p _ _ _ _ hp (by omega) (by omega) (by omega) (mr_ok_putI ho' r1) (fr_trans hf (fr_put rfl)) ?_
        refine PH_step hp hP n0' (by omega) (fun k z => put_k z) ?_ ?_
        · rw [put_eq, if_neg q]
        · rw [if_neg q]
      · have q' : p n = n := Classical.byContradiction q
        refine ih (n + 1) (m + 1) p _ _ _ _ hp (by omega) (by omega) (by omega) (mr_ok_putI ho' ⟨by omega, by omega⟩) (fr_trans hf (fr_put rfl)) ?_
        refine PH_step hp hP n0' (by omega) (fun k z => put_k z) ?_ ?_
        · rw [put_eq, if_pos q']
        · rw [if_pos q']
  -- one pass: e
  have L3 : ∀ (c : Nat) (i kk e more m : Int) (l7 : mm_V) (M' : mm_M), c = (sst (rdB M a) i - e).toNat → 1 ≤ i → i < M.1 77 a → shi (rdB M a) (i - 1) = slo (rdB M a) i → sst (rdB M a) i ≤ kk → kk < sst (rdB M a) (i + 1) → sst (rdB M a) (i - 1) ≤ e → e ≤ sst (rdB M a) i → mr_ok M' → fr gS96 M M' → GI (rdB M a) (M'.1 96) → QP (rdB M a) (M'.1 96) more m (fun e' k' => k' < kk ∨ (k' = kk ∧ e' < e)) →
      (∀ (more l6 : Int) (l7 : mm_V) (M1 : mm_M), mr_ok M1 → fr gS96 M M1 → GI (rdB M a) (M1.1 96) → QP (rdB M a) (M1.1 96) more m (fun e' k' => k' < kk + 1) → en_R sc 144 66 [mm_r 72, mm_i a, mm_i (402 * a), mm_i more, mm_i (102 * a + i), mm_i (402 * a + kk + 1), mm_i l6, l7] [] M1 (QI K X)) →
      en_R sc 144 116 [mm_r 72, mm_i a, mm_i (402 * a), mm_i more, mm_i (102 * a + i), mm_i (402 * a + kk), mm_i (402 * a + e), l7] [] M' (QI K X) := by
    intro c
    induction c with
    | zero =>
      intro i kk e more m l7 M' hc i0 i1 ih1 k0 k1 e0 e1 ho' hf hG hQ g
      obtain ⟨v80, v77, vv⟩ := at' M' hf
      obtain ⟨q1, q2, q3, q4, q5, q6, q7, q8⟩ := RW_band W (show 0 ≤ i - 1 by omega) (show i - 1 < M.1 77 a by omega)
      have ei : i - 1 + 1 = i := by omega
      have eb : 102 * a + i - 1 = 102 * a + (i - 1) := by omega
      rw [ei] at q2 q4 q5
      have z3 := sst_mono w (show 0 ≤ i + 1 by omega) (show i + 1 ≤ sn (rdB M a) by rw [sn']; omega) (Int.le_refl _)
      refine vc144_116 ho' ⟨by omega, by omega⟩ ?_
      rw [eb, (vv _).1, (vv _).2.1]
      refine ⟨by omega, by omega, by omega, by omega, ⟨by omega, by omega⟩, fun _ => g more _ _ M' ho' hf hG (QP_iff hQ (fun e' k' l p => ?_)), fun q => absurd (by omega) q⟩
      by_cases y : k' = kk
      · right
        refine ⟨y, ?_⟩
        obtain ⟨j, j0, j1, j2, a0', a1', b0', b1', _⟩ := l
        rw [y] at b0' b1'
        have : j + 1 = i := by
          by_cases u : j + 1 < i
          · have := sst_mono w (show 0 ≤ j + 2 by omega) (show j + 2 ≤ i by omega) (show i ≤ sn (rdB M a) by rw [sn']; omega)
            omega
          · by_cases u2 : i < j + 1
            · have := sst_mono w (show 0 ≤ i + 1 by omega) (show i + 1 ≤ j + 1 by omega) (show j + 1 ≤ sn (rdB M a) by omega)
              omega
            · omega
        rw [this] at a1'
        omega
      · left
        omega
    | succ c ih =>
      intro i kk e more m l7 M' hc i0 i1 ih1 k0 k1 e0 e1 ho' hf hG hQ g
      obtain ⟨v80, v77, vv⟩ := at' M' hf
      obtain ⟨q1, q2, q3, q4, q5, q6, q7, q8⟩ := RW_band W (show 0 ≤ i - 1 by omega) (show i - 1 < M.1 77 a by omega)
      have ei : i - 1 + 1 = i := by omega
      have eb : 102 * a + i - 1 = 102 * a + (i - 1) := by omega
      rw [ei] at q2 q4 q5
      have z3 := sst_mono w (show 0 ≤ i + 1 by omega) (show i + 1 ≤ sn (rdB M a) by rw [sn']; omega) (Int.le_refl _)
      have nN' : sst (rdB M a) (sn (rdB M a)) = M.1 80 a := nN
      have xk : 402 * a + kk - 402 * a = kk := by omega
      have xe : 402 * a + e - 402 * a = e := by omega
      have en : 402 * a + e + 1 = 402 * a + (e + 1) := by omega
      have l78 : ∀ j, M.1 78 (402 * a + j) = slf (rdB M a) j := fun j => rfl
      have l79 : ∀ j, M.1 79 (402 * a + j) = srt (rdB M a) j := fun j => rfl
      obtain ⟨ge0, ge1, ge2⟩ := hG e (by omega) (by omega)
      obtain ⟨gk0, gk1, gk2⟩ := hG kk (by omega) (by omega)
      have skip : (lnk (rdB M a) e kk → M'.1 96 e = M'.1 96 kk) → en_R sc 144 116 [mm_r 72, mm_i a, mm_i (402 * a), mm_i more, mm_i (102 * a + i), mm_i (402 * a + kk), mm_i (402 * a + (e + 1)), l7] [] M' (QI K X) := by
        intro q
        refine ih i kk (e + 1) more m l7 M' (by omega) i0 i1 ih1 k0 k1 (by omega) (by omega) ho' hf hG ⟨hQ.1, fun z e' k' l p => ?_, hQ.2.2.1, hQ.2.2.2⟩ g
        by_cases y : k' = kk ∧ e' = e
        · rw [y.1, y.2] at l ⊢
          exact q l
        · exact hQ.2.1 z e' k' l (by omega)
      have link : slf (rdB M a) e < srt (rdB M a) kk → slf (rdB M a) kk < srt (rdB M a) e → lnk (rdB M a) e kk := fun o1 o2 => by
        have ei2 : i - 1 + 2 = i + 1 := by omega
        exact ⟨i - 1, by omega, by rw [ei, sn']; exact i1, by rw [ei]; exact ih1, e0, by rw [ei]; omega, by rw [ei]; exact k0, by rw [ei2]; exact k1, o1, o2⟩
      have nolink : ¬ (slf (rdB M a) e < srt (rdB M a) kk ∧ slf (rdB M a) kk < srt (rdB M a) e) → lnk (rdB M a) e kk → M'.1 96 e = M'.1 96 kk := fun q l => by
        obtain ⟨_, _, _, _, _, _, _, _, o1, o2⟩ := l
        exact absurd ⟨o1, o2⟩ q
      have join : slf (rdB M a) e < srt (rdB M a) kk → slf (rdB M a) kk < srt (rdB M a) e → M'.1 96 e ≠ M'.1 96 kk → ∀ s0, s0 = min (M'.1 96 e) (M'.1 96 kk) → en_R sc 144 237 [mm_r 72, mm_i a, mm_i (402 * a), mm_i more, mm_i (102 * a + i), mm_i (402 * a + kk), mm_i (402 * a + e), l7] [mm_i s0] M' (QI K X) := by
        intro o1 o2 ne s0 hs0
        have cek : cnn (rdB M a) e kk := cnn_lnk (link o1 o2)
        have cs : cnn (rdB M a) s0 e := by
          by_cases y : M'.1 96 e ≤ M'.1 96 kk
          · have : s0 = M'.1 96 e := by omega
            rw [this]; exact ge2
          · have : s0 = M'.1 96 kk := by omega
            rw [this]; exact cnn_trans gk2 (cnn_symm cek)
        refine vc144_237 ho' ⟨by omega, by omega⟩ ?_
        rw [xk, xe, en]
        refine ⟨by omega, by omega, by omega, by omega, ?_⟩
        have v : ∀ j, (mm_putN (mm_putN M' 96 e s0) 96 kk s0).1 96 j = if j = kk ∨ j = e then s0 else M'.1 96 j := by
          intro j
          by_cases y : j = kk
          · rw [if_pos (Or.inl y), y, put_eq]
          · rw [put_k y]
            by_cases y2 : j = e
            · rw [if_pos (Or.inr y2), y2, put_eq]
            · rw [if_neg (by omega), put_k y2]
        have hoc : mr_ok (mm_putN (mm_putN M' 96 e s0) 96 kk s0) := mr_ok_putI (mr_ok_putI ho' ⟨by omega, by omega⟩) ⟨by omega, by omega⟩
        have fc : fr gS96 M' (mm_putN (mm_putN M' 96 e s0) 96 kk s0) := fr_trans (fr_put rfl) (fr_put rfl)
        generalize mm_putN (mm_putN M' 96 e s0) 96 kk s0 = Mc at v hoc fc
        have le : ∀ j, 0 ≤ j → j < (((nS_ (rdB M a)).toNat : Nat) : Int) → Mc.1 96 j ≤ M'.1 96 j := fun j j0 j1 => by
          rw [v]
          by_cases y : j = kk ∨ j = e
          · rw [if_pos y]
            rcases y with y | y
            · rw [y]; omega
            · rw [y]; omega
          · rw [if_neg y]; exact Int.le_refl _
        have lt : sumN (Mc.1 96) (nS_ (rdB M a)).toNat < sumN (M'.1 96) (nS_ (rdB M a)).toNat := by
          by_cases y : M'.1 96 e ≤ M'.1 96 kk
          · exact sumN_lt le (j := kk) (by omega) (by omega) (by rw [v, if_pos (Or.inl rfl)]; omega)
          · exact sumN_lt le (j := e) (by omega) (by omega) (by rw [v, if_pos (Or.inr rfl)]; omega)
        have hm := hQ.2.2.2
        refine ih i kk (e + 1) 1 m _ Mc (by omega) i0 i1 ih1 k0 k1 (by omega) (by omega) hoc (fr_trans hf fc) (fun j j0 j1 => ?_) ⟨Or.inr rfl, fun z => absurd z (by decide), fun _ => by omega, by omega⟩ g
        rw [v]
        by_cases y : j = kk ∨ j = e
        · rw [if_pos y]
          rcases y with y | y
          · rw [y]
            exact ⟨by omega, by omega, cnn_trans cs cek⟩
          · rw [y]
            exact ⟨by omega, by omega, cs⟩
        · rw [if_neg y]
          exact hG j j0 j1
      refine vc144_116 ho' ⟨by omega, by omega⟩ ?_
      rw [eb, (vv _).1, (vv _).2.1, (vv _).2.2.2.2.1, (vv _).2.2.2.2.2, (vv (402 * a + kk)).2.2.2.2.1, (vv (402 * a + e)).2.2.2.2.2, l78, l79, l78, l79, xk, xe, en]
      refine ⟨by omega, by omega, by omega, by omega, ⟨by omega, by omega⟩, fun q => absurd q (by omega), fun _ => ⟨by omega, by omega, by omega, by omega, fun q => skip (nolink (by omega)), fun q => ⟨by omega, by omega, by omega, by omega, fun q' => skip (nolink (by omega)), fun q' => ⟨by omega, by omega, by omega, by omega, fun z => skip (fun _ => z), fun z => ⟨by omega, by omega, by omega, by omega, fun z2 => ⟨by omega, by omega, join (by omega) (by omega) z _ (by omega)⟩, fun z2 => ⟨by omega, by omega, join (by omega) (by omega) z _ (by omega)⟩⟩⟩⟩⟩⟩
  -- one pass: k
  have L2 : ∀ (c : Nat) (i kk more m : Int) (l6 l7 : mm_V) (M' : mm_M), c = (sst (rdB M a) (i + 1) - kk).toNat → 1 ≤ i → i < M.1 77 a → sst (rdB M a) i ≤ kk → kk ≤ sst (rdB M a) (i + 1) → mr_ok M' → fr gS96 M M' → GI (rdB M a) (M'.1 96) → QP (rdB M a) (M'.1 96) more m (fun e' k' => k' < kk) →
      (∀ (more l5 : Int) (l6 l7 : mm_V) (M1 : mm_M), mr_ok M1 → fr gS96 M M1 → GI (rdB M a) (M1.1 96) → QP (rdB M a) (M1.1 96) more m (fun e' k' => k' < sst (rdB M a) (i + 1)) → en_R sc 144 47 [mm_r 72, mm_i a, mm_i (402 * a), mm_i more, mm_i (102 * a + i + 1), mm_i l5, l6, l7] [] M1 (QI K X)) →
      en_R sc 144 66 [mm_r 72, mm_i a, mm_i (402 * a), mm_i more, mm_i (102 * a + i), mm_i (402 * a + kk), l6, l7] [] M' (QI K X) := by
    intro c
    induction c with
    | zero =>
      intro i kk more m l6 l7 M' hc i0 i1 k0 k1 ho' hf hG hQ g
      obtain ⟨v80, v77, vv⟩ := at' M' hf
      obtain ⟨q1, q2, q3, q4, q5, q6, q7, q8⟩ := RW_band W (show 0 ≤ i by omega) i1
      refine vc144_66 ho' ⟨by omega, by omega⟩ ?_
      rw [(vv _).1, (vv _).2.1]
      exact ⟨by omega, by omega, by omega, by omega, ⟨by omega, by omega⟩, fun _ => g more _ _ _ M' ho' hf hG (QP_iff hQ (fun e' k' l p => by omega)), fun q => absurd (by omega) q⟩
    | succ c ih =>
      intro i kk more m l6 l7 M' hc i0 i1 k0 k1 ho' hf hG hQ g
      obtain ⟨v80, v77, vv⟩ := at' M' hf
      obtain ⟨q1, q2, q3, q4, q5, q6, q7, q8⟩ := RW_band W (show 0 ≤ i by omega) i1
      obtain ⟨p1, p2, p3, p4, p5, p6, p7, p8⟩ := RW_band W (show 0 ≤ i - 1 by omega) (show i - 1 < M.1 77 a by omega)
      have ei : i - 1 + 1 = i := by omega
      have eb : 102 * a + i - 1 = 102 * a + (i - 1) := by omega
      have en : 402 * a + kk + 1 = 402 * a + (kk + 1) := by omega
      have l73 : M.1 73 (102 * a + i) = slo (rdB M a) i := rfl
      have l74 : M.1 74 (102 * a + (i - 1)) = shi (rdB M a) (i - 1) := rfl
      rw [ei] at p4
      refine vc144_66 ho' ⟨by omega, by omega⟩ ?_
      rw [eb, (vv (102 * a + i)).1, (vv (102 * a + i)).2.1, (vv (102 * a + (i - 1))).2.2.2.1, (vv (102 * a + i)).2.2.1, (vv (102 * a + (i - 1))).1, l73, l74, p1]
      refine ⟨by omega, by omega, by omega, by omega, ⟨by omega, by omega⟩, fun q => absurd q (by omega), fun _ => ⟨by omega, by omega, by omega, by omega, fun q => g more _ _ _ M' ho' hf hG (QP_iff hQ (fun e' k' l p => ?_)), fun q => ⟨by omega, by omega, ?_⟩⟩⟩
      · by_cases y : k' < kk
        · exact y
        · exfalso
          obtain ⟨j, j0, j1, j2, a0', a1', b0', b1', _⟩ := l
          have : j + 1 = i := by
            by_cases u : j + 1 < i
            · have := sst_mono w (show 0 ≤ j + 2 by omega) (show j + 2 ≤ i by omega) (show i ≤ sn (rdB M a) by rw [sn']; omega)
              omega
            · by_cases u2 : i < j + 1
              · have := sst_mono w (show 0 ≤ i + 1 by omega) (show i + 1 ≤ j + 1 by omega) (show j + 1 ≤ sn (rdB M a) by omega)
                omega
              · omega
          have ej : j = i - 1 := by omega
          rw [ej, ei] at j2
          exact q j2
      · refine L3 _ i kk (sst (rdB M a) (i - 1)) more m _ M' rfl i0 i1 (Classical.byContradiction q) k0 (by omega) (Int.le_refl _) (by omega) ho' hf hG (QP_iff hQ (fun e' k' l p => ?_)) (fun more l6 l7 M1 o1 f1 G1 Q1 => ?_)
        · rcases p with p | ⟨p, p'⟩
          · exact p
          · exfalso
            obtain ⟨j, j0, j1, j2, a0', a1', b0', b1', _⟩ := l
            rw [p] at b0' b1'
            have : j + 1 = i := by
              by_cases u : j + 1 < i
              · have := sst_mono w (show 0 ≤ j + 2 by omega) (show j + 2 ≤ i by omega) (show i ≤ sn (rdB M a) by rw [sn']; omega)
                omega
              · by_cases u2 : i < j + 1
                · have := sst_mono w (show 0 ≤ i + 1 by omega) (show i + 1 ≤ j + 1 by omega) (show j + 1 ≤ sn (rdB M a) by omega)
                  omega
                · omega
            have ej : j = i - 1 := by omega
            rw [ej] at a0'
            omega
        · rw [en]
          exact ih i (kk + 1) more m _ _ M1 (by omega) i0 i1 (by omega) (by omega) o1 f1 G1 Q1 g
  -- one pass: b
  have L1 : ∀ (c : Nat) (i more m : Int) (l5 l6 l7 : mm_V) (M' : mm_M), c = (M.1 77 a - i).toNat → 1 ≤ i → mr_ok M' → fr gS96 M M' → GI (rdB M a) (M'.1 96) → i ≤ 200 → QP (rdB M a) (M'.1 96) more m (fun e' k' => i ≤ M.1 77 a → k' < sst (rdB M a) i) →
      (∀ (more : Int) (l4 l5 l6 l7 : mm_V) (M1 : mm_M), mr_ok M1 → fr gS96 M M1 → GI (rdB M a) (M1.1 96) → QP (rdB M a) (M1.1 96) more m (fun e' k' => True) → en_R sc 144 33 [mm_r 72, mm_i a, mm_i (402 * a), mm_i more, l4, l5, l6, l7] [] M1 (QI K X)) →
      en_R sc 144 47 [mm_r 72, mm_i a, mm_i (402 * a), mm_i more, mm_i (102 * a + i), l5, l6, l7] [] M' (QI K X) := by
    intro c
    induction c with
    | zero =>
      intro i more m l5 l6 l7 M' hc i0 ho' hf hG i2 hQ g
      obtain ⟨v80, v77, vv⟩ := at' M' hf
      refine vc144_47 ho' ⟨by omega, by omega⟩ (c45 ho' a0 (by omega) (fun _ => ?_))
      rw [v77]
      refine ⟨⟨by omega, by omega⟩, fun _ => g more _ _ _ _ M' ho' hf hG (QP_iff hQ (fun e' k' l _ z => ?_)), fun q => absurd (by omega) q⟩
      have := lnk_rg w l
      have : i = sn (rdB M a) := by rw [sn']; omega
      rw [this]
      exact (lnk_rg w l).2.2.2
    | succ c ih =>
      intro i more m l5 l6 l7 M' hc i0 ho' hf hG i2 hQ g
      obtain ⟨v80, v77, vv⟩ := at' M' hf
      obtain ⟨q1, q2, q3, q4, q5, q6, q7, q8⟩ := RW_band W (show 0 ≤ i by omega) (show i < M.1 77 a by omega)
      have en : 102 * a + i + 1 = 102 * a + (i + 1) := by omega
      refine vc144_47 ho' ⟨by omega, by omega⟩ (c45 ho' a0 (by omega) (fun _ => ?_))
      rw [v77, (vv _).1, q1]
      refine ⟨⟨by omega, by omega⟩, fun q => absurd q (by omega), fun _ => ⟨by omega, by omega, L2 _ i (sst (rdB M a) i) more m _ _ M' rfl i0 (by omega) (Int.le_refl _) (by omega) ho' hf hG (QP_iff hQ (fun e' k' l p _ => p)) (fun more l5 l6 l7 M1 o1 f1 G1 Q1 => ?_)⟩⟩
      rw [en]
      exact ih (i + 1) more m _ _ _ M1 (by omega) (by omega) o1 f1 G1 (by omega) (QP_iff Q1 (fun e' k' l p => p (by omega))) g
  -- pass by pass
  have second : ∀ (c : Nat) (more : Int) (l4 l5 l6 l7 : mm_V) (M' : mm_M), (sumN (M'.1 96) (nS_ (rdB M a)).toNat).toNat + (if more = 0 then 0 else 1) ≤ c → mr_ok M' → fr gS96 M M' → GI (rdB M a) (M'.1 96) → (more = 0 ∨ more = 1) → (more = 0 → ∀ e k, lnk (rdB M a) e k → M'.1 96 e = M'.1 96 k) → en_R sc 144 33 [mm_r 72, mm_i a, mm_i (402 * a), mm_i more, l4, l5, l6, l7] [] M' (QI K X) := by
    intro c
    induction c with
    | zero =>
      intro more l4 l5 l6 l7 M' hc ho' hf hG hm hl
      have m0 : more = 0 := by
        by_cases y : more = 0
        · exact y
        · rw [if_neg y] at hc
          omega
      exact vc144_33 ho' ⟨by omega, by omega⟩ ⟨fun _ => third _ 0 0 (M'.1 96) _ _ _ M' (GI_PP hG (hl m0)) rfl (Int.le_refl _) (by omega) ho' hf (PH_0 (fun _ _ _ => rfl)), fun q => absurd m0 q⟩
    | succ c ih =>
      intro more l4 l5 l6 l7 M' hc ho' hf hG hm hl
      refine vc144_33 ho' ⟨by omega, by omega⟩ ⟨fun m0 => third _ 0 0 (M'.1 96) _ _ _ M' (GI_PP hG (hl m0)) rfl (Int.le_refl _) (by omega) ho' hf (PH_0 (fun _ _ _ => rfl)), fun q => ?_⟩
      rw [if_neg q] at hc
      refine L1 _ 1 0 (sumN (M'.1 96) (nS_ (rdB M a)).toNat) _ _ _ M' rfl (by decide) ho' hf hG (by decide) ⟨Or.inl rfl, fun _ e k l p => ?_, fun z => absurd z (by decide), Int.le_refl _⟩ (fun more l4 l5 l6 l7 M1 o1 f1 G1 Q1 => ?_)
      · exfalso
        obtain ⟨j, j0, j1, j2, a0', a1', b0', b1', _⟩ := l
        have := p (by rw [sn'] at j1; omega)
        have := sst_mono w (show (0 : Int) ≤ 1 by decide) (show 1 ≤ j + 1 by omega) (show j + 1 ≤ sn (rdB M a) by omega)
        omega
      · have s0 : 0 ≤ sumN (M1.1 96) (nS_ (rdB M a)).toNat := sumN_0 (fun k a b => (G1 k a (by omega)).1)
        refine ih more _ _ _ _ M1 ?_ o1 f1 G1 Q1.1 (fun z e k l => Q1.2.1 z e k l trivial)
        have := Q1.2.2.1
        have := Q1.2.2.2
        by_cases y : more = 0
        · rw [if_pos y]; omega
        · rw [if_neg y]
          have := Q1.1
          omega
  -- each for itself
  have first : ∀ (c : Nat) (n : Int) (M' : mm_M), c = (M.1 80 a - n).toNat → 0 ≤ n → n ≤ M.1 80 a → mr_ok M' → fr gS96 M M' → (∀ k, 0 ≤ k → k < n → M'.1 96 k = k) → en_R sc 144 8 [mm_r 72, mm_i a, mm_i (402 * a), mm_i n, mm_u, mm_u, mm_u, mm_u] [] M' (QI K X) := by
    intro c
    induction c with
    | zero =>
      intro n M' hc n0' n1' ho' hf hP
      refine vc144_8 ho' ⟨by omega, by omega⟩ ?_
      rw [(at' M' hf).1]
      refine ⟨a0, by omega, fun _ => second _ 1 _ _ _ _ M' (Nat.le_refl _) ho' hf (fun k k0 k1 => ?_) (Or.inr rfl) (fun z => absurd z (by decide)), fun q => absurd (by omega) q⟩
      rw [hP k k0 (by omega)]
      exact ⟨k0, Int.le_refl _, cnn_refl k⟩
    | succ c ih =>
      intro n M' hc n0' n1' ho' hf hP
      refine vc144_8 ho' ⟨by omega, by omega⟩ ?_
      rw [(at' M' hf).1]
      refine ⟨a0, by omega, fun q => absurd q (by omega), fun _ => ⟨n0', by omega, ih (n + 1) _ (by omega) (by omega) (by omega) (mr_ok_putI ho' ⟨by omega, by omega⟩) (fr_trans hf (fr_put rfl)) (fun k k0 k1 => ?_)⟩⟩
      by_cases z : k = n
      · rw [z, put_eq]
      · rw [put_k z]
        exact hP k k0 (by omega)
  exact vc144_0 ho (first _ 0 M rfl (Int.le_refl _) (by omega) ho fr_refl (fun k a b => absurd b (by omega)))
end
