/-! ===== Row, the rest ===== -/
theorem rb_least {v : Int} (h : ¬ ∀ k, k < 64 → rb v k = false) : ∃ t, t < 64 ∧ rb v t = true ∧ ∀ j, j < t → rb v j = false := by
  have key : ∀ n, n ≤ 64 → (∃ t, t < 64 ∧ rb v t = true ∧ ∀ j, j < t → rb v j = false) ∨ ∀ k, k < n → rb v k = false := by
    intro n
    induction n with
    | zero => intro _; exact Or.inr (fun k hk => absurd hk (by omega))
    | succ n ih =>
      intro hn
      rcases ih (by omega) with g | g
      · exact Or.inl g
      · cases hb : rb v n with
        | true => exact Or.inl ⟨n, by omega, hb, g⟩
        | false =>
          refine Or.inr (fun k hk => ?_)
          by_cases e : k = n
          · rw [e]; exact hb
          · exact g k (by omega)
  rcases key 64 (Nat.le_refl _) with g | g
  · exact g
  · exact absurd g h
/-- the bit of x, for x of -1000 .. 1047 -/
def rx (M : mm_M) (w : Nat) (x : Int) : Bool := rb (M.1 (w + 1) ((x + 1000) / 64)) ((x + 1000) % 64).toNat
theorem ri_rx {M : mm_M} {w : Nat} {x : Int} (h0 : -1000 ≤ x) (h1 : x < 1048) : ri M w x ↔ rx M w x = true := ⟨fun h => h.2.2, fun h => ⟨h0, h1, h⟩⟩
theorem rx_at {M : mm_M} {w : Nat} {j : Int} {b : Nat} (hb : b < 64) : rx M w (64 * j + b - 1000) = rb (M.1 (w + 1) j) b := by
  unfold rx
  have e1 : (64 * j + b - 1000 + 1000) / 64 = j := by omega
  have e2 : ((64 * j + b - 1000 + 1000) % 64).toNat = b := by omega
  rw [e1, e2]
section
variable {sc : Nat × (Int → Int)} {M : mm_M} {X : Nat → mm_M → Prop}
theorem c16x {K : mm_M → Prop} {w : Nat} {f t u : Int} (ho : mr_ok M) (hw : mr_Rw w) (hf : mr_rg f) (ht : mr_rg t) (hu : u = 0 ∨ u = 1) (hf1 : f ≤ 1000000)
    (k : ∀ M1, fr (rS w) M M1 → (∀ x, -1000 ≤ x → x < 1048 → rx M1 w x = rop u (rx M w x) (decide (f ≤ x ∧ x < t ∧ x < 1000))) → K M1) :
    en_CV sc 16 [mm_r w, mm_i f, mm_i t, mm_i u, mm_u, mm_u, mm_u, mm_u, mm_u] M K X := by
  refine c16 ho hw hf ht hu hf1 (fun M1 hfr h => k M1 hfr (fun x h0 h1 => ?_))
  have := h ((x + 1000) / 64) (by omega) (by omega) ((x + 1000) % 64).toNat (by omega)
  unfold rx
  rw [this]
  congr 1
  apply decide_eq_decide.mpr
  omega
/-- Row.fill -/
theorem c17 {K : mm_M → Prop} {w : Nat} {f t : Int} (ho : mr_ok M) (hw : mr_Rw w) (hf : mr_rg f) (ht : mr_rg t) (hf1 : f ≤ 1000000)
    (k : ∀ M1, fr (rS w) M M1 → (∀ x, ri M1 w x ↔ ri M w x ∨ (-1000 ≤ x ∧ x < 1000 ∧ f ≤ x ∧ x < t)) → K M1) : en_CV sc 17 [mm_r w, mm_i f, mm_i t] M K X := by
  refine vc17_0 ho hw ?_
  refine c16x ho hw hf ht (Or.inl rfl) hf1 (fun M1 hfr h _ => Or.inl ⟨rfl, k M1 hfr (fun x => ?_)⟩)
  by_cases h0 : -1000 ≤ x ∧ x < 1048
  · rw [ri_rx h0.1 h0.2, ri_rx h0.1 h0.2, h x h0.1 h0.2]
    unfold rop
    rw [if_pos rfl, Bool.or_eq_true, decide_eq_true_iff]
    constructor
    · rintro (g | g)
      · exact Or.inl g
      · exact Or.inr (by omega)
    · rintro (g | g)
      · exact Or.inl g
      · exact Or.inr (by omega)
  · constructor
    · intro g
      exact absurd ⟨g.1, g.2.1⟩ h0
    · rintro (g | g)
      · exact absurd ⟨g.1, g.2.1⟩ h0
      · omega
/-- Row.flip -/
theorem c67 {K : mm_M → Prop} {w : Nat} {f t : Int} (ho : mr_ok M) (hw : mr_Rw w) (hf : mr_rg f) (ht : mr_rg t) (hf1 : f ≤ 1000000)
    (k : ∀ M1, fr (rS w) M M1 → (∀ x, ri M1 w x ↔ ¬ (ri M w x ↔ (-1000 ≤ x ∧ x < 1000 ∧ f ≤ x ∧ x < t))) → K M1) : en_CV sc 67 [mm_r w, mm_i f, mm_i t] M K X := by
  refine vc67_0 ho hw ?_
  refine c16x ho hw hf ht (Or.inr rfl) hf1 (fun M1 hfr h _ => Or.inl ⟨rfl, k M1 hfr (fun x => ?_)⟩)
  by_cases h0 : -1000 ≤ x ∧ x < 1048
  · rw [ri_rx h0.1 h0.2, ri_rx h0.1 h0.2, h x h0.1 h0.2]
    unfold rop
    rw [if_neg (by decide)]
    by_cases g : f ≤ x ∧ x < t ∧ x < 1000
    · have g2 : (-1000 ≤ x ∧ x < 1000 ∧ f ≤ x ∧ x < t) := by omega
      simp [g, g2]
    · have g2 : ¬ (-1000 ≤ x ∧ x < 1000 ∧ f ≤ x ∧ x < t) := by omega
      rw [decide_eq_false g, Bool.xor_false]
      simp [g2]
  · have a : ∀ N, ¬ ri N w x := fun N g => h0 ⟨g.1, g.2.1⟩
    have b : ¬ (-1000 ≤ x ∧ x < 1000 ∧ f ≤ x ∧ x < t) := by omega
    simp [a, b]
/-- Row.seek -/
theorem c21 {K : Int → mm_M → Prop} {w : Nat} {f v : Int} {tb : Bool} (ho : mr_ok M) (hw : mr_Rw w) (hf : mr_rg f) (hf1 : f ≤ 1000000) (hv : ∀ b, b < 64 → rb v b = tb)
    (k : ∀ r, -1000 ≤ r → r ≤ 1000 → (∀ x, -1000 ≤ x → f ≤ x → x < r → rx M w x = tb) → (r < 1000 → f ≤ r ∧ rx M w r = !tb) → K r M) : en_CI sc 21 [mm_r w, mm_i f, mm_j v, mm_u, mm_u, mm_u, mm_u, mm_u] M K X := by
  have hf2 := hf.1
  refine vc21_0 ho hf ⟨⟨by omega, by omega⟩, by omega, ?_⟩
  generalize hA : max f (-1000) - -1000 = A
  have hA0 : 0 ≤ A := by omega
  have loop : ∀ (n : Nat) (i : Int) (l6 : mm_V), n = (32 - i).toNat → A / 64 ≤ i → (A / 64 ≤ 32 → i ≤ 32) → mr_rg i → (∀ x, -1000 ≤ x → x < 1048 → A ≤ x + 1000 → x + 1000 < 64 * i → rx M w x = tb) →
      en_R sc 21 20 [mm_r w, mm_i f, mm_j v, mm_u, mm_i A, mm_i i, l6, mm_u] [] M (fun r M1 => (∃ x, r = .inl (some (mm_i x)) ∧ K x M1) ∨ ∃ e, r = .inr e ∧ e < 100 ∧ X e M1) := by
    intro n
    induction n with
    | zero =>
      intro i l6 hn h0 h1 hi hj
      refine vc21_20 ho hi hw ⟨fun q => ?_, fun q => absurd q (by omega)⟩
      refine Or.inl ⟨_, rfl, k 1000 (by omega) (by omega) (fun x g0 g1 g2 => hj x g0 (by omega) (by omega) (by omega)) (fun g => absurd g (by omega))⟩
    | succ n ih =>
      intro i l6 hn h0 h1 hi hj
      refine vc21_20 ho hi hw ⟨fun q => absurd q (by omega), fun q => ⟨by omega, by omega, ?_⟩⟩
      refine c15 ho hA0 (by omega) (by omega) (by omega) h0 (by omega) (fun x hx hb _ => ⟨mr_and_rj _ _, ?_, ?_⟩)
      · intro q2
        rw [mr_cmp_0 (mr_and_rj _ _)] at q2
        refine ih _ _ (by omega) (by omega) (by omega) ⟨by omega, by omega⟩ (fun x g0 g1 g2 g3 => ?_)
        by_cases g : x + 1000 < 64 * i
        · exact hj x g0 g1 g2 g
        · have eb : ((x + 1000 - 64 * i).toNat : Int) = x + 1000 - 64 * i := by omega
          have := q2 (x + 1000 - 64 * i).toNat (by omega)
          rw [rb_and, rb_xor, hb _ (by omega), hv _ (by omega), eb] at this
          have t : decide (A ≤ 64 * i + (x + 1000 - 64 * i) ∧ 64 * i + (x + 1000 - 64 * i) ≤ 2047) = true := decide_eq_true (by omega)
          rw [t, Bool.and_true] at this
          have e := rx_at (M := M) (w := w) (j := i) (b := (x + 1000 - 64 * i).toNat) (by omega)
          have ex : 64 * i + ((x + 1000 - 64 * i).toNat : Int) - 1000 = x := by omega
          rw [ex] at e
          rw [e]
          revert this
          generalize rb (M.1 (w + 1) i) (x + 1000 - 64 * i).toNat = z
          cases z <;> cases tb <;> simp
      · intro q2
        rw [mr_cmp_0 (mr_and_rj _ _)] at q2
        obtain ⟨t, ht, h2, h3⟩ := rb_least q2
        refine c20 ho ht h2 h3 (fun _ => ⟨⟨by omega, by omega⟩, ?_⟩)
        have bit : ∀ j : Nat, j < 64 → rb (mr_and (mr_xor (M.1 (w + 1) i) v) x) j = ((rx M w (64 * i + j - 1000) ^^ tb) && decide (A ≤ 64 * i + j)) := by
          intro j hj'
          rw [rb_and, rb_xor, hb _ hj', hv _ hj', rx_at hj']
          congr 1
          apply decide_eq_decide.mpr
          omega
        rw [bit t ht, Bool.and_eq_true, decide_eq_true_iff] at h2
        refine Or.inl ⟨_, rfl, k _ (by omega) (by omega) (fun y g0 g1 g2 => ?_) (fun g => ?_)⟩
        · by_cases g : y + 1000 < 64 * i
          · exact hj y g0 (by omega) (by omega) g
          · have := h3 (y + 1000 - 64 * i).toNat (by omega)
            rw [bit _ (by omega)] at this
            have ex : 64 * i + ((y + 1000 - 64 * i).toNat : Int) - 1000 = y := by omega
            have ey : decide (A ≤ 64 * i + ((y + 1000 - 64 * i).toNat : Int)) = true := decide_eq_true (by omega)
            rw [ex, ey, Bool.and_true] at this
            revert this
            generalize rx M w y = z
            cases z <;> cases tb <;> simp
        · have e : min 1000 (-1000 + i * 64 + (t : Int)) = 64 * i + t - 1000 := by omega
          rw [e]
          refine ⟨by omega, ?_⟩
          have := h2.1
          revert this
          generalize rx M w (64 * i + t - 1000) = z
          cases z <;> cases tb <;> simp
  refine loop _ _ _ rfl (by omega) (by omega) ⟨by omega, by omega⟩ (fun x g0 g1 g2 g3 => ?_)
  omega
/-- Row.nextIn -/
theorem c22 {K : Int → mm_M → Prop} {w : Nat} {f : Int} (ho : mr_ok M) (hw : mr_Rw w) (hf : mr_rg f) (hf1 : f ≤ 1000000)
    (k : ∀ r, -1000 ≤ r → r ≤ 1000 → (∀ x, f ≤ x → x < r → ¬ ri M w x) → (r < 1000 → f ≤ r ∧ ri M w r) → K r M) : en_CI sc 22 [mm_r w, mm_i f] M K X := by
  refine vc22_0 ho hw ?_
  refine c21 ho hw hf hf1 (fun b _ => rb_0 b) (fun r h0 h1 h2 h3 _ => Or.inl ⟨_, rfl, k r h0 h1 (fun x g1 g2 g => ?_) (fun g => ?_)⟩)
  · have := h2 x g.1 g1 g2
    rw [(ri_rx g.1 g.2.1).mp g] at this
    cases this
  · exact ⟨(h3 g).1, (ri_rx h0 (by omega)).mpr (h3 g).2⟩
/-- Row.nextOut -/
theorem c25 {K : Int → mm_M → Prop} {w : Nat} {f : Int} (ho : mr_ok M) (hw : mr_Rw w) (hf : mr_rg f) (hf1 : f ≤ 1000000)
    (k : ∀ r, -1000 ≤ r → r ≤ 1000 → (∀ x, -1000 ≤ x → f ≤ x → x < r → ri M w x) → (r < 1000 → f ≤ r ∧ ¬ ri M w r) → K r M) : en_CI sc 25 [mm_r w, mm_i f] M K X := by
  refine vc25_0 ho hw ?_
  refine c21 ho hw hf hf1 (fun b hb => rb_m1 hb) (fun r h0 h1 h2 h3 _ => Or.inl ⟨_, rfl, k r h0 h1 (fun x g0 g1 g2 => ?_) (fun g => ?_)⟩)
  · exact (ri_rx g0 (by omega)).mpr (h2 x g0 g1 g2)
  · refine ⟨(h3 g).1, fun q => ?_⟩
    have := (ri_rx h0 (by omega)).mp q
    rw [(h3 g).2] at this
    cases this
/-- Row.isEmpty -/
theorem c23 {K : Int → mm_M → Prop} {w : Nat} (ho : mr_ok M) (hw : mr_Rw w) (k1 : (∀ x, x < 1000 → ¬ ri M w x) → K 1 M) (k0 : (∃ x, x < 1000 ∧ ri M w x) → K 0 M) : en_CI sc 23 [mm_r w] M K X := by
  refine vc23_0 ho hw ?_
  refine c22 ho hw ⟨by decide, by decide⟩ (by decide) (fun r h0 h1 h2 h3 _ => ⟨⟨by omega, by omega⟩, fun q => ?_, fun q => ?_⟩)
  · exact Or.inl ⟨_, rfl, k0 ⟨r, by omega, (h3 (by omega)).2⟩⟩
  · exact Or.inl ⟨_, rfl, k1 (fun x hx g => h2 x g.1 (by omega) g)⟩
/-- Row.sameAs -/
theorem c24 {K : Int → mm_M → Prop} {w v : Nat} (ho : mr_ok M) (hw : mr_Rw w) (hv : mr_Rw v) (k1 : (∀ x, ri M w x ↔ ri M v x) → K 1 M) (k0 : (∃ x, ¬ (ri M w x ↔ ri M v x)) → K 0 M) : en_CI sc 24 [mm_r w, mm_r v, mm_u] M K X := by
  refine vc24_0 ho ?_
  have loop : ∀ (n : Nat) (i : Int), n = (32 - i).toNat → 0 ≤ i → i ≤ 32 → (∀ j, 0 ≤ j → j < i → M.1 (w + 1) j = M.1 (v + 1) j) →
      en_R sc 24 2 [mm_r w, mm_r v, mm_i i] [] M (fun r M1 => (∃ x, r = .inl (some (mm_i x)) ∧ K x M1) ∨ ∃ e, r = .inr e ∧ e < 100 ∧ X e M1) := by
    intro n
    induction n with
    | zero =>
      intro i hn h0 h1 hj
      refine vc24_2 ho ⟨by omega, by omega⟩ hw hv ⟨fun q => ?_, fun q => absurd q (by omega)⟩
      refine Or.inl ⟨_, rfl, k1 (fun x => ?_)⟩
      unfold ri
      constructor
      · rintro ⟨a, b, c⟩
        rw [hj _ (by omega) (by omega)] at c
        exact ⟨a, b, c⟩
      · rintro ⟨a, b, c⟩
        rw [← hj _ (by omega) (by omega)] at c
        exact ⟨a, b, c⟩
    | succ n ih =>
      intro i hn h0 h1 hj
      refine vc24_2 ho ⟨by omega, by omega⟩ hw hv ⟨fun q => absurd q (by omega), fun q => ⟨h0, by omega, h0, by omega, fun q2 => ?_, fun q2 => ?_⟩⟩
      · rw [mr_cmp_eq] at q2
        refine ih _ (by omega) (by omega) (by omega) (fun j g0 g1 => ?_)
        by_cases g : j = i
        · rw [g]; exact q2
        · exact hj j g0 (by omega)
      · rw [mr_cmp_eq] at q2
        refine Or.inl ⟨_, rfl, k0 ?_⟩
        refine Classical.byContradiction fun g => q2 (rb_ext (ho.1 _ _) (ho.1 _ _) (fun b hb => ?_))
        have g2 : ri M w (64 * i + b - 1000) ↔ ri M v (64 * i + b - 1000) := Classical.byContradiction fun q => g ⟨_, q⟩
        rw [ri_rx (by omega) (by omega), ri_rx (by omega) (by omega), rx_at hb, rx_at hb] at g2
        exact Bool.eq_iff_iff.mpr g2
  exact loop _ 0 rfl (by omega) (by omega) (fun j a b => absurd b (by omega))
/-- Row.copyFrom -/
theorem c28 {K : mm_M → Prop} {w v : Nat} (ho : mr_ok M) (hw : mr_Rw w) (hv : mr_Rw v) (k : ∀ M1, fr (rS w) M M1 → (∀ x, ri M1 w x ↔ ri M v x) → K M1) : en_CV sc 28 [mm_r w, mm_r v] M K X := by
  refine vc28_0 ho hv hw (Or.inl ⟨rfl, k _ ⟨rfl, fun b j q => ?_⟩ (fun x => ?_)⟩)
  · show (if b = w + 1 ∧ 0 ≤ j ∧ j < 0 + 32 then M.1 (v + 1) (0 + (j - 0)) else M.1 b j) = M.1 b j
    rw [if_neg]
    intro g
    exact q g.1
  · have e : ∀ j, 0 ≤ j → j < 32 → (mm_cpy M (v + 1) (w + 1) 0 0 32).1 (w + 1) j = M.1 (v + 1) j := by
      intro j g0 g1
      show (if w + 1 = w + 1 ∧ 0 ≤ j ∧ j < 0 + 32 then M.1 (v + 1) (0 + (j - 0)) else M.1 (w + 1) j) = _
      rw [if_pos ⟨rfl, g0, by omega⟩]
      have : 0 + (j - 0) = j := by omega
      rw [this]
    unfold ri
    constructor
    · rintro ⟨a, b, c⟩
      rw [e _ (by omega) (by omega)] at c
      exact ⟨a, b, c⟩
    · rintro ⟨a, b, c⟩
      rw [← e _ (by omega) (by omega)] at c
      exact ⟨a, b, c⟩
end
