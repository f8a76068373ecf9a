/-! ===== Row: a set of numbers ===== -/
def ri (M : mm_M) (w : Nat) (x : Int) : Prop := -1000 ≤ x ∧ x < 1048 ∧ rb (M.1 (w + 1) ((x + 1000) / 64)) ((x + 1000) % 64).toNat = true
def rz (M : mm_M) (w : Nat) : Prop := ∀ x, ri M w x → x < 1000
abbrev rS (w : Nat) : Nat → Int → Prop := fun b _ => b = w + 1
theorem ri_fr {M M1 : mm_M} {S : Nat → Int → Prop} {w : Nat} (h : fr S M M1) (hs : ∀ k, ¬ S (w + 1) k) (x : Int) : ri M1 w x ↔ ri M w x := by
  unfold ri
  rw [h.2 _ _ (hs _)]
theorem rz_fr {M M1 : mm_M} {S : Nat → Int → Prop} {w : Nat} (h : fr S M M1) (hs : ∀ k, ¬ S (w + 1) k) (hz : rz M w) : rz M1 w := fun x g => hz x ((ri_fr h hs x).mp g)
section
variable {sc : Nat × (Int → Int)} {M : mm_M} {X : Nat → mm_M → Prop}
/-- Arrays.fill on longs -/
theorem c11 {K : mm_M → Prop} {a : Nat} {v : Int} (ho : mr_ok M) (ha : mr_Ww a) (hv : mr_rj v) (k : ∀ M1, fr (fun b _ => b = a) M M1 → (∀ j, 0 ≤ j → j < 32 → M1.1 a j = v) → K M1) : en_CV sc 11 [mm_r a, mm_j v, mm_u, mm_u, mm_u] M K X := by
  refine vc11_0 ho ha ?_
  have loop : ∀ (n : Nat) (i : Int) (M' : mm_M), n = (32 - i).toNat → 0 ≤ i → i ≤ 32 → mr_ok M' → fr (fun b _ => b = a) M M' → (∀ j, 0 ≤ j → j < i → M'.1 a j = v) →
      en_R sc 11 6 [mm_r a, mm_j v, mm_u, mm_i i, mm_i 32] [] M' (fun r M1 => (r = .inl none ∧ K M1) ∨ ∃ e, r = .inr e ∧ e < 100 ∧ X e M1) := by
    intro n
    induction n with
    | zero =>
      intro i M' hn h0 h1 ho' hf hj
      refine vc11_6 ho' ⟨by omega, by omega⟩ ⟨by decide, by decide⟩ ha ⟨fun q => ?_, fun q => absurd q (by omega)⟩
      exact Or.inl ⟨rfl, k M' hf (fun j a b => hj j a (by omega))⟩
    | succ n ih =>
      intro i M' hn h0 h1 ho' hf hj
      refine vc11_6 ho' ⟨by omega, by omega⟩ ⟨by decide, by decide⟩ ha ⟨fun q => absurd q (by omega), fun q => ⟨h0, by omega, hv, ?_⟩⟩
      refine ih _ _ (by omega) (by omega) (by omega) (mr_ok_putL ho' (by unfold mr_Ww at ha; unfold mr_lg; omega) hv) (fr_trans hf (fr_put rfl)) ?_
      intro j g0 g1
      by_cases g : j = i
      · subst g
        exact put_eq
      · rw [put_k g]
        exact hj j g0 (by omega)
  exact loop _ 0 M rfl (by omega) (by omega) ho fr_refl (fun j a b => absurd b (by omega))
/-- Row.wipe -/
theorem c12 {K : mm_M → Prop} {w : Nat} (ho : mr_ok M) (hw : mr_Rw w) (k : ∀ M1, fr (rS w) M M1 → (∀ x, ¬ ri M1 w x) → K M1) : en_CV sc 12 [mm_r w] M K X := by
  refine vc12_0 ho hw ?_
  refine en_CV_mono (X := fun e M1 => e < 100 ∧ X e M1) (c11 ho (mk_WR hw) (⟨by decide, by decide⟩ : mr_rj 0) (K := fun M1 => K M1) ?_) (fun M1 h _ => Or.inl ⟨rfl, h⟩) (fun e M1 h => Or.inr ⟨e, rfl, h⟩)
  intro M1 hf h
  refine k M1 hf (fun x g => ?_)
  obtain ⟨g0, g1, g2⟩ := g
  rw [h _ (by omega) (by omega), rb_0] at g2
  cases g2
def rop (t : Int) (a b : Bool) : Bool := if t = 0 then (a || b) else (a ^^ b)
theorem rop_f (t : Int) (a : Bool) : rop t a false = a := by
  unfold rop
  split <;> cases a <;> rfl
theorem c16 {K : mm_M → Prop} {w : Nat} {f t u : Int} (ho : mr_ok M) (hw : mr_Rw w) (hf : mr_rg f) (ht : mr_rg t) (hu : u = 0 ∨ u = 1) (hf1 : f ≤ 1000000)
    (k : ∀ M1, fr (rS w) M M1 → (∀ j, 0 ≤ j → j < 32 → ∀ b, b < 64 → rb (M1.1 (w + 1) j) b = rop u (rb (M.1 (w + 1) j) b) (decide (max f (-1000) ≤ 64 * j + b - 1000 ∧ 64 * j + b - 1000 < min t 1000))) → K M1) :
    en_CV sc 16 [mm_r w, mm_i f, mm_i t, mm_i u, mm_u, mm_u, mm_u, mm_u, mm_u] M K X := by
  have hf2 := hf.1
  have ht2 := ht.2
  have ht3 := ht.1
  refine vc16_0 ho hf ht ⟨⟨by omega, by omega⟩, ⟨by omega, by omega⟩, fun q => ?_, fun q => ⟨by omega, ?_⟩⟩
  · refine Or.inl ⟨rfl, k M fr_refl (fun j h0 h1 b hb => ?_)⟩
    have : (decide (max f (-1000) ≤ 64 * j + b - 1000 ∧ 64 * j + b - 1000 < min t 1000)) = false := decide_eq_false (by omega)
    rw [this, rop_f]
  · generalize hA : max f (-1000) - -1000 = A
    generalize hB : min t 1000 - -1000 - 1 = B
    have hA0 : 0 ≤ A := by omega
    have hAB : A ≤ B := by omega
    have hB1 : B < 2000 := by omega
    have loop : ∀ (n : Nat) (i : Int) (M' : mm_M) (l7 : mm_V), n = (B / 64 + 1 - i).toNat → A / 64 ≤ i → i ≤ B / 64 + 1 → mr_ok M' → fr (rS w) M M' → (∀ j, 0 ≤ j → j < 32 → ∀ b, b < 64 → rb (M'.1 (w + 1) j) b = if j < i then rop u (rb (M.1 (w + 1) j) b) (decide (A ≤ 64 * j + b ∧ 64 * j + b ≤ B)) else rb (M.1 (w + 1) j) b) →
        en_R sc 16 42 [mm_r w, mm_i f, mm_i t, mm_i u, mm_i A, mm_i B, mm_i i, l7, mm_u] [] M' (fun r M1 => (r = .inl none ∧ K M1) ∨ ∃ e, r = .inr e ∧ e < 100 ∧ X e M1) := by
      intro n
      induction n with
      | zero =>
        intro i M' l7 hn h0 h1 ho' hfr hj
        refine vc16_42 ho' ⟨by omega, by omega⟩ ⟨by omega, by omega⟩ hw (mk_01 hu) ⟨by omega, ⟨by omega, by omega⟩, fun q => ?_, fun q => absurd q (by omega)⟩
        refine Or.inl ⟨rfl, k M' hfr (fun j g0 g1 b hb => ?_)⟩
        rw [hj j g0 g1 b hb]
        split
        · congr 1
          apply decide_eq_decide.mpr
          omega
        · have : (decide (max f (-1000) ≤ 64 * j + b - 1000 ∧ 64 * j + b - 1000 < min t 1000)) = false := decide_eq_false (by omega)
          rw [this, rop_f]
      | succ n ih =>
        intro i M' l7 hn h0 h1 ho' hfr hj
        refine vc16_42 ho' ⟨by omega, by omega⟩ ⟨by omega, by omega⟩ hw (mk_01 hu) ⟨by omega, ⟨by omega, by omega⟩, fun q => absurd q (by omega), fun q => ?_⟩
        refine c15 ho' hA0 (by omega) (by omega) (by omega) h0 (by omega) (fun x hx hb _ => ?_)
        have next : ∀ v, mr_rj v → (∀ b, b < 64 → rb v b = rop u (rb (M'.1 (w + 1) i) b) (rb x b)) → en_R sc 16 42 [mm_r w, mm_i f, mm_i t, mm_i u, mm_i A, mm_i B, mm_i (i + 1), mm_j x, mm_u] [] (mm_putN M' (w + 1) i v) (fun r M1 => (r = .inl none ∧ K M1) ∨ ∃ e, r = .inr e ∧ e < 100 ∧ X e M1) := by
          intro v hv hvb
          refine ih _ _ _ (by omega) (by omega) (by omega) (mr_ok_putL ho' (by unfold mr_Rw at hw; unfold mr_lg; omega) hv) (fr_trans hfr (fr_put rfl)) ?_
          intro j g0 g1 b gb
          by_cases g : j = i
          · subst g
            rw [put_eq, hvb b gb, hb b gb, hj j g0 g1 b gb, if_neg (by omega), if_pos (by omega)]
          · rw [put_k g, hj j g0 g1 b gb]
            by_cases g2 : j < i
            · rw [if_pos g2, if_pos (by omega)]
            · rw [if_neg g2, if_neg (by omega)]
        refine ⟨fun q2 => ⟨by omega, by omega, by omega, by omega, mr_or_rj _ _, next _ (mr_or_rj _ _) (fun b _ => ?_)⟩, fun q2 => ⟨by omega, by omega, by omega, by omega, mr_xor_rj _ _, next _ (mr_xor_rj _ _) (fun b _ => ?_)⟩⟩
        · rw [rb_or]
          unfold rop
          rw [if_pos q2]
        · rw [rb_xor]
          unfold rop
          rw [if_neg q2]
    refine loop _ _ M _ rfl (by omega) (by omega) ho fr_refl (fun j g0 g1 b gb => ?_)
    split
    · have : (decide (A ≤ 64 * j + b ∧ 64 * j + b ≤ B)) = false := decide_eq_false (by omega)
      rw [this, rop_f]
    · rfl
end
