/-! ===== Row.mix ===== -/
def mop (how : Int) (a b : Bool) : Bool := if how = 0 then (a || b) else if how = 1 then (a && b) else if how = 2 then (a && !b) else (a ^^ b)
section
variable {sc : Nat × (Int → Int)} {M : mm_M} {X : Nat → mm_M → Prop}
theorem c54 {K : Int → mm_M → Prop} {a b how : Int} (ho : mr_ok M) (hh : mr_rg how) (k : ∀ x, mr_rj x → (∀ j, j < 64 → rb x j = mop how (rb a j) (rb b j)) → K x M) : en_CJ sc 54 [mm_j a, mm_u, mm_j b, mm_u, mm_i how] M K X := by
  refine vc54_0 ho hh ⟨fun q => ?_, fun q => ?_, fun q => ?_, fun q0 q1 q2 => ?_⟩
  · refine Or.inl ⟨_, rfl, k _ (mr_or_rj _ _) (fun j hj => ?_)⟩
    subst q
    rw [rb_or]
    rfl
  · refine Or.inl ⟨_, rfl, k _ (mr_and_rj _ _) (fun j hj => ?_)⟩
    subst q
    rw [rb_and]
    rfl
  · refine Or.inl ⟨_, rfl, k _ (mr_and_rj _ _) (fun j hj => ?_)⟩
    subst q
    rw [rb_and, rb_xor, rb_m1 hj, Bool.xor_true]
    rfl
  · refine Or.inl ⟨_, rfl, k _ (mr_xor_rj _ _) (fun j hj => ?_)⟩
    unfold mop
    rw [rb_xor, if_neg q0, if_neg q1, if_neg q2]
theorem c55 {K : mm_M → Prop} {w v : Nat} {how : Int} (ho : mr_ok M) (hw : mr_Rw w) (hv : mr_Rw v) (hwv : w ≠ v) (hh : mr_rg how)
    (k : ∀ M1, fr (rS w) M M1 → (∀ x, -1000 ≤ x → x < 1048 → rx M1 w x = mop how (rx M w x) (rx M v x)) → K M1) : en_CV sc 55 [mm_r w, mm_r v, mm_i how, mm_u] M K X := by
  refine vc55_0 ho ?_
  have loop : ∀ (n : Nat) (i : Int) (M' : mm_M), n = (32 - i).toNat → 0 ≤ i → i ≤ 32 → mr_ok M' → fr (rS w) M M' → (∀ j, 0 ≤ j → ∀ b, b < 64 → rb (M'.1 (w + 1) j) b = if j < i then mop how (rb (M.1 (w + 1) j) b) (rb (M.1 (v + 1) j) b) else rb (M.1 (w + 1) j) b) →
      en_R sc 55 2 [mm_r w, mm_r v, mm_i how, mm_i i] [] M' (fun r M1 => (r = .inl none ∧ K M1) ∨ ∃ e, r = .inr e ∧ e < 100 ∧ X e M1) := by
    intro n
    induction n with
    | zero =>
      intro i M' hn h0 h1 ho' hf hj
      refine vc55_2 ho' ⟨by omega, by omega⟩ hw hv ⟨fun q => ?_, fun q => absurd q (by omega)⟩
      refine Or.inl ⟨rfl, k M' hf (fun x g0 g1 => ?_)⟩
      unfold rx
      rw [hj _ (by omega) _ (by omega), if_pos (by omega)]
    | succ n ih =>
      intro i M' hn h0 h1 ho' hf hj
      refine vc55_2 ho' ⟨by omega, by omega⟩ hw hv ⟨fun q => absurd q (by omega), fun q => ⟨h0, by omega, h0, by omega, ?_⟩⟩
      refine c54 ho' hh (fun x hx hb _ => ⟨h0, by omega, hx, ?_⟩)
      refine ih _ _ (by omega) (by omega) (by omega) (mr_ok_putL ho' (by unfold mr_Rw at hw; unfold mr_lg; omega) hx) (fr_trans hf (fr_put rfl)) ?_
      intro j g0 b gb
      by_cases g : j = i
      · subst g
        rw [put_eq, hb b gb, hj j g0 b gb, if_neg (by omega), if_pos (by omega), hf.2 (v + 1) j (fun e => hwv (by have : v + 1 = w + 1 := e; omega))]
      · rw [put_k g, hj j g0 b gb]
        by_cases g2 : j < i
        · rw [if_pos g2, if_pos (by omega)]
        · rw [if_neg g2, if_neg (by omega)]
  refine loop _ 0 M rfl (by omega) (by omega) ho fr_refl (fun j g0 b gb => ?_)
  rw [if_neg (by omega)]
/-- the set operation of combine() -/
def mp (how : Int) (p q : Prop) : Prop := (how = 0 ∧ (p ∨ q)) ∨ (how = 1 ∧ p ∧ q) ∨ (how = 2 ∧ p ∧ ¬ q) ∨ (how = 3 ∧ ¬ (p ↔ q))
theorem mp_no {how : Int} {p q : Prop} (hp : ¬ p) (hq : ¬ q) : ¬ mp how p q := by
  unfold mp
  simp [hp, hq]
theorem mop_mp {how : Int} {a b : Bool} (hh : 0 ≤ how ∧ how ≤ 3) : mop how a b = true ↔ mp how (a = true) (b = true) := by
  have : how = 0 ∨ how = 1 ∨ how = 2 ∨ how = 3 := by omega
  rcases this with rfl | rfl | rfl | rfl <;> cases a <;> cases b <;> simp [mop, mp]
/-- Row.mix -/
theorem c55x {K : mm_M → Prop} {w v : Nat} {how : Int} (ho : mr_ok M) (hw : mr_Rw w) (hv : mr_Rw v) (hwv : w ≠ v) (hh : 0 ≤ how ∧ how ≤ 3)
    (k : ∀ M1, fr (rS w) M M1 → (∀ x, ri M1 w x ↔ mp how (ri M w x) (ri M v x)) → K M1) : en_CV sc 55 [mm_r w, mm_r v, mm_i how, mm_u] M K X := by
  refine c55 ho hw hv hwv ⟨by omega, by omega⟩ (fun M1 hf h => k M1 hf (fun x => ?_))
  by_cases h0 : -1000 ≤ x ∧ x < 1048
  · rw [ri_rx h0.1 h0.2, ri_rx h0.1 h0.2, ri_rx h0.1 h0.2, h x h0.1 h0.2]
    exact mop_mp hh
  · have a : ∀ N u, ¬ ri N u x := fun N u g => h0 ⟨g.1, g.2.1⟩
    exact ⟨fun g => absurd g (a _ _), fun g => absurd g (mp_no (a _ _) (a _ _))⟩
end
