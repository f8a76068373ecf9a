/-! ===== fuel; references stay in range; counts only grow ===== -/
set_option maxRecDepth 4000 in
theorem mm_ev_up (P : mm_P) : ∀ (f y : Nat) (σ : mm_S) (r : mm_R × Nat × mm_M), mm_ev P f y σ = some r → mm_ev P (f + 1) y σ = some r
  | 0 => by intro y σ r h; simp [mm_ev] at h
  | f + 1 => by
    intro y ⟨pc, ls, st, n, M⟩ r h
    have ih := mm_ev_up P f
    rw [mm_ev] at h
    rw [mm_ev]
    cases h1 : mm_mt P y with
    | none => simp [h1] at h
    | some me =>
    cases h2 : mm_co P y pc with
    | none => simp [h1, h2] at h
    | some il =>
    obtain ⟨i, len⟩ := il
    simp only [h1, h2] at h ⊢
    split at h
    case isFalse => cases h
    case isTrue hlok =>
    rw [if_pos hlok]
    cases h3 : mm_iv i with
    | none =>
      simp only [h3] at h ⊢
      cases h4 : mm_ret me.2.2.2.2.1 i st with
      | some v => simp only [h4] at h ⊢; exact h
      | none =>
        simp only [h4] at h ⊢
        cases h5 : mm_thr P y me pc st i with
        | some x => simp only [h5] at h ⊢; exact h
        | none =>
          simp only [h5] at h ⊢
          cases h6 : mm_do pc ls st n M P me.1 (me.2.1 == 2) i with
          | none => simp [h6] at h
          | some σ => simp only [h6] at h ⊢; exact ih y σ r h
    | some wi =>
      obtain ⟨w, idx⟩ := wi
      simp only [h3] at h ⊢
      cases h4 : mm_lm P me.1 idx with
      | none => simp [h4] at h
      | some z =>
      simp only [h4] at h ⊢
      cases h5 : mm_mt P z with
      | none => simp [h5] at h
      | some mz =>
      simp only [h5] at h ⊢
      split at h
      case isTrue hb =>
        rw [if_pos hb]
        cases h6 : mm_bi P me mz.2.1 w pc ls st n M with
        | none => simp [h6] at h
        | some σ => simp only [h6] at h ⊢; exact ih y σ r h
      case isFalse hb =>
      rw [if_neg hb]
      split at h
      case isFalse => cases h
      case isTrue hw =>
      rw [if_pos hw]
      cases h6 : mm_args (mz.2.2.1 + (if w = 0 then 0 else 1)) st with
      | none => simp [h6] at h
      | some ar =>
      obtain ⟨as, rr⟩ := ar
      simp only [h6] at h ⊢
      split at h
      case isFalse => cases h
      case isTrue hc =>
      rw [if_pos hc]
      cases h7 : mm_ev P f z (0, mm_ent mz.2.2.2.1 as, [], n, M) with
      | none => simp [h7] at h
      | some q =>
      have h8 := ih z _ q h7
      obtain ⟨x | x, n', M'⟩ := q
      · simp only [h7] at h
        simp only [h8]
        exact ih y _ r h
      · simp only [h7] at h
        simp only [h8]
        split at h
        case isTrue => cases h
        case isFalse hk2 =>
        rw [if_neg hk2]
        cases h9 : mm_hd P y pc x with
        | none => simp only [h9] at h ⊢; exact h
        | some hh =>
          simp only [h9] at h ⊢
          cases h10 : mm_cat9 P y pc x ls n' M' with
          | none => simp [h10] at h
          | some σ => simp only [h10] at h ⊢; exact ih y σ r h
theorem mm_ev_le (P : mm_P) {f g y : Nat} {σ : mm_S} {r : mm_R × Nat × mm_M} (h : mm_ev P f y σ = some r) (hg : f ≤ g) : mm_ev P g y σ = some r := by
  induction g with
  | zero => rw [show f = 0 by omega] at h; exact h
  | succ g ih =>
    by_cases hf : f = g + 1
    · rw [← hf]; exact h
    · exact mm_ev_up P g y σ r (ih (by omega))
def mm_vok (n : Nat) (v : mm_V) : Prop := ∀ a, v = mm_r a → a < n ∨ a = mm_scr
def mm_mok (n : Nat) (M : mm_M) : Prop := ∀ a k b, M.2.1 a k = some b → b < n ∨ b = mm_scr
def mm_sok (σ : mm_S) : Prop := (∀ v ∈ σ.2.1, mm_vok σ.2.2.2.1 v) ∧ (∀ v ∈ σ.2.2.1, mm_vok σ.2.2.2.1 v) ∧ mm_mok σ.2.2.2.1 σ.2.2.2.2
/-- what a step keeps -/
def mm_kp (σ τ : mm_S) : Prop := σ.2.2.2.1 ≤ τ.2.2.2.1 ∧ σ.2.2.2.2.2.2 ≤ τ.2.2.2.2.2.2 ∧ τ.2.1.length = σ.2.1.length ∧ (mm_sok σ → mm_sok τ)
theorem mm_vok_i {n : Nat} {x : Int} : mm_vok n (mm_i x) := fun a h => by cases h
theorem mm_vok_j {n : Nat} {x : Int} : mm_vok n (mm_j x) := fun a h => by cases h
theorem mm_vok_u {n : Nat} : mm_vok n mm_u := fun a h => by cases h
theorem mm_vok_r {n a : Nat} (h : a < n ∨ a = mm_scr) : mm_vok n (mm_r a) := fun b e => by cases e; exact h
theorem mm_vok_le {n m : Nat} {v : mm_V} (h : mm_vok n v) (hn : n ≤ m) : mm_vok m v := fun a e => (h a e).elim (fun q => Or.inl (by omega)) Or.inr
theorem mm_all_set {n : Nat} {ls : List mm_V} {i : Nat} {v : mm_V} (h : ∀ x ∈ ls, mm_vok n x) (hv : mm_vok n v) : ∀ x ∈ ls.set i v, mm_vok n x := by
  intro x hx
  rcases List.mem_or_eq_of_mem_set hx with h1 | h1
  · exact h x h1
  · rw [h1]; exact hv
theorem mm_fix_len (ls : List mm_V) (i : Nat) : (mm_fix ls i).length = ls.length := by
  unfold mm_fix
  split
  · rfl
  · split <;> simp
theorem mm_fix_ok {n : Nat} {ls : List mm_V} (i : Nat) (h : ∀ x ∈ ls, mm_vok n x) : ∀ x ∈ mm_fix ls i, mm_vok n x := by
  unfold mm_fix
  split
  · exact h
  · split
    · exact mm_all_set h mm_vok_u
    · exact h
theorem mm_st1_ok {n : Nat} {ls : List mm_V} {i : Nat} {v : mm_V} (h : ∀ x ∈ ls, mm_vok n x) (hv : mm_vok n v) : ∀ x ∈ mm_st1 ls i v, mm_vok n x := mm_all_set (mm_fix_ok i h) hv
theorem mm_st2_ok {n : Nat} {ls : List mm_V} {i : Nat} {v : mm_V} (h : ∀ x ∈ ls, mm_vok n x) (hv : mm_vok n v) : ∀ x ∈ mm_st2 ls i v, mm_vok n x := mm_all_set (mm_all_set (mm_fix_ok i h) hv) mm_vok_u
theorem mm_st1_len (ls : List mm_V) (i : Nat) (v : mm_V) : (mm_st1 ls i v).length = ls.length := by simp [mm_st1, mm_fix_len]
theorem mm_st2_len (ls : List mm_V) (i : Nat) (v : mm_V) : (mm_st2 ls i v).length = ls.length := by simp [mm_st2, mm_fix_len]
/-- a step that leaves memory and locals -/
theorem mm_kp_st {pc pc' : Nat} {ls st st' : List mm_V} {n : Nat} {M : mm_M} (h : (∀ v ∈ st, mm_vok n v) → (∀ v ∈ ls, mm_vok n v) → mm_mok n M → ∀ v ∈ st', mm_vok n v) : mm_kp (pc, ls, st, n, M) (pc', ls, st', n, M) :=
  ⟨Nat.le_refl _, Nat.le_refl _, rfl, fun ⟨a, b, c⟩ => ⟨a, h b a c, c⟩⟩
theorem mm_kp_sub {pc pc' : Nat} {ls st st' : List mm_V} {n : Nat} {M : mm_M} (h : ∀ v ∈ st', v ∈ st ∨ mm_vok n v) : mm_kp (pc, ls, st, n, M) (pc', ls, st', n, M) :=
  mm_kp_st fun a _ _ v hv => (h v hv).elim (a v) id
theorem mm_mok_putN {n : Nat} {M : mm_M} {a : Nat} {k x : Int} (h : mm_mok n M) : mm_mok n (mm_putN M a k x) := h
theorem mm_mok_putR {n : Nat} {M : mm_M} {a : Nat} {k : Int} {b : Nat} (h : mm_mok n M) (hb : b < n ∨ b = mm_scr) : mm_mok n (mm_putR M a k (some b)) := by
  intro a' k' b' e
  simp only [mm_putR] at e
  split at e
  · cases e; exact hb
  · exact h _ _ _ e
theorem mm_mok_fresh {n : Nat} {M : mm_M} (h : mm_mok n M) : mm_mok (n + 1) (mm_fresh M n) := by
  intro a' k' b' e
  simp only [mm_fresh] at e
  split at e
  · cases e
  · exact (h _ _ _ e).elim (fun q => Or.inl (by omega)) Or.inr
theorem mm_kp_M {pc pc' : Nat} {ls st st' : List mm_V} {n : Nat} {M M' : mm_M} (hk : M'.2.2 = M.2.2) (hM : (∀ v ∈ st, mm_vok n v) → mm_mok n M → mm_mok n M') (h : ∀ v ∈ st', v ∈ st) : mm_kp (pc, ls, st, n, M) (pc', ls, st', n, M') :=
  ⟨Nat.le_refl _, Nat.le_of_eq hk.symm, rfl, fun ⟨a, b, c⟩ => ⟨a, fun v hv => b v (h v hv), hM b c⟩⟩
theorem mm_kp_new {pc pc' : Nat} {ls st st' : List mm_V} {n : Nat} {M : mm_M} (h : ∀ v ∈ st', v ∈ st ∨ v = mm_r n) : mm_kp (pc, ls, st, n, M) (pc', ls, st', n + 1, mm_fresh M n) :=
  ⟨Nat.le_succ _, Nat.le_refl _, rfl, fun ⟨a, b, c⟩ => ⟨fun v hv => mm_vok_le (a v hv) (Nat.le_succ _), fun v hv => (h v hv).elim (fun q => mm_vok_le (b v q) (Nat.le_succ _)) (fun q => by rw [q]; exact mm_vok_r (Or.inl (Nat.lt_succ_self n))), mm_mok_fresh c⟩⟩
