section
variable {P : mm_P}
theorem mm_bi_kp {me : mm_E} {b w pc : Nat} {ls st : List mm_V} {n : Nat} {M : mm_M} {τ : mm_S} (h : mm_bi P me b w pc ls st n M = some τ) : mm_kp (pc, ls, st, n, M) τ := by
  unfold mm_bi at h
  split at h
  · split at h
    · cases h; exact mm_kp_sub fun v hv => Or.inl (mm_tl v hv)
    · cases h; exact mm_kp_sub fun v => mm_1i mm_tl2
    · cases h; exact mm_kp_sub fun v => mm_1i mm_tl2
    · cases h; exact mm_kp_sub fun v => mm_1i mm_tl
    · split at h
      · split at h
        · cases h; exact mm_kp_M rfl (fun _ hm => hm) mm_tl5
        · cases h
      · cases h
    · cases h
  · cases h
theorem mm_cat9_kp {y pc x : Nat} {ls st : List mm_V} {n : Nat} {M : mm_M} {τ : mm_S} (h : mm_cat9 P y pc x ls n M = some τ) : mm_kp (pc, ls, st, n, M) τ := by
  unfold mm_cat9 at h
  split at h
  · cases h
  · split at h
    · split at h
      · cases h; exact ⟨Nat.le_refl _, Nat.le_refl _, mm_st1_len _ _ _, fun ⟨a, b, c⟩ => ⟨mm_st1_ok a mm_vok_u, fun v hv => (by cases hv), c⟩⟩
      · cases h
    · split at h
      · cases h; exact ⟨Nat.le_refl _, Nat.le_refl _, mm_st1_len _ _ _, fun ⟨a, b, c⟩ => ⟨mm_st1_ok a mm_vok_u, fun v hv => (by cases hv), c⟩⟩
      · cases h
    · cases h
theorem mm_exp_ok {n : Nat} {as : List mm_V} (h : ∀ v ∈ as, mm_vok n v) : ∀ v ∈ mm_exp as, mm_vok n v := by
  intro v hv
  obtain ⟨a, ha, h1⟩ := List.mem_flatMap.mp hv
  split at h1
  · simp only [List.mem_cons, List.not_mem_nil, or_false] at h1
    rcases h1 with rfl | rfl
    · exact h _ ha
    · exact mm_vok_u
  · simp only [List.mem_cons, List.not_mem_nil, or_false] at h1
    subst h1; exact h _ ha
theorem mm_ent_ok {n m : Nat} {as : List mm_V} (h : ∀ v ∈ as, mm_vok n v) : ∀ v ∈ mm_ent m as, mm_vok n v := by
  intro v hv
  rcases List.mem_append.mp hv with h1 | h1
  · exact mm_exp_ok h v h1
  · rw [(List.mem_replicate.mp h1).2]; exact mm_vok_u
theorem mm_args_spec {k : Nat} {st as r : List mm_V} (h : mm_args k st = some (as, r)) : st = as.reverse ++ r ∧ as.length = k := by
  unfold mm_args at h
  split at h
  · rename_i hk
    cases h
    exact ⟨by rw [List.reverse_reverse, List.take_append_drop], by simp [hk]⟩
  · cases h
theorem mm_ret_ok {n : Nat} {t : Option FieldType} {i : Instr} {st : List mm_V} {o : Option mm_V} (hs : ∀ v ∈ st, mm_vok n v) (h : mm_ret t i st = some o) : ∀ v, o = some v → mm_vok n v := by
  intro v hv
  unfold mm_ret at h
  split at h
  · cases h; cases hv; exact mm_vok_i
  · split at h
    · cases h; cases hv; exact mm_vok_i
    · cases h
  · cases h; cases hv; exact mm_vok_j
  · cases h; cases hv; exact hs _ List.mem_cons_self
  · cases h; cases hv
  · cases h
/-- what a run keeps -/
def mm_rk (σ : mm_S) (r : mm_R) (n' : Nat) (M' : mm_M) : Prop := σ.2.2.2.1 ≤ n' ∧ σ.2.2.2.2.2.2 ≤ M'.2.2 ∧ (mm_sok σ → mm_mok n' M' ∧ ∀ v, r = .inl (some v) → mm_vok n' v)
theorem mm_rk_of {σ τ : mm_S} {r : mm_R} {n' : Nat} {M' : mm_M} (h : mm_kp σ τ) (k : mm_rk τ r n' M') : mm_rk σ r n' M' :=
  ⟨Nat.le_trans h.1 k.1, Nat.le_trans h.2.1 k.2.1, fun q => k.2.2 (h.2.2.2 q)⟩
theorem mm_kp_call {pc pc' : Nat} {ls st r : List mm_V} {n n' : Nat} {M M' : mm_M} {v : Option mm_V} (hr : ∀ x ∈ r, x ∈ st) (hn : n ≤ n') (hk : M.2.2 ≤ M'.2.2) (hm : mm_sok (pc, ls, st, n, M) → mm_mok n' M' ∧ ∀ x, v = some x → mm_vok n' x) : mm_kp (pc, ls, st, n, M) (pc', ls, v.toList ++ r, n', M') :=
  ⟨hn, hk, rfl, fun q => ⟨fun x hx => mm_vok_le (q.1 x hx) hn, fun x hx => by
    rcases List.mem_append.mp hx with h | h
    · exact (hm q).2 x (Option.mem_toList.mp h)
    · exact mm_vok_le (q.2.1 x (hr x h)) hn, (hm q).1⟩⟩
set_option maxRecDepth 4000 in
theorem mm_ev_kp (P : mm_P) : ∀ (f y : Nat) (σ : mm_S) (r : mm_R) (n' : Nat) (M' : mm_M), mm_ev P f y σ = some (r, n', M') → mm_rk σ r n' M'
  | 0 => by intro y σ r n' M' h; simp [mm_ev] at h
  | f + 1 => by
    intro y ⟨pc, ls, st, n, M⟩ r n' M' h
    have ih := mm_ev_kp P f
    rw [mm_ev] at h
    cases h1 : mm_mt P y with
    | none => simp [h1] at h
    | some me =>
    cases h2 : mm_co P y pc with
    | none => simp [h1, h2] at h
    | some il =>
    obtain ⟨i, len⟩ := il
    simp only [h1, h2] at h
    split at h
    case isFalse => cases h
    case isTrue hlok =>
    cases h3 : mm_iv i with
    | none =>
      simp only [h3] at h
      cases h4 : mm_ret me.2.2.2.2.1 i st with
      | some v =>
        simp only [h4] at h; cases h
        exact ⟨Nat.le_refl _, Nat.le_refl _, fun q => ⟨q.2.2, fun x hx => mm_ret_ok q.2.1 h4 x (by cases hx; rfl)⟩⟩
      | none =>
        simp only [h4] at h
        cases h5 : mm_thr P y me pc st i with
        | some x =>
          simp only [h5] at h; cases h
          exact ⟨Nat.le_refl _, Nat.le_succ _, fun q => ⟨q.2.2, fun x hx => by cases hx⟩⟩
        | none =>
          simp only [h5] at h
          cases h6 : mm_do pc ls st n M P me.1 (me.2.1 == 2) i with
          | none => simp [h6] at h
          | some σ => simp only [h6] at h; exact mm_rk_of (mm_do_kp h6) (ih y σ _ _ _ h)
    | some wi =>
      obtain ⟨w, idx⟩ := wi
      simp only [h3] at h
      cases h4 : mm_lm P me.1 idx with
      | none => simp [h4] at h
      | some z =>
      simp only [h4] at h
      cases h5 : mm_mt P z with
      | none => simp [h5] at h
      | some mz =>
      simp only [h5] at h
      split at h
      case isTrue hb =>
        cases h6 : mm_bi P me mz.2.1 w pc ls st n M with
        | none => simp [h6] at h
        | some σ => simp only [h6] at h; exact mm_rk_of (mm_bi_kp h6) (ih y σ _ _ _ h)
      case isFalse hb =>
      split at h
      case isFalse => cases h
      case isTrue hw =>
      cases h6 : mm_args (mz.2.2.1 + (if w = 0 then 0 else 1)) st with
      | none => simp [h6] at h
      | some ar =>
      obtain ⟨as, rr⟩ := ar
      simp only [h6] at h
      obtain ⟨hst, -⟩ := mm_args_spec h6
      split at h
      case isFalse => cases h
      case isTrue hc =>
      cases h7 : mm_ev P f z (0, mm_ent mz.2.2.2.1 as, [], n, M) with
      | none => simp [h7] at h
      | some q =>
      obtain ⟨x, n1, M1⟩ := q
      have h8 := ih z _ _ _ _ h7
      have hr : ∀ v ∈ rr, v ∈ st := fun v hv => by rw [hst]; exact List.mem_append_right _ hv
      have has : mm_sok (pc, ls, st, n, M) → mm_sok (0, mm_ent mz.2.2.2.1 as, [], n, M) := fun q => ⟨mm_ent_ok fun v hv => q.2.1 v (by show v ∈ st; rw [hst]; exact List.mem_append_left _ (List.mem_reverse.mpr hv)), fun v hv => (by cases hv), q.2.2⟩
      rcases x with x | x
      · simp only [h7] at h
        exact mm_rk_of (mm_kp_call hr h8.1 h8.2.1 fun q => ⟨(h8.2.2 (has q)).1, fun v hv => (h8.2.2 (has q)).2 v (by rw [hv])⟩) (ih y _ _ _ _ h)
      · simp only [h7] at h
        split at h
        case isTrue => cases h
        case isFalse hk2 =>
        cases h9 : mm_hd P y pc x with
        | none =>
          simp only [h9] at h; cases h
          exact ⟨h8.1, h8.2.1, fun q => ⟨(h8.2.2 (has q)).1, fun v hv => by cases hv⟩⟩
        | some hh =>
          simp only [h9] at h
          cases h10 : mm_cat9 P y pc x ls n1 M1 with
          | none => simp [h10] at h
          | some σ =>
            simp only [h10] at h
            exact mm_rk_of (mm_kp_call (pc' := pc) (v := none) (r := rr) hr h8.1 h8.2.1 fun q => ⟨(h8.2.2 (has q)).1, fun v hv => by cases hv⟩) (mm_rk_of (mm_cat9_kp h10) (ih y _ _ _ _ h))
end
