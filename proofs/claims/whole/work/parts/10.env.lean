/-! ===== what stays around the world: the script, Throwable's statics, links of nest mates ===== -/
def mm_F (P : mm_P) (Nw : List Cond) (Nc : List (String × String)) (b : Nat) (A : Nat → Prop) (U : State) (H : Heap) : Prop :=
  va_X b (mm_sc P).1 (fun j : Nat => mm_I ((mm_sc P).2 j)) U H ∧ b < H.size ∧ ¬ A b ∧ vx_Zq Bundle.tN "UNASSIGNED_STACK" Bundle.steD A U H ∧ vx_Zq Bundle.tN "SUPPRESSED_SENTINEL" Bundle.listD A U H ∧ va_AO mm_arC U ∧ (∀ w ∈ Nw, va_Nw w U) ∧ (∀ q ∈ Nc, va_Nc q.1 q.2 U)
def mm_GN (Nw : List Cond) : Prop := ∀ w ∈ Nw, (∃ a i x h, w = .methodLinkNest a i x h) ∨ (∃ C T, w = .castable C T) ∨ ∃ x, w = .declares x
theorem mm_Nw_warm {Nw : List Cond} (hG : mm_GN Nw) {s U : State} (hW : s.WarmedH U.vm) (h : ∀ w ∈ Nw, va_Nw w s) : ∀ w ∈ Nw, va_Nw w U := by
  intro w hw
  rcases hG w hw with ⟨a, i, x, h9, rfl⟩ | ⟨C, T, rfl⟩ | ⟨x, rfl⟩
  · exact va_Nw.warmM hW (h _ hw)
  · exact va_Nw.warmC hW (h _ hw)
  · exact va_Nw.warmD hW (h _ hw)
theorem mm_Nw_same {Nw : List Cond} (hG : mm_GN Nw) {u U : State} (hvm : u.vm = U.vm) (h : ∀ w ∈ Nw, va_Nw w u) : ∀ w ∈ Nw, va_Nw w U := by
  intro w hw
  rcases hG w hw with ⟨a, i, x, h9, rfl⟩ | ⟨C, T, rfl⟩ | ⟨x, rfl⟩
  · exact va_Nw.same rfl hvm (h _ hw)
  · exact va_Nw.same rfl hvm (h _ hw)
  · exact va_Nw.same rfl hvm (h _ hw)
theorem mm_F_go {P : mm_P} {Nw : List Cond} {Nc : List (String × String)} {b : Nat} {A B : Nat → Prop} {s U : State} {H0 H : Heap} {locs : List Loc} (h : mm_F P Nw Nc b A s H0) (hvm : s.vm.Alike U.vm) (hNw : ∀ w ∈ Nw, va_Nw w U) (hS : va_S A H0 H locs) (hBA : ∀ q, B q → A q) : mm_F P Nw Nc b B U H := by
  obtain ⟨h1, h2, h3, h4, h5, h6, h7, h8⟩ := h
  exact ⟨(h1.kept (hS.2.1 b h2 h3)).moved hvm, Nat.lt_of_lt_of_le h2 hS.1, fun q => h3 (hBA b q), (vx_Zq.moved hvm (h4.kept hS.2.1)).narrow hBA, (vx_Zq.moved hvm (h5.kept hS.2.1)).narrow hBA, h6.moved hvm, hNw, fun q hq => (h8 q hq).moved hvm⟩
section
variable (P : mm_P) (DA : FieldType → ClassId) (nf : Nat → Nat) (D : va_G) (cl : List vw_C) (Nw : List Cond) (Nc : List (String × String)) (xn : Nat → String)
def mm_Pc (ad : Nat → Nat) (n : Nat) (M : mm_M) (as : List mm_V) (sz : Nat) : Array Value → State → Prop :=
  va_Pc (as.map (mm_cv ad)) (fun U => U.heap.size = sz ∧ va_P D cl (mm_w P DA nf ad n M) U.heap ∧ va_K D cl (mm_tys DA) U ∧ va_D (fun _ => True) (mm_w P DA nf ad n M) ∧ mm_F P Nw Nc (ad mm_scr) (va_A (mm_w P DA nf ad n M) sz) U U.heap)
def mm_B9 (n0 : Nat) (ad : Nat → Nat) (n' : Nat) (M' : mm_M) (A : Nat → Prop) (st t : State) (ad' : Nat → Nat) : Prop := mm_ex n0 ad ad' ∧ va_P D cl (mm_w P DA nf ad' n' M') t.heap ∧ va_D A (mm_w P DA nf ad' n' M') ∧ va_F A st t
def mm_Qc (r : mm_R) (n0 : Nat) (ad : Nat → Nat) (n' : Nat) (M' : mm_M) (A : Nat → Prop) : Array Value → State → Outcome → State → Prop := fun _ st o t =>
  ∃ (v : Option mm_V) (ad' : Nat → Nat), r = .inl v ∧ o = .returned (v.map (mm_cv ad')) ∧ mm_B9 P DA nf D cl n0 ad n' M' A st t ad'
def mm_XC (r : mm_R) (n0 : Nat) (ad : Nat → Nat) (n' : Nat) (M' : mm_M) (A : Nat → Prop) : String → State → State → Prop := fun E st t =>
  ∃ (x : Nat) (ad' : Nat → Nat), r = .inr x ∧ E = xn x ∧ mm_B9 P DA nf D cl n0 ad n' M' A st t ad'
variable {P DA nf D cl Nw Nc xn}
theorem mm_Pc_blind (hG : mm_GN Nw) {ad : Nat → Nat} {n : Nat} {M : mm_M} {as : List mm_V} {sz : Nat} : FrameBlind (mm_Pc P DA nf D cl Nw Nc ad n M as sz) := by
  intro a U g mk q
  obtain ⟨q0, q1, q2, q3, q4, q5⟩ := q
  exact ⟨q0, q1, q2, va_K.moved (u := U) (U := U.calling g mk a) (Vm.Alike.refl U.vm) q3, q4, mm_F_go q5 (Vm.Alike.refl U.vm) (mm_Nw_same hG (u := U) rfl q5.2.2.2.2.2.2.1) va_S.rf (fun _ h => h)⟩
end
theorem mm_exp_cons (v : mm_V) (as : List mm_V) : mm_exp (v :: as) = (if mm_cat v = 2 then [v, mm_u] else [v]) ++ mm_exp as := rfl
theorem mm_cat_12 (v : mm_V) : mm_cat v = 1 ∨ mm_cat v = 2 := by
  rcases v with x | x | x | x <;> simp [mm_cat]
theorem mm_sl_len (ad : Nat → Nat) : ∀ as : List mm_V, (lg_sl (as.map (mm_cv ad))).length = (mm_exp as).length
  | [] => rfl
  | v :: as => by
    have ih := mm_sl_len ad as
    rw [mm_exp_cons]
    unfold lg_sl at ih ⊢
    rw [List.map_cons, List.flatMap_cons, List.length_append, List.length_append, ih, mm_cv_cat]
    split <;> rfl
theorem mm_exp_args (ad : Nat → Nat) : ∀ (as : List mm_V) (j i : Nat) (v : mm_V), (mm_exp as)[i]? = some v → v ≠ mm_u → (j + i, mm_cv ad v) ∈ lv_args j (as.map (mm_cv ad))
  | [], j, i, v => by intro h; simp [mm_exp] at h
  | w :: as, j, i, v => by
    intro h hv
    rw [mm_exp_cons] at h
    show (j + i, mm_cv ad v) ∈ (j, mm_cv ad w) :: lv_args (if (mm_cv ad w).category = 2 then j + 2 else j + 1) (as.map (mm_cv ad))
    rw [mm_cv_cat]
    rcases mm_cat_12 w with hc | hc
    · rw [if_neg (by omega)] at h ⊢
      cases i with
      | zero => cases h; exact List.mem_cons_self
      | succ i =>
        have h1 : (mm_exp as)[i]? = some v := h
        have := mm_exp_args ad as (j + 1) i v h1 hv
        rw [show j + (i + 1) = j + 1 + i by omega]
        exact List.mem_cons_of_mem _ this
    · rw [if_pos hc] at h ⊢
      cases i with
      | zero => cases h; exact List.mem_cons_self
      | succ i =>
        cases i with
        | zero => cases h; exact absurd rfl hv
        | succ i =>
          have h1 : (mm_exp as)[i]? = some v := h
          have := mm_exp_args ad as (j + 2) i v h1 hv
          rw [show j + (i + 1 + 1) = j + 2 + i by omega]
          exact List.mem_cons_of_mem _ this
theorem mm_ent_len {m : Nat} {as : List mm_V} (h : (mm_exp as).length ≤ m) : (mm_ent m as).length = m := by
  unfold mm_ent
  rw [List.length_append, List.length_replicate]; omega
theorem mm_ent_L {ad : Nat → Nat} {m : Nat} {as : List mm_V} (h : (mm_exp as).length ≤ m) : mm_L ad ((lg_sl (as.map (mm_cv ad)) ++ List.replicate (m - (lg_sl (as.map (mm_cv ad))).length) Slot.unset).toArray) (mm_ent m as) := by
  have h1 := lv_entry (as.map (mm_cv ad)) (n := m) (by rw [mm_sl_len]; exact h)
  refine ⟨h1.1.trans (mm_ent_len h).symm, h1.2.1, fun i v hi hv => h1.2.2 (i, mm_cv ad v) ?_⟩
  unfold mm_ent at hi
  by_cases hl : i < (mm_exp as).length
  · rw [List.getElem?_append_left hl] at hi
    have := mm_exp_args ad as 0 i v hi hv
    rw [Nat.zero_add] at this
    exact this
  · rw [List.getElem?_append_right (by omega)] at hi
    exact absurd (List.mem_replicate.mp (List.mem_of_getElem? hi)).2 hv
