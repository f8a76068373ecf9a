section
variable {pc : Nat} {ls st : List mm_V} {n : Nat} {M : mm_M} {P : mm_P} {c : Nat} {ini : Bool} {τ : mm_S}
theorem mm_ld_kp {k i w : Nat} (h : mm_ld pc ls st n M k i w = some τ) : mm_kp (pc, ls, st, n, M) τ := by
  unfold mm_ld at h
  split at h
  · cases h; exact mm_kp_sub fun v hv => by rcases List.mem_cons.mp hv with rfl | h; exact Or.inr mm_vok_i; exact Or.inl h
  · cases h; exact mm_kp_sub fun v hv => by rcases List.mem_cons.mp hv with rfl | h; exact Or.inr mm_vok_j; exact Or.inl h
  · rename_i x e
    cases h
    exact mm_kp_st fun a b _ v hv => by
      rcases List.mem_cons.mp hv with rfl | h
      · exact b _ (List.mem_of_getElem? e)
      · exact a v h
  · cases h
theorem mm_sto_kp {k i w : Nat} (h : mm_sto pc ls st n M k i w = some τ) : mm_kp (pc, ls, st, n, M) τ := by
  unfold mm_sto at h
  split at h
  · split at h
    · cases h; exact ⟨Nat.le_refl _, Nat.le_refl _, mm_st1_len _ _ _, fun ⟨a, b, c⟩ => ⟨mm_st1_ok a mm_vok_i, fun v hv => b v (List.mem_cons_of_mem _ hv), c⟩⟩
    · cases h
  · split at h
    · cases h; exact ⟨Nat.le_refl _, Nat.le_refl _, mm_st2_len _ _ _, fun ⟨a, b, c⟩ => ⟨mm_st2_ok a mm_vok_j, fun v hv => b v (List.mem_cons_of_mem _ hv), c⟩⟩
    · cases h
  · split at h
    · cases h; exact ⟨Nat.le_refl _, Nat.le_refl _, mm_st1_len _ _ _, fun ⟨a, b, c⟩ => ⟨mm_st1_ok a (b _ List.mem_cons_self), fun v hv => b v (List.mem_cons_of_mem _ hv), c⟩⟩
    · cases h
  · cases h
theorem mm_1i {v : mm_V} {x : Int} {r st : List mm_V} (hs : ∀ v ∈ r, v ∈ st) : v ∈ mm_i x :: r → v ∈ st ∨ mm_vok n v := fun hv => by
  rcases List.mem_cons.mp hv with rfl | h
  · exact Or.inr mm_vok_i
  · exact Or.inl (hs v h)
theorem mm_1j {v : mm_V} {x : Int} {r st : List mm_V} (hs : ∀ v ∈ r, v ∈ st) : v ∈ mm_j x :: r → v ∈ st ∨ mm_vok n v := fun hv => by
  rcases List.mem_cons.mp hv with rfl | h
  · exact Or.inr mm_vok_j
  · exact Or.inl (hs v h)
theorem mm_tl {a : mm_V} {r : List mm_V} : ∀ v ∈ r, v ∈ a :: r := fun _ h => List.mem_cons_of_mem _ h
theorem mm_tl2 {a b : mm_V} {r : List mm_V} : ∀ v ∈ r, v ∈ a :: b :: r := fun _ h => List.mem_cons_of_mem _ (List.mem_cons_of_mem _ h)
theorem mm_tl3 {a b d : mm_V} {r : List mm_V} : ∀ v ∈ r, v ∈ a :: b :: d :: r := fun _ h => List.mem_cons_of_mem _ (mm_tl2 _ h)
theorem mm_tl5 {a b d e f : mm_V} {r : List mm_V} : ∀ v ∈ r, v ∈ a :: b :: d :: e :: f :: r := fun _ h => mm_tl2 _ (mm_tl3 _ h)
theorem mm_i1_kp {f : Int → Int} (h : mm_i1 pc ls st n M f = some τ) : mm_kp (pc, ls, st, n, M) τ := by
  unfold mm_i1 at h
  split at h
  · cases h; exact mm_kp_sub fun v => mm_1i mm_tl
  · cases h
theorem mm_i2_kp {f : Int → Int → Int} (h : mm_i2 pc ls st n M f = some τ) : mm_kp (pc, ls, st, n, M) τ := by
  unfold mm_i2 at h
  split at h
  · cases h; exact mm_kp_sub fun v => mm_1i mm_tl2
  · cases h
theorem mm_j1_kp {f : Int → Int} (h : mm_j1 pc ls st n M f = some τ) : mm_kp (pc, ls, st, n, M) τ := by
  unfold mm_j1 at h
  split at h
  · cases h; exact mm_kp_sub fun v => mm_1j mm_tl
  · cases h
theorem mm_j2_kp {f : Int → Int → Int} (h : mm_j2 pc ls st n M f = some τ) : mm_kp (pc, ls, st, n, M) τ := by
  unfold mm_j2 at h
  split at h
  · cases h; exact mm_kp_sub fun v => mm_1j mm_tl2
  · cases h
theorem mm_js_kp {f : Int → Int → Int} (h : mm_js pc ls st n M f = some τ) : mm_kp (pc, ls, st, n, M) τ := by
  unfold mm_js at h
  split at h
  · cases h; exact mm_kp_sub fun v => mm_1j mm_tl2
  · cases h
theorem mm_to_kp {off : Int} {r : List mm_V} (hr : ∀ v ∈ r, v ∈ st) (h : mm_to pc ls n M off r = some τ) : mm_kp (pc, ls, st, n, M) τ := by
  unfold mm_to at h
  split at h
  · cases h; exact mm_kp_sub fun v hv => Or.inl (hr v hv)
  · cases h
theorem mm_if1_kp {f : Int32 → Bool} {off : Int} (h : mm_if1 pc ls st n M f off = some τ) : mm_kp (pc, ls, st, n, M) τ := by
  unfold mm_if1 at h
  split at h
  · split at h
    · rename_i hq
      split at h
      · cases h; exact mm_to_kp mm_tl hq
      · cases h; exact mm_kp_sub fun v hv => Or.inl (mm_tl v hv)
    · cases h
  · cases h
theorem mm_if2_kp {f : Int32 → Int32 → Bool} {off : Int} (h : mm_if2 pc ls st n M f off = some τ) : mm_kp (pc, ls, st, n, M) τ := by
  unfold mm_if2 at h
  split at h
  · split at h
    · rename_i hq
      split at h
      · cases h; exact mm_to_kp mm_tl2 hq
      · cases h; exact mm_kp_sub fun v hv => Or.inl (mm_tl2 v hv)
    · cases h
  · cases h
theorem mm_ald_kp {ty : FieldType} {w : Nat} (h : mm_ald pc ls st n M P ty w = some τ) : mm_kp (pc, ls, st, n, M) τ := by
  unfold mm_ald at h
  split at h
  · split at h
    · split at h
      · cases h; exact mm_kp_sub fun v => mm_1i mm_tl2
      · cases h
    · split at h
      · cases h
        split
        · exact mm_kp_sub fun v => mm_1i mm_tl2
        · exact mm_kp_sub fun v => mm_1j mm_tl2
      · cases h
  · cases h
theorem mm_ast_kp {ty : FieldType} {w : Nat} (h : mm_ast pc ls st n M P ty w = some τ) : mm_kp (pc, ls, st, n, M) τ := by
  unfold mm_ast at h
  split at h
  · split at h
    · cases h; exact mm_kp_M rfl (fun _ => mm_mok_putN) mm_tl3
    · cases h
  · split at h
    · cases h; exact mm_kp_M rfl (fun _ => mm_mok_putN) mm_tl3
    · cases h
  · cases h
theorem mm_aald_kp (h : mm_aald pc ls st n M P = some τ) : mm_kp (pc, ls, st, n, M) τ := by
  unfold mm_aald at h
  split at h
  · split at h
    · rename_i e1 e2
      split at h
      · cases h
        exact mm_kp_st fun a _ m v hv => by
          rcases List.mem_cons.mp hv with rfl | h
          · exact mm_vok_r (m _ _ _ e2)
          · exact a v (mm_tl2 v h)
      · cases h
    · cases h
  · cases h
theorem mm_aast_kp (h : mm_aast pc ls st n M P = some τ) : mm_kp (pc, ls, st, n, M) τ := by
  unfold mm_aast at h
  split at h
  · split at h
    · split at h
      · rename_i h1
        cases h; exact mm_kp_M rfl (fun _ hm => mm_mok_putR hm (Or.inl h1.2.1)) mm_tl3
      · cases h
    · cases h
  · cases h
theorem mm_alen_kp (h : mm_alen pc ls st n M P = some τ) : mm_kp (pc, ls, st, n, M) τ := by
  unfold mm_alen at h
  split at h
  · split at h
    · cases h; exact mm_kp_sub fun v => mm_1i mm_tl
    · split at h
      · split at h
        · cases h; exact mm_kp_sub fun v => mm_1i mm_tl
        · cases h
      · cases h
  · cases h
theorem mm_get_kp {idx : Nat} (h : mm_get pc ls st n M P c idx = some τ) : mm_kp (pc, ls, st, n, M) τ := by
  unfold mm_get at h
  split at h
  · split at h
    · split at h
      · cases h; exact mm_kp_sub fun v => mm_1i mm_tl
      · cases h; exact mm_kp_sub fun v => mm_1i mm_tl
      · cases h; exact mm_kp_sub fun v => mm_1j mm_tl
      all_goals first
        | (split at h
           · rename_i e2
             cases h
             exact mm_kp_st fun a _ m v hv => by
               rcases List.mem_cons.mp hv with rfl | h
               · exact mm_vok_r (m _ _ _ e2)
               · exact a v (mm_tl v h)
           · cases h)
        | cases h
    · cases h
  · cases h
theorem mm_put_kp {idx : Nat} (h : mm_put pc ls st n M P c ini idx = some τ) : mm_kp (pc, ls, st, n, M) τ := by
  unfold mm_put at h
  split at h
  · split at h
    · split at h
      · cases h; exact mm_kp_M rfl (fun _ => mm_mok_putN) mm_tl2
      · split at h
        · cases h; exact mm_kp_M rfl (fun _ => mm_mok_putN) mm_tl2
        · cases h
      · cases h; exact mm_kp_M rfl (fun _ => mm_mok_putN) mm_tl2
      · cases h; exact mm_kp_M rfl (fun a hm => mm_mok_putR hm (a _ List.mem_cons_self _ rfl)) mm_tl2
      · cases h; exact mm_kp_M rfl (fun a hm => mm_mok_putR hm (a _ List.mem_cons_self _ rfl)) mm_tl2
      · cases h
    · cases h
  · cases h
theorem mm_nwa_kp {ty : FieldType} {k : Nat} (h : mm_nwa pc ls st n M P ty k = some τ) : mm_kp (pc, ls, st, n, M) τ := by
  unfold mm_nwa at h
  split at h
  · split at h
    · cases h
      exact mm_kp_new fun v hv => by
        rcases List.mem_cons.mp hv with rfl | h
        · exact Or.inr rfl
        · exact Or.inl (mm_tl v h)
    · cases h
  · cases h
theorem mm_new_kp {idx : Nat} (h : mm_new pc ls st n M P c idx = some τ) : mm_kp (pc, ls, st, n, M) τ := by
  unfold mm_new at h
  split at h
  · split at h
    · cases h
      exact mm_kp_new fun v hv => by
        rcases List.mem_cons.mp hv with rfl | h
        · exact Or.inr rfl
        · exact Or.inl h
    · cases h
  · cases h
theorem mm_pi_kp {v : mm_V} {pc' : Nat} (hv : mm_vok n v) (h : some (pc', ls, v :: st, n, M) = some τ) : mm_kp (pc, ls, st, n, M) τ := by
  cases h
  exact mm_kp_sub fun w hw => by
    rcases List.mem_cons.mp hw with rfl | h
    · exact Or.inr hv
    · exact Or.inl h
theorem mm_sw_kp {x : Int} {r : List mm_V} {dflt lo hi : Int} {offs : Array Int} (hr : ∀ v ∈ r, v ∈ st) (h : mm_sw pc ls n M x r dflt lo hi offs = some τ) : mm_kp (pc, ls, st, n, M) τ := by
  unfold mm_sw at h
  split at h
  · exact mm_to_kp hr h
  · split at h
    · exact mm_to_kp hr h
    · cases h
theorem mm_lsw_kp {x : Int} {r : List mm_V} {dflt : Int} {ps : Array (Int × Int)} (hr : ∀ v ∈ r, v ∈ st) (h : mm_lsw pc ls n M x r dflt ps = some τ) : mm_kp (pc, ls, st, n, M) τ := by
  unfold mm_lsw at h
  split at h
  · exact mm_to_kp hr h
  · cases h
theorem mm_do_kp {i : Instr} (h : mm_do pc ls st n M P c ini i = some τ) : mm_kp (pc, ls, st, n, M) τ := by
  unfold mm_do at h
  split at h
  all_goals first
    | exact mm_pi_kp mm_vok_i h
    | exact mm_pi_kp mm_vok_j h
    | exact mm_ld_kp h
    | exact mm_sto_kp h
    | exact mm_i1_kp h
    | exact mm_i2_kp h
    | exact mm_j2_kp h
    | exact mm_js_kp h
    | exact mm_if1_kp h
    | exact mm_if2_kp h
    | exact mm_ald_kp h
    | exact mm_ast_kp h
    | exact mm_aald_kp h
    | exact mm_aast_kp h
    | exact mm_alen_kp h
    | exact mm_get_kp h
    | exact mm_put_kp h
    | exact mm_nwa_kp h
    | exact mm_new_kp h
    | exact mm_to_kp (fun _ q => q) h
    | (split at h <;> first | exact mm_pi_kp mm_vok_i h | exact mm_pi_kp mm_vok_j h | exact mm_nwa_kp h | (cases h; done) | skip)
    | cases h
  all_goals first
    | done
    | (split at h
       · cases h
       · cases h; exact mm_kp_sub fun v => mm_1i mm_tl2)
    | (split at h
       · cases h
       · cases h; exact mm_kp_sub fun v => mm_1j mm_tl2)
    | (cases h; exact mm_kp_sub fun v => mm_1i mm_tl)
    | (cases h; exact mm_kp_sub fun v => mm_1j mm_tl)
    | (cases h; exact mm_kp_sub fun v => mm_1i mm_tl2)
    | exact mm_sw_kp mm_tl h
    | exact mm_lsw_kp mm_tl h
    | (cases h; exact ⟨Nat.le_refl _, Nat.le_refl _, mm_st1_len _ _ _, fun ⟨a, b, c⟩ => ⟨mm_st1_ok a mm_vok_i, b, c⟩⟩)
    | (split at h
       · cases h; exact mm_kp_sub fun v hv => Or.inl (by simp only [List.mem_cons] at hv ⊢; first | exact Or.inr hv | (rcases hv with h | h | h | h | h <;> simp [h]) | (rcases hv with h | h | h | h <;> simp [h]) | (rcases hv with h | h | h <;> simp [h]))
       · cases h)
    | skip
theorem mm_ld_k {k i w : Nat} (h : mm_ld pc ls st n M k i w = some τ) : τ.2.2.2.2.2.2 = M.2.2 := by
  unfold mm_ld at h
  repeat' split at h
  all_goals first | (cases h; rfl) | cases h
theorem mm_sto_k {k i w : Nat} (h : mm_sto pc ls st n M k i w = some τ) : τ.2.2.2.2.2.2 = M.2.2 := by
  unfold mm_sto at h
  repeat' split at h
  all_goals first | (cases h; rfl) | cases h
theorem mm_i1_k {f : Int → Int} (h : mm_i1 pc ls st n M f = some τ) : τ.2.2.2.2.2.2 = M.2.2 := by
  unfold mm_i1 at h
  repeat' split at h
  all_goals first | (cases h; rfl) | cases h
theorem mm_i2_k {f : Int → Int → Int} (h : mm_i2 pc ls st n M f = some τ) : τ.2.2.2.2.2.2 = M.2.2 := by
  unfold mm_i2 at h
  repeat' split at h
  all_goals first | (cases h; rfl) | cases h
theorem mm_j2_k {f : Int → Int → Int} (h : mm_j2 pc ls st n M f = some τ) : τ.2.2.2.2.2.2 = M.2.2 := by
  unfold mm_j2 at h
  repeat' split at h
  all_goals first | (cases h; rfl) | cases h
theorem mm_js_k {f : Int → Int → Int} (h : mm_js pc ls st n M f = some τ) : τ.2.2.2.2.2.2 = M.2.2 := by
  unfold mm_js at h
  repeat' split at h
  all_goals first | (cases h; rfl) | cases h
theorem mm_to_k {off : Int} {r : List mm_V} (h : mm_to pc ls n M off r = some τ) : τ.2.2.2.2.2.2 = M.2.2 := by
  unfold mm_to at h
  repeat' split at h
  all_goals first | (cases h; rfl) | cases h
theorem mm_ald_k {ty : FieldType} {w : Nat} (h : mm_ald pc ls st n M P ty w = some τ) : τ.2.2.2.2.2.2 = M.2.2 := by
  unfold mm_ald at h
  repeat' split at h
  all_goals first | (cases h; rfl) | cases h
theorem mm_ast_k {ty : FieldType} {w : Nat} (h : mm_ast pc ls st n M P ty w = some τ) : τ.2.2.2.2.2.2 = M.2.2 := by
  unfold mm_ast at h
  repeat' split at h
  all_goals first | (cases h; rfl) | cases h
theorem mm_aald_k  (h : mm_aald pc ls st n M P = some τ) : τ.2.2.2.2.2.2 = M.2.2 := by
  unfold mm_aald at h
  repeat' split at h
  all_goals first | (cases h; rfl) | cases h
theorem mm_aast_k  (h : mm_aast pc ls st n M P = some τ) : τ.2.2.2.2.2.2 = M.2.2 := by
  unfold mm_aast at h
  repeat' split at h
  all_goals first | (cases h; rfl) | cases h
theorem mm_alen_k  (h : mm_alen pc ls st n M P = some τ) : τ.2.2.2.2.2.2 = M.2.2 := by
  unfold mm_alen at h
  repeat' split at h
  all_goals first | (cases h; rfl) | cases h
theorem mm_get_k {idx : Nat} (h : mm_get pc ls st n M P c idx = some τ) : τ.2.2.2.2.2.2 = M.2.2 := by
  unfold mm_get at h
  repeat' split at h
  all_goals first | (cases h; rfl) | cases h
theorem mm_put_k {idx : Nat} (h : mm_put pc ls st n M P c ini idx = some τ) : τ.2.2.2.2.2.2 = M.2.2 := by
  unfold mm_put at h
  repeat' split at h
  all_goals first | (cases h; rfl) | cases h
theorem mm_nwa_k {ty : FieldType} {k : Nat} (h : mm_nwa pc ls st n M P ty k = some τ) : τ.2.2.2.2.2.2 = M.2.2 := by
  unfold mm_nwa at h
  repeat' split at h
  all_goals first | (cases h; rfl) | cases h
theorem mm_new_k {idx : Nat} (h : mm_new pc ls st n M P c idx = some τ) : τ.2.2.2.2.2.2 = M.2.2 := by
  unfold mm_new at h
  repeat' split at h
  all_goals first | (cases h; rfl) | cases h
theorem mm_if1_k {f : Int32 → Bool} {off : Int} (h : mm_if1 pc ls st n M f off = some τ) : τ.2.2.2.2.2.2 = M.2.2 := by
  unfold mm_if1 at h
  split at h
  · split at h
    · rename_i hq
      split at h
      · cases h; exact mm_to_k hq
      · cases h; rfl
    · cases h
  · cases h
theorem mm_if2_k {f : Int32 → Int32 → Bool} {off : Int} (h : mm_if2 pc ls st n M f off = some τ) : τ.2.2.2.2.2.2 = M.2.2 := by
  unfold mm_if2 at h
  split at h
  · split at h
    · rename_i hq
      split at h
      · cases h; exact mm_to_k hq
      · cases h; rfl
    · cases h
  · cases h
theorem mm_sw_k {x : Int} {r : List mm_V} {dflt lo hi : Int} {offs : Array Int} (h : mm_sw pc ls n M x r dflt lo hi offs = some τ) : τ.2.2.2.2.2.2 = M.2.2 := by
  unfold mm_sw at h
  split at h
  · exact mm_to_k h
  · split at h
    · exact mm_to_k h
    · cases h
theorem mm_lsw_k {x : Int} {r : List mm_V} {dflt : Int} {ps : Array (Int × Int)} (h : mm_lsw pc ls n M x r dflt ps = some τ) : τ.2.2.2.2.2.2 = M.2.2 := by
  unfold mm_lsw at h
  split at h
  · exact mm_to_k h
  · cases h
theorem mm_do_k {i : Instr} (h : mm_do pc ls st n M P c ini i = some τ) : τ.2.2.2.2.2.2 = M.2.2 := by
  unfold mm_do at h
  split at h
  all_goals first
    | (cases h; rfl)
    | exact mm_ld_k h
    | exact mm_sto_k h
    | exact mm_i1_k h
    | exact mm_i2_k h
    | exact mm_j2_k h
    | exact mm_js_k h
    | exact mm_if1_k h
    | exact mm_if2_k h
    | exact mm_ald_k h
    | exact mm_ast_k h
    | exact mm_aald_k h
    | exact mm_aast_k h
    | exact mm_alen_k h
    | exact mm_get_k h
    | exact mm_put_k h
    | exact mm_nwa_k h
    | exact mm_new_k h
    | exact mm_to_k h
    | (cases h; done)
    | (split at h <;> first | (cases h; rfl) | exact mm_nwa_k h | exact mm_sw_k h | exact mm_lsw_k h | (cases h; done) | (split at h <;> first | (cases h; rfl) | (cases h; done)))
end
