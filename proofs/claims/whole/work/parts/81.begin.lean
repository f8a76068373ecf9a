/-! ===== the law from its beginning to its loop; printed by wip/whole/gen_ctor.py ===== -/
theorem mcL_4 : mr_C 199 4 = some (.invokespecial 87, 3) := by decide +kernel
theorem mcL_12 : mr_C 199 12 = some (.invokespecial 90, 3) := by decide +kernel
theorem ct_call {sc : Nat × (Int → Int)} {y pc n : Nat} {ls st : List mm_V} {M : mm_M} {i : Instr} {z idx n' : Nat} {me mz : mm_E} {as rr : List mm_V} {M' : mm_M} {f : Nat} (hm : mt_mt[y]? = some me) (hc : mr_C y pc = some (i, 3)) (hl : mm_lok i 3 = true) (hiv : mm_iv i = some (2, idx)) (hlm : mm_lm (mt_P sc) me.1 idx = some z) (hz : mt_mt[z]? = some mz) (hk : mz.2.1 = 2) (hkn : mm_kd (mt_P sc) n ≠ none) (has : mm_args (mz.2.2.1 + (if (2 : Nat) = 0 then 0 else 1)) st = some (as, rr)) (hok : mm_cok (mt_P sc) 2 me mz as rr n = true)
    (he : mm_ev (mt_P sc) f z (0, mm_ent mz.2.2.2.1 as, [], n, M) = some (.inl none, n', M')) : mm_ev (mt_P sc) (f + 1) y (pc, ls, st, n, M) = mm_ev (mt_P sc) f y (pc + 3, ls, rr, n', M') := by
  rw [mm_ev]
  simp only [show mm_mt (mt_P sc) y = some me from hm, show mm_co (mt_P sc) y pc = some (i, 3) from hc, hl, if_true, hiv, hlm, show mm_mt (mt_P sc) z = some mz from hz]
  rw [if_neg (by omega), if_pos ⟨hk, fun _ => hkn⟩]
  simp only [has, hok, if_true, he]
  rfl
theorem ct_law (sc : Nat × (Int → Int)) (f : Nat) (hf : 3000 ≤ f) : mm_ev (mt_P sc) (f + 13) 199 (0, [mm_r mm_scr, mm_u, mm_u, mm_u, mm_u, mm_u, mm_u], [], 0, ct_M0) = mm_ev (mt_P sc) f 199 (23, [mm_r mm_scr, mm_r 0, mm_r 72, mm_r 98, mm_i 0, mm_u, mm_u], [], 99, ct_M) := by
  have s0 : ∀ f, mm_ev (mt_P sc) (f + 1) 199 (0, [mm_r mm_scr, mm_u, mm_u, mm_u, mm_u, mm_u, mm_u], [], 0, ct_M0) = mm_ev (mt_P sc) f 199 (3, [mm_r mm_scr, mm_u, mm_u, mm_u, mm_u, mm_u, mm_u], [mm_r 0], 1, mm_fresh ct_M0 0) := fun f => rfl
  have s1 : ∀ f M, mm_ev (mt_P sc) (f + 1) 199 (3, [mm_r mm_scr, mm_u, mm_u, mm_u, mm_u, mm_u, mm_u], [mm_r 0], 1, M) = mm_ev (mt_P sc) f 199 (4, [mm_r mm_scr, mm_u, mm_u, mm_u, mm_u, mm_u, mm_u], [mm_r 0, mm_r 0], 1, M) := fun f M => rfl
  have s2 : ∀ f M, 3000 ≤ f → mm_ev (mt_P sc) (f + 1) 199 (4, [mm_r mm_scr, mm_u, mm_u, mm_u, mm_u, mm_u, mm_u], [mm_r 0, mm_r 0], 1, M) = mm_ev (mt_P sc) f 199 (7, [mm_r mm_scr, mm_u, mm_u, mm_u, mm_u, mm_u, mm_u], [mm_r 0], 72, ct_C M) := fun f M h => ct_call mv199 (idx := 87) mcL_4 rfl rfl rfl mv7 rfl (fun q => by cases q) rfl rfl (mm_ev_le (mt_P sc) (ct_cells sc M) h)
  have s3 : ∀ f M, mm_ev (mt_P sc) (f + 1) 199 (7, [mm_r mm_scr, mm_u, mm_u, mm_u, mm_u, mm_u, mm_u], [mm_r 0], 72, M) = mm_ev (mt_P sc) f 199 (8, [mm_r mm_scr, mm_r 0, mm_u, mm_u, mm_u, mm_u, mm_u], [], 72, M) := fun f M => rfl
  have s4 : ∀ f M, mm_ev (mt_P sc) (f + 1) 199 (8, [mm_r mm_scr, mm_r 0, mm_u, mm_u, mm_u, mm_u, mm_u], [], 72, M) = mm_ev (mt_P sc) f 199 (11, [mm_r mm_scr, mm_r 0, mm_u, mm_u, mm_u, mm_u, mm_u], [mm_r 72], 73, mm_fresh M 72) := fun f M => rfl
  have s5 : ∀ f M, mm_ev (mt_P sc) (f + 1) 199 (11, [mm_r mm_scr, mm_r 0, mm_u, mm_u, mm_u, mm_u, mm_u], [mm_r 72], 73, M) = mm_ev (mt_P sc) f 199 (12, [mm_r mm_scr, mm_r 0, mm_u, mm_u, mm_u, mm_u, mm_u], [mm_r 72, mm_r 72], 73, M) := fun f M => rfl
  have s6 : ∀ f M, 3000 ≤ f → mm_ev (mt_P sc) (f + 1) 199 (12, [mm_r mm_scr, mm_r 0, mm_u, mm_u, mm_u, mm_u, mm_u], [mm_r 72, mm_r 72], 73, M) = mm_ev (mt_P sc) f 199 (15, [mm_r mm_scr, mm_r 0, mm_u, mm_u, mm_u, mm_u, mm_u], [mm_r 72], 98, ct_D M) := fun f M h => ct_call mv199 (idx := 90) mcL_12 rfl rfl rfl mv8 rfl (fun q => by cases q) rfl rfl (mm_ev_le (mt_P sc) (ct_model sc M) h)
  have s7 : ∀ f M, mm_ev (mt_P sc) (f + 1) 199 (15, [mm_r mm_scr, mm_r 0, mm_u, mm_u, mm_u, mm_u, mm_u], [mm_r 72], 98, M) = mm_ev (mt_P sc) f 199 (16, [mm_r mm_scr, mm_r 0, mm_r 72, mm_u, mm_u, mm_u, mm_u], [], 98, M) := fun f M => rfl
  have s8 : ∀ f M, mm_ev (mt_P sc) (f + 1) 199 (16, [mm_r mm_scr, mm_r 0, mm_r 72, mm_u, mm_u, mm_u, mm_u], [], 98, M) = mm_ev (mt_P sc) f 199 (17, [mm_r mm_scr, mm_r 0, mm_r 72, mm_u, mm_u, mm_u, mm_u], [mm_i 1], 98, M) := fun f M => rfl
  have s9 : ∀ f M, mm_ev (mt_P sc) (f + 1) 199 (17, [mm_r mm_scr, mm_r 0, mm_r 72, mm_u, mm_u, mm_u, mm_u], [mm_i 1], 98, M) = mm_ev (mt_P sc) f 199 (19, [mm_r mm_scr, mm_r 0, mm_r 72, mm_u, mm_u, mm_u, mm_u], [mm_r 98], 99, mm_fresh M 98) := fun f M => rfl
  have s10 : ∀ f M, mm_ev (mt_P sc) (f + 1) 199 (19, [mm_r mm_scr, mm_r 0, mm_r 72, mm_u, mm_u, mm_u, mm_u], [mm_r 98], 99, M) = mm_ev (mt_P sc) f 199 (20, [mm_r mm_scr, mm_r 0, mm_r 72, mm_r 98, mm_u, mm_u, mm_u], [], 99, M) := fun f M => rfl
  have s11 : ∀ f M, mm_ev (mt_P sc) (f + 1) 199 (20, [mm_r mm_scr, mm_r 0, mm_r 72, mm_r 98, mm_u, mm_u, mm_u], [], 99, M) = mm_ev (mt_P sc) f 199 (21, [mm_r mm_scr, mm_r 0, mm_r 72, mm_r 98, mm_u, mm_u, mm_u], [mm_i 0], 99, M) := fun f M => rfl
  have s12 : ∀ f M, mm_ev (mt_P sc) (f + 1) 199 (21, [mm_r mm_scr, mm_r 0, mm_r 72, mm_r 98, mm_u, mm_u, mm_u], [mm_i 0], 99, M) = mm_ev (mt_P sc) f 199 (23, [mm_r mm_scr, mm_r 0, mm_r 72, mm_r 98, mm_i 0, mm_u, mm_u], [], 99, M) := fun f M => rfl
  rw [s0 (f + 12), s1 (f + 11), s2 (f + 10) _ (by omega), s3 (f + 9), s4 (f + 8), s5 (f + 7), s6 (f + 6) _ (by omega), s7 (f + 5), s8 (f + 4), s9 (f + 3), s10 (f + 2), s11 (f + 1), s12 f]
  rfl
/-- what is owed now: the law's loop -/
theorem ct_runs (h : ∀ (L : Nat) (xs : Int → Int), L ≤ 3584 → (∀ j, mr_rg (xs j)) → en_R (L, xs) 199 23 [mm_r mm_scr, mm_r 0, mm_r 72, mm_r 98, mm_i 0, mm_u, mm_u] [] ct_M (fun r M' => r = .inl (some (mm_i 1)) ∧ M'.2.2 ≤ 512)) : gl_runs := by
  intro L xs hL hx
  obtain ⟨f, r, M', h1, rfl, h2⟩ := h L xs hL hx
  refine ⟨max f 3000 + 13, M', ?_, h2⟩
  show mm_ev _ _ 199 (0, _, [], 0, ct_M0) = _
  rw [ct_law (L, xs) (max f 3000) (Nat.le_max_right _ _)]
  exact mm_ev_le _ h1 (Nat.le_max_left _ _)
