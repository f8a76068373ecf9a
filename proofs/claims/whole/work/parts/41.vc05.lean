/-! 139: CellAreas$Loops.holes()I -/
theorem mc139_0 : mr_C 139 0 = some (.iconst 0, 1) := rfl
theorem mc139_1 : mr_C 139 1 = some (.istore_n 1, 1) := by decide +kernel
theorem mc139_2 : mr_C 139 2 = some (.iconst 0, 1) := by decide +kernel
theorem mc139_3 : mr_C 139 3 = some (.istore_n 2, 1) := by decide +kernel
theorem mc139_4 : mr_C 139 4 = some (.iload_n 2, 1) := by decide +kernel
theorem mc139_5 : mr_C 139 5 = some (.aload_n 0, 1) := by decide +kernel
theorem mc139_6 : mr_C 139 6 = some (.getfield 9, 3) := by decide +kernel
theorem mc139_9 : mr_C 139 9 = some (.if_icmp .ge (20), 3) := by decide +kernel
theorem mc139_12 : mr_C 139 12 = some (.aload_n 0, 1) := by decide +kernel
theorem mc139_13 : mr_C 139 13 = some (.iload_n 2, 1) := by decide +kernel
theorem mc139_14 : mr_C 139 14 = some (.invokevirtual 120, 3) := by decide +kernel
theorem mc139_17 : mr_C 139 17 = some (.ifCond .ge (6), 3) := by decide +kernel
theorem mc139_20 : mr_C 139 20 = some (.iinc 1 (1), 3) := by decide +kernel
theorem mc139_23 : mr_C 139 23 = some (.iinc 2 (1), 3) := by decide +kernel
theorem mc139_26 : mr_C 139 26 = some (.goto (-22), 3) := by decide +kernel
theorem mc139_29 : mr_C 139 29 = some (.iload_n 1, 1) := by decide +kernel
theorem mc139_30 : mr_C 139 30 = some (.ireturn, 1) := by decide +kernel
theorem vc139_0 {sc : Nat × (Int → Int)} {Q : mm_R → mm_M → Prop} {M : mm_M} (ho : mr_ok M)
    (h : en_R sc 139 4 [mm_r 17, mm_i 0, mm_i 0] [] M Q) : en_R sc 139 0 [mm_r 17, mm_u, mm_u] [] M Q := by
  refine en_iconst mc139_0 ?_
  refine en_istore_n (ls' := [mm_r 17, mm_i 0, mm_u]) mc139_1 (Nat.le_of_ble_eq_true rfl) rfl ?_
  refine en_iconst mc139_2 ?_
  refine en_istore_n (ls' := [mm_r 17, mm_i 0, mm_i 0]) mc139_3 (Nat.le_of_ble_eq_true rfl) rfl ?_
  exact h
theorem vc139_4 {sc : Nat × (Int → Int)} {Q : mm_R → mm_M → Prop} {M : mm_M} {l1 : Int} {l2 : Int} (ho : mr_ok M) (hg_l2 : mr_rg l2)
    (h : ((M.1 17 0) ≤ l2 → Q (.inl (some (mm_i l1))) M) ∧ (¬ (M.1 17 0) ≤ l2 → en_CI sc 138 [mm_r 17, mm_i l2, mm_u, mm_u, mm_u, mm_u] M (fun x1 M2 => mr_ok M2 → mr_rg x1 ∧ ((0 ≤ x1 → en_R sc 139 4 [mm_r 17, mm_i l1, mm_i (l2 + 1)] [] M2 Q) ∧ (¬ 0 ≤ x1 → en_R sc 139 4 [mm_r 17, mm_i (l1 + 1), mm_i (l2 + 1)] [] M2 Q))) (fun e M9 => Q (.inr e) M9))) : en_R sc 139 4 [mm_r 17, mm_i l1, mm_i l2] [] M Q := by
  refine en_iload_n mc139_4 rfl ?_
  refine en_aload_n mc139_5 rfl ?_
  refine en_getI mv139 mc139_6 (lk_f3_9) (⟨rfl, by decide⟩ : mt_kd[17]? = some (.inl 3) ∧ 17 < 99) (Or.inl rfl) ?_
  refine en_icmp_ge 29 mc139_9 (by decide) hg_l2 (ho.2.1 17 0 (by unfold mr_lg; omega)) (fun q => ?_) (fun q => ?_)
  · replace h := h.1 q
    refine en_iload_n mc139_29 rfl ?_
    exact en_iret mv139 mc139_30 rfl h
  · replace h := h.2 q
    refine en_aload_n mc139_12 rfl ?_
    refine en_iload_n mc139_13 rfl ?_
    refine en_callI (lz := [mm_r 17, mm_i l2, mm_u, mm_u, mm_u, mm_u]) mv139 mc139_14 rfl rfl (lk_m3_120) mv138 rfl (by decide) rfl (mk_cokV rfl (⟨rfl, by decide⟩ : mt_kd[17]? = some (.inl 3) ∧ 17 < 99)) rfl (mk_nh rfl _) ho ?_
    refine en_CI_mono h (fun x1 M2 h => ?_) (fun _ _ h => h)
    intro ho3
    replace h := h ho3
    obtain ⟨g4, h⟩ := h
    refine en_if_ge 23 mc139_17 (by decide) g4 (fun q => ?_) (fun q => ?_)
    · replace h := h.1 q
      refine en_iinc (ls' := [mm_r 17, mm_i l1, mm_i (l2 + 1)]) mc139_23 rfl rfl ?_
      refine en_goto 4 mc139_26 (by decide) ?_
      exact h
    · replace h := h.2 q
      refine en_iinc (ls' := [mm_r 17, mm_i (l1 + 1), mm_i l2]) mc139_20 rfl rfl ?_
      refine en_iinc (ls' := [mm_r 17, mm_i (l1 + 1), mm_i (l2 + 1)]) mc139_23 rfl rfl ?_
      refine en_goto 4 mc139_26 (by decide) ?_
      exact h
/-! 140: CellAreas.count(II)I -/
theorem mc140_0 : mr_C 140 0 = some (.iload_n 1, 1) := by decide +kernel
theorem mc140_1 : mr_C 140 1 = some (.invokestatic 61, 3) := by decide +kernel
theorem mc140_4 : mr_C 140 4 = some (.iload_n 2, 1) := by decide +kernel
theorem mc140_5 : mr_C 140 5 = some (.iconst 0, 1) := by decide +kernel
theorem mc140_6 : mr_C 140 6 = some (.iconst 5, 1) := by decide +kernel
theorem mc140_7 : mr_C 140 7 = some (.invokestatic 65, 3) := by decide +kernel
theorem mc140_10 : mr_C 140 10 = some (.iload_n 2, 1) := by decide +kernel
theorem mc140_11 : mr_C 140 11 = some (.tableswitch (79) (0) (4) #[33, 43, 52, 61, 70], 33) := by decide +kernel
theorem mc140_44 : mr_C 140 44 = some (.aload_n 0, 1) := by decide +kernel
theorem mc140_45 : mr_C 140 45 = some (.getfield 11, 3) := by decide +kernel
theorem mc140_48 : mr_C 140 48 = some (.iload_n 1, 1) := by decide +kernel
theorem mc140_49 : mr_C 140 49 = some (.aaload, 1) := by decide +kernel
theorem mc140_50 : mr_C 140 50 = some (.invokevirtual 87, 3) := by decide +kernel
theorem mc140_53 : mr_C 140 53 = some (.ireturn, 1) := by decide +kernel
theorem mc140_54 : mr_C 140 54 = some (.aload_n 0, 1) := by decide +kernel
theorem mc140_55 : mr_C 140 55 = some (.iload_n 1, 1) := by decide +kernel
theorem mc140_56 : mr_C 140 56 = some (.invokevirtual 171, 3) := by decide +kernel
theorem mc140_59 : mr_C 140 59 = some (.invokevirtual 175, 3) := by decide +kernel
theorem mc140_62 : mr_C 140 62 = some (.ireturn, 1) := by decide +kernel
theorem mc140_63 : mr_C 140 63 = some (.aload_n 0, 1) := by decide +kernel
theorem mc140_64 : mr_C 140 64 = some (.iload_n 1, 1) := by decide +kernel
theorem mc140_65 : mr_C 140 65 = some (.invokevirtual 171, 3) := by decide +kernel
theorem mc140_68 : mr_C 140 68 = some (.getfield 178, 3) := by decide +kernel
theorem mc140_71 : mr_C 140 71 = some (.ireturn, 1) := by decide +kernel
theorem mc140_72 : mr_C 140 72 = some (.aload_n 0, 1) := by decide +kernel
theorem mc140_73 : mr_C 140 73 = some (.iload_n 1, 1) := by decide +kernel
theorem mc140_74 : mr_C 140 74 = some (.invokevirtual 171, 3) := by decide +kernel
theorem mc140_77 : mr_C 140 77 = some (.getfield 180, 3) := by decide +kernel
theorem mc140_80 : mr_C 140 80 = some (.ireturn, 1) := by decide +kernel
theorem mc140_81 : mr_C 140 81 = some (.aload_n 0, 1) := by decide +kernel
theorem mc140_82 : mr_C 140 82 = some (.iload_n 1, 1) := by decide +kernel
theorem mc140_83 : mr_C 140 83 = some (.invokevirtual 183, 3) := by decide +kernel
theorem mc140_86 : mr_C 140 86 = some (.getfield 187, 3) := by decide +kernel
theorem mc140_89 : mr_C 140 89 = some (.ireturn, 1) := by decide +kernel
theorem mc140_90 : mr_C 140 90 = some (.aload_n 0, 1) := by decide +kernel
theorem mc140_91 : mr_C 140 91 = some (.iload_n 1, 1) := by decide +kernel
theorem mc140_92 : mr_C 140 92 = some (.invokevirtual 171, 3) := by decide +kernel
theorem mc140_95 : mr_C 140 95 = some (.invokevirtual 189, 3) := by decide +kernel
theorem mc140_98 : mr_C 140 98 = some (.ireturn, 1) := by decide +kernel
theorem vc140_0 {sc : Nat × (Int → Int)} {Q : mm_R → mm_M → Prop} {M : mm_M} {l1 : Int} {l2 : Int} (ho : mr_ok M) (hg_l2 : mr_rg l2)
    (h : en_CV sc 9 [mm_i l1] M (fun M2 => mr_ok M2 → en_CV sc 10 [mm_i l2, mm_i 0, mm_i 5] M2 (fun M5 => mr_ok M5 → (l2 = 0 → 0 ≤ l1 ∧ (l1 < 8 ∧ (∃ b9, M5.2.1 1 l1 = some b9 ∧ mr_A b9 ∧ (en_CI sc 42 [mm_r b9, mm_u, mm_u, mm_u] M5 (fun x11 M12 => mr_ok M12 → Q (.inl (some (mm_i x11))) M12) (fun e M9 => Q (.inr e) M9))))) ∧ (l2 = 1 → en_CR sc 126 [mm_r 0, mm_i l1] M5 (fun x14 M15 => x14 = 17 ∧ (mr_ok M15 → en_CI sc 132 [mm_r 17, mm_u, mm_u] M15 (fun x17 M18 => mr_ok M18 → Q (.inl (some (mm_i x17))) M18) (fun e M9 => Q (.inr e) M9))) (fun e M9 => Q (.inr e) M9)) ∧ (l2 = 2 → en_CR sc 126 [mm_r 0, mm_i l1] M5 (fun x20 M21 => x20 = 17 ∧ (mr_ok M21 → Q (.inl (some (mm_i (M21.1 17 0)))) M21)) (fun e M9 => Q (.inr e) M9)) ∧ (l2 = 3 → en_CR sc 126 [mm_r 0, mm_i l1] M5 (fun x23 M24 => x23 = 17 ∧ (mr_ok M24 → Q (.inl (some (mm_i (M24.1 17 1)))) M24)) (fun e M9 => Q (.inr e) M9)) ∧ (l2 = 4 → en_CR sc 137 [mm_r 0, mm_i l1] M5 (fun x26 M27 => x26 = 21 ∧ (mr_ok M27 → Q (.inl (some (mm_i (M27.1 21 0)))) M27)) (fun e M9 => Q (.inr e) M9)) ∧ (l2 ≠ 0 → l2 ≠ 1 → l2 ≠ 2 → l2 ≠ 3 → l2 ≠ 4 → en_CR sc 126 [mm_r 0, mm_i l1] M5 (fun x29 M30 => x29 = 17 ∧ (mr_ok M30 → en_CI sc 139 [mm_r 17, mm_u, mm_u] M30 (fun x32 M33 => mr_ok M33 → Q (.inl (some (mm_i x32))) M33) (fun e M9 => Q (.inr e) M9))) (fun e M9 => Q (.inr e) M9))) (fun e M9 => Q (.inr e) M9)) (fun e M9 => Q (.inr e) M9)) : en_R sc 140 0 [mm_r 0, mm_i l1, mm_i l2] [] M Q := by
  refine en_iload_n mc140_0 rfl ?_
  refine en_callV (lz := [mm_i l1]) mv140 mc140_1 rfl rfl (lk_m6_61) mv9 rfl (by decide) rfl (mk_cokS rfl) rfl (mk_nh rfl _) ho ?_
  refine en_CV_mono h (fun M2 h => ?_) (fun _ _ h => h)
  intro ho3
  replace h := h ho3
  refine en_iload_n mc140_4 rfl ?_
  refine en_iconst mc140_5 ?_
  refine en_iconst mc140_6 ?_
  refine en_callV (lz := [mm_i l2, mm_i 0, mm_i 5]) mv140 mc140_7 rfl rfl (lk_m6_65) mv10 rfl (by decide) rfl (mk_cokS rfl) rfl (mk_nh rfl _) ho3 ?_
  refine en_CV_mono h (fun M5 h => ?_) (fun _ _ h => h)
  intro ho6
  replace h := h ho6
  refine en_iload_n mc140_10 rfl ?_
  by_cases q0 : l2 = 0
  · replace h := h.1 q0
    refine en_tsw 44 mc140_11 hg_l2 (by first | (rw [q0]; done) | (rw [q0]; rfl)) (by decide) ?_
    obtain ⟨g7, h⟩ := h
    obtain ⟨g8, h⟩ := h
    refine en_aload_n mc140_44 rfl ?_
    refine en_getR (b := 1) mv140 mc140_45 (lk_f6_11) (⟨rfl, by decide⟩ : mt_kd[0]? = some (.inl 6) ∧ 0 < 99) rfl (mk_fc ho6 (by decide +kernel)) ?_
    refine en_iload_n mc140_48 rfl ?_
    obtain ⟨b9, g10, hA_b9_, h⟩ := h
    refine en_aald mc140_49 g7 g8 g10 ?_
    refine en_callI (lz := [mm_r b9, mm_u, mm_u, mm_u]) mv140 mc140_50 rfl rfl (lk_m6_87) mv42 rfl (by decide) rfl (mk_cokV rfl (mk_A0 hA_b9_)) rfl (mk_nh rfl _) ho6 ?_
    refine en_CI_mono h (fun x11 M12 h => ?_) (fun _ _ h => h)
    intro ho13
    replace h := h ho13
    exact en_iret mv140 mc140_53 rfl h
  by_cases q1 : l2 = 1
  · replace h := h.2.1 q1
    refine en_tsw 54 mc140_11 hg_l2 (by first | (rw [q1]; done) | (rw [q1]; rfl)) (by decide) ?_
    refine en_aload_n mc140_54 rfl ?_
    refine en_iload_n mc140_55 rfl ?_
    refine en_callR (lz := [mm_r 0, mm_i l1]) mv140 mc140_56 rfl rfl (lk_m6_171) mv126 rfl (by decide) rfl (mk_cokV rfl (⟨rfl, by decide⟩ : mt_kd[0]? = some (.inl 6) ∧ 0 < 99)) rfl (mk_nh rfl _) ho6 ?_
    refine en_CR_mono h (fun x14 M15 h => ?_) (fun _ _ h => h)
    obtain ⟨rfl, h⟩ := h
    intro ho16
    replace h := h ho16
    refine en_callI (lz := [mm_r 17, mm_u, mm_u]) mv140 mc140_59 rfl rfl (lk_m6_175) mv132 rfl (by decide) rfl (mk_cokV rfl (⟨rfl, by decide⟩ : mt_kd[17]? = some (.inl 3) ∧ 17 < 99)) rfl (mk_nh rfl _) ho16 ?_
    refine en_CI_mono h (fun x17 M18 h => ?_) (fun _ _ h => h)
    intro ho19
    replace h := h ho19
    exact en_iret mv140 mc140_62 rfl h
  by_cases q2 : l2 = 2
  · replace h := h.2.2.1 q2
    refine en_tsw 63 mc140_11 hg_l2 (by first | (rw [q2]; done) | (rw [q2]; rfl)) (by decide) ?_
    refine en_aload_n mc140_63 rfl ?_
    refine en_iload_n mc140_64 rfl ?_
    refine en_callR (lz := [mm_r 0, mm_i l1]) mv140 mc140_65 rfl rfl (lk_m6_171) mv126 rfl (by decide) rfl (mk_cokV rfl (⟨rfl, by decide⟩ : mt_kd[0]? = some (.inl 6) ∧ 0 < 99)) rfl (mk_nh rfl _) ho6 ?_
    refine en_CR_mono h (fun x20 M21 h => ?_) (fun _ _ h => h)
    obtain ⟨rfl, h⟩ := h
    intro ho22
    replace h := h ho22
    refine en_getI mv140 mc140_68 (lk_f6_178) (⟨rfl, by decide⟩ : mt_kd[17]? = some (.inl 3) ∧ 17 < 99) (Or.inl rfl) ?_
    exact en_iret mv140 mc140_71 rfl h
  by_cases q3 : l2 = 3
  · replace h := h.2.2.2.1 q3
    refine en_tsw 72 mc140_11 hg_l2 (by first | (rw [q3]; done) | (rw [q3]; rfl)) (by decide) ?_
    refine en_aload_n mc140_72 rfl ?_
    refine en_iload_n mc140_73 rfl ?_
    refine en_callR (lz := [mm_r 0, mm_i l1]) mv140 mc140_74 rfl rfl (lk_m6_171) mv126 rfl (by decide) rfl (mk_cokV rfl (⟨rfl, by decide⟩ : mt_kd[0]? = some (.inl 6) ∧ 0 < 99)) rfl (mk_nh rfl _) ho6 ?_
    refine en_CR_mono h (fun x23 M24 h => ?_) (fun _ _ h => h)
    obtain ⟨rfl, h⟩ := h
    intro ho25
    replace h := h ho25
    refine en_getI mv140 mc140_77 (lk_f6_180) (⟨rfl, by decide⟩ : mt_kd[17]? = some (.inl 3) ∧ 17 < 99) (Or.inl rfl) ?_
    exact en_iret mv140 mc140_80 rfl h
  by_cases q4 : l2 = 4
  · replace h := h.2.2.2.2.1 q4
    refine en_tsw 81 mc140_11 hg_l2 (by first | (rw [q4]; done) | (rw [q4]; rfl)) (by decide) ?_
    refine en_aload_n mc140_81 rfl ?_
    refine en_iload_n mc140_82 rfl ?_
    refine en_callR (lz := [mm_r 0, mm_i l1]) mv140 mc140_83 rfl rfl (lk_m6_183) mv137 rfl (by decide) rfl (mk_cokV rfl (⟨rfl, by decide⟩ : mt_kd[0]? = some (.inl 6) ∧ 0 < 99)) rfl (mk_nh rfl _) ho6 ?_
    refine en_CR_mono h (fun x26 M27 h => ?_) (fun _ _ h => h)
    obtain ⟨rfl, h⟩ := h
    intro ho28
    replace h := h ho28
    refine en_getI mv140 mc140_86 (lk_f6_187) (⟨rfl, by decide⟩ : mt_kd[21]? = some (.inl 4) ∧ 21 < 99) (Or.inl rfl) ?_
    exact en_iret mv140 mc140_89 rfl h
  replace h := h.2.2.2.2.2 q0 q1 q2 q3 q4
  refine en_tsw 90 mc140_11 hg_l2 (by rw [if_pos (by omega)]) (by decide) ?_
  refine en_aload_n mc140_90 rfl ?_
  refine en_iload_n mc140_91 rfl ?_
  refine en_callR (lz := [mm_r 0, mm_i l1]) mv140 mc140_92 rfl rfl (lk_m6_171) mv126 rfl (by decide) rfl (mk_cokV rfl (⟨rfl, by decide⟩ : mt_kd[0]? = some (.inl 6) ∧ 0 < 99)) rfl (mk_nh rfl _) ho6 ?_
  refine en_CR_mono h (fun x29 M30 h => ?_) (fun _ _ h => h)
  obtain ⟨rfl, h⟩ := h
  intro ho31
  replace h := h ho31
  refine en_callI (lz := [mm_r 17, mm_u, mm_u]) mv140 mc140_95 rfl rfl (lk_m6_189) mv139 rfl (by decide) rfl (mk_cokV rfl (⟨rfl, by decide⟩ : mt_kd[17]? = some (.inl 3) ∧ 17 < 99)) rfl (mk_nh rfl _) ho31 ?_
  refine en_CI_mono h (fun x32 M33 h => ?_) (fun _ _ h => h)
  intro ho34
  replace h := h ho34
  exact en_iret mv140 mc140_98 rfl h
/-! 142: CellAreasModel.shared()I -/
theorem mc142_0 : mr_C 142 0 = some (.aload_n 0, 1) := by decide +kernel
theorem mc142_1 : mr_C 142 1 = some (.iconst 1, 1) := by decide +kernel
theorem mc142_2 : mr_C 142 2 = some (.invokevirtual 164, 3) := by decide +kernel
theorem mc142_5 : mr_C 142 5 = some (.iconst 0, 1) := by decide +kernel
theorem mc142_6 : mr_C 142 6 = some (.istore_n 1, 1) := by decide +kernel
theorem mc142_7 : mr_C 142 7 = some (.iconst 0, 1) := by decide +kernel
theorem mc142_8 : mr_C 142 8 = some (.istore_n 2, 1) := by decide +kernel
theorem mc142_9 : mr_C 142 9 = some (.iload_n 2, 1) := by decide +kernel
theorem mc142_10 : mr_C 142 10 = some (.aload_n 0, 1) := by decide +kernel
theorem mc142_11 : mr_C 142 11 = some (.getfield 100, 3) := by decide +kernel
theorem mc142_14 : mr_C 142 14 = some (.if_icmp .ge (25), 3) := by decide +kernel
theorem mc142_17 : mr_C 142 17 = some (.iload_n 1, 1) := by decide +kernel
theorem mc142_18 : mr_C 142 18 = some (.aload_n 0, 1) := by decide +kernel
theorem mc142_19 : mr_C 142 19 = some (.getfield 49, 3) := by decide +kernel
theorem mc142_22 : mr_C 142 22 = some (.iload_n 2, 1) := by decide +kernel
theorem mc142_23 : mr_C 142 23 = some (.iaload, 1) := by decide +kernel
theorem mc142_24 : mr_C 142 24 = some (.iadd, 1) := by decide +kernel
theorem mc142_25 : mr_C 142 25 = some (.aload_n 0, 1) := by decide +kernel
theorem mc142_26 : mr_C 142 26 = some (.getfield 46, 3) := by decide +kernel
theorem mc142_29 : mr_C 142 29 = some (.iload_n 2, 1) := by decide +kernel
theorem mc142_30 : mr_C 142 30 = some (.iaload, 1) := by decide +kernel
theorem mc142_31 : mr_C 142 31 = some (.isub, 1) := by decide +kernel
theorem mc142_32 : mr_C 142 32 = some (.istore_n 1, 1) := by decide +kernel
theorem mc142_33 : mr_C 142 33 = some (.iinc 2 (1), 3) := by decide +kernel
theorem mc142_36 : mr_C 142 36 = some (.goto (-27), 3) := by decide +kernel
theorem mc142_39 : mr_C 142 39 = some (.iload_n 1, 1) := by decide +kernel
theorem mc142_40 : mr_C 142 40 = some (.ireturn, 1) := by decide +kernel
theorem vc142_0 {sc : Nat × (Int → Int)} {Q : mm_R → mm_M → Prop} {M : mm_M} (ho : mr_ok M)
    (h : en_CV sc 65 [mm_r 72, mm_i 1, mm_u, mm_u, mm_u, mm_u, mm_u, mm_u, mm_u, mm_u] M (fun M2 => mr_ok M2 → en_R sc 142 9 [mm_r 72, mm_i 0, mm_i 0] [] M2 Q) (fun e M9 => Q (.inr e) M9)) : en_R sc 142 0 [mm_r 72, mm_u, mm_u] [] M Q := by
  refine en_aload_n mc142_0 rfl ?_
  refine en_iconst mc142_1 ?_
  refine en_callV (lz := [mm_r 72, mm_i 1, mm_u, mm_u, mm_u, mm_u, mm_u, mm_u, mm_u, mm_u]) mv142 mc142_2 rfl rfl (lk_m7_164) mv65 rfl (by decide) rfl (mk_cokV rfl (⟨rfl, by decide⟩ : mt_kd[72]? = some (.inl 7) ∧ 72 < 99)) rfl (mk_nh rfl _) ho ?_
  refine en_CV_mono h (fun M2 h => ?_) (fun _ _ h => h)
  intro ho3
  replace h := h ho3
  refine en_iconst mc142_5 ?_
  refine en_istore_n (ls' := [mm_r 72, mm_i 0, mm_u]) mc142_6 (Nat.le_of_ble_eq_true rfl) rfl ?_
  refine en_iconst mc142_7 ?_
  refine en_istore_n (ls' := [mm_r 72, mm_i 0, mm_i 0]) mc142_8 (Nat.le_of_ble_eq_true rfl) rfl ?_
  exact h
theorem vc142_9 {sc : Nat × (Int → Int)} {Q : mm_R → mm_M → Prop} {M : mm_M} {l1 : Int} {l2 : Int} (ho : mr_ok M) (hg_l2 : mr_rg l2)
    (h : ((M.1 72 17) ≤ l2 → Q (.inl (some (mm_i l1))) M) ∧ (¬ (M.1 72 17) ≤ l2 → 0 ≤ l2 ∧ (l2 < 1200 ∧ (0 ≤ l2 ∧ (l2 < 1200 ∧ (en_R sc 142 9 [mm_r 72, mm_i ((l1 + (M.1 86 l2)) - (M.1 85 l2)), mm_i (l2 + 1)] [] M Q)))))) : en_R sc 142 9 [mm_r 72, mm_i l1, mm_i l2] [] M Q := by
  refine en_iload_n mc142_9 rfl ?_
  refine en_aload_n mc142_10 rfl ?_
  refine en_getI mv142 mc142_11 (lk_f7_100) (⟨rfl, by decide⟩ : mt_kd[72]? = some (.inl 7) ∧ 72 < 99) (Or.inl rfl) ?_
  refine en_icmp_ge 39 mc142_14 (by decide) hg_l2 (ho.2.1 72 17 (by unfold mr_lg; omega)) (fun q => ?_) (fun q => ?_)
  · replace h := h.1 q
    refine en_iload_n mc142_39 rfl ?_
    exact en_iret mv142 mc142_40 rfl h
  · replace h := h.2 q
    obtain ⟨g1, h⟩ := h
    obtain ⟨g2, h⟩ := h
    obtain ⟨g3, h⟩ := h
    obtain ⟨g4, h⟩ := h
    refine en_iload_n mc142_17 rfl ?_
    refine en_aload_n mc142_18 rfl ?_
    refine en_getR (b := 86) mv142 mc142_19 (lk_f7_49) (⟨rfl, by decide⟩ : mt_kd[72]? = some (.inl 7) ∧ 72 < 99) rfl (mk_fc ho (by decide +kernel)) ?_
    refine en_iload_n mc142_22 rfl ?_
    refine en_iald mc142_23 (⟨rfl, by decide, by decide⟩ : mt_kd[86]? = some (.inr (.int, 1200)) ∧ 86 < 99 ∧ 1200 < 2147483648) g1 g2 ?_
    refine en_iadd mc142_24 ?_
    refine en_aload_n mc142_25 rfl ?_
    refine en_getR (b := 85) mv142 mc142_26 (lk_f7_46) (⟨rfl, by decide⟩ : mt_kd[72]? = some (.inl 7) ∧ 72 < 99) rfl (mk_fc ho (by decide +kernel)) ?_
    refine en_iload_n mc142_29 rfl ?_
    refine en_iald mc142_30 (⟨rfl, by decide, by decide⟩ : mt_kd[85]? = some (.inr (.int, 1200)) ∧ 85 < 99 ∧ 1200 < 2147483648) g3 g4 ?_
    refine en_isub mc142_31 ?_
    refine en_istore_n (ls' := [mm_r 72, mm_i ((l1 + (M.1 86 l2)) - (M.1 85 l2)), mm_i l2]) mc142_32 (Nat.le_of_ble_eq_true rfl) rfl ?_
    refine en_iinc (ls' := [mm_r 72, mm_i ((l1 + (M.1 86 l2)) - (M.1 85 l2)), mm_i (l2 + 1)]) mc142_33 rfl rfl ?_
    refine en_goto 9 mc142_36 (by decide) ?_
    exact h
/-! 143: CellAreasModel.sidesOf(I)I -/
theorem mc143_0 : mr_C 143 0 = some (.iconst 0, 1) := by decide +kernel
theorem mc143_1 : mr_C 143 1 = some (.istore_n 2, 1) := by decide +kernel
theorem mc143_2 : mr_C 143 2 = some (.bipush 102, 2) := by decide +kernel
theorem mc143_4 : mr_C 143 4 = some (.iload_n 1, 1) := by decide +kernel
theorem mc143_5 : mr_C 143 5 = some (.imul, 1) := by decide +kernel
theorem mc143_6 : mr_C 143 6 = some (.istore_n 3, 1) := by decide +kernel
theorem mc143_7 : mr_C 143 7 = some (.iload_n 3, 1) := by decide +kernel
theorem mc143_8 : mr_C 143 8 = some (.aload_n 0, 1) := by decide +kernel
theorem mc143_9 : mr_C 143 9 = some (.iload_n 1, 1) := by decide +kernel
theorem mc143_10 : mr_C 143 10 = some (.invokevirtual 107, 3) := by decide +kernel
theorem mc143_13 : mr_C 143 13 = some (.if_icmp .ge (143), 3) := by decide +kernel
theorem mc143_16 : mr_C 143 16 = some (.iconst 0, 1) := by decide +kernel
theorem mc143_17 : mr_C 143 17 = some (.istore 4, 2) := by decide +kernel
theorem mc143_19 : mr_C 143 19 = some (.aload_n 0, 1) := by decide +kernel
theorem mc143_20 : mr_C 143 20 = some (.getfield 16, 3) := by decide +kernel
theorem mc143_23 : mr_C 143 23 = some (.iload_n 3, 1) := by decide +kernel
theorem mc143_24 : mr_C 143 24 = some (.iaload, 1) := by decide +kernel
theorem mc143_25 : mr_C 143 25 = some (.istore 5, 2) := by decide +kernel
theorem mc143_27 : mr_C 143 27 = some (.iload 5, 2) := by decide +kernel
theorem mc143_29 : mr_C 143 29 = some (.aload_n 0, 1) := by decide +kernel
theorem mc143_30 : mr_C 143 30 = some (.getfield 16, 3) := by decide +kernel
theorem mc143_33 : mr_C 143 33 = some (.iload_n 3, 1) := by decide +kernel
theorem mc143_34 : mr_C 143 34 = some (.iaload, 1) := by decide +kernel
theorem mc143_35 : mr_C 143 35 = some (.aload_n 0, 1) := by decide +kernel
theorem mc143_36 : mr_C 143 36 = some (.getfield 19, 3) := by decide +kernel
theorem mc143_39 : mr_C 143 39 = some (.iload_n 3, 1) := by decide +kernel
theorem mc143_40 : mr_C 143 40 = some (.iaload, 1) := by decide +kernel
theorem mc143_41 : mr_C 143 41 = some (.iadd, 1) := by decide +kernel
theorem mc143_42 : mr_C 143 42 = some (.if_icmp .ge (29), 3) := by decide +kernel
theorem mc143_45 : mr_C 143 45 = some (.iload 4, 2) := by decide +kernel
theorem mc143_47 : mr_C 143 47 = some (.aload_n 0, 1) := by decide +kernel
theorem mc143_48 : mr_C 143 48 = some (.getfield 28, 3) := by decide +kernel
theorem mc143_51 : mr_C 143 51 = some (.iload 5, 2) := by decide +kernel
theorem mc143_53 : mr_C 143 53 = some (.iaload, 1) := by decide +kernel
theorem mc143_54 : mr_C 143 54 = some (.iadd, 1) := by decide +kernel
theorem mc143_55 : mr_C 143 55 = some (.aload_n 0, 1) := by decide +kernel
theorem mc143_56 : mr_C 143 56 = some (.getfield 25, 3) := by decide +kernel
theorem mc143_59 : mr_C 143 59 = some (.iload 5, 2) := by decide +kernel
theorem mc143_61 : mr_C 143 61 = some (.iaload, 1) := by decide +kernel
theorem mc143_62 : mr_C 143 62 = some (.isub, 1) := by decide +kernel
theorem mc143_63 : mr_C 143 63 = some (.istore 4, 2) := by decide +kernel
theorem mc143_65 : mr_C 143 65 = some (.iinc 5 (1), 3) := by decide +kernel
theorem mc143_68 : mr_C 143 68 = some (.goto (-41), 3) := by decide +kernel
theorem mc143_71 : mr_C 143 71 = some (.aload_n 0, 1) := by decide +kernel
theorem mc143_72 : mr_C 143 72 = some (.iload_n 1, 1) := by decide +kernel
theorem mc143_73 : mr_C 143 73 = some (.aload_n 0, 1) := by decide +kernel
theorem mc143_74 : mr_C 143 74 = some (.getfield 7, 3) := by decide +kernel
theorem mc143_77 : mr_C 143 77 = some (.iload_n 3, 1) := by decide +kernel
theorem mc143_78 : mr_C 143 78 = some (.iaload, 1) := by decide +kernel
theorem mc143_79 : mr_C 143 79 = some (.invokevirtual 158, 3) := by decide +kernel
theorem mc143_82 : mr_C 143 82 = some (.aload_n 0, 1) := by decide +kernel
theorem mc143_83 : mr_C 143 83 = some (.iload_n 1, 1) := by decide +kernel
theorem mc143_84 : mr_C 143 84 = some (.aload_n 0, 1) := by decide +kernel
theorem mc143_85 : mr_C 143 85 = some (.getfield 7, 3) := by decide +kernel
theorem mc143_88 : mr_C 143 88 = some (.iload_n 3, 1) := by decide +kernel
theorem mc143_89 : mr_C 143 89 = some (.iaload, 1) := by decide +kernel
theorem mc143_90 : mr_C 143 90 = some (.iconst 1, 1) := by decide +kernel
theorem mc143_91 : mr_C 143 91 = some (.isub, 1) := by decide +kernel
theorem mc143_92 : mr_C 143 92 = some (.invokevirtual 161, 3) := by decide +kernel
theorem mc143_95 : mr_C 143 95 = some (.aload_n 0, 1) := by decide +kernel
theorem mc143_96 : mr_C 143 96 = some (.invokevirtual 195, 3) := by decide +kernel
theorem mc143_99 : mr_C 143 99 = some (.istore 5, 2) := by decide +kernel
theorem mc143_101 : mr_C 143 101 = some (.aload_n 0, 1) := by decide +kernel
theorem mc143_102 : mr_C 143 102 = some (.iload_n 1, 1) := by decide +kernel
theorem mc143_103 : mr_C 143 103 = some (.aload_n 0, 1) := by decide +kernel
theorem mc143_104 : mr_C 143 104 = some (.getfield 13, 3) := by decide +kernel
theorem mc143_107 : mr_C 143 107 = some (.iload_n 3, 1) := by decide +kernel
theorem mc143_108 : mr_C 143 108 = some (.iaload, 1) := by decide +kernel
theorem mc143_109 : mr_C 143 109 = some (.invokevirtual 161, 3) := by decide +kernel
theorem mc143_112 : mr_C 143 112 = some (.iload_n 2, 1) := by decide +kernel
theorem mc143_113 : mr_C 143 113 = some (.iconst 2, 1) := by decide +kernel
theorem mc143_114 : mr_C 143 114 = some (.aload_n 0, 1) := by decide +kernel
theorem mc143_115 : mr_C 143 115 = some (.getfield 19, 3) := by decide +kernel
theorem mc143_118 : mr_C 143 118 = some (.iload_n 3, 1) := by decide +kernel
theorem mc143_119 : mr_C 143 119 = some (.iaload, 1) := by decide +kernel
theorem mc143_120 : mr_C 143 120 = some (.imul, 1) := by decide +kernel
theorem mc143_121 : mr_C 143 121 = some (.aload_n 0, 1) := by decide +kernel
theorem mc143_122 : mr_C 143 122 = some (.getfield 13, 3) := by decide +kernel
theorem mc143_125 : mr_C 143 125 = some (.iload_n 3, 1) := by decide +kernel
theorem mc143_126 : mr_C 143 126 = some (.iaload, 1) := by decide +kernel
theorem mc143_127 : mr_C 143 127 = some (.aload_n 0, 1) := by decide +kernel
theorem mc143_128 : mr_C 143 128 = some (.getfield 7, 3) := by decide +kernel
theorem mc143_131 : mr_C 143 131 = some (.iload_n 3, 1) := by decide +kernel
theorem mc143_132 : mr_C 143 132 = some (.iaload, 1) := by decide +kernel
theorem mc143_133 : mr_C 143 133 = some (.isub, 1) := by decide +kernel
theorem mc143_134 : mr_C 143 134 = some (.imul, 1) := by decide +kernel
theorem mc143_135 : mr_C 143 135 = some (.iadd, 1) := by decide +kernel
theorem mc143_136 : mr_C 143 136 = some (.iconst 2, 1) := by decide +kernel
theorem mc143_137 : mr_C 143 137 = some (.iload 4, 2) := by decide +kernel
theorem mc143_139 : mr_C 143 139 = some (.imul, 1) := by decide +kernel
theorem mc143_140 : mr_C 143 140 = some (.iadd, 1) := by decide +kernel
theorem mc143_141 : mr_C 143 141 = some (.iload 5, 2) := by decide +kernel
theorem mc143_143 : mr_C 143 143 = some (.isub, 1) := by decide +kernel
theorem mc143_144 : mr_C 143 144 = some (.aload_n 0, 1) := by decide +kernel
theorem mc143_145 : mr_C 143 145 = some (.invokevirtual 195, 3) := by decide +kernel
theorem mc143_148 : mr_C 143 148 = some (.isub, 1) := by decide +kernel
theorem mc143_149 : mr_C 143 149 = some (.istore_n 2, 1) := by decide +kernel
theorem mc143_150 : mr_C 143 150 = some (.iinc 3 (1), 3) := by decide +kernel
theorem mc143_153 : mr_C 143 153 = some (.goto (-146), 3) := by decide +kernel
theorem mc143_156 : mr_C 143 156 = some (.iload_n 2, 1) := by decide +kernel
theorem mc143_157 : mr_C 143 157 = some (.ireturn, 1) := by decide +kernel
theorem vc143_0 {sc : Nat × (Int → Int)} {Q : mm_R → mm_M → Prop} {M : mm_M} {l1 : Int} (ho : mr_ok M)
    (h : en_R sc 143 7 [mm_r 72, mm_i l1, mm_i 0, mm_i (102 * l1), mm_u, mm_u] [] M Q) : en_R sc 143 0 [mm_r 72, mm_i l1, mm_u, mm_u, mm_u, mm_u] [] M Q := by
  refine en_iconst mc143_0 ?_
  refine en_istore_n (ls' := [mm_r 72, mm_i l1, mm_i 0, mm_u, mm_u, mm_u]) mc143_1 (Nat.le_of_ble_eq_true rfl) rfl ?_
  refine en_bipush mc143_2 (by decide) ?_
  refine en_iload_n mc143_4 rfl ?_
  refine en_imul mc143_5 ?_
  refine en_istore_n (ls' := [mm_r 72, mm_i l1, mm_i 0, mm_i (102 * l1), mm_u, mm_u]) mc143_6 (Nat.le_of_ble_eq_true rfl) rfl ?_
  exact h
theorem vc143_7 {sc : Nat × (Int → Int)} {Q : mm_R → mm_M → Prop} {M : mm_M} {l1 : Int} {l2 : Int} {l3 : Int} {l4 : mm_V} {l5 : mm_V} (ho : mr_ok M) (hg_l3 : mr_rg l3)
    (h : en_CI sc 45 [mm_r 72, mm_i l1] M (fun x1 M2 => mr_ok M2 → mr_rg x1 ∧ ((x1 ≤ l3 → Q (.inl (some (mm_i l2))) M2) ∧ (¬ x1 ≤ l3 → 0 ≤ l3 ∧ (l3 < 918 ∧ (en_R sc 143 27 [mm_r 72, mm_i l1, mm_i l2, mm_i l3, mm_i 0, mm_i (M2.1 75 l3)] [] M2 Q))))) (fun e M9 => Q (.inr e) M9)) : en_R sc 143 7 [mm_r 72, mm_i l1, mm_i l2, mm_i l3, l4, l5] [] M Q := by
  refine en_iload_n mc143_7 rfl ?_
  refine en_aload_n mc143_8 rfl ?_
  refine en_iload_n mc143_9 rfl ?_
  refine en_callI (lz := [mm_r 72, mm_i l1]) mv143 mc143_10 rfl rfl (lk_m7_107) mv45 rfl (by decide) rfl (mk_cokV rfl (⟨rfl, by decide⟩ : mt_kd[72]? = some (.inl 7) ∧ 72 < 99)) rfl (mk_nh rfl _) ho ?_
  refine en_CI_mono h (fun x1 M2 h => ?_) (fun _ _ h => h)
  intro ho3
  replace h := h ho3
  obtain ⟨g4, h⟩ := h
  refine en_icmp_ge 156 mc143_13 (by decide) hg_l3 g4 (fun q => ?_) (fun q => ?_)
  · replace h := h.1 q
    refine en_iload_n mc143_156 rfl ?_
    exact en_iret mv143 mc143_157 rfl h
  · replace h := h.2 q
    obtain ⟨g5, h⟩ := h
    obtain ⟨g6, h⟩ := h
    refine en_iconst mc143_16 ?_
    refine en_istore (ls' := [mm_r 72, mm_i l1, mm_i l2, mm_i l3, mm_i 0, l5]) mc143_17 (Nat.le_of_ble_eq_true rfl) rfl ?_
    refine en_aload_n mc143_19 rfl ?_
    refine en_getR (b := 75) mv143 mc143_20 (lk_f7_16) (⟨rfl, by decide⟩ : mt_kd[72]? = some (.inl 7) ∧ 72 < 99) rfl (mk_fc ho3 (by decide +kernel)) ?_
    refine en_iload_n mc143_23 rfl ?_
    refine en_iald mc143_24 (⟨rfl, by decide, by decide⟩ : mt_kd[75]? = some (.inr (.int, 918)) ∧ 75 < 99 ∧ 918 < 2147483648) g5 g6 ?_
    refine en_istore (ls' := [mm_r 72, mm_i l1, mm_i l2, mm_i l3, mm_i 0, mm_i (M2.1 75 l3)]) mc143_25 (Nat.le_of_ble_eq_true rfl) rfl ?_
    exact h
theorem vc143_27 {sc : Nat × (Int → Int)} {Q : mm_R → mm_M → Prop} {M : mm_M} {l1 : Int} {l2 : Int} {l3 : Int} {l4 : Int} {l5 : Int} (ho : mr_ok M) (hg_l5 : mr_rg l5)
    (h : 0 ≤ l3 ∧ (l3 < 918 ∧ (0 ≤ l3 ∧ (l3 < 918 ∧ (mr_rg ((M.1 75 l3) + (M.1 76 l3)) ∧ ((((M.1 75 l3) + (M.1 76 l3)) ≤ l5 → 0 ≤ l3 ∧ (l3 < 918 ∧ (en_CV sc 61 [mm_r 72, mm_i l1, mm_i (M.1 73 l3), mm_u, mm_u] M (fun M9 => mr_ok M9 → 0 ≤ l3 ∧ (l3 < 918 ∧ (en_CV sc 62 [mm_r 72, mm_i l1, mm_i ((M9.1 73 l3) - 1), mm_u, mm_u] M9 (fun M14 => mr_ok M14 → en_CI sc 142 [mm_r 72, mm_u, mm_u] M14 (fun x16 M17 => mr_ok M17 → 0 ≤ l3 ∧ (l3 < 918 ∧ (en_CV sc 62 [mm_r 72, mm_i l1, mm_i (M17.1 74 l3), mm_u, mm_u] M17 (fun M22 => mr_ok M22 → 0 ≤ l3 ∧ (l3 < 918 ∧ (0 ≤ l3 ∧ (l3 < 918 ∧ (0 ≤ l3 ∧ (l3 < 918 ∧ (en_CI sc 142 [mm_r 72, mm_u, mm_u] M22 (fun x30 M31 => mr_ok M31 → en_R sc 143 7 [mm_r 72, mm_i l1, mm_i ((((l2 + ((2 * (M22.1 76 l3)) * ((M22.1 74 l3) - (M22.1 73 l3)))) + (2 * l4)) - x16) - x30), mm_i (l3 + 1), mm_i l4, mm_i x16] [] M31 Q) (fun e M9 => Q (.inr e) M9)))))))) (fun e M9 => Q (.inr e) M9)))) (fun e M9 => Q (.inr e) M9)) (fun e M9 => Q (.inr e) M9)))) (fun e M9 => Q (.inr e) M9)))) ∧ (¬ ((M.1 75 l3) + (M.1 76 l3)) ≤ l5 → 0 ≤ l5 ∧ (l5 < 3618 ∧ (0 ≤ l5 ∧ (l5 < 3618 ∧ (en_R sc 143 27 [mm_r 72, mm_i l1, mm_i l2, mm_i l3, mm_i ((l4 + (M.1 79 l5)) - (M.1 78 l5)), mm_i (l5 + 1)] [] M Q))))))))))) : en_R sc 143 27 [mm_r 72, mm_i l1, mm_i l2, mm_i l3, mm_i l4, mm_i l5] [] M Q := by
  obtain ⟨g1, h⟩ := h
  obtain ⟨g2, h⟩ := h
  obtain ⟨g3, h⟩ := h
  obtain ⟨g4, h⟩ := h
  obtain ⟨g5, h⟩ := h
  refine en_iload mc143_27 rfl ?_
  refine en_aload_n mc143_29 rfl ?_
  refine en_getR (b := 75) mv143 mc143_30 (lk_f7_16) (⟨rfl, by decide⟩ : mt_kd[72]? = some (.inl 7) ∧ 72 < 99) rfl (mk_fc ho (by decide +kernel)) ?_
  refine en_iload_n mc143_33 rfl ?_
  refine en_iald mc143_34 (⟨rfl, by decide, by decide⟩ : mt_kd[75]? = some (.inr (.int, 918)) ∧ 75 < 99 ∧ 918 < 2147483648) g1 g2 ?_
  refine en_aload_n mc143_35 rfl ?_
  refine en_getR (b := 76) mv143 mc143_36 (lk_f7_19) (⟨rfl, by decide⟩ : mt_kd[72]? = some (.inl 7) ∧ 72 < 99) rfl (mk_fc ho (by decide +kernel)) ?_
  refine en_iload_n mc143_39 rfl ?_
  refine en_iald mc143_40 (⟨rfl, by decide, by decide⟩ : mt_kd[76]? = some (.inr (.int, 918)) ∧ 76 < 99 ∧ 918 < 2147483648) g3 g4 ?_
  refine en_iadd mc143_41 ?_
  refine en_icmp_ge 71 mc143_42 (by decide) hg_l5 g5 (fun q => ?_) (fun q => ?_)
  · replace h := h.1 q
    obtain ⟨g6, h⟩ := h
    obtain ⟨g7, h⟩ := h
    refine en_aload_n mc143_71 rfl ?_
    refine en_iload_n mc143_72 rfl ?_
    refine en_aload_n mc143_73 rfl ?_
    refine en_getR (b := 73) mv143 mc143_74 (lk_f7_7) (⟨rfl, by decide⟩ : mt_kd[72]? = some (.inl 7) ∧ 72 < 99) rfl (mk_fc ho (by decide +kernel)) ?_
    refine en_iload_n mc143_77 rfl ?_
    refine en_iald mc143_78 (⟨rfl, by decide, by decide⟩ : mt_kd[73]? = some (.inr (.int, 918)) ∧ 73 < 99 ∧ 918 < 2147483648) g6 g7 ?_
    refine en_callV (lz := [mm_r 72, mm_i l1, mm_i (M.1 73 l3), mm_u, mm_u]) mv143 mc143_79 rfl rfl (lk_m7_158) mv61 rfl (by decide) rfl (mk_cokV rfl (⟨rfl, by decide⟩ : mt_kd[72]? = some (.inl 7) ∧ 72 < 99)) rfl (mk_nh rfl _) ho ?_
    refine en_CV_mono h (fun M9 h => ?_) (fun _ _ h => h)
    intro ho10
    replace h := h ho10
    obtain ⟨g11, h⟩ := h
    obtain ⟨g12, h⟩ := h
    refine en_aload_n mc143_82 rfl ?_
    refine en_iload_n mc143_83 rfl ?_
    refine en_aload_n mc143_84 rfl ?_
    refine en_getR (b := 73) mv143 mc143_85 (lk_f7_7) (⟨rfl, by decide⟩ : mt_kd[72]? = some (.inl 7) ∧ 72 < 99) rfl (mk_fc ho10 (by decide +kernel)) ?_
    refine en_iload_n mc143_88 rfl ?_
    refine en_iald mc143_89 (⟨rfl, by decide, by decide⟩ : mt_kd[73]? = some (.inr (.int, 918)) ∧ 73 < 99 ∧ 918 < 2147483648) g11 g12 ?_
    refine en_iconst mc143_90 ?_
    refine en_isub mc143_91 ?_
    refine en_callV (lz := [mm_r 72, mm_i l1, mm_i ((M9.1 73 l3) - 1), mm_u, mm_u]) mv143 mc143_92 rfl rfl (lk_m7_161) mv62 rfl (by decide) rfl (mk_cokV rfl (⟨rfl, by decide⟩ : mt_kd[72]? = some (.inl 7) ∧ 72 < 99)) rfl (mk_nh rfl _) ho10 ?_
    refine en_CV_mono h (fun M14 h => ?_) (fun _ _ h => h)
    intro ho15
    replace h := h ho15
    refine en_aload_n mc143_95 rfl ?_
    refine en_callI (lz := [mm_r 72, mm_u, mm_u]) mv143 mc143_96 rfl rfl (lk_m7_195) mv142 rfl (by decide) rfl (mk_cokV rfl (⟨rfl, by decide⟩ : mt_kd[72]? = some (.inl 7) ∧ 72 < 99)) rfl (mk_nh rfl _) ho15 ?_
    refine en_CI_mono h (fun x16 M17 h => ?_) (fun _ _ h => h)
    intro ho18
    replace h := h ho18
    obtain ⟨g19, h⟩ := h
    obtain ⟨g20, h⟩ := h
    refine en_istore (ls' := [mm_r 72, mm_i l1, mm_i l2, mm_i l3, mm_i l4, mm_i x16]) mc143_99 (Nat.le_of_ble_eq_true rfl) rfl ?_
    refine en_aload_n mc143_101 rfl ?_
    refine en_iload_n mc143_102 rfl ?_
    refine en_aload_n mc143_103 rfl ?_
    refine en_getR (b := 74) mv143 mc143_104 (lk_f7_13) (⟨rfl, by decide⟩ : mt_kd[72]? = some (.inl 7) ∧ 72 < 99) rfl (mk_fc ho18 (by decide +kernel)) ?_
    refine en_iload_n mc143_107 rfl ?_
    refine en_iald mc143_108 (⟨rfl, by decide, by decide⟩ : mt_kd[74]? = some (.inr (.int, 918)) ∧ 74 < 99 ∧ 918 < 2147483648) g19 g20 ?_
    refine en_callV (lz := [mm_r 72, mm_i l1, mm_i (M17.1 74 l3), mm_u, mm_u]) mv143 mc143_109 rfl rfl (lk_m7_161) mv62 rfl (by decide) rfl (mk_cokV rfl (⟨rfl, by decide⟩ : mt_kd[72]? = some (.inl 7) ∧ 72 < 99)) rfl (mk_nh rfl _) ho18 ?_
    refine en_CV_mono h (fun M22 h => ?_) (fun _ _ h => h)
    intro ho23
    replace h := h ho23
    obtain ⟨g24, h⟩ := h
    obtain ⟨g25, h⟩ := h
    obtain ⟨g26, h⟩ := h
    obtain ⟨g27, h⟩ := h
    obtain ⟨g28, h⟩ := h
    obtain ⟨g29, h⟩ := h
    refine en_iload_n mc143_112 rfl ?_
    refine en_iconst mc143_113 ?_
    refine en_aload_n mc143_114 rfl ?_
    refine en_getR (b := 76) mv143 mc143_115 (lk_f7_19) (⟨rfl, by decide⟩ : mt_kd[72]? = some (.inl 7) ∧ 72 < 99) rfl (mk_fc ho23 (by decide +kernel)) ?_
    refine en_iload_n mc143_118 rfl ?_
    refine en_iald mc143_119 (⟨rfl, by decide, by decide⟩ : mt_kd[76]? = some (.inr (.int, 918)) ∧ 76 < 99 ∧ 918 < 2147483648) g24 g25 ?_
    refine en_imul mc143_120 ?_
    refine en_aload_n mc143_121 rfl ?_
    refine en_getR (b := 74) mv143 mc143_122 (lk_f7_13) (⟨rfl, by decide⟩ : mt_kd[72]? = some (.inl 7) ∧ 72 < 99) rfl (mk_fc ho23 (by decide +kernel)) ?_
    refine en_iload_n mc143_125 rfl ?_
    refine en_iald mc143_126 (⟨rfl, by decide, by decide⟩ : mt_kd[74]? = some (.inr (.int, 918)) ∧ 74 < 99 ∧ 918 < 2147483648) g26 g27 ?_
    refine en_aload_n mc143_127 rfl ?_
    refine en_getR (b := 73) mv143 mc143_128 (lk_f7_7) (⟨rfl, by decide⟩ : mt_kd[72]? = some (.inl 7) ∧ 72 < 99) rfl (mk_fc ho23 (by decide +kernel)) ?_
    refine en_iload_n mc143_131 rfl ?_
    refine en_iald mc143_132 (⟨rfl, by decide, by decide⟩ : mt_kd[73]? = some (.inr (.int, 918)) ∧ 73 < 99 ∧ 918 < 2147483648) g28 g29 ?_
    refine en_isub mc143_133 ?_
    refine en_imul mc143_134 ?_
    refine en_iadd mc143_135 ?_
    refine en_iconst mc143_136 ?_
    refine en_iload mc143_137 rfl ?_
    refine en_imul mc143_139 ?_
    refine en_iadd mc143_140 ?_
    refine en_iload mc143_141 rfl ?_
    refine en_isub mc143_143 ?_
    refine en_aload_n mc143_144 rfl ?_
    refine en_callI (lz := [mm_r 72, mm_u, mm_u]) mv143 mc143_145 rfl rfl (lk_m7_195) mv142 rfl (by decide) rfl (mk_cokV rfl (⟨rfl, by decide⟩ : mt_kd[72]? = some (.inl 7) ∧ 72 < 99)) rfl (mk_nh rfl _) ho23 ?_
    refine en_CI_mono h (fun x30 M31 h => ?_) (fun _ _ h => h)
    intro ho32
    replace h := h ho32
    refine en_isub mc143_148 ?_
    refine en_istore_n (ls' := [mm_r 72, mm_i l1, mm_i ((((l2 + ((2 * (M22.1 76 l3)) * ((M22.1 74 l3) - (M22.1 73 l3)))) + (2 * l4)) - x16) - x30), mm_i l3, mm_i l4, mm_i x16]) mc143_149 (Nat.le_of_ble_eq_true rfl) rfl ?_
    refine en_iinc (ls' := [mm_r 72, mm_i l1, mm_i ((((l2 + ((2 * (M22.1 76 l3)) * ((M22.1 74 l3) - (M22.1 73 l3)))) + (2 * l4)) - x16) - x30), mm_i (l3 + 1), mm_i l4, mm_i x16]) mc143_150 rfl rfl ?_
    refine en_goto 7 mc143_153 (by decide) ?_
    exact h
  · replace h := h.2 q
    obtain ⟨g33, h⟩ := h
    obtain ⟨g34, h⟩ := h
    obtain ⟨g35, h⟩ := h
    obtain ⟨g36, h⟩ := h
    refine en_iload mc143_45 rfl ?_
    refine en_aload_n mc143_47 rfl ?_
    refine en_getR (b := 79) mv143 mc143_48 (lk_f7_28) (⟨rfl, by decide⟩ : mt_kd[72]? = some (.inl 7) ∧ 72 < 99) rfl (mk_fc ho (by decide +kernel)) ?_
    refine en_iload mc143_51 rfl ?_
    refine en_iald mc143_53 (⟨rfl, by decide, by decide⟩ : mt_kd[79]? = some (.inr (.int, 3618)) ∧ 79 < 99 ∧ 3618 < 2147483648) g33 g34 ?_
    refine en_iadd mc143_54 ?_
    refine en_aload_n mc143_55 rfl ?_
    refine en_getR (b := 78) mv143 mc143_56 (lk_f7_25) (⟨rfl, by decide⟩ : mt_kd[72]? = some (.inl 7) ∧ 72 < 99) rfl (mk_fc ho (by decide +kernel)) ?_
    refine en_iload mc143_59 rfl ?_
    refine en_iald mc143_61 (⟨rfl, by decide, by decide⟩ : mt_kd[78]? = some (.inr (.int, 3618)) ∧ 78 < 99 ∧ 3618 < 2147483648) g35 g36 ?_
    refine en_isub mc143_62 ?_
    refine en_istore (ls' := [mm_r 72, mm_i l1, mm_i l2, mm_i l3, mm_i ((l4 + (M.1 79 l5)) - (M.1 78 l5)), mm_i l5]) mc143_63 (Nat.le_of_ble_eq_true rfl) rfl ?_
    refine en_iinc (ls' := [mm_r 72, mm_i l1, mm_i l2, mm_i l3, mm_i ((l4 + (M.1 79 l5)) - (M.1 78 l5)), mm_i (l5 + 1)]) mc143_65 rfl rfl ?_
    refine en_goto 27 mc143_68 (by decide) ?_
    exact h
/-! 144: CellAreasModel.findParts(I)I -/
theorem mc144_0 : mr_C 144 0 = some (.sipush 402, 3) := by decide +kernel
theorem mc144_3 : mr_C 144 3 = some (.iload_n 1, 1) := by decide +kernel
theorem mc144_4 : mr_C 144 4 = some (.imul, 1) := by decide +kernel
theorem mc144_5 : mr_C 144 5 = some (.istore_n 2, 1) := by decide +kernel
theorem mc144_6 : mr_C 144 6 = some (.iconst 0, 1) := by decide +kernel
theorem mc144_7 : mr_C 144 7 = some (.istore_n 3, 1) := by decide +kernel
theorem mc144_8 : mr_C 144 8 = some (.iload_n 3, 1) := by decide +kernel
theorem mc144_9 : mr_C 144 9 = some (.aload_n 0, 1) := by decide +kernel
theorem mc144_10 : mr_C 144 10 = some (.getfield 31, 3) := by decide +kernel
theorem mc144_13 : mr_C 144 13 = some (.iload_n 1, 1) := by decide +kernel
theorem mc144_14 : mr_C 144 14 = some (.iaload, 1) := by decide +kernel
theorem mc144_15 : mr_C 144 15 = some (.if_icmp .ge (16), 3) := by decide +kernel
theorem mc144_18 : mr_C 144 18 = some (.aload_n 0, 1) := by decide +kernel
theorem mc144_19 : mr_C 144 19 = some (.getfield 83, 3) := by decide +kernel
theorem mc144_22 : mr_C 144 22 = some (.iload_n 3, 1) := by decide +kernel
theorem mc144_23 : mr_C 144 23 = some (.iload_n 3, 1) := by decide +kernel
theorem mc144_24 : mr_C 144 24 = some (.iastore, 1) := by decide +kernel
theorem mc144_25 : mr_C 144 25 = some (.iinc 3 (1), 3) := by decide +kernel
theorem mc144_28 : mr_C 144 28 = some (.goto (-20), 3) := by decide +kernel
theorem mc144_31 : mr_C 144 31 = some (.iconst 1, 1) := by decide +kernel
theorem mc144_32 : mr_C 144 32 = some (.istore_n 3, 1) := by decide +kernel
theorem mc144_33 : mr_C 144 33 = some (.iload_n 3, 1) := by decide +kernel
theorem mc144_34 : mr_C 144 34 = some (.ifCond .eq (250), 3) := by decide +kernel
theorem mc144_37 : mr_C 144 37 = some (.iconst 0, 1) := by decide +kernel
theorem mc144_38 : mr_C 144 38 = some (.istore_n 3, 1) := by decide +kernel
theorem mc144_39 : mr_C 144 39 = some (.bipush 102, 2) := by decide +kernel
theorem mc144_41 : mr_C 144 41 = some (.iload_n 1, 1) := by decide +kernel
theorem mc144_42 : mr_C 144 42 = some (.imul, 1) := by decide +kernel
theorem mc144_43 : mr_C 144 43 = some (.iconst 1, 1) := by decide +kernel
theorem mc144_44 : mr_C 144 44 = some (.iadd, 1) := by decide +kernel
theorem mc144_45 : mr_C 144 45 = some (.istore 4, 2) := by decide +kernel
theorem mc144_47 : mr_C 144 47 = some (.iload 4, 2) := by decide +kernel
theorem mc144_49 : mr_C 144 49 = some (.aload_n 0, 1) := by decide +kernel
theorem mc144_50 : mr_C 144 50 = some (.iload_n 1, 1) := by decide +kernel
theorem mc144_51 : mr_C 144 51 = some (.invokevirtual 107, 3) := by decide +kernel
theorem mc144_54 : mr_C 144 54 = some (.if_icmp .ge (227), 3) := by decide +kernel
theorem mc144_57 : mr_C 144 57 = some (.aload_n 0, 1) := by decide +kernel
theorem mc144_58 : mr_C 144 58 = some (.getfield 16, 3) := by decide +kernel
theorem mc144_61 : mr_C 144 61 = some (.iload 4, 2) := by decide +kernel
theorem mc144_63 : mr_C 144 63 = some (.iaload, 1) := by decide +kernel
theorem mc144_64 : mr_C 144 64 = some (.istore 5, 2) := by decide +kernel
theorem mc144_66 : mr_C 144 66 = some (.iload 5, 2) := by decide +kernel
theorem mc144_68 : mr_C 144 68 = some (.aload_n 0, 1) := by decide +kernel
theorem mc144_69 : mr_C 144 69 = some (.getfield 16, 3) := by decide +kernel
theorem mc144_72 : mr_C 144 72 = some (.iload 4, 2) := by decide +kernel
theorem mc144_74 : mr_C 144 74 = some (.iaload, 1) := by decide +kernel
theorem mc144_75 : mr_C 144 75 = some (.aload_n 0, 1) := by decide +kernel
theorem mc144_76 : mr_C 144 76 = some (.getfield 19, 3) := by decide +kernel
theorem mc144_79 : mr_C 144 79 = some (.iload 4, 2) := by decide +kernel
theorem mc144_81 : mr_C 144 81 = some (.iaload, 1) := by decide +kernel
theorem mc144_82 : mr_C 144 82 = some (.iadd, 1) := by decide +kernel
theorem mc144_83 : mr_C 144 83 = some (.if_icmp .ge (192), 3) := by decide +kernel
theorem mc144_86 : mr_C 144 86 = some (.aload_n 0, 1) := by decide +kernel
theorem mc144_87 : mr_C 144 87 = some (.getfield 13, 3) := by decide +kernel
theorem mc144_90 : mr_C 144 90 = some (.iload 4, 2) := by decide +kernel
theorem mc144_92 : mr_C 144 92 = some (.iconst 1, 1) := by decide +kernel
theorem mc144_93 : mr_C 144 93 = some (.isub, 1) := by decide +kernel
theorem mc144_94 : mr_C 144 94 = some (.iaload, 1) := by decide +kernel
theorem mc144_95 : mr_C 144 95 = some (.aload_n 0, 1) := by decide +kernel
theorem mc144_96 : mr_C 144 96 = some (.getfield 7, 3) := by decide +kernel
theorem mc144_99 : mr_C 144 99 = some (.iload 4, 2) := by decide +kernel
theorem mc144_101 : mr_C 144 101 = some (.iaload, 1) := by decide +kernel
theorem mc144_102 : mr_C 144 102 = some (.if_icmp .ne (173), 3) := by decide +kernel
theorem mc144_105 : mr_C 144 105 = some (.aload_n 0, 1) := by decide +kernel
theorem mc144_106 : mr_C 144 106 = some (.getfield 16, 3) := by decide +kernel
theorem mc144_109 : mr_C 144 109 = some (.iload 4, 2) := by decide +kernel
theorem mc144_111 : mr_C 144 111 = some (.iconst 1, 1) := by decide +kernel
theorem mc144_112 : mr_C 144 112 = some (.isub, 1) := by decide +kernel
theorem mc144_113 : mr_C 144 113 = some (.iaload, 1) := by decide +kernel
theorem mc144_114 : mr_C 144 114 = some (.istore 6, 2) := by decide +kernel
theorem mc144_116 : mr_C 144 116 = some (.iload 6, 2) := by decide +kernel
theorem mc144_118 : mr_C 144 118 = some (.aload_n 0, 1) := by decide +kernel
theorem mc144_119 : mr_C 144 119 = some (.getfield 16, 3) := by decide +kernel
theorem mc144_122 : mr_C 144 122 = some (.iload 4, 2) := by decide +kernel
theorem mc144_124 : mr_C 144 124 = some (.iconst 1, 1) := by decide +kernel
theorem mc144_125 : mr_C 144 125 = some (.isub, 1) := by decide +kernel
theorem mc144_126 : mr_C 144 126 = some (.iaload, 1) := by decide +kernel
theorem mc144_127 : mr_C 144 127 = some (.aload_n 0, 1) := by decide +kernel
theorem mc144_128 : mr_C 144 128 = some (.getfield 19, 3) := by decide +kernel
theorem mc144_131 : mr_C 144 131 = some (.iload 4, 2) := by decide +kernel
theorem mc144_133 : mr_C 144 133 = some (.iconst 1, 1) := by decide +kernel
theorem mc144_134 : mr_C 144 134 = some (.isub, 1) := by decide +kernel
theorem mc144_135 : mr_C 144 135 = some (.iaload, 1) := by decide +kernel
theorem mc144_136 : mr_C 144 136 = some (.iadd, 1) := by decide +kernel
theorem mc144_137 : mr_C 144 137 = some (.if_icmp .ge (132), 3) := by decide +kernel
theorem mc144_140 : mr_C 144 140 = some (.aload_n 0, 1) := by decide +kernel
theorem mc144_141 : mr_C 144 141 = some (.getfield 25, 3) := by decide +kernel
theorem mc144_144 : mr_C 144 144 = some (.iload 6, 2) := by decide +kernel
theorem mc144_146 : mr_C 144 146 = some (.iaload, 1) := by decide +kernel
theorem mc144_147 : mr_C 144 147 = some (.aload_n 0, 1) := by decide +kernel
theorem mc144_148 : mr_C 144 148 = some (.getfield 28, 3) := by decide +kernel
theorem mc144_151 : mr_C 144 151 = some (.iload 5, 2) := by decide +kernel
theorem mc144_153 : mr_C 144 153 = some (.iaload, 1) := by decide +kernel
theorem mc144_154 : mr_C 144 154 = some (.if_icmp .ge (109), 3) := by decide +kernel
theorem mc144_157 : mr_C 144 157 = some (.aload_n 0, 1) := by decide +kernel
theorem mc144_158 : mr_C 144 158 = some (.getfield 25, 3) := by decide +kernel
theorem mc144_161 : mr_C 144 161 = some (.iload 5, 2) := by decide +kernel
theorem mc144_163 : mr_C 144 163 = some (.iaload, 1) := by decide +kernel
theorem mc144_164 : mr_C 144 164 = some (.aload_n 0, 1) := by decide +kernel
theorem mc144_165 : mr_C 144 165 = some (.getfield 28, 3) := by decide +kernel
theorem mc144_168 : mr_C 144 168 = some (.iload 6, 2) := by decide +kernel
theorem mc144_170 : mr_C 144 170 = some (.iaload, 1) := by decide +kernel
theorem mc144_171 : mr_C 144 171 = some (.if_icmp .ge (92), 3) := by decide +kernel
theorem mc144_174 : mr_C 144 174 = some (.aload_n 0, 1) := by decide +kernel
theorem mc144_175 : mr_C 144 175 = some (.getfield 83, 3) := by decide +kernel
theorem mc144_178 : mr_C 144 178 = some (.iload 6, 2) := by decide +kernel
theorem mc144_180 : mr_C 144 180 = some (.iload_n 2, 1) := by decide +kernel
theorem mc144_181 : mr_C 144 181 = some (.isub, 1) := by decide +kernel
theorem mc144_182 : mr_C 144 182 = some (.iaload, 1) := by decide +kernel
theorem mc144_183 : mr_C 144 183 = some (.aload_n 0, 1) := by decide +kernel
theorem mc144_184 : mr_C 144 184 = some (.getfield 83, 3) := by decide +kernel
theorem mc144_187 : mr_C 144 187 = some (.iload 5, 2) := by decide +kernel
theorem mc144_189 : mr_C 144 189 = some (.iload_n 2, 1) := by decide +kernel
theorem mc144_190 : mr_C 144 190 = some (.isub, 1) := by decide +kernel
theorem mc144_191 : mr_C 144 191 = some (.iaload, 1) := by decide +kernel
theorem mc144_192 : mr_C 144 192 = some (.if_icmp .eq (71), 3) := by decide +kernel
theorem mc144_195 : mr_C 144 195 = some (.aload_n 0, 1) := by decide +kernel
theorem mc144_196 : mr_C 144 196 = some (.getfield 83, 3) := by decide +kernel
theorem mc144_199 : mr_C 144 199 = some (.iload 6, 2) := by decide +kernel
theorem mc144_201 : mr_C 144 201 = some (.iload_n 2, 1) := by decide +kernel
theorem mc144_202 : mr_C 144 202 = some (.isub, 1) := by decide +kernel
theorem mc144_203 : mr_C 144 203 = some (.iaload, 1) := by decide +kernel
theorem mc144_204 : mr_C 144 204 = some (.aload_n 0, 1) := by decide +kernel
theorem mc144_205 : mr_C 144 205 = some (.getfield 83, 3) := by decide +kernel
theorem mc144_208 : mr_C 144 208 = some (.iload 5, 2) := by decide +kernel
theorem mc144_210 : mr_C 144 210 = some (.iload_n 2, 1) := by decide +kernel
theorem mc144_211 : mr_C 144 211 = some (.isub, 1) := by decide +kernel
theorem mc144_212 : mr_C 144 212 = some (.iaload, 1) := by decide +kernel
theorem mc144_213 : mr_C 144 213 = some (.if_icmp .ge (15), 3) := by decide +kernel
theorem mc144_216 : mr_C 144 216 = some (.aload_n 0, 1) := by decide +kernel
theorem mc144_217 : mr_C 144 217 = some (.getfield 83, 3) := by decide +kernel
theorem mc144_220 : mr_C 144 220 = some (.iload 6, 2) := by decide +kernel
theorem mc144_222 : mr_C 144 222 = some (.iload_n 2, 1) := by decide +kernel
theorem mc144_223 : mr_C 144 223 = some (.isub, 1) := by decide +kernel
theorem mc144_224 : mr_C 144 224 = some (.iaload, 1) := by decide +kernel
theorem mc144_225 : mr_C 144 225 = some (.goto 12, 3) := by decide +kernel
theorem mc144_228 : mr_C 144 228 = some (.aload_n 0, 1) := by decide +kernel
theorem mc144_229 : mr_C 144 229 = some (.getfield 83, 3) := by decide +kernel
theorem mc144_232 : mr_C 144 232 = some (.iload 5, 2) := by decide +kernel
theorem mc144_234 : mr_C 144 234 = some (.iload_n 2, 1) := by decide +kernel
theorem mc144_235 : mr_C 144 235 = some (.isub, 1) := by decide +kernel
theorem mc144_236 : mr_C 144 236 = some (.iaload, 1) := by decide +kernel
theorem mc144_237 : mr_C 144 237 = some (.istore 7, 2) := by decide +kernel
theorem mc144_239 : mr_C 144 239 = some (.aload_n 0, 1) := by decide +kernel
theorem mc144_240 : mr_C 144 240 = some (.getfield 83, 3) := by decide +kernel
theorem mc144_243 : mr_C 144 243 = some (.iload 6, 2) := by decide +kernel
theorem mc144_245 : mr_C 144 245 = some (.iload_n 2, 1) := by decide +kernel
theorem mc144_246 : mr_C 144 246 = some (.isub, 1) := by decide +kernel
theorem mc144_247 : mr_C 144 247 = some (.iload 7, 2) := by decide +kernel
theorem mc144_249 : mr_C 144 249 = some (.iastore, 1) := by decide +kernel
theorem mc144_250 : mr_C 144 250 = some (.aload_n 0, 1) := by decide +kernel
theorem mc144_251 : mr_C 144 251 = some (.getfield 83, 3) := by decide +kernel
theorem mc144_254 : mr_C 144 254 = some (.iload 5, 2) := by decide +kernel
theorem mc144_256 : mr_C 144 256 = some (.iload_n 2, 1) := by decide +kernel
theorem mc144_257 : mr_C 144 257 = some (.isub, 1) := by decide +kernel
theorem mc144_258 : mr_C 144 258 = some (.iload 7, 2) := by decide +kernel
theorem mc144_260 : mr_C 144 260 = some (.iastore, 1) := by decide +kernel
theorem mc144_261 : mr_C 144 261 = some (.iconst 1, 1) := by decide +kernel
theorem mc144_262 : mr_C 144 262 = some (.istore_n 3, 1) := by decide +kernel
theorem mc144_263 : mr_C 144 263 = some (.iinc 6 (1), 3) := by decide +kernel
theorem mc144_266 : mr_C 144 266 = some (.goto (-150), 3) := by decide +kernel
theorem mc144_269 : mr_C 144 269 = some (.iinc 5 (1), 3) := by decide +kernel
theorem mc144_272 : mr_C 144 272 = some (.goto (-206), 3) := by decide +kernel
theorem mc144_275 : mr_C 144 275 = some (.iinc 4 (1), 3) := by decide +kernel
theorem mc144_278 : mr_C 144 278 = some (.goto (-231), 3) := by decide +kernel
theorem mc144_281 : mr_C 144 281 = some (.goto (-248), 3) := by decide +kernel
theorem mc144_284 : mr_C 144 284 = some (.iconst 0, 1) := by decide +kernel
theorem mc144_285 : mr_C 144 285 = some (.istore 4, 2) := by decide +kernel
theorem mc144_287 : mr_C 144 287 = some (.iconst 0, 1) := by decide +kernel
theorem mc144_288 : mr_C 144 288 = some (.istore 5, 2) := by decide +kernel
theorem mc144_290 : mr_C 144 290 = some (.iload 5, 2) := by decide +kernel
theorem mc144_292 : mr_C 144 292 = some (.aload_n 0, 1) := by decide +kernel
theorem mc144_293 : mr_C 144 293 = some (.getfield 31, 3) := by decide +kernel
theorem mc144_296 : mr_C 144 296 = some (.iload_n 1, 1) := by decide +kernel
theorem mc144_297 : mr_C 144 297 = some (.iaload, 1) := by decide +kernel
theorem mc144_298 : mr_C 144 298 = some (.if_icmp .ge (55), 3) := by decide +kernel
theorem mc144_301 : mr_C 144 301 = some (.aload_n 0, 1) := by decide +kernel
theorem mc144_302 : mr_C 144 302 = some (.getfield 83, 3) := by decide +kernel
theorem mc144_305 : mr_C 144 305 = some (.iload 5, 2) := by decide +kernel
theorem mc144_307 : mr_C 144 307 = some (.iaload, 1) := by decide +kernel
theorem mc144_308 : mr_C 144 308 = some (.iload 5, 2) := by decide +kernel
theorem mc144_310 : mr_C 144 310 = some (.if_icmp .ne (18), 3) := by decide +kernel
theorem mc144_313 : mr_C 144 313 = some (.aload_n 0, 1) := by decide +kernel
theorem mc144_314 : mr_C 144 314 = some (.getfield 83, 3) := by decide +kernel
theorem mc144_317 : mr_C 144 317 = some (.iload 5, 2) := by decide +kernel
theorem mc144_319 : mr_C 144 319 = some (.iload 4, 2) := by decide +kernel
theorem mc144_321 : mr_C 144 321 = some (.iastore, 1) := by decide +kernel
theorem mc144_322 : mr_C 144 322 = some (.iinc 4 (1), 3) := by decide +kernel
theorem mc144_325 : mr_C 144 325 = some (.goto 22, 3) := by decide +kernel
theorem mc144_328 : mr_C 144 328 = some (.aload_n 0, 1) := by decide +kernel
theorem mc144_329 : mr_C 144 329 = some (.getfield 83, 3) := by decide +kernel
theorem mc144_332 : mr_C 144 332 = some (.iload 5, 2) := by decide +kernel
theorem mc144_334 : mr_C 144 334 = some (.aload_n 0, 1) := by decide +kernel
theorem mc144_335 : mr_C 144 335 = some (.getfield 83, 3) := by decide +kernel
theorem mc144_338 : mr_C 144 338 = some (.aload_n 0, 1) := by decide +kernel
theorem mc144_339 : mr_C 144 339 = some (.getfield 83, 3) := by decide +kernel
theorem mc144_342 : mr_C 144 342 = some (.iload 5, 2) := by decide +kernel
theorem mc144_344 : mr_C 144 344 = some (.iaload, 1) := by decide +kernel
theorem mc144_345 : mr_C 144 345 = some (.iaload, 1) := by decide +kernel
theorem mc144_346 : mr_C 144 346 = some (.iastore, 1) := by decide +kernel
theorem mc144_347 : mr_C 144 347 = some (.iinc 5 (1), 3) := by decide +kernel
theorem mc144_350 : mr_C 144 350 = some (.goto (-60), 3) := by decide +kernel
theorem mc144_353 : mr_C 144 353 = some (.iload 4, 2) := by decide +kernel
theorem mc144_355 : mr_C 144 355 = some (.ireturn, 1) := by decide +kernel
theorem vc144_0 {sc : Nat × (Int → Int)} {Q : mm_R → mm_M → Prop} {M : mm_M} {l1 : Int} (ho : mr_ok M)
    (h : en_R sc 144 8 [mm_r 72, mm_i l1, mm_i (402 * l1), mm_i 0, mm_u, mm_u, mm_u, mm_u] [] M Q) : en_R sc 144 0 [mm_r 72, mm_i l1, mm_u, mm_u, mm_u, mm_u, mm_u, mm_u] [] M Q := by
  refine en_sipush mc144_0 (by decide) ?_
  refine en_iload_n mc144_3 rfl ?_
  refine en_imul mc144_4 ?_
  refine en_istore_n (ls' := [mm_r 72, mm_i l1, mm_i (402 * l1), mm_u, mm_u, mm_u, mm_u, mm_u]) mc144_5 (Nat.le_of_ble_eq_true rfl) rfl ?_
  refine en_iconst mc144_6 ?_
  refine en_istore_n (ls' := [mm_r 72, mm_i l1, mm_i (402 * l1), mm_i 0, mm_u, mm_u, mm_u, mm_u]) mc144_7 (Nat.le_of_ble_eq_true rfl) rfl ?_
  exact h
theorem vc144_8 {sc : Nat × (Int → Int)} {Q : mm_R → mm_M → Prop} {M : mm_M} {l1 : Int} {l2 : Int} {l3 : Int} (ho : mr_ok M) (hg_l3 : mr_rg l3)
    (h : 0 ≤ l1 ∧ (l1 < 9 ∧ (((M.1 80 l1) ≤ l3 → en_R sc 144 33 [mm_r 72, mm_i l1, mm_i l2, mm_i 1, mm_u, mm_u, mm_u, mm_u] [] M Q) ∧ (¬ (M.1 80 l1) ≤ l3 → 0 ≤ l3 ∧ (l3 < 402 ∧ (en_R sc 144 8 [mm_r 72, mm_i l1, mm_i l2, mm_i (l3 + 1), mm_u, mm_u, mm_u, mm_u] [] (mm_putN M 96 l3 l3) Q)))))) : en_R sc 144 8 [mm_r 72, mm_i l1, mm_i l2, mm_i l3, mm_u, mm_u, mm_u, mm_u] [] M Q := by
  obtain ⟨g1, h⟩ := h
  obtain ⟨g2, h⟩ := h
  refine en_iload_n mc144_8 rfl ?_
  refine en_aload_n mc144_9 rfl ?_
  refine en_getR (b := 80) mv144 mc144_10 (lk_f7_31) (⟨rfl, by decide⟩ : mt_kd[72]? = some (.inl 7) ∧ 72 < 99) rfl (mk_fc ho (by decide +kernel)) ?_
  refine en_iload_n mc144_13 rfl ?_
  refine en_iald mc144_14 (⟨rfl, by decide, by decide⟩ : mt_kd[80]? = some (.inr (.int, 9)) ∧ 80 < 99 ∧ 9 < 2147483648) g1 g2 ?_
  refine en_icmp_ge 31 mc144_15 (by decide) hg_l3 (ho.2.1 80 l1 (by unfold mr_lg; omega)) (fun q => ?_) (fun q => ?_)
  · replace h := h.1 q
    refine en_iconst mc144_31 ?_
    refine en_istore_n (ls' := [mm_r 72, mm_i l1, mm_i l2, mm_i 1, mm_u, mm_u, mm_u, mm_u]) mc144_32 (Nat.le_of_ble_eq_true rfl) rfl ?_
    exact h
  · replace h := h.2 q
    obtain ⟨g3, h⟩ := h
    obtain ⟨g4, h⟩ := h
    refine en_aload_n mc144_18 rfl ?_
    refine en_getR (b := 96) mv144 mc144_19 (lk_f7_83) (⟨rfl, by decide⟩ : mt_kd[72]? = some (.inl 7) ∧ 72 < 99) rfl (mk_fc ho (by decide +kernel)) ?_
    refine en_iload_n mc144_22 rfl ?_
    refine en_iload_n mc144_23 rfl ?_
    refine en_iast mc144_24 (⟨rfl, by decide, by decide⟩ : mt_kd[96]? = some (.inr (.int, 402)) ∧ 96 < 99 ∧ 402 < 2147483648) g3 g4 hg_l3 ?_
    refine en_iinc (ls' := [mm_r 72, mm_i l1, mm_i l2, mm_i (l3 + 1), mm_u, mm_u, mm_u, mm_u]) mc144_25 rfl rfl ?_
    refine en_goto 8 mc144_28 (by decide) ?_
    exact h
theorem vc144_33 {sc : Nat × (Int → Int)} {Q : mm_R → mm_M → Prop} {M : mm_M} {l1 : Int} {l2 : Int} {l3 : Int} {l4 : mm_V} {l5 : mm_V} {l6 : mm_V} {l7 : mm_V} (ho : mr_ok M) (hg_l3 : mr_rg l3)
    (h : (l3 = 0 → en_R sc 144 290 [mm_r 72, mm_i l1, mm_i l2, mm_i l3, mm_i 0, mm_i 0, l6, l7] [] M Q) ∧ (¬ l3 = 0 → en_R sc 144 47 [mm_r 72, mm_i l1, mm_i l2, mm_i 0, mm_i ((102 * l1) + 1), l5, l6, l7] [] M Q)) : en_R sc 144 33 [mm_r 72, mm_i l1, mm_i l2, mm_i l3, l4, l5, l6, l7] [] M Q := by
  refine en_iload_n mc144_33 rfl ?_
  refine en_if_eq 284 mc144_34 (by decide) hg_l3 (fun q => ?_) (fun q => ?_)
  · replace h := h.1 q
    refine en_iconst mc144_284 ?_
    refine en_istore (ls' := [mm_r 72, mm_i l1, mm_i l2, mm_i l3, mm_i 0, l5, l6, l7]) mc144_285 (Nat.le_of_ble_eq_true rfl) rfl ?_
    refine en_iconst mc144_287 ?_
    refine en_istore (ls' := [mm_r 72, mm_i l1, mm_i l2, mm_i l3, mm_i 0, mm_i 0, l6, l7]) mc144_288 (Nat.le_of_ble_eq_true rfl) rfl ?_
    exact h
  · replace h := h.2 q
    refine en_iconst mc144_37 ?_
    refine en_istore_n (ls' := [mm_r 72, mm_i l1, mm_i l2, mm_i 0, l4, l5, l6, l7]) mc144_38 (Nat.le_of_ble_eq_true rfl) rfl ?_
    refine en_bipush mc144_39 (by decide) ?_
    refine en_iload_n mc144_41 rfl ?_
    refine en_imul mc144_42 ?_
    refine en_iconst mc144_43 ?_
    refine en_iadd mc144_44 ?_
    refine en_istore (ls' := [mm_r 72, mm_i l1, mm_i l2, mm_i 0, mm_i ((102 * l1) + 1), l5, l6, l7]) mc144_45 (Nat.le_of_ble_eq_true rfl) rfl ?_
    exact h
theorem vc144_47 {sc : Nat × (Int → Int)} {Q : mm_R → mm_M → Prop} {M : mm_M} {l1 : Int} {l2 : Int} {l3 : Int} {l4 : Int} {l5 : mm_V} {l6 : mm_V} {l7 : mm_V} (ho : mr_ok M) (hg_l4 : mr_rg l4)
    (h : en_CI sc 45 [mm_r 72, mm_i l1] M (fun x1 M2 => mr_ok M2 → mr_rg x1 ∧ ((x1 ≤ l4 → en_R sc 144 33 [mm_r 72, mm_i l1, mm_i l2, mm_i l3, mm_i l4, l5, l6, l7] [] M2 Q) ∧ (¬ x1 ≤ l4 → 0 ≤ l4 ∧ (l4 < 918 ∧ (en_R sc 144 66 [mm_r 72, mm_i l1, mm_i l2, mm_i l3, mm_i l4, mm_i (M2.1 75 l4), l6, l7] [] M2 Q))))) (fun e M9 => Q (.inr e) M9)) : en_R sc 144 47 [mm_r 72, mm_i l1, mm_i l2, mm_i l3, mm_i l4, l5, l6, l7] [] M Q := by
  refine en_iload mc144_47 rfl ?_
  refine en_aload_n mc144_49 rfl ?_
  refine en_iload_n mc144_50 rfl ?_
  refine en_callI (lz := [mm_r 72, mm_i l1]) mv144 mc144_51 rfl rfl (lk_m7_107) mv45 rfl (by decide) rfl (mk_cokV rfl (⟨rfl, by decide⟩ : mt_kd[72]? = some (.inl 7) ∧ 72 < 99)) rfl (mk_nh rfl _) ho ?_
  refine en_CI_mono h (fun x1 M2 h => ?_) (fun _ _ h => h)
  intro ho3
  replace h := h ho3
  obtain ⟨g4, h⟩ := h
  refine en_icmp_ge 281 mc144_54 (by decide) hg_l4 g4 (fun q => ?_) (fun q => ?_)
  · replace h := h.1 q
    refine en_goto 33 mc144_281 (by decide) ?_
    exact h
  · replace h := h.2 q
    obtain ⟨g5, h⟩ := h
    obtain ⟨g6, h⟩ := h
    refine en_aload_n mc144_57 rfl ?_
    refine en_getR (b := 75) mv144 mc144_58 (lk_f7_16) (⟨rfl, by decide⟩ : mt_kd[72]? = some (.inl 7) ∧ 72 < 99) rfl (mk_fc ho3 (by decide +kernel)) ?_
    refine en_iload mc144_61 rfl ?_
    refine en_iald mc144_63 (⟨rfl, by decide, by decide⟩ : mt_kd[75]? = some (.inr (.int, 918)) ∧ 75 < 99 ∧ 918 < 2147483648) g5 g6 ?_
    refine en_istore (ls' := [mm_r 72, mm_i l1, mm_i l2, mm_i l3, mm_i l4, mm_i (M2.1 75 l4), l6, l7]) mc144_64 (Nat.le_of_ble_eq_true rfl) rfl ?_
    exact h
theorem vc144_66 {sc : Nat × (Int → Int)} {Q : mm_R → mm_M → Prop} {M : mm_M} {l1 : Int} {l2 : Int} {l3 : Int} {l4 : Int} {l5 : Int} {l6 : mm_V} {l7 : mm_V} (ho : mr_ok M) (hg_l5 : mr_rg l5)
    (h : 0 ≤ l4 ∧ (l4 < 918 ∧ (0 ≤ l4 ∧ (l4 < 918 ∧ (mr_rg ((M.1 75 l4) + (M.1 76 l4)) ∧ ((((M.1 75 l4) + (M.1 76 l4)) ≤ l5 → en_R sc 144 47 [mm_r 72, mm_i l1, mm_i l2, mm_i l3, mm_i (l4 + 1), mm_i l5, l6, l7] [] M Q) ∧ (¬ ((M.1 75 l4) + (M.1 76 l4)) ≤ l5 → 0 ≤ (l4 - 1) ∧ ((l4 - 1) < 918 ∧ (0 ≤ l4 ∧ (l4 < 918 ∧ (((M.1 74 (l4 - 1)) ≠ (M.1 73 l4) → en_R sc 144 47 [mm_r 72, mm_i l1, mm_i l2, mm_i l3, mm_i (l4 + 1), mm_i l5, l6, l7] [] M Q) ∧ (¬ ((M.1 74 (l4 - 1)) ≠ (M.1 73 l4)) → 0 ≤ (l4 - 1) ∧ ((l4 - 1) < 918 ∧ (en_R sc 144 116 [mm_r 72, mm_i l1, mm_i l2, mm_i l3, mm_i l4, mm_i l5, mm_i (M.1 75 (l4 - 1)), l7] [] M Q)))))))))))))) : en_R sc 144 66 [mm_r 72, mm_i l1, mm_i l2, mm_i l3, mm_i l4, mm_i l5, l6, l7] [] M Q := by
  obtain ⟨g1, h⟩ := h
  obtain ⟨g2, h⟩ := h
  obtain ⟨g3, h⟩ := h
  obtain ⟨g4, h⟩ := h
  obtain ⟨g5, h⟩ := h
  refine en_iload mc144_66 rfl ?_
  refine en_aload_n mc144_68 rfl ?_
  refine en_getR (b := 75) mv144 mc144_69 (lk_f7_16) (⟨rfl, by decide⟩ : mt_kd[72]? = some (.inl 7) ∧ 72 < 99) rfl (mk_fc ho (by decide +kernel)) ?_
  refine en_iload mc144_72 rfl ?_
  refine en_iald mc144_74 (⟨rfl, by decide, by decide⟩ : mt_kd[75]? = some (.inr (.int, 918)) ∧ 75 < 99 ∧ 918 < 2147483648) g1 g2 ?_
  refine en_aload_n mc144_75 rfl ?_
  refine en_getR (b := 76) mv144 mc144_76 (lk_f7_19) (⟨rfl, by decide⟩ : mt_kd[72]? = some (.inl 7) ∧ 72 < 99) rfl (mk_fc ho (by decide +kernel)) ?_
  refine en_iload mc144_79 rfl ?_
  refine en_iald mc144_81 (⟨rfl, by decide, by decide⟩ : mt_kd[76]? = some (.inr (.int, 918)) ∧ 76 < 99 ∧ 918 < 2147483648) g3 g4 ?_
  refine en_iadd mc144_82 ?_
  refine en_icmp_ge 275 mc144_83 (by decide) hg_l5 g5 (fun q => ?_) (fun q => ?_)
  · replace h := h.1 q
    refine en_iinc (ls' := [mm_r 72, mm_i l1, mm_i l2, mm_i l3, mm_i (l4 + 1), mm_i l5, l6, l7]) mc144_275 rfl rfl ?_
    refine en_goto 47 mc144_278 (by decide) ?_
    exact h
  · replace h := h.2 q
    obtain ⟨g6, h⟩ := h
    obtain ⟨g7, h⟩ := h
    obtain ⟨g8, h⟩ := h
    obtain ⟨g9, h⟩ := h
    refine en_aload_n mc144_86 rfl ?_
    refine en_getR (b := 74) mv144 mc144_87 (lk_f7_13) (⟨rfl, by decide⟩ : mt_kd[72]? = some (.inl 7) ∧ 72 < 99) rfl (mk_fc ho (by decide +kernel)) ?_
    refine en_iload mc144_90 rfl ?_
    refine en_iconst mc144_92 ?_
    refine en_isub mc144_93 ?_
    refine en_iald mc144_94 (⟨rfl, by decide, by decide⟩ : mt_kd[74]? = some (.inr (.int, 918)) ∧ 74 < 99 ∧ 918 < 2147483648) g6 g7 ?_
    refine en_aload_n mc144_95 rfl ?_
    refine en_getR (b := 73) mv144 mc144_96 (lk_f7_7) (⟨rfl, by decide⟩ : mt_kd[72]? = some (.inl 7) ∧ 72 < 99) rfl (mk_fc ho (by decide +kernel)) ?_
    refine en_iload mc144_99 rfl ?_
    refine en_iald mc144_101 (⟨rfl, by decide, by decide⟩ : mt_kd[73]? = some (.inr (.int, 918)) ∧ 73 < 99 ∧ 918 < 2147483648) g8 g9 ?_
    refine en_icmp_ne 275 mc144_102 (by decide) (ho.2.1 74 (l4 - 1) (by unfold mr_lg; omega)) (ho.2.1 73 l4 (by unfold mr_lg; omega)) (fun q => ?_) (fun q => ?_)
    · replace h := h.1 q
      refine en_iinc (ls' := [mm_r 72, mm_i l1, mm_i l2, mm_i l3, mm_i (l4 + 1), mm_i l5, l6, l7]) mc144_275 rfl rfl ?_
      refine en_goto 47 mc144_278 (by decide) ?_
      exact h
    · replace h := h.2 q
      obtain ⟨g10, h⟩ := h
      obtain ⟨g11, h⟩ := h
      refine en_aload_n mc144_105 rfl ?_
      refine en_getR (b := 75) mv144 mc144_106 (lk_f7_16) (⟨rfl, by decide⟩ : mt_kd[72]? = some (.inl 7) ∧ 72 < 99) rfl (mk_fc ho (by decide +kernel)) ?_
      refine en_iload mc144_109 rfl ?_
      refine en_iconst mc144_111 ?_
      refine en_isub mc144_112 ?_
      refine en_iald mc144_113 (⟨rfl, by decide, by decide⟩ : mt_kd[75]? = some (.inr (.int, 918)) ∧ 75 < 99 ∧ 918 < 2147483648) g10 g11 ?_
      refine en_istore (ls' := [mm_r 72, mm_i l1, mm_i l2, mm_i l3, mm_i l4, mm_i l5, mm_i (M.1 75 (l4 - 1)), l7]) mc144_114 (Nat.le_of_ble_eq_true rfl) rfl ?_
      exact h
theorem vc144_116 {sc : Nat × (Int → Int)} {Q : mm_R → mm_M → Prop} {M : mm_M} {l1 : Int} {l2 : Int} {l3 : Int} {l4 : Int} {l5 : Int} {l6 : Int} {l7 : mm_V} (ho : mr_ok M) (hg_l6 : mr_rg l6)
    (h : 0 ≤ (l4 - 1) ∧ ((l4 - 1) < 918 ∧ (0 ≤ (l4 - 1) ∧ ((l4 - 1) < 918 ∧ (mr_rg ((M.1 75 (l4 - 1)) + (M.1 76 (l4 - 1))) ∧ ((((M.1 75 (l4 - 1)) + (M.1 76 (l4 - 1))) ≤ l6 → en_R sc 144 66 [mm_r 72, mm_i l1, mm_i l2, mm_i l3, mm_i l4, mm_i (l5 + 1), mm_i l6, l7] [] M Q) ∧ (¬ ((M.1 75 (l4 - 1)) + (M.1 76 (l4 - 1))) ≤ l6 → 0 ≤ l6 ∧ (l6 < 3618 ∧ (0 ≤ l5 ∧ (l5 < 3618 ∧ (((M.1 79 l5) ≤ (M.1 78 l6) → en_R sc 144 116 [mm_r 72, mm_i l1, mm_i l2, mm_i l3, mm_i l4, mm_i l5, mm_i (l6 + 1), l7] [] M Q) ∧ (¬ (M.1 79 l5) ≤ (M.1 78 l6) → 0 ≤ l5 ∧ (l5 < 3618 ∧ (0 ≤ l6 ∧ (l6 < 3618 ∧ (((M.1 79 l6) ≤ (M.1 78 l5) → en_R sc 144 116 [mm_r 72, mm_i l1, mm_i l2, mm_i l3, mm_i l4, mm_i l5, mm_i (l6 + 1), l7] [] M Q) ∧ (¬ (M.1 79 l6) ≤ (M.1 78 l5) → 0 ≤ (l6 - l2) ∧ ((l6 - l2) < 402 ∧ (0 ≤ (l5 - l2) ∧ ((l5 - l2) < 402 ∧ (((M.1 96 (l6 - l2)) = (M.1 96 (l5 - l2)) → en_R sc 144 116 [mm_r 72, mm_i l1, mm_i l2, mm_i l3, mm_i l4, mm_i l5, mm_i (l6 + 1), l7] [] M Q) ∧ (¬ (M.1 96 (l6 - l2)) = (M.1 96 (l5 - l2)) → 0 ≤ (l6 - l2) ∧ ((l6 - l2) < 402 ∧ (0 ≤ (l5 - l2) ∧ ((l5 - l2) < 402 ∧ (((M.1 96 (l5 - l2)) ≤ (M.1 96 (l6 - l2)) → 0 ≤ (l5 - l2) ∧ ((l5 - l2) < 402 ∧ (en_R sc 144 237 [mm_r 72, mm_i l1, mm_i l2, mm_i l3, mm_i l4, mm_i l5, mm_i l6, l7] [mm_i (M.1 96 (l5 - l2))] M Q))) ∧ (¬ (M.1 96 (l5 - l2)) ≤ (M.1 96 (l6 - l2)) → 0 ≤ (l6 - l2) ∧ ((l6 - l2) < 402 ∧ (en_R sc 144 237 [mm_r 72, mm_i l1, mm_i l2, mm_i l3, mm_i l4, mm_i l5, mm_i l6, l7] [mm_i (M.1 96 (l6 - l2))] M Q))))))))))))))))))))))))))))) : en_R sc 144 116 [mm_r 72, mm_i l1, mm_i l2, mm_i l3, mm_i l4, mm_i l5, mm_i l6, l7] [] M Q := by
  obtain ⟨g1, h⟩ := h
  obtain ⟨g2, h⟩ := h
  obtain ⟨g3, h⟩ := h
  obtain ⟨g4, h⟩ := h
  obtain ⟨g5, h⟩ := h
  refine en_iload mc144_116 rfl ?_
  refine en_aload_n mc144_118 rfl ?_
  refine en_getR (b := 75) mv144 mc144_119 (lk_f7_16) (⟨rfl, by decide⟩ : mt_kd[72]? = some (.inl 7) ∧ 72 < 99) rfl (mk_fc ho (by decide +kernel)) ?_
  refine en_iload mc144_122 rfl ?_
  refine en_iconst mc144_124 ?_
  refine en_isub mc144_125 ?_
  refine en_iald mc144_126 (⟨rfl, by decide, by decide⟩ : mt_kd[75]? = some (.inr (.int, 918)) ∧ 75 < 99 ∧ 918 < 2147483648) g1 g2 ?_
  refine en_aload_n mc144_127 rfl ?_
  refine en_getR (b := 76) mv144 mc144_128 (lk_f7_19) (⟨rfl, by decide⟩ : mt_kd[72]? = some (.inl 7) ∧ 72 < 99) rfl (mk_fc ho (by decide +kernel)) ?_
  refine en_iload mc144_131 rfl ?_
  refine en_iconst mc144_133 ?_
  refine en_isub mc144_134 ?_
  refine en_iald mc144_135 (⟨rfl, by decide, by decide⟩ : mt_kd[76]? = some (.inr (.int, 918)) ∧ 76 < 99 ∧ 918 < 2147483648) g3 g4 ?_
  refine en_iadd mc144_136 ?_
  refine en_icmp_ge 269 mc144_137 (by decide) hg_l6 g5 (fun q => ?_) (fun q => ?_)
  · replace h := h.1 q
    refine en_iinc (ls' := [mm_r 72, mm_i l1, mm_i l2, mm_i l3, mm_i l4, mm_i (l5 + 1), mm_i l6, l7]) mc144_269 rfl rfl ?_
    refine en_goto 66 mc144_272 (by decide) ?_
    exact h
  · replace h := h.2 q
    obtain ⟨g6, h⟩ := h
    obtain ⟨g7, h⟩ := h
    obtain ⟨g8, h⟩ := h
    obtain ⟨g9, h⟩ := h
    refine en_aload_n mc144_140 rfl ?_
    refine en_getR (b := 78) mv144 mc144_141 (lk_f7_25) (⟨rfl, by decide⟩ : mt_kd[72]? = some (.inl 7) ∧ 72 < 99) rfl (mk_fc ho (by decide +kernel)) ?_
    refine en_iload mc144_144 rfl ?_
    refine en_iald mc144_146 (⟨rfl, by decide, by decide⟩ : mt_kd[78]? = some (.inr (.int, 3618)) ∧ 78 < 99 ∧ 3618 < 2147483648) g6 g7 ?_
    refine en_aload_n mc144_147 rfl ?_
    refine en_getR (b := 79) mv144 mc144_148 (lk_f7_28) (⟨rfl, by decide⟩ : mt_kd[72]? = some (.inl 7) ∧ 72 < 99) rfl (mk_fc ho (by decide +kernel)) ?_
    refine en_iload mc144_151 rfl ?_
    refine en_iald mc144_153 (⟨rfl, by decide, by decide⟩ : mt_kd[79]? = some (.inr (.int, 3618)) ∧ 79 < 99 ∧ 3618 < 2147483648) g8 g9 ?_
    refine en_icmp_ge 263 mc144_154 (by decide) (ho.2.1 78 l6 (by unfold mr_lg; omega)) (ho.2.1 79 l5 (by unfold mr_lg; omega)) (fun q => ?_) (fun q => ?_)
    · replace h := h.1 q
      refine en_iinc (ls' := [mm_r 72, mm_i l1, mm_i l2, mm_i l3, mm_i l4, mm_i l5, mm_i (l6 + 1), l7]) mc144_263 rfl rfl ?_
      refine en_goto 116 mc144_266 (by decide) ?_
      exact h
    · replace h := h.2 q
      obtain ⟨g10, h⟩ := h
      obtain ⟨g11, h⟩ := h
      obtain ⟨g12, h⟩ := h
      obtain ⟨g13, h⟩ := h
      refine en_aload_n mc144_157 rfl ?_
      refine en_getR (b := 78) mv144 mc144_158 (lk_f7_25) (⟨rfl, by decide⟩ : mt_kd[72]? = some (.inl 7) ∧ 72 < 99) rfl (mk_fc ho (by decide +kernel)) ?_
      refine en_iload mc144_161 rfl ?_
      refine en_iald mc144_163 (⟨rfl, by decide, by decide⟩ : mt_kd[78]? = some (.inr (.int, 3618)) ∧ 78 < 99 ∧ 3618 < 2147483648) g10 g11 ?_
      refine en_aload_n mc144_164 rfl ?_
      refine en_getR (b := 79) mv144 mc144_165 (lk_f7_28) (⟨rfl, by decide⟩ : mt_kd[72]? = some (.inl 7) ∧ 72 < 99) rfl (mk_fc ho (by decide +kernel)) ?_
      refine en_iload mc144_168 rfl ?_
      refine en_iald mc144_170 (⟨rfl, by decide, by decide⟩ : mt_kd[79]? = some (.inr (.int, 3618)) ∧ 79 < 99 ∧ 3618 < 2147483648) g12 g13 ?_
      refine en_icmp_ge 263 mc144_171 (by decide) (ho.2.1 78 l5 (by unfold mr_lg; omega)) (ho.2.1 79 l6 (by unfold mr_lg; omega)) (fun q => ?_) (fun q => ?_)
      · replace h := h.1 q
        refine en_iinc (ls' := [mm_r 72, mm_i l1, mm_i l2, mm_i l3, mm_i l4, mm_i l5, mm_i (l6 + 1), l7]) mc144_263 rfl rfl ?_
        refine en_goto 116 mc144_266 (by decide) ?_
        exact h
      · replace h := h.2 q
        obtain ⟨g14, h⟩ := h
        obtain ⟨g15, h⟩ := h
        obtain ⟨g16, h⟩ := h
        obtain ⟨g17, h⟩ := h
        refine en_aload_n mc144_174 rfl ?_
        refine en_getR (b := 96) mv144 mc144_175 (lk_f7_83) (⟨rfl, by decide⟩ : mt_kd[72]? = some (.inl 7) ∧ 72 < 99) rfl (mk_fc ho (by decide +kernel)) ?_
        refine en_iload mc144_178 rfl ?_
        refine en_iload_n mc144_180 rfl ?_
        refine en_isub mc144_181 ?_
        refine en_iald mc144_182 (⟨rfl, by decide, by decide⟩ : mt_kd[96]? = some (.inr (.int, 402)) ∧ 96 < 99 ∧ 402 < 2147483648) g14 g15 ?_
        refine en_aload_n mc144_183 rfl ?_
        refine en_getR (b := 96) mv144 mc144_184 (lk_f7_83) (⟨rfl, by decide⟩ : mt_kd[72]? = some (.inl 7) ∧ 72 < 99) rfl (mk_fc ho (by decide +kernel)) ?_
        refine en_iload mc144_187 rfl ?_
        refine en_iload_n mc144_189 rfl ?_
        refine en_isub mc144_190 ?_
        refine en_iald mc144_191 (⟨rfl, by decide, by decide⟩ : mt_kd[96]? = some (.inr (.int, 402)) ∧ 96 < 99 ∧ 402 < 2147483648) g16 g17 ?_
        refine en_icmp_eq 263 mc144_192 (by decide) (ho.2.1 96 (l6 - l2) (by unfold mr_lg; omega)) (ho.2.1 96 (l5 - l2) (by unfold mr_lg; omega)) (fun q => ?_) (fun q => ?_)
        · replace h := h.1 q
          refine en_iinc (ls' := [mm_r 72, mm_i l1, mm_i l2, mm_i l3, mm_i l4, mm_i l5, mm_i (l6 + 1), l7]) mc144_263 rfl rfl ?_
          refine en_goto 116 mc144_266 (by decide) ?_
          exact h
        · replace h := h.2 q
          obtain ⟨g18, h⟩ := h
          obtain ⟨g19, h⟩ := h
          obtain ⟨g20, h⟩ := h
          obtain ⟨g21, h⟩ := h
          refine en_aload_n mc144_195 rfl ?_
          refine en_getR (b := 96) mv144 mc144_196 (lk_f7_83) (⟨rfl, by decide⟩ : mt_kd[72]? = some (.inl 7) ∧ 72 < 99) rfl (mk_fc ho (by decide +kernel)) ?_
          refine en_iload mc144_199 rfl ?_
          refine en_iload_n mc144_201 rfl ?_
          refine en_isub mc144_202 ?_
          refine en_iald mc144_203 (⟨rfl, by decide, by decide⟩ : mt_kd[96]? = some (.inr (.int, 402)) ∧ 96 < 99 ∧ 402 < 2147483648) g18 g19 ?_
          refine en_aload_n mc144_204 rfl ?_
          refine en_getR (b := 96) mv144 mc144_205 (lk_f7_83) (⟨rfl, by decide⟩ : mt_kd[72]? = some (.inl 7) ∧ 72 < 99) rfl (mk_fc ho (by decide +kernel)) ?_
          refine en_iload mc144_208 rfl ?_
          refine en_iload_n mc144_210 rfl ?_
          refine en_isub mc144_211 ?_
          refine en_iald mc144_212 (⟨rfl, by decide, by decide⟩ : mt_kd[96]? = some (.inr (.int, 402)) ∧ 96 < 99 ∧ 402 < 2147483648) g20 g21 ?_
          refine en_icmp_ge 228 mc144_213 (by decide) (ho.2.1 96 (l6 - l2) (by unfold mr_lg; omega)) (ho.2.1 96 (l5 - l2) (by unfold mr_lg; omega)) (fun q => ?_) (fun q => ?_)
          · replace h := h.1 q
            obtain ⟨g22, h⟩ := h
            obtain ⟨g23, h⟩ := h
            refine en_aload_n mc144_228 rfl ?_
            refine en_getR (b := 96) mv144 mc144_229 (lk_f7_83) (⟨rfl, by decide⟩ : mt_kd[72]? = some (.inl 7) ∧ 72 < 99) rfl (mk_fc ho (by decide +kernel)) ?_
            refine en_iload mc144_232 rfl ?_
            refine en_iload_n mc144_234 rfl ?_
            refine en_isub mc144_235 ?_
            refine en_iald mc144_236 (⟨rfl, by decide, by decide⟩ : mt_kd[96]? = some (.inr (.int, 402)) ∧ 96 < 99 ∧ 402 < 2147483648) g22 g23 ?_
            exact h
          · replace h := h.2 q
            obtain ⟨g24, h⟩ := h
            obtain ⟨g25, h⟩ := h
            refine en_aload_n mc144_216 rfl ?_
            refine en_getR (b := 96) mv144 mc144_217 (lk_f7_83) (⟨rfl, by decide⟩ : mt_kd[72]? = some (.inl 7) ∧ 72 < 99) rfl (mk_fc ho (by decide +kernel)) ?_
            refine en_iload mc144_220 rfl ?_
            refine en_iload_n mc144_222 rfl ?_
            refine en_isub mc144_223 ?_
            refine en_iald mc144_224 (⟨rfl, by decide, by decide⟩ : mt_kd[96]? = some (.inr (.int, 402)) ∧ 96 < 99 ∧ 402 < 2147483648) g24 g25 ?_
            refine en_goto 237 mc144_225 (by decide) ?_
            exact h
theorem vc144_237 {sc : Nat × (Int → Int)} {Q : mm_R → mm_M → Prop} {M : mm_M} {l1 : Int} {l2 : Int} {l3 : Int} {l4 : Int} {l5 : Int} {l6 : Int} {l7 : mm_V} {s0 : Int} (ho : mr_ok M) (hg_s0 : mr_rg s0)
    (h : 0 ≤ (l6 - l2) ∧ ((l6 - l2) < 402 ∧ (0 ≤ (l5 - l2) ∧ ((l5 - l2) < 402 ∧ (en_R sc 144 116 [mm_r 72, mm_i l1, mm_i l2, mm_i 1, mm_i l4, mm_i l5, mm_i (l6 + 1), mm_i s0] [] (mm_putN (mm_putN M 96 (l6 - l2) s0) 96 (l5 - l2) s0) Q))))) : en_R sc 144 237 [mm_r 72, mm_i l1, mm_i l2, mm_i l3, mm_i l4, mm_i l5, mm_i l6, l7] [mm_i s0] M Q := by
  obtain ⟨g1, h⟩ := h
  obtain ⟨g2, h⟩ := h
  obtain ⟨g3, h⟩ := h
  obtain ⟨g4, h⟩ := h
  refine en_istore (ls' := [mm_r 72, mm_i l1, mm_i l2, mm_i l3, mm_i l4, mm_i l5, mm_i l6, mm_i s0]) mc144_237 (Nat.le_of_ble_eq_true rfl) rfl ?_
  refine en_aload_n mc144_239 rfl ?_
  refine en_getR (b := 96) mv144 mc144_240 (lk_f7_83) (⟨rfl, by decide⟩ : mt_kd[72]? = some (.inl 7) ∧ 72 < 99) rfl (mk_fc ho (by decide +kernel)) ?_
  refine en_iload mc144_243 rfl ?_
  refine en_iload_n mc144_245 rfl ?_
  refine en_isub mc144_246 ?_
  refine en_iload mc144_247 rfl ?_
  refine en_iast mc144_249 (⟨rfl, by decide, by decide⟩ : mt_kd[96]? = some (.inr (.int, 402)) ∧ 96 < 99 ∧ 402 < 2147483648) g1 g2 hg_s0 ?_
  refine en_aload_n mc144_250 rfl ?_
  refine en_getR (b := 96) mv144 mc144_251 (lk_f7_83) (⟨rfl, by decide⟩ : mt_kd[72]? = some (.inl 7) ∧ 72 < 99) rfl (mk_fc (mr_ok_putI (a := 96) (k := (l6 - l2)) ho hg_s0) (by decide +kernel)) ?_
  refine en_iload mc144_254 rfl ?_
  refine en_iload_n mc144_256 rfl ?_
  refine en_isub mc144_257 ?_
  refine en_iload mc144_258 rfl ?_
  refine en_iast mc144_260 (⟨rfl, by decide, by decide⟩ : mt_kd[96]? = some (.inr (.int, 402)) ∧ 96 < 99 ∧ 402 < 2147483648) g3 g4 hg_s0 ?_
  refine en_iconst mc144_261 ?_
  refine en_istore_n (ls' := [mm_r 72, mm_i l1, mm_i l2, mm_i 1, mm_i l4, mm_i l5, mm_i l6, mm_i s0]) mc144_262 (Nat.le_of_ble_eq_true rfl) rfl ?_
  refine en_iinc (ls' := [mm_r 72, mm_i l1, mm_i l2, mm_i 1, mm_i l4, mm_i l5, mm_i (l6 + 1), mm_i s0]) mc144_263 rfl rfl ?_
  refine en_goto 116 mc144_266 (by decide) ?_
  exact h
theorem vc144_290 {sc : Nat × (Int → Int)} {Q : mm_R → mm_M → Prop} {M : mm_M} {l1 : Int} {l2 : Int} {l3 : Int} {l4 : Int} {l5 : Int} {l6 : mm_V} {l7 : mm_V} (ho : mr_ok M) (hg_l5 : mr_rg l5) (hg_l4 : mr_rg l4)
    (h : 0 ≤ l1 ∧ (l1 < 9 ∧ (((M.1 80 l1) ≤ l5 → Q (.inl (some (mm_i l4))) M) ∧ (¬ (M.1 80 l1) ≤ l5 → 0 ≤ l5 ∧ (l5 < 402 ∧ (((M.1 96 l5) ≠ l5 → 0 ≤ l5 ∧ (l5 < 402 ∧ (0 ≤ (M.1 96 l5) ∧ ((M.1 96 l5) < 402 ∧ (0 ≤ l5 ∧ (l5 < 402 ∧ (en_R sc 144 290 [mm_r 72, mm_i l1, mm_i l2, mm_i l3, mm_i l4, mm_i (l5 + 1), l6, l7] [] (mm_putN M 96 l5 (M.1 96 (M.1 96 l5))) Q))))))) ∧ (¬ ((M.1 96 l5) ≠ l5) → 0 ≤ l5 ∧ (l5 < 402 ∧ (en_R sc 144 290 [mm_r 72, mm_i l1, mm_i l2, mm_i l3, mm_i (l4 + 1), mm_i (l5 + 1), l6, l7] [] (mm_putN M 96 l5 l4) Q))))))))) : en_R sc 144 290 [mm_r 72, mm_i l1, mm_i l2, mm_i l3, mm_i l4, mm_i l5, l6, l7] [] M Q := by
  obtain ⟨g1, h⟩ := h
  obtain ⟨g2, h⟩ := h
  refine en_iload mc144_290 rfl ?_
  refine en_aload_n mc144_292 rfl ?_
  refine en_getR (b := 80) mv144 mc144_293 (lk_f7_31) (⟨rfl, by decide⟩ : mt_kd[72]? = some (.inl 7) ∧ 72 < 99) rfl (mk_fc ho (by decide +kernel)) ?_
  refine en_iload_n mc144_296 rfl ?_
  refine en_iald mc144_297 (⟨rfl, by decide, by decide⟩ : mt_kd[80]? = some (.inr (.int, 9)) ∧ 80 < 99 ∧ 9 < 2147483648) g1 g2 ?_
  refine en_icmp_ge 353 mc144_298 (by decide) hg_l5 (ho.2.1 80 l1 (by unfold mr_lg; omega)) (fun q => ?_) (fun q => ?_)
  · replace h := h.1 q
    refine en_iload mc144_353 rfl ?_
    exact en_iret mv144 mc144_355 rfl h
  · replace h := h.2 q
    obtain ⟨g3, h⟩ := h
    obtain ⟨g4, h⟩ := h
    refine en_aload_n mc144_301 rfl ?_
    refine en_getR (b := 96) mv144 mc144_302 (lk_f7_83) (⟨rfl, by decide⟩ : mt_kd[72]? = some (.inl 7) ∧ 72 < 99) rfl (mk_fc ho (by decide +kernel)) ?_
    refine en_iload mc144_305 rfl ?_
    refine en_iald mc144_307 (⟨rfl, by decide, by decide⟩ : mt_kd[96]? = some (.inr (.int, 402)) ∧ 96 < 99 ∧ 402 < 2147483648) g3 g4 ?_
    refine en_iload mc144_308 rfl ?_
    refine en_icmp_ne 328 mc144_310 (by decide) (ho.2.1 96 l5 (by unfold mr_lg; omega)) hg_l5 (fun q => ?_) (fun q => ?_)
    · replace h := h.1 q
      obtain ⟨g5, h⟩ := h
      obtain ⟨g6, h⟩ := h
      obtain ⟨g7, h⟩ := h
      obtain ⟨g8, h⟩ := h
      obtain ⟨g9, h⟩ := h
      obtain ⟨g10, h⟩ := h
      refine en_aload_n mc144_328 rfl ?_
      refine en_getR (b := 96) mv144 mc144_329 (lk_f7_83) (⟨rfl, by decide⟩ : mt_kd[72]? = some (.inl 7) ∧ 72 < 99) rfl (mk_fc ho (by decide +kernel)) ?_
      refine en_iload mc144_332 rfl ?_
      refine en_aload_n mc144_334 rfl ?_
      refine en_getR (b := 96) mv144 mc144_335 (lk_f7_83) (⟨rfl, by decide⟩ : mt_kd[72]? = some (.inl 7) ∧ 72 < 99) rfl (mk_fc ho (by decide +kernel)) ?_
      refine en_aload_n mc144_338 rfl ?_
      refine en_getR (b := 96) mv144 mc144_339 (lk_f7_83) (⟨rfl, by decide⟩ : mt_kd[72]? = some (.inl 7) ∧ 72 < 99) rfl (mk_fc ho (by decide +kernel)) ?_
      refine en_iload mc144_342 rfl ?_
      refine en_iald mc144_344 (⟨rfl, by decide, by decide⟩ : mt_kd[96]? = some (.inr (.int, 402)) ∧ 96 < 99 ∧ 402 < 2147483648) g5 g6 ?_
      refine en_iald mc144_345 (⟨rfl, by decide, by decide⟩ : mt_kd[96]? = some (.inr (.int, 402)) ∧ 96 < 99 ∧ 402 < 2147483648) g7 g8 ?_
      refine en_iast mc144_346 (⟨rfl, by decide, by decide⟩ : mt_kd[96]? = some (.inr (.int, 402)) ∧ 96 < 99 ∧ 402 < 2147483648) g9 g10 (ho.2.1 96 (M.1 96 l5) (by unfold mr_lg; omega)) ?_
      refine en_iinc (ls' := [mm_r 72, mm_i l1, mm_i l2, mm_i l3, mm_i l4, mm_i (l5 + 1), l6, l7]) mc144_347 rfl rfl ?_
      refine en_goto 290 mc144_350 (by decide) ?_
      exact h
    · replace h := h.2 q
      obtain ⟨g11, h⟩ := h
      obtain ⟨g12, h⟩ := h
      refine en_aload_n mc144_313 rfl ?_
      refine en_getR (b := 96) mv144 mc144_314 (lk_f7_83) (⟨rfl, by decide⟩ : mt_kd[72]? = some (.inl 7) ∧ 72 < 99) rfl (mk_fc ho (by decide +kernel)) ?_
      refine en_iload mc144_317 rfl ?_
      refine en_iload mc144_319 rfl ?_
      refine en_iast mc144_321 (⟨rfl, by decide, by decide⟩ : mt_kd[96]? = some (.inr (.int, 402)) ∧ 96 < 99 ∧ 402 < 2147483648) g11 g12 hg_l4 ?_
      refine en_iinc (ls' := [mm_r 72, mm_i l1, mm_i l2, mm_i l3, mm_i (l4 + 1), mm_i l5, l6, l7]) mc144_322 rfl rfl ?_
      refine en_goto 347 mc144_325 (by decide) ?_
      refine en_iinc (ls' := [mm_r 72, mm_i l1, mm_i l2, mm_i l3, mm_i (l4 + 1), mm_i (l5 + 1), l6, l7]) mc144_347 rfl rfl ?_
      refine en_goto 290 mc144_350 (by decide) ?_
      exact h
/-! 145: CellAreasModel.makeGrid(I)V -/
theorem mc145_0 : mr_C 145 0 = some (.aload_n 0, 1) := by decide +kernel
theorem mc145_1 : mr_C 145 1 = some (.invokevirtual 139, 3) := by decide +kernel
theorem mc145_4 : mr_C 145 4 = some (.aload_n 0, 1) := by decide +kernel
theorem mc145_5 : mr_C 145 5 = some (.iload_n 1, 1) := by decide +kernel
theorem mc145_6 : mr_C 145 6 = some (.invokevirtual 174, 3) := by decide +kernel
theorem mc145_9 : mr_C 145 9 = some (.iconst 0, 1) := by decide +kernel
theorem mc145_10 : mr_C 145 10 = some (.istore_n 2, 1) := by decide +kernel
theorem mc145_11 : mr_C 145 11 = some (.iload_n 2, 1) := by decide +kernel
theorem mc145_12 : mr_C 145 12 = some (.aload_n 0, 1) := by decide +kernel
theorem mc145_13 : mr_C 145 13 = some (.getfield 97, 3) := by decide +kernel
theorem mc145_16 : mr_C 145 16 = some (.if_icmp .ge (21), 3) := by decide +kernel
theorem mc145_19 : mr_C 145 19 = some (.aload_n 0, 1) := by decide +kernel
theorem mc145_20 : mr_C 145 20 = some (.getfield 55, 3) := by decide +kernel
theorem mc145_23 : mr_C 145 23 = some (.iload_n 2, 1) := by decide +kernel
theorem mc145_24 : mr_C 145 24 = some (.aload_n 0, 1) := by decide +kernel
theorem mc145_25 : mr_C 145 25 = some (.getfield 52, 3) := by decide +kernel
theorem mc145_28 : mr_C 145 28 = some (.iload_n 2, 1) := by decide +kernel
theorem mc145_29 : mr_C 145 29 = some (.iaload, 1) := by decide +kernel
theorem mc145_30 : mr_C 145 30 = some (.iastore, 1) := by decide +kernel
theorem mc145_31 : mr_C 145 31 = some (.iinc 2 (1), 3) := by decide +kernel
theorem mc145_34 : mr_C 145 34 = some (.goto (-23), 3) := by decide +kernel
theorem mc145_37 : mr_C 145 37 = some (.aload_n 0, 1) := by decide +kernel
theorem mc145_38 : mr_C 145 38 = some (.aload_n 0, 1) := by decide +kernel
theorem mc145_39 : mr_C 145 39 = some (.getfield 97, 3) := by decide +kernel
theorem mc145_42 : mr_C 145 42 = some (.ifCond .le (12), 3) := by decide +kernel
theorem mc145_45 : mr_C 145 45 = some (.aload_n 0, 1) := by decide +kernel
theorem mc145_46 : mr_C 145 46 = some (.getfield 97, 3) := by decide +kernel
theorem mc145_49 : mr_C 145 49 = some (.iconst 1, 1) := by decide +kernel
theorem mc145_50 : mr_C 145 50 = some (.isub, 1) := by decide +kernel
theorem mc145_51 : mr_C 145 51 = some (.goto 4, 3) := by decide +kernel
theorem mc145_54 : mr_C 145 54 = some (.iconst 0, 1) := by decide +kernel
theorem mc145_55 : mr_C 145 55 = some (.putfield 199, 3) := by decide +kernel
theorem mc145_58 : mr_C 145 58 = some (.aload_n 0, 1) := by decide +kernel
theorem mc145_59 : mr_C 145 59 = some (.iconst 0, 1) := by decide +kernel
theorem mc145_60 : mr_C 145 60 = some (.putfield 97, 3) := by decide +kernel
theorem mc145_63 : mr_C 145 63 = some (.aload_n 0, 1) := by decide +kernel
theorem mc145_64 : mr_C 145 64 = some (.iload_n 1, 1) := by decide +kernel
theorem mc145_65 : mr_C 145 65 = some (.invokevirtual 155, 3) := by decide +kernel
theorem mc145_68 : mr_C 145 68 = some (.iconst 0, 1) := by decide +kernel
theorem mc145_69 : mr_C 145 69 = some (.istore_n 2, 1) := by decide +kernel
theorem mc145_70 : mr_C 145 70 = some (.iload_n 2, 1) := by decide +kernel
theorem mc145_71 : mr_C 145 71 = some (.aload_n 0, 1) := by decide +kernel
theorem mc145_72 : mr_C 145 72 = some (.getfield 97, 3) := by decide +kernel
theorem mc145_75 : mr_C 145 75 = some (.if_icmp .ge (21), 3) := by decide +kernel
theorem mc145_78 : mr_C 145 78 = some (.aload_n 0, 1) := by decide +kernel
theorem mc145_79 : mr_C 145 79 = some (.getfield 58, 3) := by decide +kernel
theorem mc145_82 : mr_C 145 82 = some (.iload_n 2, 1) := by decide +kernel
theorem mc145_83 : mr_C 145 83 = some (.aload_n 0, 1) := by decide +kernel
theorem mc145_84 : mr_C 145 84 = some (.getfield 52, 3) := by decide +kernel
theorem mc145_87 : mr_C 145 87 = some (.iload_n 2, 1) := by decide +kernel
theorem mc145_88 : mr_C 145 88 = some (.iaload, 1) := by decide +kernel
theorem mc145_89 : mr_C 145 89 = some (.iastore, 1) := by decide +kernel
theorem mc145_90 : mr_C 145 90 = some (.iinc 2 (1), 3) := by decide +kernel
theorem mc145_93 : mr_C 145 93 = some (.goto (-23), 3) := by decide +kernel
theorem mc145_96 : mr_C 145 96 = some (.aload_n 0, 1) := by decide +kernel
theorem mc145_97 : mr_C 145 97 = some (.aload_n 0, 1) := by decide +kernel
theorem mc145_98 : mr_C 145 98 = some (.getfield 97, 3) := by decide +kernel
theorem mc145_101 : mr_C 145 101 = some (.ifCond .le (12), 3) := by decide +kernel
theorem mc145_104 : mr_C 145 104 = some (.aload_n 0, 1) := by decide +kernel
theorem mc145_105 : mr_C 145 105 = some (.getfield 97, 3) := by decide +kernel
theorem mc145_108 : mr_C 145 108 = some (.iconst 1, 1) := by decide +kernel
theorem mc145_109 : mr_C 145 109 = some (.isub, 1) := by decide +kernel
theorem mc145_110 : mr_C 145 110 = some (.goto 4, 3) := by decide +kernel
theorem mc145_113 : mr_C 145 113 = some (.iconst 0, 1) := by decide +kernel
theorem mc145_114 : mr_C 145 114 = some (.putfield 202, 3) := by decide +kernel
theorem mc145_117 : mr_C 145 117 = some (.iconst 0, 1) := by decide +kernel
theorem mc145_118 : mr_C 145 118 = some (.istore_n 2, 1) := by decide +kernel
theorem mc145_119 : mr_C 145 119 = some (.iload_n 2, 1) := by decide +kernel
theorem mc145_120 : mr_C 145 120 = some (.aload_n 0, 1) := by decide +kernel
theorem mc145_121 : mr_C 145 121 = some (.getfield 202, 3) := by decide +kernel
theorem mc145_124 : mr_C 145 124 = some (.if_icmp .ge (77), 3) := by decide +kernel
theorem mc145_127 : mr_C 145 127 = some (.aload_n 0, 1) := by decide +kernel
theorem mc145_128 : mr_C 145 128 = some (.iload_n 1, 1) := by decide +kernel
theorem mc145_129 : mr_C 145 129 = some (.aload_n 0, 1) := by decide +kernel
theorem mc145_130 : mr_C 145 130 = some (.getfield 58, 3) := by decide +kernel
theorem mc145_133 : mr_C 145 133 = some (.iload_n 2, 1) := by decide +kernel
theorem mc145_134 : mr_C 145 134 = some (.iaload, 1) := by decide +kernel
theorem mc145_135 : mr_C 145 135 = some (.invokevirtual 111, 3) := by decide +kernel
theorem mc145_138 : mr_C 145 138 = some (.istore_n 3, 1) := by decide +kernel
theorem mc145_139 : mr_C 145 139 = some (.iconst 0, 1) := by decide +kernel
theorem mc145_140 : mr_C 145 140 = some (.istore 4, 2) := by decide +kernel
theorem mc145_142 : mr_C 145 142 = some (.iload 4, 2) := by decide +kernel
theorem mc145_144 : mr_C 145 144 = some (.aload_n 0, 1) := by decide +kernel
theorem mc145_145 : mr_C 145 145 = some (.getfield 199, 3) := by decide +kernel
theorem mc145_148 : mr_C 145 148 = some (.if_icmp .ge (47), 3) := by decide +kernel
theorem mc145_151 : mr_C 145 151 = some (.aload_n 0, 1) := by decide +kernel
theorem mc145_152 : mr_C 145 152 = some (.getfield 62, 3) := by decide +kernel
theorem mc145_155 : mr_C 145 155 = some (.iload_n 2, 1) := by decide +kernel
theorem mc145_156 : mr_C 145 156 = some (.aload_n 0, 1) := by decide +kernel
theorem mc145_157 : mr_C 145 157 = some (.getfield 199, 3) := by decide +kernel
theorem mc145_160 : mr_C 145 160 = some (.imul, 1) := by decide +kernel
theorem mc145_161 : mr_C 145 161 = some (.iload 4, 2) := by decide +kernel
theorem mc145_163 : mr_C 145 163 = some (.iadd, 1) := by decide +kernel
theorem mc145_164 : mr_C 145 164 = some (.iload_n 3, 1) := by decide +kernel
theorem mc145_165 : mr_C 145 165 = some (.ifCond .lt (22), 3) := by decide +kernel
theorem mc145_168 : mr_C 145 168 = some (.aload_n 0, 1) := by decide +kernel
theorem mc145_169 : mr_C 145 169 = some (.iload_n 3, 1) := by decide +kernel
theorem mc145_170 : mr_C 145 170 = some (.aload_n 0, 1) := by decide +kernel
theorem mc145_171 : mr_C 145 171 = some (.getfield 55, 3) := by decide +kernel
theorem mc145_174 : mr_C 145 174 = some (.iload 4, 2) := by decide +kernel
theorem mc145_176 : mr_C 145 176 = some (.iaload, 1) := by decide +kernel
theorem mc145_177 : mr_C 145 177 = some (.invokevirtual 177, 3) := by decide +kernel
theorem mc145_180 : mr_C 145 180 = some (.ifCond .eq (7), 3) := by decide +kernel
theorem mc145_183 : mr_C 145 183 = some (.iconst 1, 1) := by decide +kernel
theorem mc145_184 : mr_C 145 184 = some (.goto 4, 3) := by decide +kernel
theorem mc145_187 : mr_C 145 187 = some (.iconst 0, 1) := by decide +kernel
theorem mc145_188 : mr_C 145 188 = some (.bastore, 1) := by decide +kernel
theorem mc145_189 : mr_C 145 189 = some (.iinc 4 (1), 3) := by decide +kernel
theorem mc145_192 : mr_C 145 192 = some (.goto (-50), 3) := by decide +kernel
theorem mc145_195 : mr_C 145 195 = some (.iinc 2 (1), 3) := by decide +kernel
theorem mc145_198 : mr_C 145 198 = some (.goto (-79), 3) := by decide +kernel
theorem mc145_201 : mr_C 145 201 = some (.return_, 1) := by decide +kernel
theorem vc145_0 {sc : Nat × (Int → Int)} {Q : mm_R → mm_M → Prop} {M : mm_M} {l1 : Int} (ho : mr_ok M)
    (h : en_CV sc 35 [mm_r 72] M (fun M2 => mr_ok M2 → en_CV sc 87 [mm_r 72, mm_i l1, mm_u] M2 (fun M5 => mr_ok M5 → en_R sc 145 11 [mm_r 72, mm_i l1, mm_i 0, mm_u, mm_u] [] M5 Q) (fun e M9 => Q (.inr e) M9)) (fun e M9 => Q (.inr e) M9)) : en_R sc 145 0 [mm_r 72, mm_i l1, mm_u, mm_u, mm_u] [] M Q := by
  refine en_aload_n mc145_0 rfl ?_
  refine en_callV (lz := [mm_r 72]) mv145 mc145_1 rfl rfl (lk_m7_139) mv35 rfl (by decide) rfl (mk_cokV rfl (⟨rfl, by decide⟩ : mt_kd[72]? = some (.inl 7) ∧ 72 < 99)) rfl (mk_nh rfl _) ho ?_
  refine en_CV_mono h (fun M2 h => ?_) (fun _ _ h => h)
  intro ho3
  replace h := h ho3
  refine en_aload_n mc145_4 rfl ?_
  refine en_iload_n mc145_5 rfl ?_
  refine en_callV (lz := [mm_r 72, mm_i l1, mm_u]) mv145 mc145_6 rfl rfl (lk_m7_174) mv87 rfl (by decide) rfl (mk_cokV rfl (⟨rfl, by decide⟩ : mt_kd[72]? = some (.inl 7) ∧ 72 < 99)) rfl (mk_nh rfl _) ho3 ?_
  refine en_CV_mono h (fun M5 h => ?_) (fun _ _ h => h)
  intro ho6
  replace h := h ho6
  refine en_iconst mc145_9 ?_
  refine en_istore_n (ls' := [mm_r 72, mm_i l1, mm_i 0, mm_u, mm_u]) mc145_10 (Nat.le_of_ble_eq_true rfl) rfl ?_
  exact h
theorem vc145_11 {sc : Nat × (Int → Int)} {Q : mm_R → mm_M → Prop} {M : mm_M} {l1 : Int} {l2 : Int} (ho : mr_ok M) (hg_l2 : mr_rg l2)
    (h : ((M.1 72 19) ≤ l2 → ((M.1 72 19) ≤ 0 → en_R sc 145 55 [mm_r 72, mm_i l1, mm_i l2, mm_u, mm_u] [mm_i 0, mm_r 72] M Q) ∧ (¬ (M.1 72 19) ≤ 0 → en_R sc 145 55 [mm_r 72, mm_i l1, mm_i l2, mm_u, mm_u] [mm_i ((M.1 72 19) - 1), mm_r 72] M Q)) ∧ (¬ (M.1 72 19) ≤ l2 → 0 ≤ l2 ∧ (l2 < 1700 ∧ (0 ≤ l2 ∧ (l2 < 801 ∧ (en_R sc 145 11 [mm_r 72, mm_i l1, mm_i (l2 + 1), mm_u, mm_u] [] (mm_putN M 88 l2 (M.1 87 l2)) Q)))))) : en_R sc 145 11 [mm_r 72, mm_i l1, mm_i l2, mm_u, mm_u] [] M Q := by
  refine en_iload_n mc145_11 rfl ?_
  refine en_aload_n mc145_12 rfl ?_
  refine en_getI mv145 mc145_13 (lk_f7_97) (⟨rfl, by decide⟩ : mt_kd[72]? = some (.inl 7) ∧ 72 < 99) (Or.inl rfl) ?_
  refine en_icmp_ge 37 mc145_16 (by decide) hg_l2 (ho.2.1 72 19 (by unfold mr_lg; omega)) (fun q => ?_) (fun q => ?_)
  · replace h := h.1 q
    refine en_aload_n mc145_37 rfl ?_
    refine en_aload_n mc145_38 rfl ?_
    refine en_getI mv145 mc145_39 (lk_f7_97) (⟨rfl, by decide⟩ : mt_kd[72]? = some (.inl 7) ∧ 72 < 99) (Or.inl rfl) ?_
    refine en_if_le 54 mc145_42 (by decide) (ho.2.1 72 19 (by unfold mr_lg; omega)) (fun q => ?_) (fun q => ?_)
    · replace h := h.1 q
      refine en_iconst mc145_54 ?_
      exact h
    · replace h := h.2 q
      refine en_aload_n mc145_45 rfl ?_
      refine en_getI mv145 mc145_46 (lk_f7_97) (⟨rfl, by decide⟩ : mt_kd[72]? = some (.inl 7) ∧ 72 < 99) (Or.inl rfl) ?_
      refine en_iconst mc145_49 ?_
      refine en_isub mc145_50 ?_
      refine en_goto 55 mc145_51 (by decide) ?_
      exact h
  · replace h := h.2 q
    obtain ⟨g1, h⟩ := h
    obtain ⟨g2, h⟩ := h
    obtain ⟨g3, h⟩ := h
    obtain ⟨g4, h⟩ := h
    refine en_aload_n mc145_19 rfl ?_
    refine en_getR (b := 88) mv145 mc145_20 (lk_f7_55) (⟨rfl, by decide⟩ : mt_kd[72]? = some (.inl 7) ∧ 72 < 99) rfl (mk_fc ho (by decide +kernel)) ?_
    refine en_iload_n mc145_23 rfl ?_
    refine en_aload_n mc145_24 rfl ?_
    refine en_getR (b := 87) mv145 mc145_25 (lk_f7_52) (⟨rfl, by decide⟩ : mt_kd[72]? = some (.inl 7) ∧ 72 < 99) rfl (mk_fc ho (by decide +kernel)) ?_
    refine en_iload_n mc145_28 rfl ?_
    refine en_iald mc145_29 (⟨rfl, by decide, by decide⟩ : mt_kd[87]? = some (.inr (.int, 1700)) ∧ 87 < 99 ∧ 1700 < 2147483648) g1 g2 ?_
    refine en_iast mc145_30 (⟨rfl, by decide, by decide⟩ : mt_kd[88]? = some (.inr (.int, 801)) ∧ 88 < 99 ∧ 801 < 2147483648) g3 g4 (ho.2.1 87 l2 (by unfold mr_lg; omega)) ?_
    refine en_iinc (ls' := [mm_r 72, mm_i l1, mm_i (l2 + 1), mm_u, mm_u]) mc145_31 rfl rfl ?_
    refine en_goto 11 mc145_34 (by decide) ?_
    exact h
theorem vc145_55 {sc : Nat × (Int → Int)} {Q : mm_R → mm_M → Prop} {M : mm_M} {l1 : Int} {l2 : Int} {s1 : Int} (ho : mr_ok M) (hg_s1 : mr_rg s1)
    (h : en_CV sc 59 [mm_r 72, mm_i l1, mm_u] (mm_putN (mm_putN M 72 23 s1) 72 19 0) (fun M2 => mr_ok M2 → en_R sc 145 70 [mm_r 72, mm_i l1, mm_i 0, mm_u, mm_u] [] M2 Q) (fun e M9 => Q (.inr e) M9)) : en_R sc 145 55 [mm_r 72, mm_i l1, mm_i l2, mm_u, mm_u] [mm_i s1, mm_r 72] M Q := by
  refine en_putI mv145 mc145_55 (lk_f7_199) (⟨rfl, by decide⟩ : mt_kd[72]? = some (.inl 7) ∧ 72 < 99) rfl rfl hg_s1 ?_
  refine en_aload_n mc145_58 rfl ?_
  refine en_iconst mc145_59 ?_
  refine en_putI mv145 mc145_60 (lk_f7_97) (⟨rfl, by decide⟩ : mt_kd[72]? = some (.inl 7) ∧ 72 < 99) rfl rfl (⟨by decide, by decide⟩ : mr_rg 0) ?_
  refine en_aload_n mc145_63 rfl ?_
  refine en_iload_n mc145_64 rfl ?_
  refine en_callV (lz := [mm_r 72, mm_i l1, mm_u]) mv145 mc145_65 rfl rfl (lk_m7_155) mv59 rfl (by decide) rfl (mk_cokV rfl (⟨rfl, by decide⟩ : mt_kd[72]? = some (.inl 7) ∧ 72 < 99)) rfl (mk_nh rfl _) (mr_ok_putI (a := 72) (k := 19) (mr_ok_putI (a := 72) (k := 23) ho hg_s1) (⟨by decide, by decide⟩ : mr_rg 0)) ?_
  refine en_CV_mono h (fun M2 h => ?_) (fun _ _ h => h)
  intro ho3
  replace h := h ho3
  refine en_iconst mc145_68 ?_
  refine en_istore_n (ls' := [mm_r 72, mm_i l1, mm_i 0, mm_u, mm_u]) mc145_69 (Nat.le_of_ble_eq_true rfl) rfl ?_
  exact h
theorem vc145_70 {sc : Nat × (Int → Int)} {Q : mm_R → mm_M → Prop} {M : mm_M} {l1 : Int} {l2 : Int} (ho : mr_ok M) (hg_l2 : mr_rg l2)
    (h : ((M.1 72 19) ≤ l2 → ((M.1 72 19) ≤ 0 → en_R sc 145 119 [mm_r 72, mm_i l1, mm_i 0, mm_u, mm_u] [] (mm_putN M 72 24 0) Q) ∧ (¬ (M.1 72 19) ≤ 0 → mr_rg ((M.1 72 19) - 1) ∧ (en_R sc 145 119 [mm_r 72, mm_i l1, mm_i 0, mm_u, mm_u] [] (mm_putN M 72 24 ((M.1 72 19) - 1)) Q))) ∧ (¬ (M.1 72 19) ≤ l2 → 0 ≤ l2 ∧ (l2 < 1700 ∧ (0 ≤ l2 ∧ (l2 < 202 ∧ (en_R sc 145 70 [mm_r 72, mm_i l1, mm_i (l2 + 1), mm_u, mm_u] [] (mm_putN M 89 l2 (M.1 87 l2)) Q)))))) : en_R sc 145 70 [mm_r 72, mm_i l1, mm_i l2, mm_u, mm_u] [] M Q := by
  refine en_iload_n mc145_70 rfl ?_
  refine en_aload_n mc145_71 rfl ?_
  refine en_getI mv145 mc145_72 (lk_f7_97) (⟨rfl, by decide⟩ : mt_kd[72]? = some (.inl 7) ∧ 72 < 99) (Or.inl rfl) ?_
  refine en_icmp_ge 96 mc145_75 (by decide) hg_l2 (ho.2.1 72 19 (by unfold mr_lg; omega)) (fun q => ?_) (fun q => ?_)
  · replace h := h.1 q
    refine en_aload_n mc145_96 rfl ?_
    refine en_aload_n mc145_97 rfl ?_
    refine en_getI mv145 mc145_98 (lk_f7_97) (⟨rfl, by decide⟩ : mt_kd[72]? = some (.inl 7) ∧ 72 < 99) (Or.inl rfl) ?_
    refine en_if_le 113 mc145_101 (by decide) (ho.2.1 72 19 (by unfold mr_lg; omega)) (fun q => ?_) (fun q => ?_)
    · replace h := h.1 q
      refine en_iconst mc145_113 ?_
      refine en_putI mv145 mc145_114 (lk_f7_202) (⟨rfl, by decide⟩ : mt_kd[72]? = some (.inl 7) ∧ 72 < 99) rfl rfl (⟨by decide, by decide⟩ : mr_rg 0) ?_
      refine en_iconst mc145_117 ?_
      refine en_istore_n (ls' := [mm_r 72, mm_i l1, mm_i 0, mm_u, mm_u]) mc145_118 (Nat.le_of_ble_eq_true rfl) rfl ?_
      exact h
    · replace h := h.2 q
      obtain ⟨g1, h⟩ := h
      refine en_aload_n mc145_104 rfl ?_
      refine en_getI mv145 mc145_105 (lk_f7_97) (⟨rfl, by decide⟩ : mt_kd[72]? = some (.inl 7) ∧ 72 < 99) (Or.inl rfl) ?_
      refine en_iconst mc145_108 ?_
      refine en_isub mc145_109 ?_
      refine en_goto 114 mc145_110 (by decide) ?_
      refine en_putI mv145 mc145_114 (lk_f7_202) (⟨rfl, by decide⟩ : mt_kd[72]? = some (.inl 7) ∧ 72 < 99) rfl rfl g1 ?_
      refine en_iconst mc145_117 ?_
      refine en_istore_n (ls' := [mm_r 72, mm_i l1, mm_i 0, mm_u, mm_u]) mc145_118 (Nat.le_of_ble_eq_true rfl) rfl ?_
      exact h
  · replace h := h.2 q
    obtain ⟨g2, h⟩ := h
    obtain ⟨g3, h⟩ := h
    obtain ⟨g4, h⟩ := h
    obtain ⟨g5, h⟩ := h
    refine en_aload_n mc145_78 rfl ?_
    refine en_getR (b := 89) mv145 mc145_79 (lk_f7_58) (⟨rfl, by decide⟩ : mt_kd[72]? = some (.inl 7) ∧ 72 < 99) rfl (mk_fc ho (by decide +kernel)) ?_
    refine en_iload_n mc145_82 rfl ?_
    refine en_aload_n mc145_83 rfl ?_
    refine en_getR (b := 87) mv145 mc145_84 (lk_f7_52) (⟨rfl, by decide⟩ : mt_kd[72]? = some (.inl 7) ∧ 72 < 99) rfl (mk_fc ho (by decide +kernel)) ?_
    refine en_iload_n mc145_87 rfl ?_
    refine en_iald mc145_88 (⟨rfl, by decide, by decide⟩ : mt_kd[87]? = some (.inr (.int, 1700)) ∧ 87 < 99 ∧ 1700 < 2147483648) g2 g3 ?_
    refine en_iast mc145_89 (⟨rfl, by decide, by decide⟩ : mt_kd[89]? = some (.inr (.int, 202)) ∧ 89 < 99 ∧ 202 < 2147483648) g4 g5 (ho.2.1 87 l2 (by unfold mr_lg; omega)) ?_
    refine en_iinc (ls' := [mm_r 72, mm_i l1, mm_i (l2 + 1), mm_u, mm_u]) mc145_90 rfl rfl ?_
    refine en_goto 70 mc145_93 (by decide) ?_
    exact h
theorem vc145_119 {sc : Nat × (Int → Int)} {Q : mm_R → mm_M → Prop} {M : mm_M} {l1 : Int} {l2 : Int} {l3 : mm_V} {l4 : mm_V} (ho : mr_ok M) (hg_l2 : mr_rg l2)
    (h : ((M.1 72 24) ≤ l2 → Q (.inl none) M) ∧ (¬ (M.1 72 24) ≤ l2 → 0 ≤ l2 ∧ (l2 < 202 ∧ (en_CI sc 60 [mm_r 72, mm_i l1, mm_i (M.1 89 l2), mm_u, mm_u] M (fun x3 M4 => mr_ok M4 → en_R sc 145 142 [mm_r 72, mm_i l1, mm_i l2, mm_i x3, mm_i 0] [] M4 Q) (fun e M9 => Q (.inr e) M9))))) : en_R sc 145 119 [mm_r 72, mm_i l1, mm_i l2, l3, l4] [] M Q := by
  refine en_iload_n mc145_119 rfl ?_
  refine en_aload_n mc145_120 rfl ?_
  refine en_getI mv145 mc145_121 (lk_f7_202) (⟨rfl, by decide⟩ : mt_kd[72]? = some (.inl 7) ∧ 72 < 99) (Or.inl rfl) ?_
  refine en_icmp_ge 201 mc145_124 (by decide) hg_l2 (ho.2.1 72 24 (by unfold mr_lg; omega)) (fun q => ?_) (fun q => ?_)
  · replace h := h.1 q
    exact en_vret mv145 mc145_201 rfl h
  · replace h := h.2 q
    obtain ⟨g1, h⟩ := h
    obtain ⟨g2, h⟩ := h
    refine en_aload_n mc145_127 rfl ?_
    refine en_iload_n mc145_128 rfl ?_
    refine en_aload_n mc145_129 rfl ?_
    refine en_getR (b := 89) mv145 mc145_130 (lk_f7_58) (⟨rfl, by decide⟩ : mt_kd[72]? = some (.inl 7) ∧ 72 < 99) rfl (mk_fc ho (by decide +kernel)) ?_
    refine en_iload_n mc145_133 rfl ?_
    refine en_iald mc145_134 (⟨rfl, by decide, by decide⟩ : mt_kd[89]? = some (.inr (.int, 202)) ∧ 89 < 99 ∧ 202 < 2147483648) g1 g2 ?_
    refine en_callI (lz := [mm_r 72, mm_i l1, mm_i (M.1 89 l2), mm_u, mm_u]) mv145 mc145_135 rfl rfl (lk_m7_111) mv60 rfl (by decide) rfl (mk_cokV rfl (⟨rfl, by decide⟩ : mt_kd[72]? = some (.inl 7) ∧ 72 < 99)) rfl (mk_nh rfl _) ho ?_
    refine en_CI_mono h (fun x3 M4 h => ?_) (fun _ _ h => h)
    intro ho5
    replace h := h ho5
    refine en_istore_n (ls' := [mm_r 72, mm_i l1, mm_i l2, mm_i x3, l4]) mc145_138 (Nat.le_of_ble_eq_true rfl) rfl ?_
    refine en_iconst mc145_139 ?_
    refine en_istore (ls' := [mm_r 72, mm_i l1, mm_i l2, mm_i x3, mm_i 0]) mc145_140 (Nat.le_of_ble_eq_true rfl) rfl ?_
    exact h
theorem vc145_142 {sc : Nat × (Int → Int)} {Q : mm_R → mm_M → Prop} {M : mm_M} {l1 : Int} {l2 : Int} {l3 : Int} {l4 : Int} (ho : mr_ok M) (hg_l4 : mr_rg l4) (hg_l3 : mr_rg l3)
    (h : ((M.1 72 23) ≤ l4 → en_R sc 145 119 [mm_r 72, mm_i l1, mm_i (l2 + 1), mm_i l3, mm_i l4] [] M Q) ∧ (¬ (M.1 72 23) ≤ l4 → (l3 < 0 → 0 ≤ ((l2 * (M.1 72 23)) + l4) ∧ (((l2 * (M.1 72 23)) + l4) < 161000 ∧ (en_R sc 145 142 [mm_r 72, mm_i l1, mm_i l2, mm_i l3, mm_i (l4 + 1)] [] (mm_putN M 90 ((l2 * (M.1 72 23)) + l4) 0) Q))) ∧ (¬ l3 < 0 → 0 ≤ l4 ∧ (l4 < 801 ∧ (en_CI sc 88 [mm_r 72, mm_i l3, mm_i (M.1 88 l4), mm_u, mm_u] M (fun x5 M6 => mr_ok M6 → mr_rg x5 ∧ ((x5 = 0 → 0 ≤ ((l2 * (M.1 72 23)) + l4) ∧ (((l2 * (M.1 72 23)) + l4) < 161000 ∧ (en_R sc 145 142 [mm_r 72, mm_i l1, mm_i l2, mm_i l3, mm_i (l4 + 1)] [] (mm_putN M6 90 ((l2 * (M.1 72 23)) + l4) 0) Q))) ∧ (¬ x5 = 0 → 0 ≤ ((l2 * (M.1 72 23)) + l4) ∧ (((l2 * (M.1 72 23)) + l4) < 161000 ∧ (en_R sc 145 142 [mm_r 72, mm_i l1, mm_i l2, mm_i l3, mm_i (l4 + 1)] [] (mm_putN M6 90 ((l2 * (M.1 72 23)) + l4) 1) Q))))) (fun e M9 => Q (.inr e) M9)))))) : en_R sc 145 142 [mm_r 72, mm_i l1, mm_i l2, mm_i l3, mm_i l4] [] M Q := by
  refine en_iload mc145_142 rfl ?_
  refine en_aload_n mc145_144 rfl ?_
  refine en_getI mv145 mc145_145 (lk_f7_199) (⟨rfl, by decide⟩ : mt_kd[72]? = some (.inl 7) ∧ 72 < 99) (Or.inl rfl) ?_
  refine en_icmp_ge 195 mc145_148 (by decide) hg_l4 (ho.2.1 72 23 (by unfold mr_lg; omega)) (fun q => ?_) (fun q => ?_)
  · replace h := h.1 q
    refine en_iinc (ls' := [mm_r 72, mm_i l1, mm_i (l2 + 1), mm_i l3, mm_i l4]) mc145_195 rfl rfl ?_
    refine en_goto 119 mc145_198 (by decide) ?_
    exact h
  · replace h := h.2 q
    refine en_aload_n mc145_151 rfl ?_
    refine en_getR (b := 90) mv145 mc145_152 (lk_f7_62) (⟨rfl, by decide⟩ : mt_kd[72]? = some (.inl 7) ∧ 72 < 99) rfl (mk_fc ho (by decide +kernel)) ?_
    refine en_iload_n mc145_155 rfl ?_
    refine en_aload_n mc145_156 rfl ?_
    refine en_getI mv145 mc145_157 (lk_f7_199) (⟨rfl, by decide⟩ : mt_kd[72]? = some (.inl 7) ∧ 72 < 99) (Or.inl rfl) ?_
    refine en_imul mc145_160 ?_
    refine en_iload mc145_161 rfl ?_
    refine en_iadd mc145_163 ?_
    refine en_iload_n mc145_164 rfl ?_
    refine en_if_lt 187 mc145_165 (by decide) hg_l3 (fun q => ?_) (fun q => ?_)
    · replace h := h.1 q
      obtain ⟨g1, h⟩ := h
      obtain ⟨g2, h⟩ := h
      refine en_iconst mc145_187 ?_
      refine en_bast mc145_188 (⟨rfl, by decide, by decide⟩ : mt_kd[90]? = some (.inr (.boolean, 161000)) ∧ 90 < 99 ∧ 161000 < 2147483648) g1 g2 (by decide) ?_
      refine en_iinc (ls' := [mm_r 72, mm_i l1, mm_i l2, mm_i l3, mm_i (l4 + 1)]) mc145_189 rfl rfl ?_
      refine en_goto 142 mc145_192 (by decide) ?_
      exact h
    · replace h := h.2 q
      obtain ⟨g3, h⟩ := h
      obtain ⟨g4, h⟩ := h
      refine en_aload_n mc145_168 rfl ?_
      refine en_iload_n mc145_169 rfl ?_
      refine en_aload_n mc145_170 rfl ?_
      refine en_getR (b := 88) mv145 mc145_171 (lk_f7_55) (⟨rfl, by decide⟩ : mt_kd[72]? = some (.inl 7) ∧ 72 < 99) rfl (mk_fc ho (by decide +kernel)) ?_
      refine en_iload mc145_174 rfl ?_
      refine en_iald mc145_176 (⟨rfl, by decide, by decide⟩ : mt_kd[88]? = some (.inr (.int, 801)) ∧ 88 < 99 ∧ 801 < 2147483648) g3 g4 ?_
      refine en_callI (lz := [mm_r 72, mm_i l3, mm_i (M.1 88 l4), mm_u, mm_u]) mv145 mc145_177 rfl rfl (lk_m7_177) mv88 rfl (by decide) rfl (mk_cokV rfl (⟨rfl, by decide⟩ : mt_kd[72]? = some (.inl 7) ∧ 72 < 99)) rfl (mk_nh rfl _) ho ?_
      refine en_CI_mono h (fun x5 M6 h => ?_) (fun _ _ h => h)
      intro ho7
      replace h := h ho7
      obtain ⟨g8, h⟩ := h
      refine en_if_eq 187 mc145_180 (by decide) g8 (fun q => ?_) (fun q => ?_)
      · replace h := h.1 q
        obtain ⟨g9, h⟩ := h
        obtain ⟨g10, h⟩ := h
        refine en_iconst mc145_187 ?_
        refine en_bast mc145_188 (⟨rfl, by decide, by decide⟩ : mt_kd[90]? = some (.inr (.boolean, 161000)) ∧ 90 < 99 ∧ 161000 < 2147483648) g9 g10 (by decide) ?_
        refine en_iinc (ls' := [mm_r 72, mm_i l1, mm_i l2, mm_i l3, mm_i (l4 + 1)]) mc145_189 rfl rfl ?_
        refine en_goto 142 mc145_192 (by decide) ?_
        exact h
      · replace h := h.2 q
        obtain ⟨g11, h⟩ := h
        obtain ⟨g12, h⟩ := h
        refine en_iconst mc145_183 ?_
        refine en_goto 188 mc145_184 (by decide) ?_
        refine en_bast mc145_188 (⟨rfl, by decide, by decide⟩ : mt_kd[90]? = some (.inr (.boolean, 161000)) ∧ 90 < 99 ∧ 161000 < 2147483648) g11 g12 (by decide) ?_
        refine en_iinc (ls' := [mm_r 72, mm_i l1, mm_i l2, mm_i l3, mm_i (l4 + 1)]) mc145_189 rfl rfl ?_
        refine en_goto 142 mc145_192 (by decide) ?_
        exact h
/-! 146: CellAreasModel.isCell(II)Z -/
theorem mc146_0 : mr_C 146 0 = some (.iload_n 1, 1) := by decide +kernel
theorem mc146_1 : mr_C 146 1 = some (.ifCond .lt (43), 3) := by decide +kernel
theorem mc146_4 : mr_C 146 4 = some (.iload_n 1, 1) := by decide +kernel
theorem mc146_5 : mr_C 146 5 = some (.aload_n 0, 1) := by decide +kernel
theorem mc146_6 : mr_C 146 6 = some (.getfield 199, 3) := by decide +kernel
theorem mc146_9 : mr_C 146 9 = some (.if_icmp .ge (35), 3) := by decide +kernel
theorem mc146_12 : mr_C 146 12 = some (.iload_n 2, 1) := by decide +kernel
theorem mc146_13 : mr_C 146 13 = some (.ifCond .lt (31), 3) := by decide +kernel
theorem mc146_16 : mr_C 146 16 = some (.iload_n 2, 1) := by decide +kernel
theorem mc146_17 : mr_C 146 17 = some (.aload_n 0, 1) := by decide +kernel
theorem mc146_18 : mr_C 146 18 = some (.getfield 202, 3) := by decide +kernel
theorem mc146_21 : mr_C 146 21 = some (.if_icmp .ge (23), 3) := by decide +kernel
theorem mc146_24 : mr_C 146 24 = some (.aload_n 0, 1) := by decide +kernel
theorem mc146_25 : mr_C 146 25 = some (.getfield 62, 3) := by decide +kernel
theorem mc146_28 : mr_C 146 28 = some (.iload_n 2, 1) := by decide +kernel
theorem mc146_29 : mr_C 146 29 = some (.aload_n 0, 1) := by decide +kernel
theorem mc146_30 : mr_C 146 30 = some (.getfield 199, 3) := by decide +kernel
theorem mc146_33 : mr_C 146 33 = some (.imul, 1) := by decide +kernel
theorem mc146_34 : mr_C 146 34 = some (.iload_n 1, 1) := by decide +kernel
theorem mc146_35 : mr_C 146 35 = some (.iadd, 1) := by decide +kernel
theorem mc146_36 : mr_C 146 36 = some (.baload, 1) := by decide +kernel
theorem mc146_37 : mr_C 146 37 = some (.ifCond .eq (7), 3) := by decide +kernel
theorem mc146_40 : mr_C 146 40 = some (.iconst 1, 1) := by decide +kernel
theorem mc146_41 : mr_C 146 41 = some (.goto 4, 3) := by decide +kernel
theorem mc146_44 : mr_C 146 44 = some (.iconst 0, 1) := by decide +kernel
theorem mc146_45 : mr_C 146 45 = some (.ireturn, 1) := by decide +kernel
theorem vc146_0 {sc : Nat × (Int → Int)} {Q : mm_R → mm_M → Prop} {M : mm_M} {l1 : Int} {l2 : Int} (ho : mr_ok M) (hg_l1 : mr_rg l1) (hg_l2 : mr_rg l2)
    (h : (l1 < 0 → Q (.inl (some (mm_i 0))) M) ∧ (¬ l1 < 0 → ((M.1 72 23) ≤ l1 → Q (.inl (some (mm_i 0))) M) ∧ (¬ (M.1 72 23) ≤ l1 → (l2 < 0 → Q (.inl (some (mm_i 0))) M) ∧ (¬ l2 < 0 → ((M.1 72 24) ≤ l2 → Q (.inl (some (mm_i 0))) M) ∧ (¬ (M.1 72 24) ≤ l2 → 0 ≤ ((l2 * (M.1 72 23)) + l1) ∧ (((l2 * (M.1 72 23)) + l1) < 161000 ∧ (((M.1 90 ((l2 * (M.1 72 23)) + l1)) = 0 → Q (.inl (some (mm_i 0))) M) ∧ (¬ (M.1 90 ((l2 * (M.1 72 23)) + l1)) = 0 → Q (.inl (some (mm_i 1))) M)))))))) : en_R sc 146 0 [mm_r 72, mm_i l1, mm_i l2] [] M Q := by
  refine en_iload_n mc146_0 rfl ?_
  refine en_if_lt 44 mc146_1 (by decide) hg_l1 (fun q => ?_) (fun q => ?_)
  · replace h := h.1 q
    refine en_iconst mc146_44 ?_
    exact en_zret mv146 mc146_45 rfl (by decide) h
  · replace h := h.2 q
    refine en_iload_n mc146_4 rfl ?_
    refine en_aload_n mc146_5 rfl ?_
    refine en_getI mv146 mc146_6 (lk_f7_199) (⟨rfl, by decide⟩ : mt_kd[72]? = some (.inl 7) ∧ 72 < 99) (Or.inl rfl) ?_
    refine en_icmp_ge 44 mc146_9 (by decide) hg_l1 (ho.2.1 72 23 (by unfold mr_lg; omega)) (fun q => ?_) (fun q => ?_)
    · replace h := h.1 q
      refine en_iconst mc146_44 ?_
      exact en_zret mv146 mc146_45 rfl (by decide) h
    · replace h := h.2 q
      refine en_iload_n mc146_12 rfl ?_
      refine en_if_lt 44 mc146_13 (by decide) hg_l2 (fun q => ?_) (fun q => ?_)
      · replace h := h.1 q
        refine en_iconst mc146_44 ?_
        exact en_zret mv146 mc146_45 rfl (by decide) h
      · replace h := h.2 q
        refine en_iload_n mc146_16 rfl ?_
        refine en_aload_n mc146_17 rfl ?_
        refine en_getI mv146 mc146_18 (lk_f7_202) (⟨rfl, by decide⟩ : mt_kd[72]? = some (.inl 7) ∧ 72 < 99) (Or.inl rfl) ?_
        refine en_icmp_ge 44 mc146_21 (by decide) hg_l2 (ho.2.1 72 24 (by unfold mr_lg; omega)) (fun q => ?_) (fun q => ?_)
        · replace h := h.1 q
          refine en_iconst mc146_44 ?_
          exact en_zret mv146 mc146_45 rfl (by decide) h
        · replace h := h.2 q
          obtain ⟨g1, h⟩ := h
          obtain ⟨g2, h⟩ := h
          refine en_aload_n mc146_24 rfl ?_
          refine en_getR (b := 90) mv146 mc146_25 (lk_f7_62) (⟨rfl, by decide⟩ : mt_kd[72]? = some (.inl 7) ∧ 72 < 99) rfl (mk_fc ho (by decide +kernel)) ?_
          refine en_iload_n mc146_28 rfl ?_
          refine en_aload_n mc146_29 rfl ?_
          refine en_getI mv146 mc146_30 (lk_f7_199) (⟨rfl, by decide⟩ : mt_kd[72]? = some (.inl 7) ∧ 72 < 99) (Or.inl rfl) ?_
          refine en_imul mc146_33 ?_
          refine en_iload_n mc146_34 rfl ?_
          refine en_iadd mc146_35 ?_
          refine en_bald mc146_36 (⟨rfl, by decide, by decide⟩ : mt_kd[90]? = some (.inr (.boolean, 161000)) ∧ 90 < 99 ∧ 161000 < 2147483648) g1 g2 ?_
          refine en_if_eq 44 mc146_37 (by decide) (ho.2.1 90 ((l2 * (M.1 72 23)) + l1) (by unfold mr_lg; omega)) (fun q => ?_) (fun q => ?_)
          · replace h := h.1 q
            refine en_iconst mc146_44 ?_
            exact en_zret mv146 mc146_45 rfl (by decide) h
          · replace h := h.2 q
            refine en_iconst mc146_40 ?_
            refine en_goto 45 mc146_41 (by decide) ?_
            exact en_zret mv146 mc146_45 rfl (by decide) h
/-! 147: CellAreasModel.flood(I)V -/
theorem mc147_0 : mr_C 147 0 = some (.iconst 1, 1) := by decide +kernel
theorem mc147_1 : mr_C 147 1 = some (.istore_n 2, 1) := by decide +kernel
theorem mc147_2 : mr_C 147 2 = some (.aload_n 0, 1) := by decide +kernel
theorem mc147_3 : mr_C 147 3 = some (.getfield 80, 3) := by decide +kernel
theorem mc147_6 : mr_C 147 6 = some (.iconst 0, 1) := by decide +kernel
theorem mc147_7 : mr_C 147 7 = some (.iload_n 1, 1) := by decide +kernel
theorem mc147_8 : mr_C 147 8 = some (.iastore, 1) := by decide +kernel
theorem mc147_9 : mr_C 147 9 = some (.aload_n 0, 1) := by decide +kernel
theorem mc147_10 : mr_C 147 10 = some (.getfield 76, 3) := by decide +kernel
theorem mc147_13 : mr_C 147 13 = some (.iload_n 1, 1) := by decide +kernel
theorem mc147_14 : mr_C 147 14 = some (.iconst 1, 1) := by decide +kernel
theorem mc147_15 : mr_C 147 15 = some (.bastore, 1) := by decide +kernel
theorem mc147_16 : mr_C 147 16 = some (.iload_n 2, 1) := by decide +kernel
theorem mc147_17 : mr_C 147 17 = some (.ifCond .le (178), 3) := by decide +kernel
theorem mc147_20 : mr_C 147 20 = some (.iinc 2 (-1), 3) := by decide +kernel
theorem mc147_23 : mr_C 147 23 = some (.aload_n 0, 1) := by decide +kernel
theorem mc147_24 : mr_C 147 24 = some (.getfield 80, 3) := by decide +kernel
theorem mc147_27 : mr_C 147 27 = some (.iload_n 2, 1) := by decide +kernel
theorem mc147_28 : mr_C 147 28 = some (.iaload, 1) := by decide +kernel
theorem mc147_29 : mr_C 147 29 = some (.aload_n 0, 1) := by decide +kernel
theorem mc147_30 : mr_C 147 30 = some (.getfield 199, 3) := by decide +kernel
theorem mc147_33 : mr_C 147 33 = some (.iconst 2, 1) := by decide +kernel
theorem mc147_34 : mr_C 147 34 = some (.iadd, 1) := by decide +kernel
theorem mc147_35 : mr_C 147 35 = some (.irem, 1) := by decide +kernel
theorem mc147_36 : mr_C 147 36 = some (.istore_n 3, 1) := by decide +kernel
theorem mc147_37 : mr_C 147 37 = some (.aload_n 0, 1) := by decide +kernel
theorem mc147_38 : mr_C 147 38 = some (.getfield 80, 3) := by decide +kernel
theorem mc147_41 : mr_C 147 41 = some (.iload_n 2, 1) := by decide +kernel
theorem mc147_42 : mr_C 147 42 = some (.iaload, 1) := by decide +kernel
theorem mc147_43 : mr_C 147 43 = some (.aload_n 0, 1) := by decide +kernel
theorem mc147_44 : mr_C 147 44 = some (.getfield 199, 3) := by decide +kernel
theorem mc147_47 : mr_C 147 47 = some (.iconst 2, 1) := by decide +kernel
theorem mc147_48 : mr_C 147 48 = some (.iadd, 1) := by decide +kernel
theorem mc147_49 : mr_C 147 49 = some (.idiv, 1) := by decide +kernel
theorem mc147_50 : mr_C 147 50 = some (.istore 4, 2) := by decide +kernel
theorem mc147_52 : mr_C 147 52 = some (.iconst 0, 1) := by decide +kernel
theorem mc147_53 : mr_C 147 53 = some (.istore 5, 2) := by decide +kernel
theorem mc147_55 : mr_C 147 55 = some (.iload 5, 2) := by decide +kernel
theorem mc147_57 : mr_C 147 57 = some (.bipush 9, 2) := by decide +kernel
theorem mc147_59 : mr_C 147 59 = some (.if_icmp .ge (133), 3) := by decide +kernel
theorem mc147_62 : mr_C 147 62 = some (.iload_n 3, 1) := by decide +kernel
theorem mc147_63 : mr_C 147 63 = some (.iload 5, 2) := by decide +kernel
theorem mc147_65 : mr_C 147 65 = some (.iconst 3, 1) := by decide +kernel
theorem mc147_66 : mr_C 147 66 = some (.irem, 1) := by decide +kernel
theorem mc147_67 : mr_C 147 67 = some (.iadd, 1) := by decide +kernel
theorem mc147_68 : mr_C 147 68 = some (.iconst 1, 1) := by decide +kernel
theorem mc147_69 : mr_C 147 69 = some (.isub, 1) := by decide +kernel
theorem mc147_70 : mr_C 147 70 = some (.istore 6, 2) := by decide +kernel
theorem mc147_72 : mr_C 147 72 = some (.iload 4, 2) := by decide +kernel
theorem mc147_74 : mr_C 147 74 = some (.iload 5, 2) := by decide +kernel
theorem mc147_76 : mr_C 147 76 = some (.iconst 3, 1) := by decide +kernel
theorem mc147_77 : mr_C 147 77 = some (.idiv, 1) := by decide +kernel
theorem mc147_78 : mr_C 147 78 = some (.iadd, 1) := by decide +kernel
theorem mc147_79 : mr_C 147 79 = some (.iconst 1, 1) := by decide +kernel
theorem mc147_80 : mr_C 147 80 = some (.isub, 1) := by decide +kernel
theorem mc147_81 : mr_C 147 81 = some (.istore 7, 2) := by decide +kernel
theorem mc147_83 : mr_C 147 83 = some (.iload 6, 2) := by decide +kernel
theorem mc147_85 : mr_C 147 85 = some (.ifCond .lt (34), 3) := by decide +kernel
theorem mc147_88 : mr_C 147 88 = some (.iload 6, 2) := by decide +kernel
theorem mc147_90 : mr_C 147 90 = some (.aload_n 0, 1) := by decide +kernel
theorem mc147_91 : mr_C 147 91 = some (.getfield 199, 3) := by decide +kernel
theorem mc147_94 : mr_C 147 94 = some (.iconst 2, 1) := by decide +kernel
theorem mc147_95 : mr_C 147 95 = some (.iadd, 1) := by decide +kernel
theorem mc147_96 : mr_C 147 96 = some (.if_icmp .ge (23), 3) := by decide +kernel
theorem mc147_99 : mr_C 147 99 = some (.iload 7, 2) := by decide +kernel
theorem mc147_101 : mr_C 147 101 = some (.ifCond .lt (18), 3) := by decide +kernel
theorem mc147_104 : mr_C 147 104 = some (.iload 7, 2) := by decide +kernel
theorem mc147_106 : mr_C 147 106 = some (.aload_n 0, 1) := by decide +kernel
theorem mc147_107 : mr_C 147 107 = some (.getfield 202, 3) := by decide +kernel
theorem mc147_110 : mr_C 147 110 = some (.iconst 2, 1) := by decide +kernel
theorem mc147_111 : mr_C 147 111 = some (.iadd, 1) := by decide +kernel
theorem mc147_112 : mr_C 147 112 = some (.if_icmp .ge (7), 3) := by decide +kernel
theorem mc147_115 : mr_C 147 115 = some (.iconst 1, 1) := by decide +kernel
theorem mc147_116 : mr_C 147 116 = some (.goto 4, 3) := by decide +kernel
theorem mc147_119 : mr_C 147 119 = some (.iconst 0, 1) := by decide +kernel
theorem mc147_120 : mr_C 147 120 = some (.istore 8, 2) := by decide +kernel
theorem mc147_122 : mr_C 147 122 = some (.iload 8, 2) := by decide +kernel
theorem mc147_124 : mr_C 147 124 = some (.ifCond .eq (62), 3) := by decide +kernel
theorem mc147_127 : mr_C 147 127 = some (.aload_n 0, 1) := by decide +kernel
theorem mc147_128 : mr_C 147 128 = some (.getfield 76, 3) := by decide +kernel
theorem mc147_131 : mr_C 147 131 = some (.iload 7, 2) := by decide +kernel
theorem mc147_133 : mr_C 147 133 = some (.aload_n 0, 1) := by decide +kernel
theorem mc147_134 : mr_C 147 134 = some (.getfield 199, 3) := by decide +kernel
theorem mc147_137 : mr_C 147 137 = some (.iconst 2, 1) := by decide +kernel
theorem mc147_138 : mr_C 147 138 = some (.iadd, 1) := by decide +kernel
theorem mc147_139 : mr_C 147 139 = some (.imul, 1) := by decide +kernel
theorem mc147_140 : mr_C 147 140 = some (.iload 6, 2) := by decide +kernel
theorem mc147_142 : mr_C 147 142 = some (.iadd, 1) := by decide +kernel
theorem mc147_143 : mr_C 147 143 = some (.baload, 1) := by decide +kernel
theorem mc147_144 : mr_C 147 144 = some (.ifCond .ne (42), 3) := by decide +kernel
theorem mc147_147 : mr_C 147 147 = some (.aload_n 0, 1) := by decide +kernel
theorem mc147_148 : mr_C 147 148 = some (.getfield 76, 3) := by decide +kernel
theorem mc147_151 : mr_C 147 151 = some (.iload 7, 2) := by decide +kernel
theorem mc147_153 : mr_C 147 153 = some (.aload_n 0, 1) := by decide +kernel
theorem mc147_154 : mr_C 147 154 = some (.getfield 199, 3) := by decide +kernel
theorem mc147_157 : mr_C 147 157 = some (.iconst 2, 1) := by decide +kernel
theorem mc147_158 : mr_C 147 158 = some (.iadd, 1) := by decide +kernel
theorem mc147_159 : mr_C 147 159 = some (.imul, 1) := by decide +kernel
theorem mc147_160 : mr_C 147 160 = some (.iload 6, 2) := by decide +kernel
theorem mc147_162 : mr_C 147 162 = some (.iadd, 1) := by decide +kernel
theorem mc147_163 : mr_C 147 163 = some (.iconst 1, 1) := by decide +kernel
theorem mc147_164 : mr_C 147 164 = some (.bastore, 1) := by decide +kernel
theorem mc147_165 : mr_C 147 165 = some (.aload_n 0, 1) := by decide +kernel
theorem mc147_166 : mr_C 147 166 = some (.getfield 80, 3) := by decide +kernel
theorem mc147_169 : mr_C 147 169 = some (.iload_n 2, 1) := by decide +kernel
theorem mc147_170 : mr_C 147 170 = some (.iload 7, 2) := by decide +kernel
theorem mc147_172 : mr_C 147 172 = some (.aload_n 0, 1) := by decide +kernel
theorem mc147_173 : mr_C 147 173 = some (.getfield 199, 3) := by decide +kernel
theorem mc147_176 : mr_C 147 176 = some (.iconst 2, 1) := by decide +kernel
theorem mc147_177 : mr_C 147 177 = some (.iadd, 1) := by decide +kernel
theorem mc147_178 : mr_C 147 178 = some (.imul, 1) := by decide +kernel
theorem mc147_179 : mr_C 147 179 = some (.iload 6, 2) := by decide +kernel
theorem mc147_181 : mr_C 147 181 = some (.iadd, 1) := by decide +kernel
theorem mc147_182 : mr_C 147 182 = some (.iastore, 1) := by decide +kernel
theorem mc147_183 : mr_C 147 183 = some (.iinc 2 (1), 3) := by decide +kernel
theorem mc147_186 : mr_C 147 186 = some (.iinc 5 (1), 3) := by decide +kernel
theorem mc147_189 : mr_C 147 189 = some (.goto (-134), 3) := by decide +kernel
theorem mc147_192 : mr_C 147 192 = some (.goto (-176), 3) := by decide +kernel
theorem mc147_195 : mr_C 147 195 = some (.return_, 1) := by decide +kernel
theorem vc147_0 {sc : Nat × (Int → Int)} {Q : mm_R → mm_M → Prop} {M : mm_M} {l1 : Int} (ho : mr_ok M) (hg_l1 : mr_rg l1)
    (h : 0 ≤ l1 ∧ (l1 < 648000 ∧ (en_R sc 147 16 [mm_r 72, mm_i l1, mm_i 1, mm_u, mm_u, mm_u, mm_u, mm_u, mm_u] [] (mm_putN (mm_putN M 95 0 l1) 94 l1 1) Q))) : en_R sc 147 0 [mm_r 72, mm_i l1, mm_u, mm_u, mm_u, mm_u, mm_u, mm_u, mm_u] [] M Q := by
  obtain ⟨g1, h⟩ := h
  obtain ⟨g2, h⟩ := h
  refine en_iconst mc147_0 ?_
  refine en_istore_n (ls' := [mm_r 72, mm_i l1, mm_i 1, mm_u, mm_u, mm_u, mm_u, mm_u, mm_u]) mc147_1 (Nat.le_of_ble_eq_true rfl) rfl ?_
  refine en_aload_n mc147_2 rfl ?_
  refine en_getR (b := 95) mv147 mc147_3 (lk_f7_80) (⟨rfl, by decide⟩ : mt_kd[72]? = some (.inl 7) ∧ 72 < 99) rfl (mk_fc ho (by decide +kernel)) ?_
  refine en_iconst mc147_6 ?_
  refine en_iload_n mc147_7 rfl ?_
  refine en_iast mc147_8 (⟨rfl, by decide, by decide⟩ : mt_kd[95]? = some (.inr (.int, 163000)) ∧ 95 < 99 ∧ 163000 < 2147483648) (by decide) (by decide) hg_l1 ?_
  refine en_aload_n mc147_9 rfl ?_
  refine en_getR (b := 94) mv147 mc147_10 (lk_f7_76) (⟨rfl, by decide⟩ : mt_kd[72]? = some (.inl 7) ∧ 72 < 99) rfl (mk_fc (mr_ok_putI (a := 95) (k := 0) ho hg_l1) (by decide +kernel)) ?_
  refine en_iload_n mc147_13 rfl ?_
  refine en_iconst mc147_14 ?_
  refine en_bast mc147_15 (⟨rfl, by decide, by decide⟩ : mt_kd[94]? = some (.inr (.boolean, 648000)) ∧ 94 < 99 ∧ 648000 < 2147483648) g1 g2 (by decide) ?_
  exact h
theorem vc147_16 {sc : Nat × (Int → Int)} {Q : mm_R → mm_M → Prop} {M : mm_M} {l1 : Int} {l2 : Int} {l3 : mm_V} {l4 : mm_V} {l5 : mm_V} {l6 : mm_V} {l7 : mm_V} {l8 : mm_V} (ho : mr_ok M) (hg_l2 : mr_rg l2)
    (h : (l2 ≤ 0 → Q (.inl none) M) ∧ (¬ l2 ≤ 0 → 0 ≤ (l2 + (-1)) ∧ ((l2 + (-1)) < 163000 ∧ (mr_rg ((M.1 72 23) + 2) ∧ (0 ≤ (M.1 95 (l2 + (-1))) ∧ (0 < ((M.1 72 23) + 2) ∧ (0 ≤ (l2 + (-1)) ∧ ((l2 + (-1)) < 163000 ∧ (0 ≤ (M.1 95 (l2 + (-1))) ∧ (0 < ((M.1 72 23) + 2) ∧ (en_R sc 147 55 [mm_r 72, mm_i l1, mm_i (l2 + (-1)), mm_i ((M.1 95 (l2 + (-1))) % ((M.1 72 23) + 2)), mm_i ((M.1 95 (l2 + (-1))) / ((M.1 72 23) + 2)), mm_i 0, l6, l7, l8] [] M Q))))))))))) : en_R sc 147 16 [mm_r 72, mm_i l1, mm_i l2, l3, l4, l5, l6, l7, l8] [] M Q := by
  refine en_iload_n mc147_16 rfl ?_
  refine en_if_le 195 mc147_17 (by decide) hg_l2 (fun q => ?_) (fun q => ?_)
  · replace h := h.1 q
    exact en_vret mv147 mc147_195 rfl h
  · replace h := h.2 q
    obtain ⟨g1, h⟩ := h
    obtain ⟨g2, h⟩ := h
    obtain ⟨g3, h⟩ := h
    obtain ⟨g4, h⟩ := h
    obtain ⟨g5, h⟩ := h
    obtain ⟨g6, h⟩ := h
    obtain ⟨g7, h⟩ := h
    obtain ⟨g8, h⟩ := h
    obtain ⟨g9, h⟩ := h
    refine en_iinc (ls' := [mm_r 72, mm_i l1, mm_i (l2 + (-1)), l3, l4, l5, l6, l7, l8]) mc147_20 rfl rfl ?_
    refine en_aload_n mc147_23 rfl ?_
    refine en_getR (b := 95) mv147 mc147_24 (lk_f7_80) (⟨rfl, by decide⟩ : mt_kd[72]? = some (.inl 7) ∧ 72 < 99) rfl (mk_fc ho (by decide +kernel)) ?_
    refine en_iload_n mc147_27 rfl ?_
    refine en_iald mc147_28 (⟨rfl, by decide, by decide⟩ : mt_kd[95]? = some (.inr (.int, 163000)) ∧ 95 < 99 ∧ 163000 < 2147483648) g1 g2 ?_
    refine en_aload_n mc147_29 rfl ?_
    refine en_getI mv147 mc147_30 (lk_f7_199) (⟨rfl, by decide⟩ : mt_kd[72]? = some (.inl 7) ∧ 72 < 99) (Or.inl rfl) ?_
    refine en_iconst mc147_33 ?_
    refine en_iadd mc147_34 ?_
    refine en_irem mc147_35 (ho.2.1 95 (l2 + (-1)) (by unfold mr_lg; omega)) g3 g4 g5 ?_
    refine en_istore_n (ls' := [mm_r 72, mm_i l1, mm_i (l2 + (-1)), mm_i ((M.1 95 (l2 + (-1))) % ((M.1 72 23) + 2)), l4, l5, l6, l7, l8]) mc147_36 (Nat.le_of_ble_eq_true rfl) rfl ?_
    refine en_aload_n mc147_37 rfl ?_
    refine en_getR (b := 95) mv147 mc147_38 (lk_f7_80) (⟨rfl, by decide⟩ : mt_kd[72]? = some (.inl 7) ∧ 72 < 99) rfl (mk_fc ho (by decide +kernel)) ?_
    refine en_iload_n mc147_41 rfl ?_
    refine en_iald mc147_42 (⟨rfl, by decide, by decide⟩ : mt_kd[95]? = some (.inr (.int, 163000)) ∧ 95 < 99 ∧ 163000 < 2147483648) g6 g7 ?_
    refine en_aload_n mc147_43 rfl ?_
    refine en_getI mv147 mc147_44 (lk_f7_199) (⟨rfl, by decide⟩ : mt_kd[72]? = some (.inl 7) ∧ 72 < 99) (Or.inl rfl) ?_
    refine en_iconst mc147_47 ?_
    refine en_iadd mc147_48 ?_
    refine en_idiv mc147_49 (ho.2.1 95 (l2 + (-1)) (by unfold mr_lg; omega)) g3 g8 g9 ?_
    refine en_istore (ls' := [mm_r 72, mm_i l1, mm_i (l2 + (-1)), mm_i ((M.1 95 (l2 + (-1))) % ((M.1 72 23) + 2)), mm_i ((M.1 95 (l2 + (-1))) / ((M.1 72 23) + 2)), l5, l6, l7, l8]) mc147_50 (Nat.le_of_ble_eq_true rfl) rfl ?_
    refine en_iconst mc147_52 ?_
    refine en_istore (ls' := [mm_r 72, mm_i l1, mm_i (l2 + (-1)), mm_i ((M.1 95 (l2 + (-1))) % ((M.1 72 23) + 2)), mm_i ((M.1 95 (l2 + (-1))) / ((M.1 72 23) + 2)), mm_i 0, l6, l7, l8]) mc147_53 (Nat.le_of_ble_eq_true rfl) rfl ?_
    exact h
theorem vc147_55 {sc : Nat × (Int → Int)} {Q : mm_R → mm_M → Prop} {M : mm_M} {l1 : Int} {l2 : Int} {l3 : Int} {l4 : Int} {l5 : Int} {l6 : mm_V} {l7 : mm_V} {l8 : mm_V} (ho : mr_ok M) (hg_l5 : mr_rg l5)
    (h : (9 ≤ l5 → en_R sc 147 16 [mm_r 72, mm_i l1, mm_i l2, mm_i l3, mm_i l4, mm_i l5, l6, l7, l8] [] M Q) ∧ (¬ 9 ≤ l5 → 0 ≤ l5 ∧ (0 ≤ l5 ∧ (mr_rg ((l3 + (l5 % 3)) - 1) ∧ ((((l3 + (l5 % 3)) - 1) < 0 → en_R sc 147 119 [mm_r 72, mm_i l1, mm_i l2, mm_i l3, mm_i l4, mm_i l5, mm_i ((l3 + (l5 % 3)) - 1), mm_i ((l4 + (l5 / 3)) - 1), l8] [] M Q) ∧ (¬ ((l3 + (l5 % 3)) - 1) < 0 → mr_rg ((M.1 72 23) + 2) ∧ ((((M.1 72 23) + 2) ≤ ((l3 + (l5 % 3)) - 1) → en_R sc 147 119 [mm_r 72, mm_i l1, mm_i l2, mm_i l3, mm_i l4, mm_i l5, mm_i ((l3 + (l5 % 3)) - 1), mm_i ((l4 + (l5 / 3)) - 1), l8] [] M Q) ∧ (¬ ((M.1 72 23) + 2) ≤ ((l3 + (l5 % 3)) - 1) → mr_rg ((l4 + (l5 / 3)) - 1) ∧ ((((l4 + (l5 / 3)) - 1) < 0 → en_R sc 147 119 [mm_r 72, mm_i l1, mm_i l2, mm_i l3, mm_i l4, mm_i l5, mm_i ((l3 + (l5 % 3)) - 1), mm_i ((l4 + (l5 / 3)) - 1), l8] [] M Q) ∧ (¬ ((l4 + (l5 / 3)) - 1) < 0 → mr_rg ((M.1 72 24) + 2) ∧ ((((M.1 72 24) + 2) ≤ ((l4 + (l5 / 3)) - 1) → en_R sc 147 119 [mm_r 72, mm_i l1, mm_i l2, mm_i l3, mm_i l4, mm_i l5, mm_i ((l3 + (l5 % 3)) - 1), mm_i ((l4 + (l5 / 3)) - 1), l8] [] M Q) ∧ (¬ ((M.1 72 24) + 2) ≤ ((l4 + (l5 / 3)) - 1) → en_R sc 147 120 [mm_r 72, mm_i l1, mm_i l2, mm_i l3, mm_i l4, mm_i l5, mm_i ((l3 + (l5 % 3)) - 1), mm_i ((l4 + (l5 / 3)) - 1), l8] [mm_i 1] M Q)))))))))))) : en_R sc 147 55 [mm_r 72, mm_i l1, mm_i l2, mm_i l3, mm_i l4, mm_i l5, l6, l7, l8] [] M Q := by
  refine en_iload mc147_55 rfl ?_
  refine en_bipush mc147_57 (by decide) ?_
  refine en_icmp_ge 192 mc147_59 (by decide) hg_l5 (⟨by decide, by decide⟩ : mr_rg 9) (fun q => ?_) (fun q => ?_)
  · replace h := h.1 q
    refine en_goto 16 mc147_192 (by decide) ?_
    exact h
  · replace h := h.2 q
    obtain ⟨g1, h⟩ := h
    obtain ⟨g2, h⟩ := h
    obtain ⟨g3, h⟩ := h
    refine en_iload_n mc147_62 rfl ?_
    refine en_iload mc147_63 rfl ?_
    refine en_iconst mc147_65 ?_
    refine en_irem mc147_66 hg_l5 (⟨by decide, by decide⟩ : mr_rg 3) g1 (by decide) ?_
    refine en_iadd mc147_67 ?_
    refine en_iconst mc147_68 ?_
    refine en_isub mc147_69 ?_
    refine en_istore (ls' := [mm_r 72, mm_i l1, mm_i l2, mm_i l3, mm_i l4, mm_i l5, mm_i ((l3 + (l5 % 3)) - 1), l7, l8]) mc147_70 (Nat.le_of_ble_eq_true rfl) rfl ?_
    refine en_iload mc147_72 rfl ?_
    refine en_iload mc147_74 rfl ?_
    refine en_iconst mc147_76 ?_
    refine en_idiv mc147_77 hg_l5 (⟨by decide, by decide⟩ : mr_rg 3) g2 (by decide) ?_
    refine en_iadd mc147_78 ?_
    refine en_iconst mc147_79 ?_
    refine en_isub mc147_80 ?_
    refine en_istore (ls' := [mm_r 72, mm_i l1, mm_i l2, mm_i l3, mm_i l4, mm_i l5, mm_i ((l3 + (l5 % 3)) - 1), mm_i ((l4 + (l5 / 3)) - 1), l8]) mc147_81 (Nat.le_of_ble_eq_true rfl) rfl ?_
    refine en_iload mc147_83 rfl ?_
    refine en_if_lt 119 mc147_85 (by decide) g3 (fun q => ?_) (fun q => ?_)
    · replace h := h.1 q
      exact h
    · replace h := h.2 q
      obtain ⟨g4, h⟩ := h
      refine en_iload mc147_88 rfl ?_
      refine en_aload_n mc147_90 rfl ?_
      refine en_getI mv147 mc147_91 (lk_f7_199) (⟨rfl, by decide⟩ : mt_kd[72]? = some (.inl 7) ∧ 72 < 99) (Or.inl rfl) ?_
      refine en_iconst mc147_94 ?_
      refine en_iadd mc147_95 ?_
      refine en_icmp_ge 119 mc147_96 (by decide) g3 g4 (fun q => ?_) (fun q => ?_)
      · replace h := h.1 q
        exact h
      · replace h := h.2 q
        obtain ⟨g5, h⟩ := h
        refine en_iload mc147_99 rfl ?_
        refine en_if_lt 119 mc147_101 (by decide) g5 (fun q => ?_) (fun q => ?_)
        · replace h := h.1 q
          exact h
        · replace h := h.2 q
          obtain ⟨g6, h⟩ := h
          refine en_iload mc147_104 rfl ?_
          refine en_aload_n mc147_106 rfl ?_
          refine en_getI mv147 mc147_107 (lk_f7_202) (⟨rfl, by decide⟩ : mt_kd[72]? = some (.inl 7) ∧ 72 < 99) (Or.inl rfl) ?_
          refine en_iconst mc147_110 ?_
          refine en_iadd mc147_111 ?_
          refine en_icmp_ge 119 mc147_112 (by decide) g5 g6 (fun q => ?_) (fun q => ?_)
          · replace h := h.1 q
            exact h
          · replace h := h.2 q
            refine en_iconst mc147_115 ?_
            refine en_goto 120 mc147_116 (by decide) ?_
            exact h
theorem vc147_119 {sc : Nat × (Int → Int)} {Q : mm_R → mm_M → Prop} {M : mm_M} {l1 : Int} {l2 : Int} {l3 : Int} {l4 : Int} {l5 : Int} {l6 : Int} {l7 : Int} {l8 : mm_V} (ho : mr_ok M)
    (h : en_R sc 147 120 [mm_r 72, mm_i l1, mm_i l2, mm_i l3, mm_i l4, mm_i l5, mm_i l6, mm_i l7, l8] [mm_i 0] M Q) : en_R sc 147 119 [mm_r 72, mm_i l1, mm_i l2, mm_i l3, mm_i l4, mm_i l5, mm_i l6, mm_i l7, l8] [] M Q := by
  refine en_iconst mc147_119 ?_
  exact h
theorem vc147_120 {sc : Nat × (Int → Int)} {Q : mm_R → mm_M → Prop} {M : mm_M} {l1 : Int} {l2 : Int} {l3 : Int} {l4 : Int} {l5 : Int} {l6 : Int} {l7 : Int} {l8 : mm_V} {s0 : Int} (ho : mr_ok M) (hg_s0 : mr_rg s0)
    (h : (s0 = 0 → en_R sc 147 55 [mm_r 72, mm_i l1, mm_i l2, mm_i l3, mm_i l4, mm_i (l5 + 1), mm_i l6, mm_i l7, mm_i s0] [] M Q) ∧ (¬ s0 = 0 → 0 ≤ ((l7 * ((M.1 72 23) + 2)) + l6) ∧ (((l7 * ((M.1 72 23) + 2)) + l6) < 648000 ∧ (((M.1 94 ((l7 * ((M.1 72 23) + 2)) + l6)) ≠ 0 → en_R sc 147 55 [mm_r 72, mm_i l1, mm_i l2, mm_i l3, mm_i l4, mm_i (l5 + 1), mm_i l6, mm_i l7, mm_i s0] [] M Q) ∧ (¬ ((M.1 94 ((l7 * ((M.1 72 23) + 2)) + l6)) ≠ 0) → 0 ≤ ((l7 * ((M.1 72 23) + 2)) + l6) ∧ (((l7 * ((M.1 72 23) + 2)) + l6) < 648000 ∧ (0 ≤ l2 ∧ (l2 < 163000 ∧ (mr_rg ((l7 * (((mm_putN M 94 ((l7 * ((M.1 72 23) + 2)) + l6) 1).1 72 23) + 2)) + l6) ∧ (en_R sc 147 55 [mm_r 72, mm_i l1, mm_i (l2 + 1), mm_i l3, mm_i l4, mm_i (l5 + 1), mm_i l6, mm_i l7, mm_i s0] [] (mm_putN (mm_putN M 94 ((l7 * ((M.1 72 23) + 2)) + l6) 1) 95 l2 ((l7 * (((mm_putN M 94 ((l7 * ((M.1 72 23) + 2)) + l6) 1).1 72 23) + 2)) + l6)) Q)))))))))) : en_R sc 147 120 [mm_r 72, mm_i l1, mm_i l2, mm_i l3, mm_i l4, mm_i l5, mm_i l6, mm_i l7, l8] [mm_i s0] M Q := by
  refine en_istore (ls' := [mm_r 72, mm_i l1, mm_i l2, mm_i l3, mm_i l4, mm_i l5, mm_i l6, mm_i l7, mm_i s0]) mc147_120 (Nat.le_of_ble_eq_true rfl) rfl ?_
  refine en_iload mc147_122 rfl ?_
  refine en_if_eq 186 mc147_124 (by decide) hg_s0 (fun q => ?_) (fun q => ?_)
  · replace h := h.1 q
    refine en_iinc (ls' := [mm_r 72, mm_i l1, mm_i l2, mm_i l3, mm_i l4, mm_i (l5 + 1), mm_i l6, mm_i l7, mm_i s0]) mc147_186 rfl rfl ?_
    refine en_goto 55 mc147_189 (by decide) ?_
    exact h
  · replace h := h.2 q
    obtain ⟨g1, h⟩ := h
    obtain ⟨g2, h⟩ := h
    refine en_aload_n mc147_127 rfl ?_
    refine en_getR (b := 94) mv147 mc147_128 (lk_f7_76) (⟨rfl, by decide⟩ : mt_kd[72]? = some (.inl 7) ∧ 72 < 99) rfl (mk_fc ho (by decide +kernel)) ?_
    refine en_iload mc147_131 rfl ?_
    refine en_aload_n mc147_133 rfl ?_
    refine en_getI mv147 mc147_134 (lk_f7_199) (⟨rfl, by decide⟩ : mt_kd[72]? = some (.inl 7) ∧ 72 < 99) (Or.inl rfl) ?_
    refine en_iconst mc147_137 ?_
    refine en_iadd mc147_138 ?_
    refine en_imul mc147_139 ?_
    refine en_iload mc147_140 rfl ?_
    refine en_iadd mc147_142 ?_
    refine en_bald mc147_143 (⟨rfl, by decide, by decide⟩ : mt_kd[94]? = some (.inr (.boolean, 648000)) ∧ 94 < 99 ∧ 648000 < 2147483648) g1 g2 ?_
    refine en_if_ne 186 mc147_144 (by decide) (ho.2.1 94 ((l7 * ((M.1 72 23) + 2)) + l6) (by unfold mr_lg; omega)) (fun q => ?_) (fun q => ?_)
    · replace h := h.1 q
      refine en_iinc (ls' := [mm_r 72, mm_i l1, mm_i l2, mm_i l3, mm_i l4, mm_i (l5 + 1), mm_i l6, mm_i l7, mm_i s0]) mc147_186 rfl rfl ?_
      refine en_goto 55 mc147_189 (by decide) ?_
      exact h
    · replace h := h.2 q
      obtain ⟨g3, h⟩ := h
      obtain ⟨g4, h⟩ := h
      obtain ⟨g5, h⟩ := h
      obtain ⟨g6, h⟩ := h
      obtain ⟨g7, h⟩ := h
      refine en_aload_n mc147_147 rfl ?_
      refine en_getR (b := 94) mv147 mc147_148 (lk_f7_76) (⟨rfl, by decide⟩ : mt_kd[72]? = some (.inl 7) ∧ 72 < 99) rfl (mk_fc ho (by decide +kernel)) ?_
      refine en_iload mc147_151 rfl ?_
      refine en_aload_n mc147_153 rfl ?_
      refine en_getI mv147 mc147_154 (lk_f7_199) (⟨rfl, by decide⟩ : mt_kd[72]? = some (.inl 7) ∧ 72 < 99) (Or.inl rfl) ?_
      refine en_iconst mc147_157 ?_
      refine en_iadd mc147_158 ?_
      refine en_imul mc147_159 ?_
      refine en_iload mc147_160 rfl ?_
      refine en_iadd mc147_162 ?_
      refine en_iconst mc147_163 ?_
      refine en_bast mc147_164 (⟨rfl, by decide, by decide⟩ : mt_kd[94]? = some (.inr (.boolean, 648000)) ∧ 94 < 99 ∧ 648000 < 2147483648) g3 g4 (by decide) ?_
      refine en_aload_n mc147_165 rfl ?_
      refine en_getR (b := 95) mv147 mc147_166 (lk_f7_80) (⟨rfl, by decide⟩ : mt_kd[72]? = some (.inl 7) ∧ 72 < 99) rfl (mk_fc (mr_ok_putI (a := 94) (k := ((l7 * ((M.1 72 23) + 2)) + l6)) ho (mk_01 (by decide))) (by decide +kernel)) ?_
      refine en_iload_n mc147_169 rfl ?_
      refine en_iload mc147_170 rfl ?_
      refine en_aload_n mc147_172 rfl ?_
      refine en_getI mv147 mc147_173 (lk_f7_199) (⟨rfl, by decide⟩ : mt_kd[72]? = some (.inl 7) ∧ 72 < 99) (Or.inl rfl) ?_
      refine en_iconst mc147_176 ?_
      refine en_iadd mc147_177 ?_
      refine en_imul mc147_178 ?_
      refine en_iload mc147_179 rfl ?_
      refine en_iadd mc147_181 ?_
      refine en_iast mc147_182 (⟨rfl, by decide, by decide⟩ : mt_kd[95]? = some (.inr (.int, 163000)) ∧ 95 < 99 ∧ 163000 < 2147483648) g5 g6 g7 ?_
      refine en_iinc (ls' := [mm_r 72, mm_i l1, mm_i (l2 + 1), mm_i l3, mm_i l4, mm_i l5, mm_i l6, mm_i l7, mm_i s0]) mc147_183 rfl rfl ?_
      refine en_iinc (ls' := [mm_r 72, mm_i l1, mm_i (l2 + 1), mm_i l3, mm_i l4, mm_i (l5 + 1), mm_i l6, mm_i l7, mm_i s0]) mc147_186 rfl rfl ?_
      refine en_goto 55 mc147_189 (by decide) ?_
      exact h
/-! 148: CellAreasModel.holesOf(I)I -/
theorem mc148_0 : mr_C 148 0 = some (.aload_n 0, 1) := by decide +kernel
theorem mc148_1 : mr_C 148 1 = some (.iload_n 1, 1) := by decide +kernel
theorem mc148_2 : mr_C 148 2 = some (.invokevirtual 220, 3) := by decide +kernel
theorem mc148_5 : mr_C 148 5 = some (.iconst 0, 1) := by decide +kernel
theorem mc148_6 : mr_C 148 6 = some (.istore_n 2, 1) := by decide +kernel
theorem mc148_7 : mr_C 148 7 = some (.aload_n 0, 1) := by decide +kernel
theorem mc148_8 : mr_C 148 8 = some (.getfield 199, 3) := by decide +kernel
theorem mc148_11 : mr_C 148 11 = some (.iconst 2, 1) := by decide +kernel
theorem mc148_12 : mr_C 148 12 = some (.iadd, 1) := by decide +kernel
theorem mc148_13 : mr_C 148 13 = some (.aload_n 0, 1) := by decide +kernel
theorem mc148_14 : mr_C 148 14 = some (.getfield 202, 3) := by decide +kernel
theorem mc148_17 : mr_C 148 17 = some (.iconst 2, 1) := by decide +kernel
theorem mc148_18 : mr_C 148 18 = some (.iadd, 1) := by decide +kernel
theorem mc148_19 : mr_C 148 19 = some (.imul, 1) := by decide +kernel
theorem mc148_20 : mr_C 148 20 = some (.istore_n 3, 1) := by decide +kernel
theorem mc148_21 : mr_C 148 21 = some (.iconst 0, 1) := by decide +kernel
theorem mc148_22 : mr_C 148 22 = some (.istore 4, 2) := by decide +kernel
theorem mc148_24 : mr_C 148 24 = some (.iload 4, 2) := by decide +kernel
theorem mc148_26 : mr_C 148 26 = some (.iload_n 3, 1) := by decide +kernel
theorem mc148_27 : mr_C 148 27 = some (.if_icmp .ge (42), 3) := by decide +kernel
theorem mc148_30 : mr_C 148 30 = some (.aload_n 0, 1) := by decide +kernel
theorem mc148_31 : mr_C 148 31 = some (.getfield 76, 3) := by decide +kernel
theorem mc148_34 : mr_C 148 34 = some (.iload 4, 2) := by decide +kernel
theorem mc148_36 : mr_C 148 36 = some (.aload_n 0, 1) := by decide +kernel
theorem mc148_37 : mr_C 148 37 = some (.iload 4, 2) := by decide +kernel
theorem mc148_39 : mr_C 148 39 = some (.aload_n 0, 1) := by decide +kernel
theorem mc148_40 : mr_C 148 40 = some (.getfield 199, 3) := by decide +kernel
theorem mc148_43 : mr_C 148 43 = some (.iconst 2, 1) := by decide +kernel
theorem mc148_44 : mr_C 148 44 = some (.iadd, 1) := by decide +kernel
theorem mc148_45 : mr_C 148 45 = some (.irem, 1) := by decide +kernel
theorem mc148_46 : mr_C 148 46 = some (.iconst 1, 1) := by decide +kernel
theorem mc148_47 : mr_C 148 47 = some (.isub, 1) := by decide +kernel
theorem mc148_48 : mr_C 148 48 = some (.iload 4, 2) := by decide +kernel
theorem mc148_50 : mr_C 148 50 = some (.aload_n 0, 1) := by decide +kernel
theorem mc148_51 : mr_C 148 51 = some (.getfield 199, 3) := by decide +kernel
theorem mc148_54 : mr_C 148 54 = some (.iconst 2, 1) := by decide +kernel
theorem mc148_55 : mr_C 148 55 = some (.iadd, 1) := by decide +kernel
theorem mc148_56 : mr_C 148 56 = some (.idiv, 1) := by decide +kernel
theorem mc148_57 : mr_C 148 57 = some (.iconst 1, 1) := by decide +kernel
theorem mc148_58 : mr_C 148 58 = some (.isub, 1) := by decide +kernel
theorem mc148_59 : mr_C 148 59 = some (.invokevirtual 205, 3) := by decide +kernel
theorem mc148_62 : mr_C 148 62 = some (.bastore, 1) := by decide +kernel
theorem mc148_63 : mr_C 148 63 = some (.iinc 4 (1), 3) := by decide +kernel
theorem mc148_66 : mr_C 148 66 = some (.goto (-42), 3) := by decide +kernel
theorem mc148_69 : mr_C 148 69 = some (.aload_n 0, 1) := by decide +kernel
theorem mc148_70 : mr_C 148 70 = some (.iconst 0, 1) := by decide +kernel
theorem mc148_71 : mr_C 148 71 = some (.invokevirtual 252, 3) := by decide +kernel
theorem mc148_74 : mr_C 148 74 = some (.iconst 0, 1) := by decide +kernel
theorem mc148_75 : mr_C 148 75 = some (.istore 4, 2) := by decide +kernel
theorem mc148_77 : mr_C 148 77 = some (.iload 4, 2) := by decide +kernel
theorem mc148_79 : mr_C 148 79 = some (.iload_n 3, 1) := by decide +kernel
theorem mc148_80 : mr_C 148 80 = some (.if_icmp .ge (28), 3) := by decide +kernel
theorem mc148_83 : mr_C 148 83 = some (.aload_n 0, 1) := by decide +kernel
theorem mc148_84 : mr_C 148 84 = some (.getfield 76, 3) := by decide +kernel
theorem mc148_87 : mr_C 148 87 = some (.iload 4, 2) := by decide +kernel
theorem mc148_89 : mr_C 148 89 = some (.baload, 1) := by decide +kernel
theorem mc148_90 : mr_C 148 90 = some (.ifCond .ne (12), 3) := by decide +kernel
theorem mc148_93 : mr_C 148 93 = some (.iinc 2 (1), 3) := by decide +kernel
theorem mc148_96 : mr_C 148 96 = some (.aload_n 0, 1) := by decide +kernel
theorem mc148_97 : mr_C 148 97 = some (.iload 4, 2) := by decide +kernel
theorem mc148_99 : mr_C 148 99 = some (.invokevirtual 252, 3) := by decide +kernel
theorem mc148_102 : mr_C 148 102 = some (.iinc 4 (1), 3) := by decide +kernel
theorem mc148_105 : mr_C 148 105 = some (.goto (-28), 3) := by decide +kernel
theorem mc148_108 : mr_C 148 108 = some (.iload_n 2, 1) := by decide +kernel
theorem mc148_109 : mr_C 148 109 = some (.ireturn, 1) := by decide +kernel
theorem vc148_0 {sc : Nat × (Int → Int)} {Q : mm_R → mm_M → Prop} {M : mm_M} {l1 : Int} (ho : mr_ok M)
    (h : en_CV sc 145 [mm_r 72, mm_i l1, mm_u, mm_u, mm_u] M (fun M2 => mr_ok M2 → en_R sc 148 24 [mm_r 72, mm_i l1, mm_i 0, mm_i (((M2.1 72 23) + 2) * ((M2.1 72 24) + 2)), mm_i 0] [] M2 Q) (fun e M9 => Q (.inr e) M9)) : en_R sc 148 0 [mm_r 72, mm_i l1, mm_u, mm_u, mm_u] [] M Q := by
  refine en_aload_n mc148_0 rfl ?_
  refine en_iload_n mc148_1 rfl ?_
  refine en_callV (lz := [mm_r 72, mm_i l1, mm_u, mm_u, mm_u]) mv148 mc148_2 rfl rfl (lk_m7_220) mv145 rfl (by decide) rfl (mk_cokV rfl (⟨rfl, by decide⟩ : mt_kd[72]? = some (.inl 7) ∧ 72 < 99)) rfl (mk_nh rfl _) ho ?_
  refine en_CV_mono h (fun M2 h => ?_) (fun _ _ h => h)
  intro ho3
  replace h := h ho3
  refine en_iconst mc148_5 ?_
  refine en_istore_n (ls' := [mm_r 72, mm_i l1, mm_i 0, mm_u, mm_u]) mc148_6 (Nat.le_of_ble_eq_true rfl) rfl ?_
  refine en_aload_n mc148_7 rfl ?_
  refine en_getI mv148 mc148_8 (lk_f7_199) (⟨rfl, by decide⟩ : mt_kd[72]? = some (.inl 7) ∧ 72 < 99) (Or.inl rfl) ?_
  refine en_iconst mc148_11 ?_
  refine en_iadd mc148_12 ?_
  refine en_aload_n mc148_13 rfl ?_
  refine en_getI mv148 mc148_14 (lk_f7_202) (⟨rfl, by decide⟩ : mt_kd[72]? = some (.inl 7) ∧ 72 < 99) (Or.inl rfl) ?_
  refine en_iconst mc148_17 ?_
  refine en_iadd mc148_18 ?_
  refine en_imul mc148_19 ?_
  refine en_istore_n (ls' := [mm_r 72, mm_i l1, mm_i 0, mm_i (((M2.1 72 23) + 2) * ((M2.1 72 24) + 2)), mm_u]) mc148_20 (Nat.le_of_ble_eq_true rfl) rfl ?_
  refine en_iconst mc148_21 ?_
  refine en_istore (ls' := [mm_r 72, mm_i l1, mm_i 0, mm_i (((M2.1 72 23) + 2) * ((M2.1 72 24) + 2)), mm_i 0]) mc148_22 (Nat.le_of_ble_eq_true rfl) rfl ?_
  exact h
theorem vc148_24 {sc : Nat × (Int → Int)} {Q : mm_R → mm_M → Prop} {M : mm_M} {l1 : Int} {l2 : Int} {l3 : Int} {l4 : Int} (ho : mr_ok M) (hg_l4 : mr_rg l4) (hg_l3 : mr_rg l3)
    (h : (l3 ≤ l4 → en_CV sc 147 [mm_r 72, mm_i 0, mm_u, mm_u, mm_u, mm_u, mm_u, mm_u, mm_u] M (fun M2 => mr_ok M2 → en_R sc 148 77 [mm_r 72, mm_i l1, mm_i l2, mm_i l3, mm_i 0] [] M2 Q) (fun e M9 => Q (.inr e) M9)) ∧ (¬ l3 ≤ l4 → mr_rg ((M.1 72 23) + 2) ∧ (0 ≤ l4 ∧ (0 < ((M.1 72 23) + 2) ∧ (0 ≤ l4 ∧ (0 < ((M.1 72 23) + 2) ∧ (en_CI sc 146 [mm_r 72, mm_i ((l4 % ((M.1 72 23) + 2)) - 1), mm_i ((l4 / ((M.1 72 23) + 2)) - 1)] M (fun x9 M10 => mr_ok M10 → 0 ≤ l4 ∧ (l4 < 648000 ∧ ((x9 = 0 ∨ x9 = 1) ∧ (en_R sc 148 24 [mm_r 72, mm_i l1, mm_i l2, mm_i l3, mm_i (l4 + 1)] [] (mm_putN M10 94 l4 x9) Q)))) (fun e M9 => Q (.inr e) M9)))))))) : en_R sc 148 24 [mm_r 72, mm_i l1, mm_i l2, mm_i l3, mm_i l4] [] M Q := by
  refine en_iload mc148_24 rfl ?_
  refine en_iload_n mc148_26 rfl ?_
  refine en_icmp_ge 69 mc148_27 (by decide) hg_l4 hg_l3 (fun q => ?_) (fun q => ?_)
  · replace h := h.1 q
    refine en_aload_n mc148_69 rfl ?_
    refine en_iconst mc148_70 ?_
    refine en_callV (lz := [mm_r 72, mm_i 0, mm_u, mm_u, mm_u, mm_u, mm_u, mm_u, mm_u]) mv148 mc148_71 rfl rfl (lk_m7_252) mv147 rfl (by decide) rfl (mk_cokV rfl (⟨rfl, by decide⟩ : mt_kd[72]? = some (.inl 7) ∧ 72 < 99)) rfl (mk_nh rfl _) ho ?_
    refine en_CV_mono h (fun M2 h => ?_) (fun _ _ h => h)
    intro ho3
    replace h := h ho3
    refine en_iconst mc148_74 ?_
    refine en_istore (ls' := [mm_r 72, mm_i l1, mm_i l2, mm_i l3, mm_i 0]) mc148_75 (Nat.le_of_ble_eq_true rfl) rfl ?_
    exact h
  · replace h := h.2 q
    obtain ⟨g4, h⟩ := h
    obtain ⟨g5, h⟩ := h
    obtain ⟨g6, h⟩ := h
    obtain ⟨g7, h⟩ := h
    obtain ⟨g8, h⟩ := h
    refine en_aload_n mc148_30 rfl ?_
    refine en_getR (b := 94) mv148 mc148_31 (lk_f7_76) (⟨rfl, by decide⟩ : mt_kd[72]? = some (.inl 7) ∧ 72 < 99) rfl (mk_fc ho (by decide +kernel)) ?_
    refine en_iload mc148_34 rfl ?_
    refine en_aload_n mc148_36 rfl ?_
    refine en_iload mc148_37 rfl ?_
    refine en_aload_n mc148_39 rfl ?_
    refine en_getI mv148 mc148_40 (lk_f7_199) (⟨rfl, by decide⟩ : mt_kd[72]? = some (.inl 7) ∧ 72 < 99) (Or.inl rfl) ?_
    refine en_iconst mc148_43 ?_
    refine en_iadd mc148_44 ?_
    refine en_irem mc148_45 hg_l4 g4 g5 g6 ?_
    refine en_iconst mc148_46 ?_
    refine en_isub mc148_47 ?_
    refine en_iload mc148_48 rfl ?_
    refine en_aload_n mc148_50 rfl ?_
    refine en_getI mv148 mc148_51 (lk_f7_199) (⟨rfl, by decide⟩ : mt_kd[72]? = some (.inl 7) ∧ 72 < 99) (Or.inl rfl) ?_
    refine en_iconst mc148_54 ?_
    refine en_iadd mc148_55 ?_
    refine en_idiv mc148_56 hg_l4 g4 g7 g8 ?_
    refine en_iconst mc148_57 ?_
    refine en_isub mc148_58 ?_
    refine en_callI (lz := [mm_r 72, mm_i ((l4 % ((M.1 72 23) + 2)) - 1), mm_i ((l4 / ((M.1 72 23) + 2)) - 1)]) mv148 mc148_59 rfl rfl (lk_m7_205) mv146 rfl (by decide) rfl (mk_cokV rfl (⟨rfl, by decide⟩ : mt_kd[72]? = some (.inl 7) ∧ 72 < 99)) rfl (mk_nh rfl _) ho ?_
    refine en_CI_mono h (fun x9 M10 h => ?_) (fun _ _ h => h)
    intro ho11
    replace h := h ho11
    obtain ⟨g12, h⟩ := h
    obtain ⟨g13, h⟩ := h
    obtain ⟨g14, h⟩ := h
    refine en_bast mc148_62 (⟨rfl, by decide, by decide⟩ : mt_kd[94]? = some (.inr (.boolean, 648000)) ∧ 94 < 99 ∧ 648000 < 2147483648) g12 g13 g14 ?_
    refine en_iinc (ls' := [mm_r 72, mm_i l1, mm_i l2, mm_i l3, mm_i (l4 + 1)]) mc148_63 rfl rfl ?_
    refine en_goto 24 mc148_66 (by decide) ?_
    exact h
theorem vc148_77 {sc : Nat × (Int → Int)} {Q : mm_R → mm_M → Prop} {M : mm_M} {l1 : Int} {l2 : Int} {l3 : Int} {l4 : Int} (ho : mr_ok M) (hg_l4 : mr_rg l4) (hg_l3 : mr_rg l3)
    (h : (l3 ≤ l4 → Q (.inl (some (mm_i l2))) M) ∧ (¬ l3 ≤ l4 → 0 ≤ l4 ∧ (l4 < 648000 ∧ (((M.1 94 l4) ≠ 0 → en_R sc 148 77 [mm_r 72, mm_i l1, mm_i l2, mm_i l3, mm_i (l4 + 1)] [] M Q) ∧ (¬ ((M.1 94 l4) ≠ 0) → en_CV sc 147 [mm_r 72, mm_i l4, mm_u, mm_u, mm_u, mm_u, mm_u, mm_u, mm_u] M (fun M4 => mr_ok M4 → en_R sc 148 77 [mm_r 72, mm_i l1, mm_i (l2 + 1), mm_i l3, mm_i (l4 + 1)] [] M4 Q) (fun e M9 => Q (.inr e) M9)))))) : en_R sc 148 77 [mm_r 72, mm_i l1, mm_i l2, mm_i l3, mm_i l4] [] M Q := by
  refine en_iload mc148_77 rfl ?_
  refine en_iload_n mc148_79 rfl ?_
  refine en_icmp_ge 108 mc148_80 (by decide) hg_l4 hg_l3 (fun q => ?_) (fun q => ?_)
  · replace h := h.1 q
    refine en_iload_n mc148_108 rfl ?_
    exact en_iret mv148 mc148_109 rfl h
  · replace h := h.2 q
    obtain ⟨g1, h⟩ := h
    obtain ⟨g2, h⟩ := h
    refine en_aload_n mc148_83 rfl ?_
    refine en_getR (b := 94) mv148 mc148_84 (lk_f7_76) (⟨rfl, by decide⟩ : mt_kd[72]? = some (.inl 7) ∧ 72 < 99) rfl (mk_fc ho (by decide +kernel)) ?_
    refine en_iload mc148_87 rfl ?_
    refine en_bald mc148_89 (⟨rfl, by decide, by decide⟩ : mt_kd[94]? = some (.inr (.boolean, 648000)) ∧ 94 < 99 ∧ 648000 < 2147483648) g1 g2 ?_
    refine en_if_ne 102 mc148_90 (by decide) (ho.2.1 94 l4 (by unfold mr_lg; omega)) (fun q => ?_) (fun q => ?_)
    · replace h := h.1 q
      refine en_iinc (ls' := [mm_r 72, mm_i l1, mm_i l2, mm_i l3, mm_i (l4 + 1)]) mc148_102 rfl rfl ?_
      refine en_goto 77 mc148_105 (by decide) ?_
      exact h
    · replace h := h.2 q
      refine en_iinc (ls' := [mm_r 72, mm_i l1, mm_i (l2 + 1), mm_i l3, mm_i l4]) mc148_93 rfl rfl ?_
      refine en_aload_n mc148_96 rfl ?_
      refine en_iload mc148_97 rfl ?_
      refine en_callV (lz := [mm_r 72, mm_i l4, mm_u, mm_u, mm_u, mm_u, mm_u, mm_u, mm_u]) mv148 mc148_99 rfl rfl (lk_m7_252) mv147 rfl (by decide) rfl (mk_cokV rfl (⟨rfl, by decide⟩ : mt_kd[72]? = some (.inl 7) ∧ 72 < 99)) rfl (mk_nh rfl _) ho ?_
      refine en_CV_mono h (fun M4 h => ?_) (fun _ _ h => h)
      intro ho5
      replace h := h ho5
      refine en_iinc (ls' := [mm_r 72, mm_i l1, mm_i (l2 + 1), mm_i l3, mm_i (l4 + 1)]) mc148_102 rfl rfl ?_
      refine en_goto 77 mc148_105 (by decide) ?_
      exact h
/-! 149: CellAreasModel.leads(III)Z -/
theorem mc149_0 : mr_C 149 0 = some (.aload_n 0, 1) := by decide +kernel
theorem mc149_1 : mr_C 149 1 = some (.iload_n 1, 1) := by decide +kernel
theorem mc149_2 : mr_C 149 2 = some (.iload_n 2, 1) := by decide +kernel
theorem mc149_3 : mr_C 149 3 = some (.invokevirtual 205, 3) := by decide +kernel
theorem mc149_6 : mr_C 149 6 = some (.istore 4, 2) := by decide +kernel
theorem mc149_8 : mr_C 149 8 = some (.aload_n 0, 1) := by decide +kernel
theorem mc149_9 : mr_C 149 9 = some (.iload_n 1, 1) := by decide +kernel
theorem mc149_10 : mr_C 149 10 = some (.iconst 1, 1) := by decide +kernel
theorem mc149_11 : mr_C 149 11 = some (.isub, 1) := by decide +kernel
theorem mc149_12 : mr_C 149 12 = some (.iload_n 2, 1) := by decide +kernel
theorem mc149_13 : mr_C 149 13 = some (.invokevirtual 205, 3) := by decide +kernel
theorem mc149_16 : mr_C 149 16 = some (.istore 5, 2) := by decide +kernel
theorem mc149_18 : mr_C 149 18 = some (.aload_n 0, 1) := by decide +kernel
theorem mc149_19 : mr_C 149 19 = some (.iload_n 1, 1) := by decide +kernel
theorem mc149_20 : mr_C 149 20 = some (.iconst 1, 1) := by decide +kernel
theorem mc149_21 : mr_C 149 21 = some (.isub, 1) := by decide +kernel
theorem mc149_22 : mr_C 149 22 = some (.iload_n 2, 1) := by decide +kernel
theorem mc149_23 : mr_C 149 23 = some (.iconst 1, 1) := by decide +kernel
theorem mc149_24 : mr_C 149 24 = some (.isub, 1) := by decide +kernel
theorem mc149_25 : mr_C 149 25 = some (.invokevirtual 205, 3) := by decide +kernel
theorem mc149_28 : mr_C 149 28 = some (.istore 6, 2) := by decide +kernel
theorem mc149_30 : mr_C 149 30 = some (.aload_n 0, 1) := by decide +kernel
theorem mc149_31 : mr_C 149 31 = some (.iload_n 1, 1) := by decide +kernel
theorem mc149_32 : mr_C 149 32 = some (.iload_n 2, 1) := by decide +kernel
theorem mc149_33 : mr_C 149 33 = some (.iconst 1, 1) := by decide +kernel
theorem mc149_34 : mr_C 149 34 = some (.isub, 1) := by decide +kernel
theorem mc149_35 : mr_C 149 35 = some (.invokevirtual 205, 3) := by decide +kernel
theorem mc149_38 : mr_C 149 38 = some (.istore 7, 2) := by decide +kernel
theorem mc149_40 : mr_C 149 40 = some (.iload_n 3, 1) := by decide +kernel
theorem mc149_41 : mr_C 149 41 = some (.ifCond .ne (21), 3) := by decide +kernel
theorem mc149_44 : mr_C 149 44 = some (.iload 4, 2) := by decide +kernel
theorem mc149_46 : mr_C 149 46 = some (.ifCond .eq (12), 3) := by decide +kernel
theorem mc149_49 : mr_C 149 49 = some (.iload 7, 2) := by decide +kernel
theorem mc149_51 : mr_C 149 51 = some (.ifCond .ne (7), 3) := by decide +kernel
theorem mc149_54 : mr_C 149 54 = some (.iconst 1, 1) := by decide +kernel
theorem mc149_55 : mr_C 149 55 = some (.goto 68, 3) := by decide +kernel
theorem mc149_58 : mr_C 149 58 = some (.iconst 0, 1) := by decide +kernel
theorem mc149_59 : mr_C 149 59 = some (.goto 64, 3) := by decide +kernel
theorem mc149_62 : mr_C 149 62 = some (.iload_n 3, 1) := by decide +kernel
theorem mc149_63 : mr_C 149 63 = some (.iconst 1, 1) := by decide +kernel
theorem mc149_64 : mr_C 149 64 = some (.if_icmp .ne (21), 3) := by decide +kernel
theorem mc149_67 : mr_C 149 67 = some (.iload 5, 2) := by decide +kernel
theorem mc149_69 : mr_C 149 69 = some (.ifCond .eq (12), 3) := by decide +kernel
theorem mc149_72 : mr_C 149 72 = some (.iload 4, 2) := by decide +kernel
theorem mc149_74 : mr_C 149 74 = some (.ifCond .ne (7), 3) := by decide +kernel
theorem mc149_77 : mr_C 149 77 = some (.iconst 1, 1) := by decide +kernel
theorem mc149_78 : mr_C 149 78 = some (.goto 45, 3) := by decide +kernel
theorem mc149_81 : mr_C 149 81 = some (.iconst 0, 1) := by decide +kernel
theorem mc149_82 : mr_C 149 82 = some (.goto 41, 3) := by decide +kernel
theorem mc149_85 : mr_C 149 85 = some (.iload_n 3, 1) := by decide +kernel
theorem mc149_86 : mr_C 149 86 = some (.iconst 2, 1) := by decide +kernel
theorem mc149_87 : mr_C 149 87 = some (.if_icmp .ne (21), 3) := by decide +kernel
theorem mc149_90 : mr_C 149 90 = some (.iload 6, 2) := by decide +kernel
theorem mc149_92 : mr_C 149 92 = some (.ifCond .eq (12), 3) := by decide +kernel
theorem mc149_95 : mr_C 149 95 = some (.iload 5, 2) := by decide +kernel
theorem mc149_97 : mr_C 149 97 = some (.ifCond .ne (7), 3) := by decide +kernel
theorem mc149_100 : mr_C 149 100 = some (.iconst 1, 1) := by decide +kernel
theorem mc149_101 : mr_C 149 101 = some (.goto 22, 3) := by decide +kernel
theorem mc149_104 : mr_C 149 104 = some (.iconst 0, 1) := by decide +kernel
theorem mc149_105 : mr_C 149 105 = some (.goto 18, 3) := by decide +kernel
theorem mc149_108 : mr_C 149 108 = some (.iload 7, 2) := by decide +kernel
theorem mc149_110 : mr_C 149 110 = some (.ifCond .eq (12), 3) := by decide +kernel
theorem mc149_113 : mr_C 149 113 = some (.iload 6, 2) := by decide +kernel
theorem mc149_115 : mr_C 149 115 = some (.ifCond .ne (7), 3) := by decide +kernel
theorem mc149_118 : mr_C 149 118 = some (.iconst 1, 1) := by decide +kernel
theorem mc149_119 : mr_C 149 119 = some (.goto 4, 3) := by decide +kernel
theorem mc149_122 : mr_C 149 122 = some (.iconst 0, 1) := by decide +kernel
theorem mc149_123 : mr_C 149 123 = some (.ireturn, 1) := by decide +kernel
theorem vc149_0 {sc : Nat × (Int → Int)} {Q : mm_R → mm_M → Prop} {M : mm_M} {l1 : Int} {l2 : Int} {l3 : Int} (ho : mr_ok M) (hg_l3 : mr_rg l3)
    (h : en_CI sc 146 [mm_r 72, mm_i l1, mm_i l2] M (fun x1 M2 => mr_ok M2 → en_CI sc 146 [mm_r 72, mm_i (l1 - 1), mm_i l2] M2 (fun x4 M5 => mr_ok M5 → en_CI sc 146 [mm_r 72, mm_i (l1 - 1), mm_i (l2 - 1)] M5 (fun x7 M8 => mr_ok M8 → en_CI sc 146 [mm_r 72, mm_i l1, mm_i (l2 - 1)] M8 (fun x10 M11 => mr_ok M11 → (l3 ≠ 0 → (l3 ≠ 1 → (l3 ≠ 2 → mr_rg x10 ∧ ((x10 = 0 → Q (.inl (some (mm_i 0))) M11) ∧ (¬ x10 = 0 → mr_rg x7 ∧ ((x7 ≠ 0 → Q (.inl (some (mm_i 0))) M11) ∧ (¬ (x7 ≠ 0) → Q (.inl (some (mm_i 1))) M11))))) ∧ (¬ (l3 ≠ 2) → mr_rg x7 ∧ ((x7 = 0 → Q (.inl (some (mm_i 0))) M11) ∧ (¬ x7 = 0 → mr_rg x4 ∧ ((x4 ≠ 0 → Q (.inl (some (mm_i 0))) M11) ∧ (¬ (x4 ≠ 0) → Q (.inl (some (mm_i 1))) M11)))))) ∧ (¬ (l3 ≠ 1) → mr_rg x4 ∧ ((x4 = 0 → Q (.inl (some (mm_i 0))) M11) ∧ (¬ x4 = 0 → mr_rg x1 ∧ ((x1 ≠ 0 → Q (.inl (some (mm_i 0))) M11) ∧ (¬ (x1 ≠ 0) → Q (.inl (some (mm_i 1))) M11)))))) ∧ (¬ (l3 ≠ 0) → mr_rg x1 ∧ ((x1 = 0 → Q (.inl (some (mm_i 0))) M11) ∧ (¬ x1 = 0 → mr_rg x10 ∧ ((x10 ≠ 0 → Q (.inl (some (mm_i 0))) M11) ∧ (¬ (x10 ≠ 0) → Q (.inl (some (mm_i 1))) M11)))))) (fun e M9 => Q (.inr e) M9)) (fun e M9 => Q (.inr e) M9)) (fun e M9 => Q (.inr e) M9)) (fun e M9 => Q (.inr e) M9)) : en_R sc 149 0 [mm_r 72, mm_i l1, mm_i l2, mm_i l3, mm_u, mm_u, mm_u, mm_u] [] M Q := by
  refine en_aload_n mc149_0 rfl ?_
  refine en_iload_n mc149_1 rfl ?_
  refine en_iload_n mc149_2 rfl ?_
  refine en_callI (lz := [mm_r 72, mm_i l1, mm_i l2]) mv149 mc149_3 rfl rfl (lk_m7_205) mv146 rfl (by decide) rfl (mk_cokV rfl (⟨rfl, by decide⟩ : mt_kd[72]? = some (.inl 7) ∧ 72 < 99)) rfl (mk_nh rfl _) ho ?_
  refine en_CI_mono h (fun x1 M2 h => ?_) (fun _ _ h => h)
  intro ho3
  replace h := h ho3
  refine en_istore (ls' := [mm_r 72, mm_i l1, mm_i l2, mm_i l3, mm_i x1, mm_u, mm_u, mm_u]) mc149_6 (Nat.le_of_ble_eq_true rfl) rfl ?_
  refine en_aload_n mc149_8 rfl ?_
  refine en_iload_n mc149_9 rfl ?_
  refine en_iconst mc149_10 ?_
  refine en_isub mc149_11 ?_
  refine en_iload_n mc149_12 rfl ?_
  refine en_callI (lz := [mm_r 72, mm_i (l1 - 1), mm_i l2]) mv149 mc149_13 rfl rfl (lk_m7_205) mv146 rfl (by decide) rfl (mk_cokV rfl (⟨rfl, by decide⟩ : mt_kd[72]? = some (.inl 7) ∧ 72 < 99)) rfl (mk_nh rfl _) ho3 ?_
  refine en_CI_mono h (fun x4 M5 h => ?_) (fun _ _ h => h)
  intro ho6
  replace h := h ho6
  refine en_istore (ls' := [mm_r 72, mm_i l1, mm_i l2, mm_i l3, mm_i x1, mm_i x4, mm_u, mm_u]) mc149_16 (Nat.le_of_ble_eq_true rfl) rfl ?_
  refine en_aload_n mc149_18 rfl ?_
  refine en_iload_n mc149_19 rfl ?_
  refine en_iconst mc149_20 ?_
  refine en_isub mc149_21 ?_
  refine en_iload_n mc149_22 rfl ?_
  refine en_iconst mc149_23 ?_
  refine en_isub mc149_24 ?_
  refine en_callI (lz := [mm_r 72, mm_i (l1 - 1), mm_i (l2 - 1)]) mv149 mc149_25 rfl rfl (lk_m7_205) mv146 rfl (by decide) rfl (mk_cokV rfl (⟨rfl, by decide⟩ : mt_kd[72]? = some (.inl 7) ∧ 72 < 99)) rfl (mk_nh rfl _) ho6 ?_
  refine en_CI_mono h (fun x7 M8 h => ?_) (fun _ _ h => h)
  intro ho9
  replace h := h ho9
  refine en_istore (ls' := [mm_r 72, mm_i l1, mm_i l2, mm_i l3, mm_i x1, mm_i x4, mm_i x7, mm_u]) mc149_28 (Nat.le_of_ble_eq_true rfl) rfl ?_
  refine en_aload_n mc149_30 rfl ?_
  refine en_iload_n mc149_31 rfl ?_
  refine en_iload_n mc149_32 rfl ?_
  refine en_iconst mc149_33 ?_
  refine en_isub mc149_34 ?_
  refine en_callI (lz := [mm_r 72, mm_i l1, mm_i (l2 - 1)]) mv149 mc149_35 rfl rfl (lk_m7_205) mv146 rfl (by decide) rfl (mk_cokV rfl (⟨rfl, by decide⟩ : mt_kd[72]? = some (.inl 7) ∧ 72 < 99)) rfl (mk_nh rfl _) ho9 ?_
  refine en_CI_mono h (fun x10 M11 h => ?_) (fun _ _ h => h)
  intro ho12
  replace h := h ho12
  refine en_istore (ls' := [mm_r 72, mm_i l1, mm_i l2, mm_i l3, mm_i x1, mm_i x4, mm_i x7, mm_i x10]) mc149_38 (Nat.le_of_ble_eq_true rfl) rfl ?_
  refine en_iload_n mc149_40 rfl ?_
  refine en_if_ne 62 mc149_41 (by decide) hg_l3 (fun q => ?_) (fun q => ?_)
  · replace h := h.1 q
    refine en_iload_n mc149_62 rfl ?_
    refine en_iconst mc149_63 ?_
    refine en_icmp_ne 85 mc149_64 (by decide) hg_l3 (⟨by decide, by decide⟩ : mr_rg 1) (fun q => ?_) (fun q => ?_)
    · replace h := h.1 q
      refine en_iload_n mc149_85 rfl ?_
      refine en_iconst mc149_86 ?_
      refine en_icmp_ne 108 mc149_87 (by decide) hg_l3 (⟨by decide, by decide⟩ : mr_rg 2) (fun q => ?_) (fun q => ?_)
      · replace h := h.1 q
        obtain ⟨g13, h⟩ := h
        refine en_iload mc149_108 rfl ?_
        refine en_if_eq 122 mc149_110 (by decide) g13 (fun q => ?_) (fun q => ?_)
        · replace h := h.1 q
          refine en_iconst mc149_122 ?_
          exact en_zret mv149 mc149_123 rfl (by decide) h
        · replace h := h.2 q
          obtain ⟨g14, h⟩ := h
          refine en_iload mc149_113 rfl ?_
          refine en_if_ne 122 mc149_115 (by decide) g14 (fun q => ?_) (fun q => ?_)
          · replace h := h.1 q
            refine en_iconst mc149_122 ?_
            exact en_zret mv149 mc149_123 rfl (by decide) h
          · replace h := h.2 q
            refine en_iconst mc149_118 ?_
            refine en_goto 123 mc149_119 (by decide) ?_
            exact en_zret mv149 mc149_123 rfl (by decide) h
      · replace h := h.2 q
        obtain ⟨g15, h⟩ := h
        refine en_iload mc149_90 rfl ?_
        refine en_if_eq 104 mc149_92 (by decide) g15 (fun q => ?_) (fun q => ?_)
        · replace h := h.1 q
          refine en_iconst mc149_104 ?_
          refine en_goto 123 mc149_105 (by decide) ?_
          exact en_zret mv149 mc149_123 rfl (by decide) h
        · replace h := h.2 q
          obtain ⟨g16, h⟩ := h
          refine en_iload mc149_95 rfl ?_
          refine en_if_ne 104 mc149_97 (by decide) g16 (fun q => ?_) (fun q => ?_)
          · replace h := h.1 q
            refine en_iconst mc149_104 ?_
            refine en_goto 123 mc149_105 (by decide) ?_
            exact en_zret mv149 mc149_123 rfl (by decide) h
          · replace h := h.2 q
            refine en_iconst mc149_100 ?_
            refine en_goto 123 mc149_101 (by decide) ?_
            exact en_zret mv149 mc149_123 rfl (by decide) h
    · replace h := h.2 q
      obtain ⟨g17, h⟩ := h
      refine en_iload mc149_67 rfl ?_
      refine en_if_eq 81 mc149_69 (by decide) g17 (fun q => ?_) (fun q => ?_)
      · replace h := h.1 q
        refine en_iconst mc149_81 ?_
        refine en_goto 123 mc149_82 (by decide) ?_
        exact en_zret mv149 mc149_123 rfl (by decide) h
      · replace h := h.2 q
        obtain ⟨g18, h⟩ := h
        refine en_iload mc149_72 rfl ?_
        refine en_if_ne 81 mc149_74 (by decide) g18 (fun q => ?_) (fun q => ?_)
        · replace h := h.1 q
          refine en_iconst mc149_81 ?_
          refine en_goto 123 mc149_82 (by decide) ?_
          exact en_zret mv149 mc149_123 rfl (by decide) h
        · replace h := h.2 q
          refine en_iconst mc149_77 ?_
          refine en_goto 123 mc149_78 (by decide) ?_
          exact en_zret mv149 mc149_123 rfl (by decide) h
  · replace h := h.2 q
    obtain ⟨g19, h⟩ := h
    refine en_iload mc149_44 rfl ?_
    refine en_if_eq 58 mc149_46 (by decide) g19 (fun q => ?_) (fun q => ?_)
    · replace h := h.1 q
      refine en_iconst mc149_58 ?_
      refine en_goto 123 mc149_59 (by decide) ?_
      exact en_zret mv149 mc149_123 rfl (by decide) h
    · replace h := h.2 q
      obtain ⟨g20, h⟩ := h
      refine en_iload mc149_49 rfl ?_
      refine en_if_ne 58 mc149_51 (by decide) g20 (fun q => ?_) (fun q => ?_)
      · replace h := h.1 q
        refine en_iconst mc149_58 ?_
        refine en_goto 123 mc149_59 (by decide) ?_
        exact en_zret mv149 mc149_123 rfl (by decide) h
      · replace h := h.2 q
        refine en_iconst mc149_54 ?_
        refine en_goto 123 mc149_55 (by decide) ?_
        exact en_zret mv149 mc149_123 rfl (by decide) h
/-! 150: CellAreasModel.sideOf(III)I -/
theorem mc150_0 : mr_C 150 0 = some (.iconst 4, 1) := by decide +kernel
theorem mc150_1 : mr_C 150 1 = some (.iload_n 2, 1) := by decide +kernel
theorem mc150_2 : mr_C 150 2 = some (.aload_n 0, 1) := by decide +kernel
theorem mc150_3 : mr_C 150 3 = some (.getfield 199, 3) := by decide +kernel
theorem mc150_6 : mr_C 150 6 = some (.iconst 1, 1) := by decide +kernel
theorem mc150_7 : mr_C 150 7 = some (.iadd, 1) := by decide +kernel
theorem mc150_8 : mr_C 150 8 = some (.imul, 1) := by decide +kernel
theorem mc150_9 : mr_C 150 9 = some (.iload_n 1, 1) := by decide +kernel
theorem mc150_10 : mr_C 150 10 = some (.iadd, 1) := by decide +kernel
theorem mc150_11 : mr_C 150 11 = some (.imul, 1) := by decide +kernel
theorem mc150_12 : mr_C 150 12 = some (.iload_n 3, 1) := by decide +kernel
theorem mc150_13 : mr_C 150 13 = some (.iadd, 1) := by decide +kernel
theorem mc150_14 : mr_C 150 14 = some (.ireturn, 1) := by decide +kernel
theorem vc150_0 {sc : Nat × (Int → Int)} {Q : mm_R → mm_M → Prop} {M : mm_M} {l1 : Int} {l2 : Int} {l3 : Int} (ho : mr_ok M)
    (h : Q (.inl (some (mm_i ((4 * ((l2 * ((M.1 72 23) + 1)) + l1)) + l3)))) M) : en_R sc 150 0 [mm_r 72, mm_i l1, mm_i l2, mm_i l3] [] M Q := by
  refine en_iconst mc150_0 ?_
  refine en_iload_n mc150_1 rfl ?_
  refine en_aload_n mc150_2 rfl ?_
  refine en_getI mv150 mc150_3 (lk_f7_199) (⟨rfl, by decide⟩ : mt_kd[72]? = some (.inl 7) ∧ 72 < 99) (Or.inl rfl) ?_
  refine en_iconst mc150_6 ?_
  refine en_iadd mc150_7 ?_
  refine en_imul mc150_8 ?_
  refine en_iload_n mc150_9 rfl ?_
  refine en_iadd mc150_10 ?_
  refine en_imul mc150_11 ?_
  refine en_iload_n mc150_12 rfl ?_
  refine en_iadd mc150_13 ?_
  exact en_iret mv150 mc150_14 rfl h
/-! 151: CellAreasModel.step()V -/
theorem mc151_0 : mr_C 151 0 = some (.aload_n 0, 1) := by decide +kernel
theorem mc151_1 : mr_C 151 1 = some (.aload_n 0, 1) := by decide +kernel
theorem mc151_2 : mr_C 151 2 = some (.getfield 208, 3) := by decide +kernel
theorem mc151_5 : mr_C 151 5 = some (.ifCond .ne (12), 3) := by decide +kernel
theorem mc151_8 : mr_C 151 8 = some (.aload_n 0, 1) := by decide +kernel
theorem mc151_9 : mr_C 151 9 = some (.getfield 211, 3) := by decide +kernel
theorem mc151_12 : mr_C 151 12 = some (.iconst 1, 1) := by decide +kernel
theorem mc151_13 : mr_C 151 13 = some (.iadd, 1) := by decide +kernel
theorem mc151_14 : mr_C 151 14 = some (.goto 24, 3) := by decide +kernel
theorem mc151_17 : mr_C 151 17 = some (.aload_n 0, 1) := by decide +kernel
theorem mc151_18 : mr_C 151 18 = some (.getfield 208, 3) := by decide +kernel
theorem mc151_21 : mr_C 151 21 = some (.iconst 2, 1) := by decide +kernel
theorem mc151_22 : mr_C 151 22 = some (.if_icmp .ne (12), 3) := by decide +kernel
theorem mc151_25 : mr_C 151 25 = some (.aload_n 0, 1) := by decide +kernel
theorem mc151_26 : mr_C 151 26 = some (.getfield 211, 3) := by decide +kernel
theorem mc151_29 : mr_C 151 29 = some (.iconst 1, 1) := by decide +kernel
theorem mc151_30 : mr_C 151 30 = some (.isub, 1) := by decide +kernel
theorem mc151_31 : mr_C 151 31 = some (.goto 7, 3) := by decide +kernel
theorem mc151_34 : mr_C 151 34 = some (.aload_n 0, 1) := by decide +kernel
theorem mc151_35 : mr_C 151 35 = some (.getfield 211, 3) := by decide +kernel
theorem mc151_38 : mr_C 151 38 = some (.putfield 211, 3) := by decide +kernel
theorem mc151_41 : mr_C 151 41 = some (.aload_n 0, 1) := by decide +kernel
theorem mc151_42 : mr_C 151 42 = some (.aload_n 0, 1) := by decide +kernel
theorem mc151_43 : mr_C 151 43 = some (.getfield 208, 3) := by decide +kernel
theorem mc151_46 : mr_C 151 46 = some (.iconst 1, 1) := by decide +kernel
theorem mc151_47 : mr_C 151 47 = some (.if_icmp .ne (12), 3) := by decide +kernel
theorem mc151_50 : mr_C 151 50 = some (.aload_n 0, 1) := by decide +kernel
theorem mc151_51 : mr_C 151 51 = some (.getfield 214, 3) := by decide +kernel
theorem mc151_54 : mr_C 151 54 = some (.iconst 1, 1) := by decide +kernel
theorem mc151_55 : mr_C 151 55 = some (.iadd, 1) := by decide +kernel
theorem mc151_56 : mr_C 151 56 = some (.goto 24, 3) := by decide +kernel
theorem mc151_59 : mr_C 151 59 = some (.aload_n 0, 1) := by decide +kernel
theorem mc151_60 : mr_C 151 60 = some (.getfield 208, 3) := by decide +kernel
theorem mc151_63 : mr_C 151 63 = some (.iconst 3, 1) := by decide +kernel
theorem mc151_64 : mr_C 151 64 = some (.if_icmp .ne (12), 3) := by decide +kernel
theorem mc151_67 : mr_C 151 67 = some (.aload_n 0, 1) := by decide +kernel
theorem mc151_68 : mr_C 151 68 = some (.getfield 214, 3) := by decide +kernel
theorem mc151_71 : mr_C 151 71 = some (.iconst 1, 1) := by decide +kernel
theorem mc151_72 : mr_C 151 72 = some (.isub, 1) := by decide +kernel
theorem mc151_73 : mr_C 151 73 = some (.goto 7, 3) := by decide +kernel
theorem mc151_76 : mr_C 151 76 = some (.aload_n 0, 1) := by decide +kernel
theorem mc151_77 : mr_C 151 77 = some (.getfield 214, 3) := by decide +kernel
theorem mc151_80 : mr_C 151 80 = some (.putfield 214, 3) := by decide +kernel
theorem mc151_83 : mr_C 151 83 = some (.aload_n 0, 1) := by decide +kernel
theorem mc151_84 : mr_C 151 84 = some (.getfield 208, 3) := by decide +kernel
theorem mc151_87 : mr_C 151 87 = some (.iconst 1, 1) := by decide +kernel
theorem mc151_88 : mr_C 151 88 = some (.iadd, 1) := by decide +kernel
theorem mc151_89 : mr_C 151 89 = some (.iconst 4, 1) := by decide +kernel
theorem mc151_90 : mr_C 151 90 = some (.irem, 1) := by decide +kernel
theorem mc151_91 : mr_C 151 91 = some (.istore_n 1, 1) := by decide +kernel
theorem mc151_92 : mr_C 151 92 = some (.aload_n 0, 1) := by decide +kernel
theorem mc151_93 : mr_C 151 93 = some (.getfield 208, 3) := by decide +kernel
theorem mc151_96 : mr_C 151 96 = some (.iconst 3, 1) := by decide +kernel
theorem mc151_97 : mr_C 151 97 = some (.iadd, 1) := by decide +kernel
theorem mc151_98 : mr_C 151 98 = some (.iconst 4, 1) := by decide +kernel
theorem mc151_99 : mr_C 151 99 = some (.irem, 1) := by decide +kernel
theorem mc151_100 : mr_C 151 100 = some (.istore_n 2, 1) := by decide +kernel
theorem mc151_101 : mr_C 151 101 = some (.aload_n 0, 1) := by decide +kernel
theorem mc151_102 : mr_C 151 102 = some (.aload_n 0, 1) := by decide +kernel
theorem mc151_103 : mr_C 151 103 = some (.aload_n 0, 1) := by decide +kernel
theorem mc151_104 : mr_C 151 104 = some (.getfield 211, 3) := by decide +kernel
theorem mc151_107 : mr_C 151 107 = some (.aload_n 0, 1) := by decide +kernel
theorem mc151_108 : mr_C 151 108 = some (.getfield 214, 3) := by decide +kernel
theorem mc151_111 : mr_C 151 111 = some (.iload_n 1, 1) := by decide +kernel
theorem mc151_112 : mr_C 151 112 = some (.invokevirtual 217, 3) := by decide +kernel
theorem mc151_115 : mr_C 151 115 = some (.ifCond .eq (7), 3) := by decide +kernel
theorem mc151_118 : mr_C 151 118 = some (.iload_n 1, 1) := by decide +kernel
theorem mc151_119 : mr_C 151 119 = some (.goto 30, 3) := by decide +kernel
theorem mc151_122 : mr_C 151 122 = some (.aload_n 0, 1) := by decide +kernel
theorem mc151_123 : mr_C 151 123 = some (.aload_n 0, 1) := by decide +kernel
theorem mc151_124 : mr_C 151 124 = some (.getfield 211, 3) := by decide +kernel
theorem mc151_127 : mr_C 151 127 = some (.aload_n 0, 1) := by decide +kernel
theorem mc151_128 : mr_C 151 128 = some (.getfield 214, 3) := by decide +kernel
theorem mc151_131 : mr_C 151 131 = some (.aload_n 0, 1) := by decide +kernel
theorem mc151_132 : mr_C 151 132 = some (.getfield 208, 3) := by decide +kernel
theorem mc151_135 : mr_C 151 135 = some (.invokevirtual 217, 3) := by decide +kernel
theorem mc151_138 : mr_C 151 138 = some (.ifCond .eq (10), 3) := by decide +kernel
theorem mc151_141 : mr_C 151 141 = some (.aload_n 0, 1) := by decide +kernel
theorem mc151_142 : mr_C 151 142 = some (.getfield 208, 3) := by decide +kernel
theorem mc151_145 : mr_C 151 145 = some (.goto 4, 3) := by decide +kernel
theorem mc151_148 : mr_C 151 148 = some (.iload_n 2, 1) := by decide +kernel
theorem mc151_149 : mr_C 151 149 = some (.putfield 208, 3) := by decide +kernel
theorem mc151_152 : mr_C 151 152 = some (.return_, 1) := by decide +kernel
theorem vc151_0 {sc : Nat × (Int → Int)} {Q : mm_R → mm_M → Prop} {M : mm_M} (ho : mr_ok M)
    (h : ((M.1 72 33) ≠ 0 → ((M.1 72 33) ≠ 2 → en_R sc 151 38 [mm_r 72, mm_u, mm_u] [mm_i (M.1 72 31), mm_r 72] M Q) ∧ (¬ ((M.1 72 33) ≠ 2) → en_R sc 151 38 [mm_r 72, mm_u, mm_u] [mm_i ((M.1 72 31) - 1), mm_r 72] M Q)) ∧ (¬ ((M.1 72 33) ≠ 0) → en_R sc 151 38 [mm_r 72, mm_u, mm_u] [mm_i ((M.1 72 31) + 1), mm_r 72] M Q)) : en_R sc 151 0 [mm_r 72, mm_u, mm_u] [] M Q := by
  refine en_aload_n mc151_0 rfl ?_
  refine en_aload_n mc151_1 rfl ?_
  refine en_getI mv151 mc151_2 (lk_f7_208) (⟨rfl, by decide⟩ : mt_kd[72]? = some (.inl 7) ∧ 72 < 99) (Or.inl rfl) ?_
  refine en_if_ne 17 mc151_5 (by decide) (ho.2.1 72 33 (by unfold mr_lg; omega)) (fun q => ?_) (fun q => ?_)
  · replace h := h.1 q
    refine en_aload_n mc151_17 rfl ?_
    refine en_getI mv151 mc151_18 (lk_f7_208) (⟨rfl, by decide⟩ : mt_kd[72]? = some (.inl 7) ∧ 72 < 99) (Or.inl rfl) ?_
    refine en_iconst mc151_21 ?_
    refine en_icmp_ne 34 mc151_22 (by decide) (ho.2.1 72 33 (by unfold mr_lg; omega)) (⟨by decide, by decide⟩ : mr_rg 2) (fun q => ?_) (fun q => ?_)
    · replace h := h.1 q
      refine en_aload_n mc151_34 rfl ?_
      refine en_getI mv151 mc151_35 (lk_f7_211) (⟨rfl, by decide⟩ : mt_kd[72]? = some (.inl 7) ∧ 72 < 99) (Or.inl rfl) ?_
      exact h
    · replace h := h.2 q
      refine en_aload_n mc151_25 rfl ?_
      refine en_getI mv151 mc151_26 (lk_f7_211) (⟨rfl, by decide⟩ : mt_kd[72]? = some (.inl 7) ∧ 72 < 99) (Or.inl rfl) ?_
      refine en_iconst mc151_29 ?_
      refine en_isub mc151_30 ?_
      refine en_goto 38 mc151_31 (by decide) ?_
      exact h
  · replace h := h.2 q
    refine en_aload_n mc151_8 rfl ?_
    refine en_getI mv151 mc151_9 (lk_f7_211) (⟨rfl, by decide⟩ : mt_kd[72]? = some (.inl 7) ∧ 72 < 99) (Or.inl rfl) ?_
    refine en_iconst mc151_12 ?_
    refine en_iadd mc151_13 ?_
    refine en_goto 38 mc151_14 (by decide) ?_
    exact h
theorem vc151_38 {sc : Nat × (Int → Int)} {Q : mm_R → mm_M → Prop} {M : mm_M} {s1 : Int} (ho : mr_ok M) (hg_s1 : mr_rg s1)
    (h : (((mm_putN M 72 31 s1).1 72 33) ≠ 1 → (((mm_putN M 72 31 s1).1 72 33) ≠ 3 → en_R sc 151 80 [mm_r 72, mm_u, mm_u] [mm_i ((mm_putN M 72 31 s1).1 72 32), mm_r 72] (mm_putN M 72 31 s1) Q) ∧ (¬ (((mm_putN M 72 31 s1).1 72 33) ≠ 3) → en_R sc 151 80 [mm_r 72, mm_u, mm_u] [mm_i (((mm_putN M 72 31 s1).1 72 32) - 1), mm_r 72] (mm_putN M 72 31 s1) Q)) ∧ (¬ (((mm_putN M 72 31 s1).1 72 33) ≠ 1) → en_R sc 151 80 [mm_r 72, mm_u, mm_u] [mm_i (((mm_putN M 72 31 s1).1 72 32) + 1), mm_r 72] (mm_putN M 72 31 s1) Q)) : en_R sc 151 38 [mm_r 72, mm_u, mm_u] [mm_i s1, mm_r 72] M Q := by
  refine en_putI mv151 mc151_38 (lk_f7_211) (⟨rfl, by decide⟩ : mt_kd[72]? = some (.inl 7) ∧ 72 < 99) rfl rfl hg_s1 ?_
  refine en_aload_n mc151_41 rfl ?_
  refine en_aload_n mc151_42 rfl ?_
  refine en_getI mv151 mc151_43 (lk_f7_208) (⟨rfl, by decide⟩ : mt_kd[72]? = some (.inl 7) ∧ 72 < 99) (Or.inl rfl) ?_
  refine en_iconst mc151_46 ?_
  refine en_icmp_ne 59 mc151_47 (by decide) ((mr_ok_putI (a := 72) (k := 31) ho hg_s1).2.1 72 33 (by unfold mr_lg; omega)) (⟨by decide, by decide⟩ : mr_rg 1) (fun q => ?_) (fun q => ?_)
  · replace h := h.1 q
    refine en_aload_n mc151_59 rfl ?_
    refine en_getI mv151 mc151_60 (lk_f7_208) (⟨rfl, by decide⟩ : mt_kd[72]? = some (.inl 7) ∧ 72 < 99) (Or.inl rfl) ?_
    refine en_iconst mc151_63 ?_
    refine en_icmp_ne 76 mc151_64 (by decide) ((mr_ok_putI (a := 72) (k := 31) ho hg_s1).2.1 72 33 (by unfold mr_lg; omega)) (⟨by decide, by decide⟩ : mr_rg 3) (fun q => ?_) (fun q => ?_)
    · replace h := h.1 q
      refine en_aload_n mc151_76 rfl ?_
      refine en_getI mv151 mc151_77 (lk_f7_214) (⟨rfl, by decide⟩ : mt_kd[72]? = some (.inl 7) ∧ 72 < 99) (Or.inl rfl) ?_
      exact h
    · replace h := h.2 q
      refine en_aload_n mc151_67 rfl ?_
      refine en_getI mv151 mc151_68 (lk_f7_214) (⟨rfl, by decide⟩ : mt_kd[72]? = some (.inl 7) ∧ 72 < 99) (Or.inl rfl) ?_
      refine en_iconst mc151_71 ?_
      refine en_isub mc151_72 ?_
      refine en_goto 80 mc151_73 (by decide) ?_
      exact h
  · replace h := h.2 q
    refine en_aload_n mc151_50 rfl ?_
    refine en_getI mv151 mc151_51 (lk_f7_214) (⟨rfl, by decide⟩ : mt_kd[72]? = some (.inl 7) ∧ 72 < 99) (Or.inl rfl) ?_
    refine en_iconst mc151_54 ?_
    refine en_iadd mc151_55 ?_
    refine en_goto 80 mc151_56 (by decide) ?_
    exact h
theorem vc151_80 {sc : Nat × (Int → Int)} {Q : mm_R → mm_M → Prop} {M : mm_M} {s1 : Int} (ho : mr_ok M) (hg_s1 : mr_rg s1)
    (h : mr_rg (((mm_putN M 72 32 s1).1 72 33) + 1) ∧ (0 ≤ (((mm_putN M 72 32 s1).1 72 33) + 1) ∧ (mr_rg (((mm_putN M 72 32 s1).1 72 33) + 3) ∧ (0 ≤ (((mm_putN M 72 32 s1).1 72 33) + 3) ∧ (en_CI sc 149 [mm_r 72, mm_i ((mm_putN M 72 32 s1).1 72 31), mm_i ((mm_putN M 72 32 s1).1 72 32), mm_i ((((mm_putN M 72 32 s1).1 72 33) + 1) % 4), mm_u, mm_u, mm_u, mm_u] (mm_putN M 72 32 s1) (fun x5 M6 => mr_ok M6 → mr_rg x5 ∧ ((x5 = 0 → en_CI sc 149 [mm_r 72, mm_i (M6.1 72 31), mm_i (M6.1 72 32), mm_i (M6.1 72 33), mm_u, mm_u, mm_u, mm_u] M6 (fun x9 M10 => mr_ok M10 → mr_rg x9 ∧ ((x9 = 0 → mr_rg ((((mm_putN M 72 32 s1).1 72 33) + 3) % 4) ∧ (Q (.inl none) (mm_putN M10 72 33 ((((mm_putN M 72 32 s1).1 72 33) + 3) % 4)))) ∧ (¬ x9 = 0 → Q (.inl none) (mm_putN M10 72 33 (M10.1 72 33))))) (fun e M9 => Q (.inr e) M9)) ∧ (¬ x5 = 0 → mr_rg ((((mm_putN M 72 32 s1).1 72 33) + 1) % 4) ∧ (Q (.inl none) (mm_putN M6 72 33 ((((mm_putN M 72 32 s1).1 72 33) + 1) % 4)))))) (fun e M9 => Q (.inr e) M9)))))) : en_R sc 151 80 [mm_r 72, mm_u, mm_u] [mm_i s1, mm_r 72] M Q := by
  obtain ⟨g1, h⟩ := h
  obtain ⟨g2, h⟩ := h
  obtain ⟨g3, h⟩ := h
  obtain ⟨g4, h⟩ := h
  refine en_putI mv151 mc151_80 (lk_f7_214) (⟨rfl, by decide⟩ : mt_kd[72]? = some (.inl 7) ∧ 72 < 99) rfl rfl hg_s1 ?_
  refine en_aload_n mc151_83 rfl ?_
  refine en_getI mv151 mc151_84 (lk_f7_208) (⟨rfl, by decide⟩ : mt_kd[72]? = some (.inl 7) ∧ 72 < 99) (Or.inl rfl) ?_
  refine en_iconst mc151_87 ?_
  refine en_iadd mc151_88 ?_
  refine en_iconst mc151_89 ?_
  refine en_irem mc151_90 g1 (⟨by decide, by decide⟩ : mr_rg 4) g2 (by decide) ?_
  refine en_istore_n (ls' := [mm_r 72, mm_i ((((mm_putN M 72 32 s1).1 72 33) + 1) % 4), mm_u]) mc151_91 (Nat.le_of_ble_eq_true rfl) rfl ?_
  refine en_aload_n mc151_92 rfl ?_
  refine en_getI mv151 mc151_93 (lk_f7_208) (⟨rfl, by decide⟩ : mt_kd[72]? = some (.inl 7) ∧ 72 < 99) (Or.inl rfl) ?_
  refine en_iconst mc151_96 ?_
  refine en_iadd mc151_97 ?_
  refine en_iconst mc151_98 ?_
  refine en_irem mc151_99 g3 (⟨by decide, by decide⟩ : mr_rg 4) g4 (by decide) ?_
  refine en_istore_n (ls' := [mm_r 72, mm_i ((((mm_putN M 72 32 s1).1 72 33) + 1) % 4), mm_i ((((mm_putN M 72 32 s1).1 72 33) + 3) % 4)]) mc151_100 (Nat.le_of_ble_eq_true rfl) rfl ?_
  refine en_aload_n mc151_101 rfl ?_
  refine en_aload_n mc151_102 rfl ?_
  refine en_aload_n mc151_103 rfl ?_
  refine en_getI mv151 mc151_104 (lk_f7_211) (⟨rfl, by decide⟩ : mt_kd[72]? = some (.inl 7) ∧ 72 < 99) (Or.inl rfl) ?_
  refine en_aload_n mc151_107 rfl ?_
  refine en_getI mv151 mc151_108 (lk_f7_214) (⟨rfl, by decide⟩ : mt_kd[72]? = some (.inl 7) ∧ 72 < 99) (Or.inl rfl) ?_
  refine en_iload_n mc151_111 rfl ?_
  refine en_callI (lz := [mm_r 72, mm_i ((mm_putN M 72 32 s1).1 72 31), mm_i ((mm_putN M 72 32 s1).1 72 32), mm_i ((((mm_putN M 72 32 s1).1 72 33) + 1) % 4), mm_u, mm_u, mm_u, mm_u]) mv151 mc151_112 rfl rfl (lk_m7_217) mv149 rfl (by decide) rfl (mk_cokV rfl (⟨rfl, by decide⟩ : mt_kd[72]? = some (.inl 7) ∧ 72 < 99)) rfl (mk_nh rfl _) (mr_ok_putI (a := 72) (k := 32) ho hg_s1) ?_
  refine en_CI_mono h (fun x5 M6 h => ?_) (fun _ _ h => h)
  intro ho7
  replace h := h ho7
  obtain ⟨g8, h⟩ := h
  refine en_if_eq 122 mc151_115 (by decide) g8 (fun q => ?_) (fun q => ?_)
  · replace h := h.1 q
    refine en_aload_n mc151_122 rfl ?_
    refine en_aload_n mc151_123 rfl ?_
    refine en_getI mv151 mc151_124 (lk_f7_211) (⟨rfl, by decide⟩ : mt_kd[72]? = some (.inl 7) ∧ 72 < 99) (Or.inl rfl) ?_
    refine en_aload_n mc151_127 rfl ?_
    refine en_getI mv151 mc151_128 (lk_f7_214) (⟨rfl, by decide⟩ : mt_kd[72]? = some (.inl 7) ∧ 72 < 99) (Or.inl rfl) ?_
    refine en_aload_n mc151_131 rfl ?_
    refine en_getI mv151 mc151_132 (lk_f7_208) (⟨rfl, by decide⟩ : mt_kd[72]? = some (.inl 7) ∧ 72 < 99) (Or.inl rfl) ?_
    refine en_callI (lz := [mm_r 72, mm_i (M6.1 72 31), mm_i (M6.1 72 32), mm_i (M6.1 72 33), mm_u, mm_u, mm_u, mm_u]) mv151 mc151_135 rfl rfl (lk_m7_217) mv149 rfl (by decide) rfl (mk_cokV rfl (⟨rfl, by decide⟩ : mt_kd[72]? = some (.inl 7) ∧ 72 < 99)) rfl (mk_nh rfl _) ho7 ?_
    refine en_CI_mono h (fun x9 M10 h => ?_) (fun _ _ h => h)
    intro ho11
    replace h := h ho11
    obtain ⟨g12, h⟩ := h
    refine en_if_eq 148 mc151_138 (by decide) g12 (fun q => ?_) (fun q => ?_)
    · replace h := h.1 q
      obtain ⟨g13, h⟩ := h
      refine en_iload_n mc151_148 rfl ?_
      refine en_putI mv151 mc151_149 (lk_f7_208) (⟨rfl, by decide⟩ : mt_kd[72]? = some (.inl 7) ∧ 72 < 99) rfl rfl g13 ?_
      exact en_vret mv151 mc151_152 rfl h
    · replace h := h.2 q
      refine en_aload_n mc151_141 rfl ?_
      refine en_getI mv151 mc151_142 (lk_f7_208) (⟨rfl, by decide⟩ : mt_kd[72]? = some (.inl 7) ∧ 72 < 99) (Or.inl rfl) ?_
      refine en_goto 149 mc151_145 (by decide) ?_
      refine en_putI mv151 mc151_149 (lk_f7_208) (⟨rfl, by decide⟩ : mt_kd[72]? = some (.inl 7) ∧ 72 < 99) rfl rfl (ho11.2.1 72 33 (by unfold mr_lg; omega)) ?_
      exact en_vret mv151 mc151_152 rfl h
  · replace h := h.2 q
    obtain ⟨g14, h⟩ := h
    refine en_iload_n mc151_118 rfl ?_
    refine en_goto 149 mc151_119 (by decide) ?_
    refine en_putI mv151 mc151_149 (lk_f7_208) (⟨rfl, by decide⟩ : mt_kd[72]? = some (.inl 7) ∧ 72 < 99) rfl rfl g14 ?_
    exact en_vret mv151 mc151_152 rfl h
/-! 152: CellAreasModel.goRound(III)V -/
theorem mc152_0 : mr_C 152 0 = some (.aload_n 0, 1) := by decide +kernel
theorem mc152_1 : mr_C 152 1 = some (.getfield 66, 3) := by decide +kernel
theorem mc152_4 : mr_C 152 4 = some (.aload_n 0, 1) := by decide +kernel
theorem mc152_5 : mr_C 152 5 = some (.getfield 223, 3) := by decide +kernel
theorem mc152_8 : mr_C 152 8 = some (.iload_n 1, 1) := by decide +kernel
theorem mc152_9 : mr_C 152 9 = some (.iastore, 1) := by decide +kernel
theorem mc152_10 : mr_C 152 10 = some (.aload_n 0, 1) := by decide +kernel
theorem mc152_11 : mr_C 152 11 = some (.getfield 69, 3) := by decide +kernel
theorem mc152_14 : mr_C 152 14 = some (.aload_n 0, 1) := by decide +kernel
theorem mc152_15 : mr_C 152 15 = some (.getfield 223, 3) := by decide +kernel
theorem mc152_18 : mr_C 152 18 = some (.iload_n 2, 1) := by decide +kernel
theorem mc152_19 : mr_C 152 19 = some (.iastore, 1) := by decide +kernel
theorem mc152_20 : mr_C 152 20 = some (.aload_n 0, 1) := by decide +kernel
theorem mc152_21 : mr_C 152 21 = some (.getfield 72, 3) := by decide +kernel
theorem mc152_24 : mr_C 152 24 = some (.aload_n 0, 1) := by decide +kernel
theorem mc152_25 : mr_C 152 25 = some (.getfield 223, 3) := by decide +kernel
theorem mc152_28 : mr_C 152 28 = some (.iload_n 3, 1) := by decide +kernel
theorem mc152_29 : mr_C 152 29 = some (.iastore, 1) := by decide +kernel
theorem mc152_30 : mr_C 152 30 = some (.aload_n 0, 1) := by decide +kernel
theorem mc152_31 : mr_C 152 31 = some (.dup, 1) := by decide +kernel
theorem mc152_32 : mr_C 152 32 = some (.getfield 223, 3) := by decide +kernel
theorem mc152_35 : mr_C 152 35 = some (.iconst 1, 1) := by decide +kernel
theorem mc152_36 : mr_C 152 36 = some (.iadd, 1) := by decide +kernel
theorem mc152_37 : mr_C 152 37 = some (.putfield 223, 3) := by decide +kernel
theorem mc152_40 : mr_C 152 40 = some (.aload_n 0, 1) := by decide +kernel
theorem mc152_41 : mr_C 152 41 = some (.iload_n 1, 1) := by decide +kernel
theorem mc152_42 : mr_C 152 42 = some (.putfield 211, 3) := by decide +kernel
theorem mc152_45 : mr_C 152 45 = some (.aload_n 0, 1) := by decide +kernel
theorem mc152_46 : mr_C 152 46 = some (.iload_n 2, 1) := by decide +kernel
theorem mc152_47 : mr_C 152 47 = some (.putfield 214, 3) := by decide +kernel
theorem mc152_50 : mr_C 152 50 = some (.aload_n 0, 1) := by decide +kernel
theorem mc152_51 : mr_C 152 51 = some (.iload_n 3, 1) := by decide +kernel
theorem mc152_52 : mr_C 152 52 = some (.putfield 208, 3) := by decide +kernel
theorem mc152_55 : mr_C 152 55 = some (.aload_n 0, 1) := by decide +kernel
theorem mc152_56 : mr_C 152 56 = some (.getfield 76, 3) := by decide +kernel
theorem mc152_59 : mr_C 152 59 = some (.aload_n 0, 1) := by decide +kernel
theorem mc152_60 : mr_C 152 60 = some (.aload_n 0, 1) := by decide +kernel
theorem mc152_61 : mr_C 152 61 = some (.getfield 211, 3) := by decide +kernel
theorem mc152_64 : mr_C 152 64 = some (.aload_n 0, 1) := by decide +kernel
theorem mc152_65 : mr_C 152 65 = some (.getfield 214, 3) := by decide +kernel
theorem mc152_68 : mr_C 152 68 = some (.aload_n 0, 1) := by decide +kernel
theorem mc152_69 : mr_C 152 69 = some (.getfield 208, 3) := by decide +kernel
theorem mc152_72 : mr_C 152 72 = some (.invokevirtual 226, 3) := by decide +kernel
theorem mc152_75 : mr_C 152 75 = some (.baload, 1) := by decide +kernel
theorem mc152_76 : mr_C 152 76 = some (.ifCond .ne (32), 3) := by decide +kernel
theorem mc152_79 : mr_C 152 79 = some (.aload_n 0, 1) := by decide +kernel
theorem mc152_80 : mr_C 152 80 = some (.getfield 76, 3) := by decide +kernel
theorem mc152_83 : mr_C 152 83 = some (.aload_n 0, 1) := by decide +kernel
theorem mc152_84 : mr_C 152 84 = some (.aload_n 0, 1) := by decide +kernel
theorem mc152_85 : mr_C 152 85 = some (.getfield 211, 3) := by decide +kernel
theorem mc152_88 : mr_C 152 88 = some (.aload_n 0, 1) := by decide +kernel
theorem mc152_89 : mr_C 152 89 = some (.getfield 214, 3) := by decide +kernel
theorem mc152_92 : mr_C 152 92 = some (.aload_n 0, 1) := by decide +kernel
theorem mc152_93 : mr_C 152 93 = some (.getfield 208, 3) := by decide +kernel
theorem mc152_96 : mr_C 152 96 = some (.invokevirtual 226, 3) := by decide +kernel
theorem mc152_99 : mr_C 152 99 = some (.iconst 1, 1) := by decide +kernel
theorem mc152_100 : mr_C 152 100 = some (.bastore, 1) := by decide +kernel
theorem mc152_101 : mr_C 152 101 = some (.aload_n 0, 1) := by decide +kernel
theorem mc152_102 : mr_C 152 102 = some (.invokevirtual 233, 3) := by decide +kernel
theorem mc152_105 : mr_C 152 105 = some (.goto (-50), 3) := by decide +kernel
theorem mc152_108 : mr_C 152 108 = some (.return_, 1) := by decide +kernel
theorem vc152_0 {sc : Nat × (Int → Int)} {Q : mm_R → mm_M → Prop} {M : mm_M} {l1 : Int} {l2 : Int} {l3 : Int} (ho : mr_ok M) (hg_l1 : mr_rg l1) (hg_l2 : mr_rg l2) (hg_l3 : mr_rg l3)
    (h : 0 ≤ (M.1 72 29) ∧ ((M.1 72 29) < 900 ∧ (0 ≤ ((mm_putN M 91 (M.1 72 29) l1).1 72 29) ∧ (((mm_putN M 91 (M.1 72 29) l1).1 72 29) < 900 ∧ (0 ≤ ((mm_putN (mm_putN M 91 (M.1 72 29) l1) 92 ((mm_putN M 91 (M.1 72 29) l1).1 72 29) l2).1 72 29) ∧ (((mm_putN (mm_putN M 91 (M.1 72 29) l1) 92 ((mm_putN M 91 (M.1 72 29) l1).1 72 29) l2).1 72 29) < 900 ∧ (mr_rg (((mm_putN (mm_putN (mm_putN M 91 (M.1 72 29) l1) 92 ((mm_putN M 91 (M.1 72 29) l1).1 72 29) l2) 93 ((mm_putN (mm_putN M 91 (M.1 72 29) l1) 92 ((mm_putN M 91 (M.1 72 29) l1).1 72 29) l2).1 72 29) l3).1 72 29) + 1) ∧ (en_R sc 152 55 [mm_r 72, mm_i l1, mm_i l2, mm_i l3] [] (mm_putN (mm_putN (mm_putN (mm_putN (mm_putN (mm_putN (mm_putN M 91 (M.1 72 29) l1) 92 ((mm_putN M 91 (M.1 72 29) l1).1 72 29) l2) 93 ((mm_putN (mm_putN M 91 (M.1 72 29) l1) 92 ((mm_putN M 91 (M.1 72 29) l1).1 72 29) l2).1 72 29) l3) 72 29 (((mm_putN (mm_putN (mm_putN M 91 (M.1 72 29) l1) 92 ((mm_putN M 91 (M.1 72 29) l1).1 72 29) l2) 93 ((mm_putN (mm_putN M 91 (M.1 72 29) l1) 92 ((mm_putN M 91 (M.1 72 29) l1).1 72 29) l2).1 72 29) l3).1 72 29) + 1)) 72 31 l1) 72 32 l2) 72 33 l3) Q)))))))) : en_R sc 152 0 [mm_r 72, mm_i l1, mm_i l2, mm_i l3] [] M Q := by
  obtain ⟨g1, h⟩ := h
  obtain ⟨g2, h⟩ := h
  obtain ⟨g3, h⟩ := h
  obtain ⟨g4, h⟩ := h
  obtain ⟨g5, h⟩ := h
  obtain ⟨g6, h⟩ := h
  obtain ⟨g7, h⟩ := h
  refine en_aload_n mc152_0 rfl ?_
  refine en_getR (b := 91) mv152 mc152_1 (lk_f7_66) (⟨rfl, by decide⟩ : mt_kd[72]? = some (.inl 7) ∧ 72 < 99) rfl (mk_fc ho (by decide +kernel)) ?_
  refine en_aload_n mc152_4 rfl ?_
  refine en_getI mv152 mc152_5 (lk_f7_223) (⟨rfl, by decide⟩ : mt_kd[72]? = some (.inl 7) ∧ 72 < 99) (Or.inl rfl) ?_
  refine en_iload_n mc152_8 rfl ?_
  refine en_iast mc152_9 (⟨rfl, by decide, by decide⟩ : mt_kd[91]? = some (.inr (.int, 900)) ∧ 91 < 99 ∧ 900 < 2147483648) g1 g2 hg_l1 ?_
  refine en_aload_n mc152_10 rfl ?_
  refine en_getR (b := 92) mv152 mc152_11 (lk_f7_69) (⟨rfl, by decide⟩ : mt_kd[72]? = some (.inl 7) ∧ 72 < 99) rfl (mk_fc (mr_ok_putI (a := 91) (k := (M.1 72 29)) ho hg_l1) (by decide +kernel)) ?_
  refine en_aload_n mc152_14 rfl ?_
  refine en_getI mv152 mc152_15 (lk_f7_223) (⟨rfl, by decide⟩ : mt_kd[72]? = some (.inl 7) ∧ 72 < 99) (Or.inl rfl) ?_
  refine en_iload_n mc152_18 rfl ?_
  refine en_iast mc152_19 (⟨rfl, by decide, by decide⟩ : mt_kd[92]? = some (.inr (.int, 900)) ∧ 92 < 99 ∧ 900 < 2147483648) g3 g4 hg_l2 ?_
  refine en_aload_n mc152_20 rfl ?_
  refine en_getR (b := 93) mv152 mc152_21 (lk_f7_72) (⟨rfl, by decide⟩ : mt_kd[72]? = some (.inl 7) ∧ 72 < 99) rfl (mk_fc (mr_ok_putI (a := 92) (k := ((mm_putN M 91 (M.1 72 29) l1).1 72 29)) (mr_ok_putI (a := 91) (k := (M.1 72 29)) ho hg_l1) hg_l2) (by decide +kernel)) ?_
  refine en_aload_n mc152_24 rfl ?_
  refine en_getI mv152 mc152_25 (lk_f7_223) (⟨rfl, by decide⟩ : mt_kd[72]? = some (.inl 7) ∧ 72 < 99) (Or.inl rfl) ?_
  refine en_iload_n mc152_28 rfl ?_
  refine en_iast mc152_29 (⟨rfl, by decide, by decide⟩ : mt_kd[93]? = some (.inr (.int, 900)) ∧ 93 < 99 ∧ 900 < 2147483648) g5 g6 hg_l3 ?_
  refine en_aload_n mc152_30 rfl ?_
  refine en_dup mc152_31 rfl ?_
  refine en_getI mv152 mc152_32 (lk_f7_223) (⟨rfl, by decide⟩ : mt_kd[72]? = some (.inl 7) ∧ 72 < 99) (Or.inl rfl) ?_
  refine en_iconst mc152_35 ?_
  refine en_iadd mc152_36 ?_
  refine en_putI mv152 mc152_37 (lk_f7_223) (⟨rfl, by decide⟩ : mt_kd[72]? = some (.inl 7) ∧ 72 < 99) rfl rfl g7 ?_
  refine en_aload_n mc152_40 rfl ?_
  refine en_iload_n mc152_41 rfl ?_
  refine en_putI mv152 mc152_42 (lk_f7_211) (⟨rfl, by decide⟩ : mt_kd[72]? = some (.inl 7) ∧ 72 < 99) rfl rfl hg_l1 ?_
  refine en_aload_n mc152_45 rfl ?_
  refine en_iload_n mc152_46 rfl ?_
  refine en_putI mv152 mc152_47 (lk_f7_214) (⟨rfl, by decide⟩ : mt_kd[72]? = some (.inl 7) ∧ 72 < 99) rfl rfl hg_l2 ?_
  refine en_aload_n mc152_50 rfl ?_
  refine en_iload_n mc152_51 rfl ?_
  refine en_putI mv152 mc152_52 (lk_f7_208) (⟨rfl, by decide⟩ : mt_kd[72]? = some (.inl 7) ∧ 72 < 99) rfl rfl hg_l3 ?_
  exact h
theorem vc152_55 {sc : Nat × (Int → Int)} {Q : mm_R → mm_M → Prop} {M : mm_M} {l1 : Int} {l2 : Int} {l3 : Int} (ho : mr_ok M)
    (h : en_CI sc 150 [mm_r 72, mm_i (M.1 72 31), mm_i (M.1 72 32), mm_i (M.1 72 33)] M (fun x1 M2 => mr_ok M2 → 0 ≤ x1 ∧ (x1 < 648000 ∧ (((M2.1 94 x1) ≠ 0 → Q (.inl none) M2) ∧ (¬ ((M2.1 94 x1) ≠ 0) → en_CI sc 150 [mm_r 72, mm_i (M2.1 72 31), mm_i (M2.1 72 32), mm_i (M2.1 72 33)] M2 (fun x6 M7 => mr_ok M7 → 0 ≤ x6 ∧ (x6 < 648000 ∧ (en_CV sc 151 [mm_r 72, mm_u, mm_u] (mm_putN M7 94 x6 1) (fun M12 => mr_ok M12 → en_R sc 152 55 [mm_r 72, mm_i l1, mm_i l2, mm_i l3] [] M12 Q) (fun e M9 => Q (.inr e) M9)))) (fun e M9 => Q (.inr e) M9))))) (fun e M9 => Q (.inr e) M9)) : en_R sc 152 55 [mm_r 72, mm_i l1, mm_i l2, mm_i l3] [] M Q := by
  refine en_aload_n mc152_55 rfl ?_
  refine en_getR (b := 94) mv152 mc152_56 (lk_f7_76) (⟨rfl, by decide⟩ : mt_kd[72]? = some (.inl 7) ∧ 72 < 99) rfl (mk_fc ho (by decide +kernel)) ?_
  refine en_aload_n mc152_59 rfl ?_
  refine en_aload_n mc152_60 rfl ?_
  refine en_getI mv152 mc152_61 (lk_f7_211) (⟨rfl, by decide⟩ : mt_kd[72]? = some (.inl 7) ∧ 72 < 99) (Or.inl rfl) ?_
  refine en_aload_n mc152_64 rfl ?_
  refine en_getI mv152 mc152_65 (lk_f7_214) (⟨rfl, by decide⟩ : mt_kd[72]? = some (.inl 7) ∧ 72 < 99) (Or.inl rfl) ?_
  refine en_aload_n mc152_68 rfl ?_
  refine en_getI mv152 mc152_69 (lk_f7_208) (⟨rfl, by decide⟩ : mt_kd[72]? = some (.inl 7) ∧ 72 < 99) (Or.inl rfl) ?_
  refine en_callI (lz := [mm_r 72, mm_i (M.1 72 31), mm_i (M.1 72 32), mm_i (M.1 72 33)]) mv152 mc152_72 rfl rfl (lk_m7_226) mv150 rfl (by decide) rfl (mk_cokV rfl (⟨rfl, by decide⟩ : mt_kd[72]? = some (.inl 7) ∧ 72 < 99)) rfl (mk_nh rfl _) ho ?_
  refine en_CI_mono h (fun x1 M2 h => ?_) (fun _ _ h => h)
  intro ho3
  replace h := h ho3
  obtain ⟨g4, h⟩ := h
  obtain ⟨g5, h⟩ := h
  refine en_bald mc152_75 (⟨rfl, by decide, by decide⟩ : mt_kd[94]? = some (.inr (.boolean, 648000)) ∧ 94 < 99 ∧ 648000 < 2147483648) g4 g5 ?_
  refine en_if_ne 108 mc152_76 (by decide) (ho3.2.1 94 x1 (by unfold mr_lg; omega)) (fun q => ?_) (fun q => ?_)
  · replace h := h.1 q
    exact en_vret mv152 mc152_108 rfl h
  · replace h := h.2 q
    refine en_aload_n mc152_79 rfl ?_
    refine en_getR (b := 94) mv152 mc152_80 (lk_f7_76) (⟨rfl, by decide⟩ : mt_kd[72]? = some (.inl 7) ∧ 72 < 99) rfl (mk_fc ho3 (by decide +kernel)) ?_
    refine en_aload_n mc152_83 rfl ?_
    refine en_aload_n mc152_84 rfl ?_
    refine en_getI mv152 mc152_85 (lk_f7_211) (⟨rfl, by decide⟩ : mt_kd[72]? = some (.inl 7) ∧ 72 < 99) (Or.inl rfl) ?_
    refine en_aload_n mc152_88 rfl ?_
    refine en_getI mv152 mc152_89 (lk_f7_214) (⟨rfl, by decide⟩ : mt_kd[72]? = some (.inl 7) ∧ 72 < 99) (Or.inl rfl) ?_
    refine en_aload_n mc152_92 rfl ?_
    refine en_getI mv152 mc152_93 (lk_f7_208) (⟨rfl, by decide⟩ : mt_kd[72]? = some (.inl 7) ∧ 72 < 99) (Or.inl rfl) ?_
    refine en_callI (lz := [mm_r 72, mm_i (M2.1 72 31), mm_i (M2.1 72 32), mm_i (M2.1 72 33)]) mv152 mc152_96 rfl rfl (lk_m7_226) mv150 rfl (by decide) rfl (mk_cokV rfl (⟨rfl, by decide⟩ : mt_kd[72]? = some (.inl 7) ∧ 72 < 99)) rfl (mk_nh rfl _) ho3 ?_
    refine en_CI_mono h (fun x6 M7 h => ?_) (fun _ _ h => h)
    intro ho8
    replace h := h ho8
    obtain ⟨g9, h⟩ := h
    obtain ⟨g10, h⟩ := h
    refine en_iconst mc152_99 ?_
    refine en_bast mc152_100 (⟨rfl, by decide, by decide⟩ : mt_kd[94]? = some (.inr (.boolean, 648000)) ∧ 94 < 99 ∧ 648000 < 2147483648) g9 g10 (by decide) ?_
    refine en_aload_n mc152_101 rfl ?_
    refine en_callV (lz := [mm_r 72, mm_u, mm_u]) mv152 mc152_102 rfl rfl (lk_m7_233) mv151 rfl (by decide) rfl (mk_cokV rfl (⟨rfl, by decide⟩ : mt_kd[72]? = some (.inl 7) ∧ 72 < 99)) rfl (mk_nh rfl _) (mr_ok_putI (a := 94) (k := x6) ho8 (mk_01 (by decide))) ?_
    refine en_CV_mono h (fun M12 h => ?_) (fun _ _ h => h)
    intro ho13
    replace h := h ho13
    refine en_goto 55 mc152_105 (by decide) ?_
    exact h
