/-! 90: CellAreas.needReach(IIII)V -/
theorem mc90_0 : mr_C 90 0 = some (.iload_n 0, 1) := rfl
theorem mc90_1 : mr_C 90 1 = some (.iconst 0, 1) := rfl
theorem mc90_2 : mr_C 90 2 = some (.sipush 2000, 3) := rfl
theorem mc90_5 : mr_C 90 5 = some (.invokestatic 65, 3) := rfl
theorem mc90_8 : mr_C 90 8 = some (.iload_n 1, 1) := rfl
theorem mc90_9 : mr_C 90 9 = some (.iconst 0, 1) := rfl
theorem mc90_10 : mr_C 90 10 = some (.sipush 2000, 3) := rfl
theorem mc90_13 : mr_C 90 13 = some (.invokestatic 65, 3) := rfl
theorem mc90_16 : mr_C 90 16 = some (.iload_n 2, 1) := rfl
theorem mc90_17 : mr_C 90 17 = some (.iconst 0, 1) := rfl
theorem mc90_18 : mr_C 90 18 = some (.sipush 2000, 3) := rfl
theorem mc90_21 : mr_C 90 21 = some (.invokestatic 65, 3) := rfl
theorem mc90_24 : mr_C 90 24 = some (.iload_n 3, 1) := rfl
theorem mc90_25 : mr_C 90 25 = some (.iconst 0, 1) := rfl
theorem mc90_26 : mr_C 90 26 = some (.sipush 2000, 3) := rfl
theorem mc90_29 : mr_C 90 29 = some (.invokestatic 65, 3) := rfl
theorem mc90_32 : mr_C 90 32 = some (.return_, 1) := rfl
theorem vc90_0 {sc : Nat × (Int → Int)} {Q : mm_R → mm_M → Prop} {M : mm_M} {l0 : Int} {l1 : Int} {l2 : Int} {l3 : Int} (ho : mr_ok M)
    (h : en_CV sc 10 [mm_i l0, mm_i 0, mm_i 2000] M (fun M2 => mr_ok M2 → en_CV sc 10 [mm_i l1, mm_i 0, mm_i 2000] M2 (fun M5 => mr_ok M5 → en_CV sc 10 [mm_i l2, mm_i 0, mm_i 2000] M5 (fun M8 => mr_ok M8 → en_CV sc 10 [mm_i l3, mm_i 0, mm_i 2000] M8 (fun M11 => mr_ok M11 → Q (.inl none) M11) (fun e M9 => Q (.inr e) M9)) (fun e M9 => Q (.inr e) M9)) (fun e M9 => Q (.inr e) M9)) (fun e M9 => Q (.inr e) M9)) : en_R sc 90 0 [mm_i l0, mm_i l1, mm_i l2, mm_i l3] [] M Q := by
  refine en_iload_n mc90_0 rfl ?_
  refine en_iconst mc90_1 ?_
  refine en_sipush mc90_2 (by decide) ?_
  refine en_callV (lz := [mm_i l0, mm_i 0, mm_i 2000]) mv90 mc90_5 rfl rfl (lk_m6_65) mv10 rfl (by decide) rfl (mk_cokS rfl) rfl (mk_nh rfl _) ho ?_
  refine en_CV_mono h (fun M2 h => ?_) (fun _ _ h => h)
  intro ho3
  replace h := h ho3
  refine en_iload_n mc90_8 rfl ?_
  refine en_iconst mc90_9 ?_
  refine en_sipush mc90_10 (by decide) ?_
  refine en_callV (lz := [mm_i l1, mm_i 0, mm_i 2000]) mv90 mc90_13 rfl rfl (lk_m6_65) mv10 rfl (by decide) rfl (mk_cokS rfl) rfl (mk_nh rfl _) ho3 ?_
  refine en_CV_mono h (fun M5 h => ?_) (fun _ _ h => h)
  intro ho6
  replace h := h ho6
  refine en_iload_n mc90_16 rfl ?_
  refine en_iconst mc90_17 ?_
  refine en_sipush mc90_18 (by decide) ?_
  refine en_callV (lz := [mm_i l2, mm_i 0, mm_i 2000]) mv90 mc90_21 rfl rfl (lk_m6_65) mv10 rfl (by decide) rfl (mk_cokS rfl) rfl (mk_nh rfl _) ho6 ?_
  refine en_CV_mono h (fun M8 h => ?_) (fun _ _ h => h)
  intro ho9
  replace h := h ho9
  refine en_iload_n mc90_24 rfl ?_
  refine en_iconst mc90_25 ?_
  refine en_sipush mc90_26 (by decide) ?_
  refine en_callV (lz := [mm_i l3, mm_i 0, mm_i 2000]) mv90 mc90_29 rfl rfl (lk_m6_65) mv10 rfl (by decide) rfl (mk_cokS rfl) rfl (mk_nh rfl _) ho9 ?_
  refine en_CV_mono h (fun M11 h => ?_) (fun _ _ h => h)
  intro ho12
  replace h := h ho12
  exact en_vret mv90 mc90_32 rfl h
/-! 91: CellAreas.grow(IIIIII)I -/
theorem mc91_0 : mr_C 91 0 = some (.iload_n 1, 1) := rfl
theorem mc91_1 : mr_C 91 1 = some (.invokestatic 61, 3) := rfl
theorem mc91_4 : mr_C 91 4 = some (.iload_n 2, 1) := rfl
theorem mc91_5 : mr_C 91 5 = some (.invokestatic 61, 3) := rfl
theorem mc91_8 : mr_C 91 8 = some (.iload_n 3, 1) := rfl
theorem mc91_9 : mr_C 91 9 = some (.iload 4, 2) := rfl
theorem mc91_11 : mr_C 91 11 = some (.iload 5, 2) := rfl
theorem mc91_13 : mr_C 91 13 = some (.iload 6, 2) := rfl
theorem mc91_15 : mr_C 91 15 = some (.invokestatic 145, 3) := rfl
theorem mc91_18 : mr_C 91 18 = some (.aload_n 0, 1) := rfl
theorem mc91_19 : mr_C 91 19 = some (.getfield 11, 3) := rfl
theorem mc91_22 : mr_C 91 22 = some (.iload_n 2, 1) := rfl
theorem mc91_23 : mr_C 91 23 = some (.aaload, 1) := rfl
theorem mc91_24 : mr_C 91 24 = some (.astore 7, 2) := rfl
theorem mc91_26 : mr_C 91 26 = some (.aload_n 0, 1) := rfl
theorem mc91_27 : mr_C 91 27 = some (.getfield 32, 3) := rfl
theorem mc91_30 : mr_C 91 30 = some (.invokevirtual 69, 3) := rfl
theorem mc91_33 : mr_C 91 33 = some (.aload 7, 2) := rfl
theorem mc91_35 : mr_C 91 35 = some (.aload_n 0, 1) := rfl
theorem mc91_36 : mr_C 91 36 = some (.getfield 32, 3) := rfl
theorem mc91_39 : mr_C 91 39 = some (.iload 5, 2) := rfl
theorem mc91_41 : mr_C 91 41 = some (.ineg, 1) := rfl
theorem mc91_42 : mr_C 91 42 = some (.invokevirtual 91, 3) := rfl
theorem mc91_45 : mr_C 91 45 = some (.aload 7, 2) := rfl
theorem mc91_47 : mr_C 91 47 = some (.aload_n 0, 1) := rfl
theorem mc91_48 : mr_C 91 48 = some (.getfield 32, 3) := by decide +kernel
theorem mc91_51 : mr_C 91 51 = some (.iload 6, 2) := by decide +kernel
theorem mc91_53 : mr_C 91 53 = some (.invokevirtual 91, 3) := by decide +kernel
theorem mc91_56 : mr_C 91 56 = some (.aload_n 0, 1) := by decide +kernel
theorem mc91_57 : mr_C 91 57 = some (.getfield 18, 3) := by decide +kernel
theorem mc91_60 : mr_C 91 60 = some (.invokevirtual 76, 3) := by decide +kernel
theorem mc91_63 : mr_C 91 63 = some (.sipush (-1000), 3) := by decide +kernel
theorem mc91_66 : mr_C 91 66 = some (.istore 9, 2) := by decide +kernel
theorem mc91_68 : mr_C 91 68 = some (.iload 9, 2) := by decide +kernel
theorem mc91_70 : mr_C 91 70 = some (.sipush 1000, 3) := by decide +kernel
theorem mc91_73 : mr_C 91 73 = some (.if_icmp .ge (127), 3) := by decide +kernel
theorem mc91_76 : mr_C 91 76 = some (.aload_n 0, 1) := by decide +kernel
theorem mc91_77 : mr_C 91 77 = some (.getfield 18, 3) := by decide +kernel
theorem mc91_80 : mr_C 91 80 = some (.getfield 95, 3) := by decide +kernel
theorem mc91_83 : mr_C 91 83 = some (.ifCond .ne (117), 3) := by decide +kernel
theorem mc91_86 : mr_C 91 86 = some (.iload 9, 2) := by decide +kernel
theorem mc91_88 : mr_C 91 88 = some (.iconst 1, 1) := by decide +kernel
theorem mc91_89 : mr_C 91 89 = some (.iadd, 1) := by decide +kernel
theorem mc91_90 : mr_C 91 90 = some (.aload_n 0, 1) := by decide +kernel
theorem mc91_91 : mr_C 91 91 = some (.getfield 32, 3) := by decide +kernel
theorem mc91_94 : mr_C 91 94 = some (.iload 9, 2) := by decide +kernel
theorem mc91_96 : mr_C 91 96 = some (.iconst 1, 1) := by decide +kernel
theorem mc91_97 : mr_C 91 97 = some (.iadd, 1) := by decide +kernel
theorem mc91_98 : mr_C 91 98 = some (.invokevirtual 99, 3) := by decide +kernel
theorem mc91_101 : mr_C 91 101 = some (.invokestatic 102, 3) := by decide +kernel
theorem mc91_104 : mr_C 91 104 = some (.istore 8, 2) := by decide +kernel
theorem mc91_106 : mr_C 91 106 = some (.aload_n 0, 1) := by decide +kernel
theorem mc91_107 : mr_C 91 107 = some (.getfield 25, 3) := by decide +kernel
theorem mc91_110 : mr_C 91 110 = some (.invokevirtual 69, 3) := by decide +kernel
theorem mc91_113 : mr_C 91 113 = some (.iconst 0, 1) := by decide +kernel
theorem mc91_114 : mr_C 91 114 = some (.istore 10, 2) := by decide +kernel
theorem mc91_116 : mr_C 91 116 = some (.iload 10, 2) := by decide +kernel
theorem mc91_118 : mr_C 91 118 = some (.aload 7, 2) := by decide +kernel
theorem mc91_120 : mr_C 91 120 = some (.getfield 118, 3) := by decide +kernel
theorem mc91_123 : mr_C 91 123 = some (.if_icmp .ge (55), 3) := by decide +kernel
theorem mc91_126 : mr_C 91 126 = some (.aload 7, 2) := by decide +kernel
theorem mc91_128 : mr_C 91 128 = some (.getfield 125, 3) := by decide +kernel
theorem mc91_131 : mr_C 91 131 = some (.iload 10, 2) := by decide +kernel
theorem mc91_133 : mr_C 91 133 = some (.iaload, 1) := by decide +kernel
theorem mc91_134 : mr_C 91 134 = some (.iload 5, 2) := by decide +kernel
theorem mc91_136 : mr_C 91 136 = some (.isub, 1) := by decide +kernel
theorem mc91_137 : mr_C 91 137 = some (.iload 9, 2) := by decide +kernel
theorem mc91_139 : mr_C 91 139 = some (.if_icmp .gt (33), 3) := by decide +kernel
theorem mc91_142 : mr_C 91 142 = some (.iload 9, 2) := by decide +kernel
theorem mc91_144 : mr_C 91 144 = some (.aload 7, 2) := by decide +kernel
theorem mc91_146 : mr_C 91 146 = some (.getfield 129, 3) := by decide +kernel
theorem mc91_149 : mr_C 91 149 = some (.iload 10, 2) := by decide +kernel
theorem mc91_151 : mr_C 91 151 = some (.iaload, 1) := by decide +kernel
theorem mc91_152 : mr_C 91 152 = some (.iload 6, 2) := by decide +kernel
theorem mc91_154 : mr_C 91 154 = some (.iadd, 1) := by decide +kernel
theorem mc91_155 : mr_C 91 155 = some (.if_icmp .ge (17), 3) := by decide +kernel
theorem mc91_158 : mr_C 91 158 = some (.aload 7, 2) := by decide +kernel
theorem mc91_160 : mr_C 91 160 = some (.iload 10, 2) := by decide +kernel
theorem mc91_162 : mr_C 91 162 = some (.aload_n 0, 1) := by decide +kernel
theorem mc91_163 : mr_C 91 163 = some (.getfield 25, 3) := by decide +kernel
theorem mc91_166 : mr_C 91 166 = some (.iload_n 3, 1) := by decide +kernel
theorem mc91_167 : mr_C 91 167 = some (.iload 4, 2) := by decide +kernel
theorem mc91_169 : mr_C 91 169 = some (.invokevirtual 121, 3) := by decide +kernel
theorem mc91_172 : mr_C 91 172 = some (.iinc 10 (1), 3) := by decide +kernel
theorem mc91_175 : mr_C 91 175 = some (.goto (-59), 3) := by decide +kernel
theorem mc91_178 : mr_C 91 178 = some (.aload_n 0, 1) := by decide +kernel
theorem mc91_179 : mr_C 91 179 = some (.getfield 18, 3) := by decide +kernel
theorem mc91_182 : mr_C 91 182 = some (.iload 9, 2) := by decide +kernel
theorem mc91_184 : mr_C 91 184 = some (.iload 8, 2) := by decide +kernel
theorem mc91_186 : mr_C 91 186 = some (.aload_n 0, 1) := by decide +kernel
theorem mc91_187 : mr_C 91 187 = some (.getfield 25, 3) := by decide +kernel
theorem mc91_190 : mr_C 91 190 = some (.invokevirtual 79, 3) := by decide +kernel
theorem mc91_193 : mr_C 91 193 = some (.iload 8, 2) := by decide +kernel
theorem mc91_195 : mr_C 91 195 = some (.istore 9, 2) := by decide +kernel
theorem mc91_197 : mr_C 91 197 = some (.goto (-129), 3) := by decide +kernel
theorem mc91_200 : mr_C 91 200 = some (.aload_n 0, 1) := by decide +kernel
theorem mc91_201 : mr_C 91 201 = some (.iload_n 1, 1) := by decide +kernel
theorem mc91_202 : mr_C 91 202 = some (.invokevirtual 83, 3) := by decide +kernel
theorem mc91_205 : mr_C 91 205 = some (.ireturn, 1) := by decide +kernel
theorem vc91_0 {sc : Nat × (Int → Int)} {Q : mm_R → mm_M → Prop} {M : mm_M} {l1 : Int} {l2 : Int} {l3 : Int} {l4 : Int} {l5 : Int} {l6 : Int} (ho : mr_ok M)
    (h : en_CV sc 9 [mm_i l1] M (fun M2 => mr_ok M2 → en_CV sc 9 [mm_i l2] M2 (fun M5 => mr_ok M5 → en_CV sc 90 [mm_i l3, mm_i l4, mm_i l5, mm_i l6] M5 (fun M8 => mr_ok M8 → 0 ≤ l2 ∧ (l2 < 8 ∧ (∃ b12, M8.2.1 1 l2 = some b12 ∧ mr_A b12 ∧ (en_CV sc 12 [mm_r 15] M8 (fun M15 => mr_ok M15 → en_CV sc 48 [mm_r b12, mm_r 15, mm_i (0 - l5), mm_u] M15 (fun M18 => mr_ok M18 → en_CV sc 48 [mm_r b12, mm_r 15, mm_i l6, mm_u] M18 (fun M21 => mr_ok M21 → en_CV sc 18 [mm_r 2] M21 (fun M24 => mr_ok M24 → en_R sc 91 68 [mm_r 0, mm_i l1, mm_i l2, mm_i l3, mm_i l4, mm_i l5, mm_i l6, mm_r b12, mm_u, mm_i (-1000), mm_u] [] M24 Q) (fun e M9 => Q (.inr e) M9)) (fun e M9 => Q (.inr e) M9)) (fun e M9 => Q (.inr e) M9)) (fun e M9 => Q (.inr e) M9))))) (fun e M9 => Q (.inr e) M9)) (fun e M9 => Q (.inr e) M9)) (fun e M9 => Q (.inr e) M9)) : en_R sc 91 0 [mm_r 0, mm_i l1, mm_i l2, mm_i l3, mm_i l4, mm_i l5, mm_i l6, mm_u, mm_u, mm_u, mm_u] [] M Q := by
  refine en_iload_n mc91_0 rfl ?_
  refine en_callV (lz := [mm_i l1]) mv91 mc91_1 rfl rfl (lk_m6_61) mv9 rfl (by decide) rfl (mk_cokS rfl) rfl (mk_nh rfl _) ho ?_
  refine en_CV_mono h (fun M2 h => ?_) (fun _ _ h => h)
  intro ho3
  replace h := h ho3
  refine en_iload_n mc91_4 rfl ?_
  refine en_callV (lz := [mm_i l2]) mv91 mc91_5 rfl rfl (lk_m6_61) mv9 rfl (by decide) rfl (mk_cokS rfl) rfl (mk_nh rfl _) ho3 ?_
  refine en_CV_mono h (fun M5 h => ?_) (fun _ _ h => h)
  intro ho6
  replace h := h ho6
  refine en_iload_n mc91_8 rfl ?_
  refine en_iload mc91_9 rfl ?_
  refine en_iload mc91_11 rfl ?_
  refine en_iload mc91_13 rfl ?_
  refine en_callV (lz := [mm_i l3, mm_i l4, mm_i l5, mm_i l6]) mv91 mc91_15 rfl rfl (lk_m6_145) mv90 rfl (by decide) rfl (mk_cokS rfl) rfl (mk_nh rfl _) ho6 ?_
  refine en_CV_mono h (fun M8 h => ?_) (fun _ _ h => h)
  intro ho9
  replace h := h ho9
  obtain ⟨g10, h⟩ := h
  obtain ⟨g11, h⟩ := h
  refine en_aload_n mc91_18 rfl ?_
  refine en_getR (b := 1) mv91 mc91_19 (lk_f6_11) (⟨rfl, by decide⟩ : mt_kd[0]? = some (.inl 6) ∧ 0 < 99) rfl (mk_fc ho9 (by decide +kernel)) ?_
  refine en_iload_n mc91_22 rfl ?_
  obtain ⟨b12, g13, hA_b12_, h⟩ := h
  refine en_aald mc91_23 g10 g11 g13 ?_
  refine en_astore (ls' := [mm_r 0, mm_i l1, mm_i l2, mm_i l3, mm_i l4, mm_i l5, mm_i l6, mm_r b12, mm_u, mm_u, mm_u]) mc91_24 (Nat.le_of_ble_eq_true rfl) rfl ?_
  refine en_aload_n mc91_26 rfl ?_
  refine en_getR (b := 15) mv91 mc91_27 (lk_f6_32) (⟨rfl, by decide⟩ : mt_kd[0]? = some (.inl 6) ∧ 0 < 99) rfl (mk_fc ho9 (by decide +kernel)) ?_
  refine en_callV (lz := [mm_r 15]) mv91 mc91_30 rfl rfl (lk_m6_69) mv12 rfl (by decide) rfl (mk_cokV rfl (mk_R0 (by unfold mr_Rw; decide : mr_Rw 15))) rfl (mk_nh rfl _) ho9 ?_
  refine en_CV_mono h (fun M15 h => ?_) (fun _ _ h => h)
  intro ho16
  replace h := h ho16
  refine en_aload mc91_33 rfl ?_
  refine en_aload_n mc91_35 rfl ?_
  refine en_getR (b := 15) mv91 mc91_36 (lk_f6_32) (⟨rfl, by decide⟩ : mt_kd[0]? = some (.inl 6) ∧ 0 < 99) rfl (mk_fc ho16 (by decide +kernel)) ?_
  refine en_iload mc91_39 rfl ?_
  refine en_ineg mc91_41 ?_
  refine en_callV (lz := [mm_r b12, mm_r 15, mm_i (0 - l5), mm_u]) mv91 mc91_42 rfl rfl (lk_m6_91) mv48 rfl (by decide) rfl (mk_cokV rfl (mk_A0 hA_b12_)) rfl (mk_nh rfl _) ho16 ?_
  refine en_CV_mono h (fun M18 h => ?_) (fun _ _ h => h)
  intro ho19
  replace h := h ho19
  refine en_aload mc91_45 rfl ?_
  refine en_aload_n mc91_47 rfl ?_
  refine en_getR (b := 15) mv91 mc91_48 (lk_f6_32) (⟨rfl, by decide⟩ : mt_kd[0]? = some (.inl 6) ∧ 0 < 99) rfl (mk_fc ho19 (by decide +kernel)) ?_
  refine en_iload mc91_51 rfl ?_
  refine en_callV (lz := [mm_r b12, mm_r 15, mm_i l6, mm_u]) mv91 mc91_53 rfl rfl (lk_m6_91) mv48 rfl (by decide) rfl (mk_cokV rfl (mk_A0 hA_b12_)) rfl (mk_nh rfl _) ho19 ?_
  refine en_CV_mono h (fun M21 h => ?_) (fun _ _ h => h)
  intro ho22
  replace h := h ho22
  refine en_aload_n mc91_56 rfl ?_
  refine en_getR (b := 2) mv91 mc91_57 (lk_f6_18) (⟨rfl, by decide⟩ : mt_kd[0]? = some (.inl 6) ∧ 0 < 99) rfl (mk_fc ho22 (by decide +kernel)) ?_
  refine en_callV (lz := [mm_r 2]) mv91 mc91_60 rfl rfl (lk_m6_76) mv18 rfl (by decide) rfl (mk_cokV rfl (⟨rfl, by decide⟩ : mt_kd[2]? = some (.inl 2) ∧ 2 < 99)) rfl (mk_nh rfl _) ho22 ?_
  refine en_CV_mono h (fun M24 h => ?_) (fun _ _ h => h)
  intro ho25
  replace h := h ho25
  refine en_sipush mc91_63 (by decide) ?_
  refine en_istore (ls' := [mm_r 0, mm_i l1, mm_i l2, mm_i l3, mm_i l4, mm_i l5, mm_i l6, mm_r b12, mm_u, mm_i (-1000), mm_u]) mc91_66 (Nat.le_of_ble_eq_true rfl) rfl ?_
  exact h
theorem vc91_68 {sc : Nat × (Int → Int)} {Q : mm_R → mm_M → Prop} {M : mm_M} {l1 : Int} {l2 : Int} {l3 : Int} {l4 : Int} {l5 : Int} {l6 : Int} {l7 : Nat} {l8 : mm_V} {l9 : Int} {l10 : mm_V} (ho : mr_ok M) (hg_l9 : mr_rg l9)
    (h : (1000 ≤ l9 → en_R sc 91 200 [mm_r 0, mm_i l1, mm_i l2, mm_i l3, mm_i l4, mm_i l5, mm_i l6, mm_r l7, l8, mm_i l9, l10] [] M Q) ∧ (¬ 1000 ≤ l9 → ((M.1 2 2) ≠ 0 → en_R sc 91 200 [mm_r 0, mm_i l1, mm_i l2, mm_i l3, mm_i l4, mm_i l5, mm_i l6, mm_r l7, l8, mm_i l9, l10] [] M Q) ∧ (¬ ((M.1 2 2) ≠ 0) → en_CI sc 22 [mm_r 15, mm_i (l9 + 1)] M (fun x1 M2 => mr_ok M2 → mr_rg (l9 + 1) ∧ (mr_rg x1 ∧ (en_CV sc 12 [mm_r 11] M2 (fun M7 => mr_ok M7 → en_R sc 91 116 [mm_r 0, mm_i l1, mm_i l2, mm_i l3, mm_i l4, mm_i l5, mm_i l6, mm_r l7, mm_i (max (l9 + 1) x1), mm_i l9, mm_i 0] [] M7 Q) (fun e M9 => Q (.inr e) M9)))) (fun e M9 => Q (.inr e) M9)))) : en_R sc 91 68 [mm_r 0, mm_i l1, mm_i l2, mm_i l3, mm_i l4, mm_i l5, mm_i l6, mm_r l7, l8, mm_i l9, l10] [] M Q := by
  refine en_iload mc91_68 rfl ?_
  refine en_sipush mc91_70 (by decide) ?_
  refine en_icmp_ge 200 mc91_73 (by decide) hg_l9 (⟨by decide, by decide⟩ : mr_rg 1000) (fun q => ?_) (fun q => ?_)
  · replace h := h.1 q
    exact h
  · replace h := h.2 q
    refine en_aload_n mc91_76 rfl ?_
    refine en_getR (b := 2) mv91 mc91_77 (lk_f6_18) (⟨rfl, by decide⟩ : mt_kd[0]? = some (.inl 6) ∧ 0 < 99) rfl (mk_fc ho (by decide +kernel)) ?_
    refine en_getI mv91 mc91_80 (lk_f6_95) (⟨rfl, by decide⟩ : mt_kd[2]? = some (.inl 2) ∧ 2 < 99) (Or.inr rfl) ?_
    refine en_if_ne 200 mc91_83 (by decide) (ho.2.1 2 2 (by unfold mr_lg; omega)) (fun q => ?_) (fun q => ?_)
    · replace h := h.1 q
      exact h
    · replace h := h.2 q
      refine en_iload mc91_86 rfl ?_
      refine en_iconst mc91_88 ?_
      refine en_iadd mc91_89 ?_
      refine en_aload_n mc91_90 rfl ?_
      refine en_getR (b := 15) mv91 mc91_91 (lk_f6_32) (⟨rfl, by decide⟩ : mt_kd[0]? = some (.inl 6) ∧ 0 < 99) rfl (mk_fc ho (by decide +kernel)) ?_
      refine en_iload mc91_94 rfl ?_
      refine en_iconst mc91_96 ?_
      refine en_iadd mc91_97 ?_
      refine en_callI (lz := [mm_r 15, mm_i (l9 + 1)]) mv91 mc91_98 rfl rfl (lk_m6_99) mv22 rfl (by decide) rfl (mk_cokV rfl (mk_R0 (by unfold mr_Rw; decide : mr_Rw 15))) rfl (mk_nh rfl _) ho ?_
      refine en_CI_mono h (fun x1 M2 h => ?_) (fun _ _ h => h)
      intro ho3
      replace h := h ho3
      obtain ⟨g4, h⟩ := h
      obtain ⟨g5, h⟩ := h
      refine en_max mv91 mc91_101 (lk_m6_102) mv13 rfl ⟨Nat.le_of_ble_eq_true rfl, Nat.le_of_ble_eq_true rfl⟩ g4 g5 ?_
      refine en_istore (ls' := [mm_r 0, mm_i l1, mm_i l2, mm_i l3, mm_i l4, mm_i l5, mm_i l6, mm_r l7, mm_i (max (l9 + 1) x1), mm_i l9, l10]) mc91_104 (Nat.le_of_ble_eq_true rfl) rfl ?_
      refine en_aload_n mc91_106 rfl ?_
      refine en_getR (b := 11) mv91 mc91_107 (lk_f6_25) (⟨rfl, by decide⟩ : mt_kd[0]? = some (.inl 6) ∧ 0 < 99) rfl (mk_fc ho3 (by decide +kernel)) ?_
      refine en_callV (lz := [mm_r 11]) mv91 mc91_110 rfl rfl (lk_m6_69) mv12 rfl (by decide) rfl (mk_cokV rfl (mk_R0 (by unfold mr_Rw; decide : mr_Rw 11))) rfl (mk_nh rfl _) ho3 ?_
      refine en_CV_mono h (fun M7 h => ?_) (fun _ _ h => h)
      intro ho8
      replace h := h ho8
      refine en_iconst mc91_113 ?_
      refine en_istore (ls' := [mm_r 0, mm_i l1, mm_i l2, mm_i l3, mm_i l4, mm_i l5, mm_i l6, mm_r l7, mm_i (max (l9 + 1) x1), mm_i l9, mm_i 0]) mc91_114 (Nat.le_of_ble_eq_true rfl) rfl ?_
      exact h
theorem vc91_116 {sc : Nat × (Int → Int)} {Q : mm_R → mm_M → Prop} {M : mm_M} {l1 : Int} {l2 : Int} {l3 : Int} {l4 : Int} {l5 : Int} {l6 : Int} {l7 : Nat} {l8 : Int} {l9 : Int} {l10 : Int} (ho : mr_ok M) (hA_l7 : mr_A l7) (hg_l10 : mr_rg l10) (hg_l9 : mr_rg l9)
    (h : ((M.1 l7 0) ≤ l10 → en_CV sc 29 [mm_r 2, mm_i l9, mm_i l8, mm_r 11, mm_u] M (fun M2 => mr_ok M2 → en_R sc 91 68 [mm_r 0, mm_i l1, mm_i l2, mm_i l3, mm_i l4, mm_i l5, mm_i l6, mm_r l7, mm_i l8, mm_i l8, mm_i l10] [] M2 Q) (fun e M9 => Q (.inr e) M9)) ∧ (¬ (M.1 l7 0) ≤ l10 → 0 ≤ l10 ∧ (l10 < 100 ∧ (mr_rg ((M.1 (l7 + 1) l10) - l5) ∧ ((l9 < ((M.1 (l7 + 1) l10) - l5) → en_R sc 91 116 [mm_r 0, mm_i l1, mm_i l2, mm_i l3, mm_i l4, mm_i l5, mm_i l6, mm_r l7, mm_i l8, mm_i l9, mm_i (l10 + 1)] [] M Q) ∧ (¬ l9 < ((M.1 (l7 + 1) l10) - l5) → 0 ≤ l10 ∧ (l10 < 100 ∧ (mr_rg ((M.1 (l7 + 2) l10) + l6) ∧ ((((M.1 (l7 + 2) l10) + l6) ≤ l9 → en_R sc 91 116 [mm_r 0, mm_i l1, mm_i l2, mm_i l3, mm_i l4, mm_i l5, mm_i l6, mm_r l7, mm_i l8, mm_i l9, mm_i (l10 + 1)] [] M Q) ∧ (¬ ((M.1 (l7 + 2) l10) + l6) ≤ l9 → en_CV sc 52 [mm_r l7, mm_i l10, mm_r 11, mm_i l3, mm_i l4, mm_u] M (fun M11 => mr_ok M11 → en_R sc 91 116 [mm_r 0, mm_i l1, mm_i l2, mm_i l3, mm_i l4, mm_i l5, mm_i l6, mm_r l7, mm_i l8, mm_i l9, mm_i (l10 + 1)] [] M11 Q) (fun e M9 => Q (.inr e) M9))))))))))) : en_R sc 91 116 [mm_r 0, mm_i l1, mm_i l2, mm_i l3, mm_i l4, mm_i l5, mm_i l6, mm_r l7, mm_i l8, mm_i l9, mm_i l10] [] M Q := by
  refine en_iload mc91_116 rfl ?_
  refine en_aload mc91_118 rfl ?_
  refine en_getI mv91 mc91_120 (lk_f6_118) (mk_A0 hA_l7) (Or.inl rfl) ?_
  refine en_icmp_ge 178 mc91_123 (by decide) hg_l10 (ho.2.1 l7 0 (mk_nA0 hA_l7 _)) (fun q => ?_) (fun q => ?_)
  · replace h := h.1 q
    refine en_aload_n mc91_178 rfl ?_
    refine en_getR (b := 2) mv91 mc91_179 (lk_f6_18) (⟨rfl, by decide⟩ : mt_kd[0]? = some (.inl 6) ∧ 0 < 99) rfl (mk_fc ho (by decide +kernel)) ?_
    refine en_iload mc91_182 rfl ?_
    refine en_iload mc91_184 rfl ?_
    refine en_aload_n mc91_186 rfl ?_
    refine en_getR (b := 11) mv91 mc91_187 (lk_f6_25) (⟨rfl, by decide⟩ : mt_kd[0]? = some (.inl 6) ∧ 0 < 99) rfl (mk_fc ho (by decide +kernel)) ?_
    refine en_callV (lz := [mm_r 2, mm_i l9, mm_i l8, mm_r 11, mm_u]) mv91 mc91_190 rfl rfl (lk_m6_79) mv29 rfl (by decide) rfl (mk_cokV rfl (⟨rfl, by decide⟩ : mt_kd[2]? = some (.inl 2) ∧ 2 < 99)) rfl (mk_nh rfl _) ho ?_
    refine en_CV_mono h (fun M2 h => ?_) (fun _ _ h => h)
    intro ho3
    replace h := h ho3
    refine en_iload mc91_193 rfl ?_
    refine en_istore (ls' := [mm_r 0, mm_i l1, mm_i l2, mm_i l3, mm_i l4, mm_i l5, mm_i l6, mm_r l7, mm_i l8, mm_i l8, mm_i l10]) mc91_195 (Nat.le_of_ble_eq_true rfl) rfl ?_
    refine en_goto 68 mc91_197 (by decide) ?_
    exact h
  · replace h := h.2 q
    obtain ⟨g4, h⟩ := h
    obtain ⟨g5, h⟩ := h
    obtain ⟨g6, h⟩ := h
    refine en_aload mc91_126 rfl ?_
    refine en_getR (b := (l7 + 1)) mv91 mc91_128 (lk_f6_125) (mk_A0 hA_l7) rfl (mk_fA1 hA_l7 ho) ?_
    refine en_iload mc91_131 rfl ?_
    refine en_iald mc91_133 (mk_A1 hA_l7) g4 g5 ?_
    refine en_iload mc91_134 rfl ?_
    refine en_isub mc91_136 ?_
    refine en_iload mc91_137 rfl ?_
    refine en_icmp_gt 172 mc91_139 (by decide) g6 hg_l9 (fun q => ?_) (fun q => ?_)
    · replace h := h.1 q
      refine en_iinc (ls' := [mm_r 0, mm_i l1, mm_i l2, mm_i l3, mm_i l4, mm_i l5, mm_i l6, mm_r l7, mm_i l8, mm_i l9, mm_i (l10 + 1)]) mc91_172 rfl rfl ?_
      refine en_goto 116 mc91_175 (by decide) ?_
      exact h
    · replace h := h.2 q
      obtain ⟨g7, h⟩ := h
      obtain ⟨g8, h⟩ := h
      obtain ⟨g9, h⟩ := h
      refine en_iload mc91_142 rfl ?_
      refine en_aload mc91_144 rfl ?_
      refine en_getR (b := (l7 + 2)) mv91 mc91_146 (lk_f6_129) (mk_A0 hA_l7) rfl (mk_fA2 hA_l7 ho) ?_
      refine en_iload mc91_149 rfl ?_
      refine en_iald mc91_151 (mk_A2 hA_l7) g7 g8 ?_
      refine en_iload mc91_152 rfl ?_
      refine en_iadd mc91_154 ?_
      refine en_icmp_ge 172 mc91_155 (by decide) hg_l9 g9 (fun q => ?_) (fun q => ?_)
      · replace h := h.1 q
        refine en_iinc (ls' := [mm_r 0, mm_i l1, mm_i l2, mm_i l3, mm_i l4, mm_i l5, mm_i l6, mm_r l7, mm_i l8, mm_i l9, mm_i (l10 + 1)]) mc91_172 rfl rfl ?_
        refine en_goto 116 mc91_175 (by decide) ?_
        exact h
      · replace h := h.2 q
        refine en_aload mc91_158 rfl ?_
        refine en_iload mc91_160 rfl ?_
        refine en_aload_n mc91_162 rfl ?_
        refine en_getR (b := 11) mv91 mc91_163 (lk_f6_25) (⟨rfl, by decide⟩ : mt_kd[0]? = some (.inl 6) ∧ 0 < 99) rfl (mk_fc ho (by decide +kernel)) ?_
        refine en_iload_n mc91_166 rfl ?_
        refine en_iload mc91_167 rfl ?_
        refine en_callV (lz := [mm_r l7, mm_i l10, mm_r 11, mm_i l3, mm_i l4, mm_u]) mv91 mc91_169 rfl rfl (lk_m6_121) mv52 rfl (by decide) rfl (mk_cokV rfl (mk_A0 hA_l7)) rfl (mk_nh rfl _) ho ?_
        refine en_CV_mono h (fun M11 h => ?_) (fun _ _ h => h)
        intro ho12
        replace h := h ho12
        refine en_iinc (ls' := [mm_r 0, mm_i l1, mm_i l2, mm_i l3, mm_i l4, mm_i l5, mm_i l6, mm_r l7, mm_i l8, mm_i l9, mm_i (l10 + 1)]) mc91_172 rfl rfl ?_
        refine en_goto 116 mc91_175 (by decide) ?_
        exact h
theorem vc91_200 {sc : Nat × (Int → Int)} {Q : mm_R → mm_M → Prop} {M : mm_M} {l1 : Int} {l2 : Int} {l3 : Int} {l4 : Int} {l5 : Int} {l6 : Int} {l7 : Nat} {l8 : mm_V} {l9 : Int} {l10 : mm_V} (ho : mr_ok M)
    (h : en_CI sc 30 [mm_r 0, mm_i l1, mm_u] M (fun x1 M2 => mr_ok M2 → Q (.inl (some (mm_i x1))) M2) (fun e M9 => Q (.inr e) M9)) : en_R sc 91 200 [mm_r 0, mm_i l1, mm_i l2, mm_i l3, mm_i l4, mm_i l5, mm_i l6, mm_r l7, l8, mm_i l9, l10] [] M Q := by
  refine en_aload_n mc91_200 rfl ?_
  refine en_iload_n mc91_201 rfl ?_
  refine en_callI (lz := [mm_r 0, mm_i l1, mm_u]) mv91 mc91_202 rfl rfl (lk_m6_83) mv30 rfl (by decide) rfl (mk_cokV rfl (⟨rfl, by decide⟩ : mt_kd[0]? = some (.inl 6) ∧ 0 < 99)) rfl (mk_nh rfl _) ho ?_
  refine en_CI_mono h (fun x1 M2 h => ?_) (fun _ _ h => h)
  intro ho3
  replace h := h ho3
  exact en_iret mv91 mc91_205 rfl h
/-! 93: CellAreasModel.areSteps(IIII)Z -/
theorem mc93_0 : mr_C 93 0 = some (.iload_n 1, 1) := rfl
theorem mc93_1 : mr_C 93 1 = some (.iconst 0, 1) := rfl
theorem mc93_2 : mr_C 93 2 = some (.sipush 2000, 3) := rfl
theorem mc93_5 : mr_C 93 5 = some (.invokestatic 135, 3) := rfl
theorem mc93_8 : mr_C 93 8 = some (.ifCond .eq (41), 3) := rfl
theorem mc93_11 : mr_C 93 11 = some (.iload_n 2, 1) := rfl
theorem mc93_12 : mr_C 93 12 = some (.iconst 0, 1) := rfl
theorem mc93_13 : mr_C 93 13 = some (.sipush 2000, 3) := rfl
theorem mc93_16 : mr_C 93 16 = some (.invokestatic 135, 3) := rfl
theorem mc93_19 : mr_C 93 19 = some (.ifCond .eq (30), 3) := rfl
theorem mc93_22 : mr_C 93 22 = some (.iload_n 3, 1) := rfl
theorem mc93_23 : mr_C 93 23 = some (.iconst 0, 1) := rfl
theorem mc93_24 : mr_C 93 24 = some (.sipush 2000, 3) := rfl
theorem mc93_27 : mr_C 93 27 = some (.invokestatic 135, 3) := rfl
theorem mc93_30 : mr_C 93 30 = some (.ifCond .eq (19), 3) := rfl
theorem mc93_33 : mr_C 93 33 = some (.iload 4, 2) := rfl
theorem mc93_35 : mr_C 93 35 = some (.iconst 0, 1) := rfl
theorem mc93_36 : mr_C 93 36 = some (.sipush 2000, 3) := rfl
theorem mc93_39 : mr_C 93 39 = some (.invokestatic 135, 3) := rfl
theorem mc93_42 : mr_C 93 42 = some (.ifCond .eq (7), 3) := rfl
theorem mc93_45 : mr_C 93 45 = some (.iconst 1, 1) := rfl
theorem mc93_46 : mr_C 93 46 = some (.goto 4, 3) := rfl
theorem mc93_49 : mr_C 93 49 = some (.iconst 0, 1) := rfl
theorem mc93_50 : mr_C 93 50 = some (.ireturn, 1) := rfl
theorem vc93_0 {sc : Nat × (Int → Int)} {Q : mm_R → mm_M → Prop} {M : mm_M} {l1 : Int} {l2 : Int} {l3 : Int} {l4 : Int} (ho : mr_ok M)
    (h : en_CI sc 33 [mm_i l1, mm_i 0, mm_i 2000] M (fun x1 M2 => mr_ok M2 → mr_rg x1 ∧ ((x1 = 0 → Q (.inl (some (mm_i 0))) M2) ∧ (¬ x1 = 0 → en_CI sc 33 [mm_i l2, mm_i 0, mm_i 2000] M2 (fun x5 M6 => mr_ok M6 → mr_rg x5 ∧ ((x5 = 0 → Q (.inl (some (mm_i 0))) M6) ∧ (¬ x5 = 0 → en_CI sc 33 [mm_i l3, mm_i 0, mm_i 2000] M6 (fun x9 M10 => mr_ok M10 → mr_rg x9 ∧ ((x9 = 0 → Q (.inl (some (mm_i 0))) M10) ∧ (¬ x9 = 0 → en_CI sc 33 [mm_i l4, mm_i 0, mm_i 2000] M10 (fun x13 M14 => mr_ok M14 → mr_rg x13 ∧ ((x13 = 0 → Q (.inl (some (mm_i 0))) M14) ∧ (¬ x13 = 0 → Q (.inl (some (mm_i 1))) M14))) (fun e M9 => Q (.inr e) M9)))) (fun e M9 => Q (.inr e) M9)))) (fun e M9 => Q (.inr e) M9)))) (fun e M9 => Q (.inr e) M9)) : en_R sc 93 0 [mm_r 72, mm_i l1, mm_i l2, mm_i l3, mm_i l4] [] M Q := by
  refine en_iload_n mc93_0 rfl ?_
  refine en_iconst mc93_1 ?_
  refine en_sipush mc93_2 (by decide) ?_
  refine en_callI (lz := [mm_i l1, mm_i 0, mm_i 2000]) mv93 mc93_5 rfl rfl (lk_m7_135) mv33 rfl (by decide) rfl (mk_cokS rfl) rfl (mk_nh rfl _) ho ?_
  refine en_CI_mono h (fun x1 M2 h => ?_) (fun _ _ h => h)
  intro ho3
  replace h := h ho3
  obtain ⟨g4, h⟩ := h
  refine en_if_eq 49 mc93_8 (by decide) g4 (fun q => ?_) (fun q => ?_)
  · replace h := h.1 q
    refine en_iconst mc93_49 ?_
    exact en_zret mv93 mc93_50 rfl (by decide) h
  · replace h := h.2 q
    refine en_iload_n mc93_11 rfl ?_
    refine en_iconst mc93_12 ?_
    refine en_sipush mc93_13 (by decide) ?_
    refine en_callI (lz := [mm_i l2, mm_i 0, mm_i 2000]) mv93 mc93_16 rfl rfl (lk_m7_135) mv33 rfl (by decide) rfl (mk_cokS rfl) rfl (mk_nh rfl _) ho3 ?_
    refine en_CI_mono h (fun x5 M6 h => ?_) (fun _ _ h => h)
    intro ho7
    replace h := h ho7
    obtain ⟨g8, h⟩ := h
    refine en_if_eq 49 mc93_19 (by decide) g8 (fun q => ?_) (fun q => ?_)
    · replace h := h.1 q
      refine en_iconst mc93_49 ?_
      exact en_zret mv93 mc93_50 rfl (by decide) h
    · replace h := h.2 q
      refine en_iload_n mc93_22 rfl ?_
      refine en_iconst mc93_23 ?_
      refine en_sipush mc93_24 (by decide) ?_
      refine en_callI (lz := [mm_i l3, mm_i 0, mm_i 2000]) mv93 mc93_27 rfl rfl (lk_m7_135) mv33 rfl (by decide) rfl (mk_cokS rfl) rfl (mk_nh rfl _) ho7 ?_
      refine en_CI_mono h (fun x9 M10 h => ?_) (fun _ _ h => h)
      intro ho11
      replace h := h ho11
      obtain ⟨g12, h⟩ := h
      refine en_if_eq 49 mc93_30 (by decide) g12 (fun q => ?_) (fun q => ?_)
      · replace h := h.1 q
        refine en_iconst mc93_49 ?_
        exact en_zret mv93 mc93_50 rfl (by decide) h
      · replace h := h.2 q
        refine en_iload mc93_33 rfl ?_
        refine en_iconst mc93_35 ?_
        refine en_sipush mc93_36 (by decide) ?_
        refine en_callI (lz := [mm_i l4, mm_i 0, mm_i 2000]) mv93 mc93_39 rfl rfl (lk_m7_135) mv33 rfl (by decide) rfl (mk_cokS rfl) rfl (mk_nh rfl _) ho11 ?_
        refine en_CI_mono h (fun x13 M14 h => ?_) (fun _ _ h => h)
        intro ho15
        replace h := h ho15
        obtain ⟨g16, h⟩ := h
        refine en_if_eq 49 mc93_42 (by decide) g16 (fun q => ?_) (fun q => ?_)
        · replace h := h.1 q
          refine en_iconst mc93_49 ?_
          exact en_zret mv93 mc93_50 rfl (by decide) h
        · replace h := h.2 q
          refine en_iconst mc93_45 ?_
          refine en_goto 50 mc93_46 (by decide) ?_
          exact en_zret mv93 mc93_50 rfl (by decide) h
/-! 94: CellAreasModel.newToOne()V -/
theorem mc94_0 : mr_C 94 0 = some (.aload_n 0, 1) := rfl
theorem mc94_1 : mr_C 94 1 = some (.aload_n 0, 1) := rfl
theorem mc94_2 : mr_C 94 2 = some (.getfield 100, 3) := rfl
theorem mc94_5 : mr_C 94 5 = some (.putfield 115, 3) := rfl
theorem mc94_8 : mr_C 94 8 = some (.iconst 0, 1) := rfl
theorem mc94_9 : mr_C 94 9 = some (.istore_n 1, 1) := rfl
theorem mc94_10 : mr_C 94 10 = some (.iload_n 1, 1) := rfl
theorem mc94_11 : mr_C 94 11 = some (.aload_n 0, 1) := rfl
theorem mc94_12 : mr_C 94 12 = some (.getfield 100, 3) := rfl
theorem mc94_15 : mr_C 94 15 = some (.if_icmp .ge (33), 3) := rfl
theorem mc94_18 : mr_C 94 18 = some (.aload_n 0, 1) := rfl
theorem mc94_19 : mr_C 94 19 = some (.getfield 34, 3) := rfl
theorem mc94_22 : mr_C 94 22 = some (.iload_n 1, 1) := rfl
theorem mc94_23 : mr_C 94 23 = some (.aload_n 0, 1) := rfl
theorem mc94_24 : mr_C 94 24 = some (.getfield 46, 3) := rfl
theorem mc94_27 : mr_C 94 27 = some (.iload_n 1, 1) := rfl
theorem mc94_28 : mr_C 94 28 = some (.iaload, 1) := rfl
theorem mc94_29 : mr_C 94 29 = some (.iastore, 1) := rfl
theorem mc94_30 : mr_C 94 30 = some (.aload_n 0, 1) := rfl
theorem mc94_31 : mr_C 94 31 = some (.getfield 37, 3) := rfl
theorem mc94_34 : mr_C 94 34 = some (.iload_n 1, 1) := rfl
theorem mc94_35 : mr_C 94 35 = some (.aload_n 0, 1) := rfl
theorem mc94_36 : mr_C 94 36 = some (.getfield 49, 3) := rfl
theorem mc94_39 : mr_C 94 39 = some (.iload_n 1, 1) := by decide +kernel
theorem mc94_40 : mr_C 94 40 = some (.iaload, 1) := by decide +kernel
theorem mc94_41 : mr_C 94 41 = some (.iastore, 1) := by decide +kernel
theorem mc94_42 : mr_C 94 42 = some (.iinc 1 (1), 3) := by decide +kernel
theorem mc94_45 : mr_C 94 45 = some (.goto (-35), 3) := by decide +kernel
theorem mc94_48 : mr_C 94 48 = some (.return_, 1) := by decide +kernel
theorem vc94_0 {sc : Nat × (Int → Int)} {Q : mm_R → mm_M → Prop} {M : mm_M} (ho : mr_ok M)
    (h : en_R sc 94 10 [mm_r 72, mm_i 0] [] (mm_putN M 72 11 (M.1 72 17)) Q) : en_R sc 94 0 [mm_r 72, mm_u] [] M Q := by
  refine en_aload_n mc94_0 rfl ?_
  refine en_aload_n mc94_1 rfl ?_
  refine en_getI mv94 mc94_2 (lk_f7_100) (⟨rfl, by decide⟩ : mt_kd[72]? = some (.inl 7) ∧ 72 < 99) (Or.inl rfl) ?_
  refine en_putI mv94 mc94_5 (lk_f7_115) (⟨rfl, by decide⟩ : mt_kd[72]? = some (.inl 7) ∧ 72 < 99) rfl rfl (ho.2.1 72 17 (by unfold mr_lg; omega)) ?_
  refine en_iconst mc94_8 ?_
  refine en_istore_n (ls' := [mm_r 72, mm_i 0]) mc94_9 (Nat.le_of_ble_eq_true rfl) rfl ?_
  exact h
theorem vc94_10 {sc : Nat × (Int → Int)} {Q : mm_R → mm_M → Prop} {M : mm_M} {l1 : Int} (ho : mr_ok M) (hg_l1 : mr_rg l1)
    (h : ((M.1 72 17) ≤ l1 → Q (.inl none) M) ∧ (¬ (M.1 72 17) ≤ l1 → 0 ≤ l1 ∧ (l1 < 1200 ∧ (0 ≤ l1 ∧ (l1 < 1200 ∧ (0 ≤ l1 ∧ (l1 < 1200 ∧ (0 ≤ l1 ∧ (l1 < 1200 ∧ (en_R sc 94 10 [mm_r 72, mm_i (l1 + 1)] [] (mm_putN (mm_putN M 81 l1 (M.1 85 l1)) 82 l1 ((mm_putN M 81 l1 (M.1 85 l1)).1 86 l1)) Q)))))))))) : en_R sc 94 10 [mm_r 72, mm_i l1] [] M Q := by
  refine en_iload_n mc94_10 rfl ?_
  refine en_aload_n mc94_11 rfl ?_
  refine en_getI mv94 mc94_12 (lk_f7_100) (⟨rfl, by decide⟩ : mt_kd[72]? = some (.inl 7) ∧ 72 < 99) (Or.inl rfl) ?_
  refine en_icmp_ge 48 mc94_15 (by decide) hg_l1 (ho.2.1 72 17 (by unfold mr_lg; omega)) (fun q => ?_) (fun q => ?_)
  · replace h := h.1 q
    exact en_vret mv94 mc94_48 rfl h
  · replace h := h.2 q
    obtain ⟨g1, h⟩ := h
    obtain ⟨g2, h⟩ := h
    obtain ⟨g3, h⟩ := h
    obtain ⟨g4, h⟩ := h
    obtain ⟨g5, h⟩ := h
    obtain ⟨g6, h⟩ := h
    obtain ⟨g7, h⟩ := h
    obtain ⟨g8, h⟩ := h
    refine en_aload_n mc94_18 rfl ?_
    refine en_getR (b := 81) mv94 mc94_19 (lk_f7_34) (⟨rfl, by decide⟩ : mt_kd[72]? = some (.inl 7) ∧ 72 < 99) rfl (mk_fc ho (by decide +kernel)) ?_
    refine en_iload_n mc94_22 rfl ?_
    refine en_aload_n mc94_23 rfl ?_
    refine en_getR (b := 85) mv94 mc94_24 (lk_f7_46) (⟨rfl, by decide⟩ : mt_kd[72]? = some (.inl 7) ∧ 72 < 99) rfl (mk_fc ho (by decide +kernel)) ?_
    refine en_iload_n mc94_27 rfl ?_
    refine en_iald mc94_28 (⟨rfl, by decide, by decide⟩ : mt_kd[85]? = some (.inr (.int, 1200)) ∧ 85 < 99 ∧ 1200 < 2147483648) g1 g2 ?_
    refine en_iast mc94_29 (⟨rfl, by decide, by decide⟩ : mt_kd[81]? = some (.inr (.int, 1200)) ∧ 81 < 99 ∧ 1200 < 2147483648) g3 g4 (ho.2.1 85 l1 (by unfold mr_lg; omega)) ?_
    refine en_aload_n mc94_30 rfl ?_
    refine en_getR (b := 82) mv94 mc94_31 (lk_f7_37) (⟨rfl, by decide⟩ : mt_kd[72]? = some (.inl 7) ∧ 72 < 99) rfl (mk_fc (mr_ok_putI (a := 81) (k := l1) ho (ho.2.1 85 l1 (by unfold mr_lg; omega))) (by decide +kernel)) ?_
    refine en_iload_n mc94_34 rfl ?_
    refine en_aload_n mc94_35 rfl ?_
    refine en_getR (b := 86) mv94 mc94_36 (lk_f7_49) (⟨rfl, by decide⟩ : mt_kd[72]? = some (.inl 7) ∧ 72 < 99) rfl (mk_fc (mr_ok_putI (a := 81) (k := l1) ho (ho.2.1 85 l1 (by unfold mr_lg; omega))) (by decide +kernel)) ?_
    refine en_iload_n mc94_39 rfl ?_
    refine en_iald mc94_40 (⟨rfl, by decide, by decide⟩ : mt_kd[86]? = some (.inr (.int, 1200)) ∧ 86 < 99 ∧ 1200 < 2147483648) g5 g6 ?_
    refine en_iast mc94_41 (⟨rfl, by decide, by decide⟩ : mt_kd[82]? = some (.inr (.int, 1200)) ∧ 82 < 99 ∧ 1200 < 2147483648) g7 g8 ((mr_ok_putI (a := 81) (k := l1) ho (ho.2.1 85 l1 (by unfold mr_lg; omega))).2.1 86 l1 (by unfold mr_lg; omega)) ?_
    refine en_iinc (ls' := [mm_r 72, mm_i (l1 + 1)]) mc94_42 rfl rfl ?_
    refine en_goto 10 mc94_45 (by decide) ?_
    exact h
/-! 95: CellAreasModel.grow(IIIIII)I -/
theorem mc95_0 : mr_C 95 0 = some (.aload_n 0, 1) := rfl
theorem mc95_1 : mr_C 95 1 = some (.aload_n 0, 1) := rfl
theorem mc95_2 : mr_C 95 2 = some (.iload_n 1, 1) := rfl
theorem mc95_3 : mr_C 95 3 = some (.invokevirtual 131, 3) := rfl
theorem mc95_6 : mr_C 95 6 = some (.ifCond .eq (11), 3) := rfl
theorem mc95_9 : mr_C 95 9 = some (.aload_n 0, 1) := rfl
theorem mc95_10 : mr_C 95 10 = some (.iload_n 2, 1) := rfl
theorem mc95_11 : mr_C 95 11 = some (.invokevirtual 131, 3) := rfl
theorem mc95_14 : mr_C 95 14 = some (.ifCond .ne (7), 3) := rfl
theorem mc95_17 : mr_C 95 17 = some (.iconst 1, 1) := rfl
theorem mc95_18 : mr_C 95 18 = some (.goto 22, 3) := rfl
theorem mc95_21 : mr_C 95 21 = some (.aload_n 0, 1) := rfl
theorem mc95_22 : mr_C 95 22 = some (.iload_n 3, 1) := rfl
theorem mc95_23 : mr_C 95 23 = some (.iload 4, 2) := rfl
theorem mc95_25 : mr_C 95 25 = some (.iload 5, 2) := rfl
theorem mc95_27 : mr_C 95 27 = some (.iload 6, 2) := rfl
theorem mc95_29 : mr_C 95 29 = some (.invokevirtual 180, 3) := rfl
theorem mc95_32 : mr_C 95 32 = some (.ifCond .ne (7), 3) := rfl
theorem mc95_35 : mr_C 95 35 = some (.iconst 2, 1) := rfl
theorem mc95_36 : mr_C 95 36 = some (.goto 4, 3) := rfl
theorem mc95_39 : mr_C 95 39 = some (.iconst 0, 1) := rfl
theorem mc95_40 : mr_C 95 40 = some (.putfield 89, 3) := rfl
theorem mc95_43 : mr_C 95 43 = some (.aload_n 0, 1) := rfl
theorem mc95_44 : mr_C 95 44 = some (.getfield 89, 3) := by decide +kernel
theorem mc95_47 : mr_C 95 47 = some (.ifCond .le (5), 3) := by decide +kernel
theorem mc95_50 : mr_C 95 50 = some (.iconst 0, 1) := by decide +kernel
theorem mc95_51 : mr_C 95 51 = some (.ireturn, 1) := by decide +kernel
theorem mc95_52 : mr_C 95 52 = some (.aload_n 0, 1) := by decide +kernel
theorem mc95_53 : mr_C 95 53 = some (.invokevirtual 139, 3) := by decide +kernel
theorem mc95_56 : mr_C 95 56 = some (.bipush 102, 2) := by decide +kernel
theorem mc95_58 : mr_C 95 58 = some (.iload_n 2, 1) := by decide +kernel
theorem mc95_59 : mr_C 95 59 = some (.imul, 1) := by decide +kernel
theorem mc95_60 : mr_C 95 60 = some (.istore 7, 2) := by decide +kernel
theorem mc95_62 : mr_C 95 62 = some (.iload 7, 2) := by decide +kernel
theorem mc95_64 : mr_C 95 64 = some (.aload_n 0, 1) := by decide +kernel
theorem mc95_65 : mr_C 95 65 = some (.iload_n 2, 1) := by decide +kernel
theorem mc95_66 : mr_C 95 66 = some (.invokevirtual 107, 3) := by decide +kernel
theorem mc95_69 : mr_C 95 69 = some (.if_icmp .ge (37), 3) := by decide +kernel
theorem mc95_72 : mr_C 95 72 = some (.aload_n 0, 1) := by decide +kernel
theorem mc95_73 : mr_C 95 73 = some (.aload_n 0, 1) := by decide +kernel
theorem mc95_74 : mr_C 95 74 = some (.getfield 7, 3) := by decide +kernel
theorem mc95_77 : mr_C 95 77 = some (.iload 7, 2) := by decide +kernel
theorem mc95_79 : mr_C 95 79 = some (.iaload, 1) := by decide +kernel
theorem mc95_80 : mr_C 95 80 = some (.iload 5, 2) := by decide +kernel
theorem mc95_82 : mr_C 95 82 = some (.isub, 1) := by decide +kernel
theorem mc95_83 : mr_C 95 83 = some (.invokevirtual 151, 3) := by decide +kernel
theorem mc95_86 : mr_C 95 86 = some (.aload_n 0, 1) := by decide +kernel
theorem mc95_87 : mr_C 95 87 = some (.aload_n 0, 1) := by decide +kernel
theorem mc95_88 : mr_C 95 88 = some (.getfield 13, 3) := by decide +kernel
theorem mc95_91 : mr_C 95 91 = some (.iload 7, 2) := by decide +kernel
theorem mc95_93 : mr_C 95 93 = some (.iaload, 1) := by decide +kernel
theorem mc95_94 : mr_C 95 94 = some (.iload 6, 2) := by decide +kernel
theorem mc95_96 : mr_C 95 96 = some (.iadd, 1) := by decide +kernel
theorem mc95_97 : mr_C 95 97 = some (.invokevirtual 151, 3) := by decide +kernel
theorem mc95_100 : mr_C 95 100 = some (.iinc 7 (1), 3) := by decide +kernel
theorem mc95_103 : mr_C 95 103 = some (.goto (-41), 3) := by decide +kernel
theorem mc95_106 : mr_C 95 106 = some (.iconst 0, 1) := by decide +kernel
theorem mc95_107 : mr_C 95 107 = some (.istore 7, 2) := by decide +kernel
theorem mc95_109 : mr_C 95 109 = some (.iload 7, 2) := by decide +kernel
theorem mc95_111 : mr_C 95 111 = some (.iconst 1, 1) := by decide +kernel
theorem mc95_112 : mr_C 95 112 = some (.iadd, 1) := by decide +kernel
theorem mc95_113 : mr_C 95 113 = some (.aload_n 0, 1) := by decide +kernel
theorem mc95_114 : mr_C 95 114 = some (.getfield 97, 3) := by decide +kernel
theorem mc95_117 : mr_C 95 117 = some (.if_icmp .ge (228), 3) := by decide +kernel
theorem mc95_120 : mr_C 95 120 = some (.aload_n 0, 1) := by decide +kernel
theorem mc95_121 : mr_C 95 121 = some (.iconst 0, 1) := by decide +kernel
theorem mc95_122 : mr_C 95 122 = some (.putfield 100, 3) := by decide +kernel
theorem mc95_125 : mr_C 95 125 = some (.bipush 102, 2) := by decide +kernel
theorem mc95_127 : mr_C 95 127 = some (.iload_n 2, 1) := by decide +kernel
theorem mc95_128 : mr_C 95 128 = some (.imul, 1) := by decide +kernel
theorem mc95_129 : mr_C 95 129 = some (.istore 8, 2) := by decide +kernel
theorem mc95_131 : mr_C 95 131 = some (.iload 8, 2) := by decide +kernel
theorem mc95_133 : mr_C 95 133 = some (.aload_n 0, 1) := by decide +kernel
theorem mc95_134 : mr_C 95 134 = some (.iload_n 2, 1) := by decide +kernel
theorem mc95_135 : mr_C 95 135 = some (.invokevirtual 107, 3) := by decide +kernel
theorem mc95_138 : mr_C 95 138 = some (.if_icmp .ge (181), 3) := by decide +kernel
theorem mc95_141 : mr_C 95 141 = some (.aload_n 0, 1) := by decide +kernel
theorem mc95_142 : mr_C 95 142 = some (.getfield 7, 3) := by decide +kernel
theorem mc95_145 : mr_C 95 145 = some (.iload 8, 2) := by decide +kernel
theorem mc95_147 : mr_C 95 147 = some (.iaload, 1) := by decide +kernel
theorem mc95_148 : mr_C 95 148 = some (.iload 5, 2) := by decide +kernel
theorem mc95_150 : mr_C 95 150 = some (.isub, 1) := by decide +kernel
theorem mc95_151 : mr_C 95 151 = some (.aload_n 0, 1) := by decide +kernel
theorem mc95_152 : mr_C 95 152 = some (.getfield 52, 3) := by decide +kernel
theorem mc95_155 : mr_C 95 155 = some (.iload 7, 2) := by decide +kernel
theorem mc95_157 : mr_C 95 157 = some (.iaload, 1) := by decide +kernel
theorem mc95_158 : mr_C 95 158 = some (.if_icmp .gt (155), 3) := by decide +kernel
theorem mc95_161 : mr_C 95 161 = some (.aload_n 0, 1) := by decide +kernel
theorem mc95_162 : mr_C 95 162 = some (.getfield 52, 3) := by decide +kernel
theorem mc95_165 : mr_C 95 165 = some (.iload 7, 2) := by decide +kernel
theorem mc95_167 : mr_C 95 167 = some (.iaload, 1) := by decide +kernel
theorem mc95_168 : mr_C 95 168 = some (.aload_n 0, 1) := by decide +kernel
theorem mc95_169 : mr_C 95 169 = some (.getfield 13, 3) := by decide +kernel
theorem mc95_172 : mr_C 95 172 = some (.iload 8, 2) := by decide +kernel
theorem mc95_174 : mr_C 95 174 = some (.iaload, 1) := by decide +kernel
theorem mc95_175 : mr_C 95 175 = some (.iload 6, 2) := by decide +kernel
theorem mc95_177 : mr_C 95 177 = some (.iadd, 1) := by decide +kernel
theorem mc95_178 : mr_C 95 178 = some (.if_icmp .ge (135), 3) := by decide +kernel
theorem mc95_181 : mr_C 95 181 = some (.aload_n 0, 1) := by decide +kernel
theorem mc95_182 : mr_C 95 182 = some (.invokevirtual 184, 3) := by decide +kernel
theorem mc95_185 : mr_C 95 185 = some (.aload_n 0, 1) := by decide +kernel
theorem mc95_186 : mr_C 95 186 = some (.iconst 0, 1) := by decide +kernel
theorem mc95_187 : mr_C 95 187 = some (.putfield 100, 3) := by decide +kernel
theorem mc95_190 : mr_C 95 190 = some (.aload_n 0, 1) := by decide +kernel
theorem mc95_191 : mr_C 95 191 = some (.getfield 16, 3) := by decide +kernel
theorem mc95_194 : mr_C 95 194 = some (.iload 8, 2) := by decide +kernel
theorem mc95_196 : mr_C 95 196 = some (.iaload, 1) := by decide +kernel
theorem mc95_197 : mr_C 95 197 = some (.istore 9, 2) := by decide +kernel
theorem mc95_199 : mr_C 95 199 = some (.iload 9, 2) := by decide +kernel
theorem mc95_201 : mr_C 95 201 = some (.aload_n 0, 1) := by decide +kernel
theorem mc95_202 : mr_C 95 202 = some (.getfield 16, 3) := by decide +kernel
theorem mc95_205 : mr_C 95 205 = some (.iload 8, 2) := by decide +kernel
theorem mc95_207 : mr_C 95 207 = some (.iaload, 1) := by decide +kernel
theorem mc95_208 : mr_C 95 208 = some (.aload_n 0, 1) := by decide +kernel
theorem mc95_209 : mr_C 95 209 = some (.getfield 19, 3) := by decide +kernel
theorem mc95_212 : mr_C 95 212 = some (.iload 8, 2) := by decide +kernel
theorem mc95_214 : mr_C 95 214 = some (.iaload, 1) := by decide +kernel
theorem mc95_215 : mr_C 95 215 = some (.iadd, 1) := by decide +kernel
theorem mc95_216 : mr_C 95 216 = some (.if_icmp .ge (38), 3) := by decide +kernel
theorem mc95_219 : mr_C 95 219 = some (.aload_n 0, 1) := by decide +kernel
theorem mc95_220 : mr_C 95 220 = some (.aload_n 0, 1) := by decide +kernel
theorem mc95_221 : mr_C 95 221 = some (.getfield 25, 3) := by decide +kernel
theorem mc95_224 : mr_C 95 224 = some (.iload 9, 2) := by decide +kernel
theorem mc95_226 : mr_C 95 226 = some (.iaload, 1) := by decide +kernel
theorem mc95_227 : mr_C 95 227 = some (.iload_n 3, 1) := by decide +kernel
theorem mc95_228 : mr_C 95 228 = some (.isub, 1) := by decide +kernel
theorem mc95_229 : mr_C 95 229 = some (.invokestatic 171, 3) := by decide +kernel
theorem mc95_232 : mr_C 95 232 = some (.aload_n 0, 1) := by decide +kernel
theorem mc95_233 : mr_C 95 233 = some (.getfield 28, 3) := by decide +kernel
theorem mc95_236 : mr_C 95 236 = some (.iload 9, 2) := by decide +kernel
theorem mc95_238 : mr_C 95 238 = some (.iaload, 1) := by decide +kernel
theorem mc95_239 : mr_C 95 239 = some (.iload 4, 2) := by decide +kernel
theorem mc95_241 : mr_C 95 241 = some (.iadd, 1) := by decide +kernel
theorem mc95_242 : mr_C 95 242 = some (.invokestatic 171, 3) := by decide +kernel
theorem mc95_245 : mr_C 95 245 = some (.invokevirtual 127, 3) := by decide +kernel
theorem mc95_248 : mr_C 95 248 = some (.iinc 9 (1), 3) := by decide +kernel
theorem mc95_251 : mr_C 95 251 = some (.goto (-52), 3) := by decide +kernel
theorem mc95_254 : mr_C 95 254 = some (.aload_n 0, 1) := by decide +kernel
theorem mc95_255 : mr_C 95 255 = some (.aload_n 0, 1) := by decide +kernel
theorem mc95_256 : mr_C 95 256 = some (.getfield 100, 3) := by decide +kernel
theorem mc95_259 : mr_C 95 259 = some (.putfield 118, 3) := by decide +kernel
theorem mc95_262 : mr_C 95 262 = some (.iconst 0, 1) := by decide +kernel
theorem mc95_263 : mr_C 95 263 = some (.istore 9, 2) := by decide +kernel
theorem mc95_265 : mr_C 95 265 = some (.iload 9, 2) := by decide +kernel
theorem mc95_267 : mr_C 95 267 = some (.aload_n 0, 1) := by decide +kernel
theorem mc95_268 : mr_C 95 268 = some (.getfield 100, 3) := by decide +kernel
theorem mc95_271 : mr_C 95 271 = some (.if_icmp .ge (37), 3) := by decide +kernel
theorem mc95_274 : mr_C 95 274 = some (.aload_n 0, 1) := by decide +kernel
theorem mc95_275 : mr_C 95 275 = some (.getfield 40, 3) := by decide +kernel
theorem mc95_278 : mr_C 95 278 = some (.iload 9, 2) := by decide +kernel
theorem mc95_280 : mr_C 95 280 = some (.aload_n 0, 1) := by decide +kernel
theorem mc95_281 : mr_C 95 281 = some (.getfield 46, 3) := by decide +kernel
theorem mc95_284 : mr_C 95 284 = some (.iload 9, 2) := by decide +kernel
theorem mc95_286 : mr_C 95 286 = some (.iaload, 1) := by decide +kernel
theorem mc95_287 : mr_C 95 287 = some (.iastore, 1) := by decide +kernel
theorem mc95_288 : mr_C 95 288 = some (.aload_n 0, 1) := by decide +kernel
theorem mc95_289 : mr_C 95 289 = some (.getfield 43, 3) := by decide +kernel
theorem mc95_292 : mr_C 95 292 = some (.iload 9, 2) := by decide +kernel
theorem mc95_294 : mr_C 95 294 = some (.aload_n 0, 1) := by decide +kernel
theorem mc95_295 : mr_C 95 295 = some (.getfield 49, 3) := by decide +kernel
theorem mc95_298 : mr_C 95 298 = some (.iload 9, 2) := by decide +kernel
theorem mc95_300 : mr_C 95 300 = some (.iaload, 1) := by decide +kernel
theorem mc95_301 : mr_C 95 301 = some (.iastore, 1) := by decide +kernel
theorem mc95_302 : mr_C 95 302 = some (.iinc 9 (1), 3) := by decide +kernel
theorem mc95_305 : mr_C 95 305 = some (.goto (-40), 3) := by decide +kernel
theorem mc95_308 : mr_C 95 308 = some (.aload_n 0, 1) := by decide +kernel
theorem mc95_309 : mr_C 95 309 = some (.iconst 0, 1) := by decide +kernel
theorem mc95_310 : mr_C 95 310 = some (.invokevirtual 164, 3) := by decide +kernel
theorem mc95_313 : mr_C 95 313 = some (.iinc 8 (1), 3) := by decide +kernel
theorem mc95_316 : mr_C 95 316 = some (.goto (-185), 3) := by decide +kernel
theorem mc95_319 : mr_C 95 319 = some (.aload_n 0, 1) := by decide +kernel
theorem mc95_320 : mr_C 95 320 = some (.aload_n 0, 1) := by decide +kernel
theorem mc95_321 : mr_C 95 321 = some (.getfield 52, 3) := by decide +kernel
theorem mc95_324 : mr_C 95 324 = some (.iload 7, 2) := by decide +kernel
theorem mc95_326 : mr_C 95 326 = some (.iaload, 1) := by decide +kernel
theorem mc95_327 : mr_C 95 327 = some (.aload_n 0, 1) := by decide +kernel
theorem mc95_328 : mr_C 95 328 = some (.getfield 52, 3) := by decide +kernel
theorem mc95_331 : mr_C 95 331 = some (.iload 7, 2) := by decide +kernel
theorem mc95_333 : mr_C 95 333 = some (.iconst 1, 1) := by decide +kernel
theorem mc95_334 : mr_C 95 334 = some (.iadd, 1) := by decide +kernel
theorem mc95_335 : mr_C 95 335 = some (.iaload, 1) := by decide +kernel
theorem mc95_336 : mr_C 95 336 = some (.invokevirtual 142, 3) := by decide +kernel
theorem mc95_339 : mr_C 95 339 = some (.iinc 7 (1), 3) := by decide +kernel
theorem mc95_342 : mr_C 95 342 = some (.goto (-233), 3) := by decide +kernel
theorem mc95_345 : mr_C 95 345 = some (.aload_n 0, 1) := by decide +kernel
theorem mc95_346 : mr_C 95 346 = some (.iload_n 1, 1) := by decide +kernel
theorem mc95_347 : mr_C 95 347 = some (.invokevirtual 145, 3) := by decide +kernel
theorem mc95_350 : mr_C 95 350 = some (.ireturn, 1) := by decide +kernel
theorem vc95_0 {sc : Nat × (Int → Int)} {Q : mm_R → mm_M → Prop} {M : mm_M} {l1 : Int} {l2 : Int} {l3 : Int} {l4 : Int} {l5 : Int} {l6 : Int} (ho : mr_ok M)
    (h : en_CI sc 34 [mm_r 72, mm_i l1] M (fun x1 M2 => mr_ok M2 → mr_rg x1 ∧ ((x1 = 0 → en_R sc 95 17 [mm_r 72, mm_i l1, mm_i l2, mm_i l3, mm_i l4, mm_i l5, mm_i l6, mm_u, mm_u, mm_u] [mm_r 72] M2 Q) ∧ (¬ x1 = 0 → en_CI sc 34 [mm_r 72, mm_i l2] M2 (fun x5 M6 => mr_ok M6 → mr_rg x5 ∧ ((x5 ≠ 0 → en_CI sc 93 [mm_r 72, mm_i l3, mm_i l4, mm_i l5, mm_i l6] M6 (fun x9 M10 => mr_ok M10 → mr_rg x9 ∧ ((x9 ≠ 0 → en_R sc 95 40 [mm_r 72, mm_i l1, mm_i l2, mm_i l3, mm_i l4, mm_i l5, mm_i l6, mm_u, mm_u, mm_u] [mm_i 0, mm_r 72] M10 Q) ∧ (¬ (x9 ≠ 0) → en_R sc 95 40 [mm_r 72, mm_i l1, mm_i l2, mm_i l3, mm_i l4, mm_i l5, mm_i l6, mm_u, mm_u, mm_u] [mm_i 2, mm_r 72] M10 Q))) (fun e M9 => Q (.inr e) M9)) ∧ (¬ (x5 ≠ 0) → en_R sc 95 17 [mm_r 72, mm_i l1, mm_i l2, mm_i l3, mm_i l4, mm_i l5, mm_i l6, mm_u, mm_u, mm_u] [mm_r 72] M6 Q))) (fun e M9 => Q (.inr e) M9)))) (fun e M9 => Q (.inr e) M9)) : en_R sc 95 0 [mm_r 72, mm_i l1, mm_i l2, mm_i l3, mm_i l4, mm_i l5, mm_i l6, mm_u, mm_u, mm_u] [] M Q := by
  refine en_aload_n mc95_0 rfl ?_
  refine en_aload_n mc95_1 rfl ?_
  refine en_iload_n mc95_2 rfl ?_
  refine en_callI (lz := [mm_r 72, mm_i l1]) mv95 mc95_3 rfl rfl (lk_m7_131) mv34 rfl (by decide) rfl (mk_cokV rfl (⟨rfl, by decide⟩ : mt_kd[72]? = some (.inl 7) ∧ 72 < 99)) rfl (mk_nh rfl _) ho ?_
  refine en_CI_mono h (fun x1 M2 h => ?_) (fun _ _ h => h)
  intro ho3
  replace h := h ho3
  obtain ⟨g4, h⟩ := h
  refine en_if_eq 17 mc95_6 (by decide) g4 (fun q => ?_) (fun q => ?_)
  · replace h := h.1 q
    exact h
  · replace h := h.2 q
    refine en_aload_n mc95_9 rfl ?_
    refine en_iload_n mc95_10 rfl ?_
    refine en_callI (lz := [mm_r 72, mm_i l2]) mv95 mc95_11 rfl rfl (lk_m7_131) mv34 rfl (by decide) rfl (mk_cokV rfl (⟨rfl, by decide⟩ : mt_kd[72]? = some (.inl 7) ∧ 72 < 99)) rfl (mk_nh rfl _) ho3 ?_
    refine en_CI_mono h (fun x5 M6 h => ?_) (fun _ _ h => h)
    intro ho7
    replace h := h ho7
    obtain ⟨g8, h⟩ := h
    refine en_if_ne 21 mc95_14 (by decide) g8 (fun q => ?_) (fun q => ?_)
    · replace h := h.1 q
      refine en_aload_n mc95_21 rfl ?_
      refine en_iload_n mc95_22 rfl ?_
      refine en_iload mc95_23 rfl ?_
      refine en_iload mc95_25 rfl ?_
      refine en_iload mc95_27 rfl ?_
      refine en_callI (lz := [mm_r 72, mm_i l3, mm_i l4, mm_i l5, mm_i l6]) mv95 mc95_29 rfl rfl (lk_m7_180) mv93 rfl (by decide) rfl (mk_cokV rfl (⟨rfl, by decide⟩ : mt_kd[72]? = some (.inl 7) ∧ 72 < 99)) rfl (mk_nh rfl _) ho7 ?_
      refine en_CI_mono h (fun x9 M10 h => ?_) (fun _ _ h => h)
      intro ho11
      replace h := h ho11
      obtain ⟨g12, h⟩ := h
      refine en_if_ne 39 mc95_32 (by decide) g12 (fun q => ?_) (fun q => ?_)
      · replace h := h.1 q
        refine en_iconst mc95_39 ?_
        exact h
      · replace h := h.2 q
        refine en_iconst mc95_35 ?_
        refine en_goto 40 mc95_36 (by decide) ?_
        exact h
    · replace h := h.2 q
      exact h
theorem vc95_17 {sc : Nat × (Int → Int)} {Q : mm_R → mm_M → Prop} {M : mm_M} {l1 : Int} {l2 : Int} {l3 : Int} {l4 : Int} {l5 : Int} {l6 : Int} (ho : mr_ok M)
    (h : en_R sc 95 40 [mm_r 72, mm_i l1, mm_i l2, mm_i l3, mm_i l4, mm_i l5, mm_i l6, mm_u, mm_u, mm_u] [mm_i 1, mm_r 72] M Q) : en_R sc 95 17 [mm_r 72, mm_i l1, mm_i l2, mm_i l3, mm_i l4, mm_i l5, mm_i l6, mm_u, mm_u, mm_u] [mm_r 72] M Q := by
  refine en_iconst mc95_17 ?_
  refine en_goto 40 mc95_18 (by decide) ?_
  exact h
theorem vc95_40 {sc : Nat × (Int → Int)} {Q : mm_R → mm_M → Prop} {M : mm_M} {l1 : Int} {l2 : Int} {l3 : Int} {l4 : Int} {l5 : Int} {l6 : Int} {s1 : Int} (ho : mr_ok M) (hg_s1 : mr_rg s1)
    (h : (((mm_putN M 72 0 s1).1 72 0) ≤ 0 → en_CV sc 35 [mm_r 72] (mm_putN M 72 0 s1) (fun M2 => mr_ok M2 → en_R sc 95 62 [mm_r 72, mm_i l1, mm_i l2, mm_i l3, mm_i l4, mm_i l5, mm_i l6, mm_i (102 * l2), mm_u, mm_u] [] M2 Q) (fun e M9 => Q (.inr e) M9)) ∧ (¬ ((mm_putN M 72 0 s1).1 72 0) ≤ 0 → Q (.inl (some (mm_i 0))) (mm_putN M 72 0 s1))) : en_R sc 95 40 [mm_r 72, mm_i l1, mm_i l2, mm_i l3, mm_i l4, mm_i l5, mm_i l6, mm_u, mm_u, mm_u] [mm_i s1, mm_r 72] M Q := by
  refine en_putI mv95 mc95_40 (lk_f7_89) (⟨rfl, by decide⟩ : mt_kd[72]? = some (.inl 7) ∧ 72 < 99) rfl rfl hg_s1 ?_
  refine en_aload_n mc95_43 rfl ?_
  refine en_getI mv95 mc95_44 (lk_f7_89) (⟨rfl, by decide⟩ : mt_kd[72]? = some (.inl 7) ∧ 72 < 99) (Or.inl rfl) ?_
  refine en_if_le 52 mc95_47 (by decide) ((mr_ok_putI (a := 72) (k := 0) ho hg_s1).2.1 72 0 (by unfold mr_lg; omega)) (fun q => ?_) (fun q => ?_)
  · replace h := h.1 q
    refine en_aload_n mc95_52 rfl ?_
    refine en_callV (lz := [mm_r 72]) mv95 mc95_53 rfl rfl (lk_m7_139) mv35 rfl (by decide) rfl (mk_cokV rfl (⟨rfl, by decide⟩ : mt_kd[72]? = some (.inl 7) ∧ 72 < 99)) rfl (mk_nh rfl _) (mr_ok_putI (a := 72) (k := 0) ho hg_s1) ?_
    refine en_CV_mono h (fun M2 h => ?_) (fun _ _ h => h)
    intro ho3
    replace h := h ho3
    refine en_bipush mc95_56 (by decide) ?_
    refine en_iload_n mc95_58 rfl ?_
    refine en_imul mc95_59 ?_
    refine en_istore (ls' := [mm_r 72, mm_i l1, mm_i l2, mm_i l3, mm_i l4, mm_i l5, mm_i l6, mm_i (102 * l2), mm_u, mm_u]) mc95_60 (Nat.le_of_ble_eq_true rfl) rfl ?_
    exact h
  · replace h := h.2 q
    refine en_iconst mc95_50 ?_
    exact en_iret mv95 mc95_51 rfl h
theorem vc95_62 {sc : Nat × (Int → Int)} {Q : mm_R → mm_M → Prop} {M : mm_M} {l1 : Int} {l2 : Int} {l3 : Int} {l4 : Int} {l5 : Int} {l6 : Int} {l7 : Int} (ho : mr_ok M) (hg_l7 : mr_rg l7)
    (h : en_CI sc 45 [mm_r 72, mm_i l2] M (fun x1 M2 => mr_ok M2 → mr_rg x1 ∧ ((x1 ≤ l7 → en_R sc 95 109 [mm_r 72, mm_i l1, mm_i l2, mm_i l3, mm_i l4, mm_i l5, mm_i l6, mm_i 0, mm_u, mm_u] [] M2 Q) ∧ (¬ x1 ≤ l7 → 0 ≤ l7 ∧ (l7 < 918 ∧ (en_CV sc 58 [mm_r 72, mm_i ((M2.1 73 l7) - l5), mm_u, mm_u, mm_u] M2 (fun M8 => mr_ok M8 → 0 ≤ l7 ∧ (l7 < 918 ∧ (en_CV sc 58 [mm_r 72, mm_i ((M8.1 74 l7) + l6), mm_u, mm_u, mm_u] M8 (fun M13 => mr_ok M13 → en_R sc 95 62 [mm_r 72, mm_i l1, mm_i l2, mm_i l3, mm_i l4, mm_i l5, mm_i l6, mm_i (l7 + 1), mm_u, mm_u] [] M13 Q) (fun e M9 => Q (.inr e) M9)))) (fun e M9 => Q (.inr e) M9)))))) (fun e M9 => Q (.inr e) M9)) : en_R sc 95 62 [mm_r 72, mm_i l1, mm_i l2, mm_i l3, mm_i l4, mm_i l5, mm_i l6, mm_i l7, mm_u, mm_u] [] M Q := by
  refine en_iload mc95_62 rfl ?_
  refine en_aload_n mc95_64 rfl ?_
  refine en_iload_n mc95_65 rfl ?_
  refine en_callI (lz := [mm_r 72, mm_i l2]) mv95 mc95_66 rfl rfl (lk_m7_107) mv45 rfl (by decide) rfl (mk_cokV rfl (⟨rfl, by decide⟩ : mt_kd[72]? = some (.inl 7) ∧ 72 < 99)) rfl (mk_nh rfl _) ho ?_
  refine en_CI_mono h (fun x1 M2 h => ?_) (fun _ _ h => h)
  intro ho3
  replace h := h ho3
  obtain ⟨g4, h⟩ := h
  refine en_icmp_ge 106 mc95_69 (by decide) hg_l7 g4 (fun q => ?_) (fun q => ?_)
  · replace h := h.1 q
    refine en_iconst mc95_106 ?_
    refine en_istore (ls' := [mm_r 72, mm_i l1, mm_i l2, mm_i l3, mm_i l4, mm_i l5, mm_i l6, mm_i 0, mm_u, mm_u]) mc95_107 (Nat.le_of_ble_eq_true rfl) rfl ?_
    exact h
  · replace h := h.2 q
    obtain ⟨g5, h⟩ := h
    obtain ⟨g6, h⟩ := h
    refine en_aload_n mc95_72 rfl ?_
    refine en_aload_n mc95_73 rfl ?_
    refine en_getR (b := 73) mv95 mc95_74 (lk_f7_7) (⟨rfl, by decide⟩ : mt_kd[72]? = some (.inl 7) ∧ 72 < 99) rfl (mk_fc ho3 (by decide +kernel)) ?_
    refine en_iload mc95_77 rfl ?_
    refine en_iald mc95_79 (⟨rfl, by decide, by decide⟩ : mt_kd[73]? = some (.inr (.int, 918)) ∧ 73 < 99 ∧ 918 < 2147483648) g5 g6 ?_
    refine en_iload mc95_80 rfl ?_
    refine en_isub mc95_82 ?_
    refine en_callV (lz := [mm_r 72, mm_i ((M2.1 73 l7) - l5), mm_u, mm_u, mm_u]) mv95 mc95_83 rfl rfl (lk_m7_151) mv58 rfl (by decide) rfl (mk_cokV rfl (⟨rfl, by decide⟩ : mt_kd[72]? = some (.inl 7) ∧ 72 < 99)) rfl (mk_nh rfl _) ho3 ?_
    refine en_CV_mono h (fun M8 h => ?_) (fun _ _ h => h)
    intro ho9
    replace h := h ho9
    obtain ⟨g10, h⟩ := h
    obtain ⟨g11, h⟩ := h
    refine en_aload_n mc95_86 rfl ?_
    refine en_aload_n mc95_87 rfl ?_
    refine en_getR (b := 74) mv95 mc95_88 (lk_f7_13) (⟨rfl, by decide⟩ : mt_kd[72]? = some (.inl 7) ∧ 72 < 99) rfl (mk_fc ho9 (by decide +kernel)) ?_
    refine en_iload mc95_91 rfl ?_
    refine en_iald mc95_93 (⟨rfl, by decide, by decide⟩ : mt_kd[74]? = some (.inr (.int, 918)) ∧ 74 < 99 ∧ 918 < 2147483648) g10 g11 ?_
    refine en_iload mc95_94 rfl ?_
    refine en_iadd mc95_96 ?_
    refine en_callV (lz := [mm_r 72, mm_i ((M8.1 74 l7) + l6), mm_u, mm_u, mm_u]) mv95 mc95_97 rfl rfl (lk_m7_151) mv58 rfl (by decide) rfl (mk_cokV rfl (⟨rfl, by decide⟩ : mt_kd[72]? = some (.inl 7) ∧ 72 < 99)) rfl (mk_nh rfl _) ho9 ?_
    refine en_CV_mono h (fun M13 h => ?_) (fun _ _ h => h)
    intro ho14
    replace h := h ho14
    refine en_iinc (ls' := [mm_r 72, mm_i l1, mm_i l2, mm_i l3, mm_i l4, mm_i l5, mm_i l6, mm_i (l7 + 1), mm_u, mm_u]) mc95_100 rfl rfl ?_
    refine en_goto 62 mc95_103 (by decide) ?_
    exact h
theorem vc95_109 {sc : Nat × (Int → Int)} {Q : mm_R → mm_M → Prop} {M : mm_M} {l1 : Int} {l2 : Int} {l3 : Int} {l4 : Int} {l5 : Int} {l6 : Int} {l7 : Int} {l8 : mm_V} {l9 : mm_V} (ho : mr_ok M)
    (h : mr_rg (l7 + 1) ∧ (((M.1 72 19) ≤ (l7 + 1) → en_CI sc 39 [mm_r 72, mm_i l1, mm_u] M (fun x2 M3 => mr_ok M3 → Q (.inl (some (mm_i x2))) M3) (fun e M9 => Q (.inr e) M9)) ∧ (¬ (M.1 72 19) ≤ (l7 + 1) → en_R sc 95 131 [mm_r 72, mm_i l1, mm_i l2, mm_i l3, mm_i l4, mm_i l5, mm_i l6, mm_i l7, mm_i (102 * l2), l9] [] (mm_putN M 72 17 0) Q))) : en_R sc 95 109 [mm_r 72, mm_i l1, mm_i l2, mm_i l3, mm_i l4, mm_i l5, mm_i l6, mm_i l7, l8, l9] [] M Q := by
  obtain ⟨g1, h⟩ := h
  refine en_iload mc95_109 rfl ?_
  refine en_iconst mc95_111 ?_
  refine en_iadd mc95_112 ?_
  refine en_aload_n mc95_113 rfl ?_
  refine en_getI mv95 mc95_114 (lk_f7_97) (⟨rfl, by decide⟩ : mt_kd[72]? = some (.inl 7) ∧ 72 < 99) (Or.inl rfl) ?_
  refine en_icmp_ge 345 mc95_117 (by decide) g1 (ho.2.1 72 19 (by unfold mr_lg; omega)) (fun q => ?_) (fun q => ?_)
  · replace h := h.1 q
    refine en_aload_n mc95_345 rfl ?_
    refine en_iload_n mc95_346 rfl ?_
    refine en_callI (lz := [mm_r 72, mm_i l1, mm_u]) mv95 mc95_347 rfl rfl (lk_m7_145) mv39 rfl (by decide) rfl (mk_cokV rfl (⟨rfl, by decide⟩ : mt_kd[72]? = some (.inl 7) ∧ 72 < 99)) rfl (mk_nh rfl _) ho ?_
    refine en_CI_mono h (fun x2 M3 h => ?_) (fun _ _ h => h)
    intro ho4
    replace h := h ho4
    exact en_iret mv95 mc95_350 rfl h
  · replace h := h.2 q
    refine en_aload_n mc95_120 rfl ?_
    refine en_iconst mc95_121 ?_
    refine en_putI mv95 mc95_122 (lk_f7_100) (⟨rfl, by decide⟩ : mt_kd[72]? = some (.inl 7) ∧ 72 < 99) rfl rfl (⟨by decide, by decide⟩ : mr_rg 0) ?_
    refine en_bipush mc95_125 (by decide) ?_
    refine en_iload_n mc95_127 rfl ?_
    refine en_imul mc95_128 ?_
    refine en_istore (ls' := [mm_r 72, mm_i l1, mm_i l2, mm_i l3, mm_i l4, mm_i l5, mm_i l6, mm_i l7, mm_i (102 * l2), l9]) mc95_129 (Nat.le_of_ble_eq_true rfl) rfl ?_
    exact h
theorem vc95_131 {sc : Nat × (Int → Int)} {Q : mm_R → mm_M → Prop} {M : mm_M} {l1 : Int} {l2 : Int} {l3 : Int} {l4 : Int} {l5 : Int} {l6 : Int} {l7 : Int} {l8 : Int} {l9 : mm_V} (ho : mr_ok M) (hg_l8 : mr_rg l8)
    (h : en_CI sc 45 [mm_r 72, mm_i l2] M (fun x1 M2 => mr_ok M2 → mr_rg x1 ∧ ((x1 ≤ l8 → 0 ≤ l7 ∧ (l7 < 1700 ∧ (0 ≤ (l7 + 1) ∧ ((l7 + 1) < 1700 ∧ (en_CV sc 38 [mm_r 72, mm_i (M2.1 87 l7), mm_i (M2.1 87 (l7 + 1)), mm_u, mm_u] M2 (fun M10 => mr_ok M10 → en_R sc 95 109 [mm_r 72, mm_i l1, mm_i l2, mm_i l3, mm_i l4, mm_i l5, mm_i l6, mm_i (l7 + 1), mm_i l8, l9] [] M10 Q) (fun e M9 => Q (.inr e) M9)))))) ∧ (¬ x1 ≤ l8 → 0 ≤ l8 ∧ (l8 < 918 ∧ (0 ≤ l7 ∧ (l7 < 1700 ∧ (mr_rg ((M2.1 73 l8) - l5) ∧ (((M2.1 87 l7) < ((M2.1 73 l8) - l5) → en_R sc 95 131 [mm_r 72, mm_i l1, mm_i l2, mm_i l3, mm_i l4, mm_i l5, mm_i l6, mm_i l7, mm_i (l8 + 1), l9] [] M2 Q) ∧ (¬ (M2.1 87 l7) < ((M2.1 73 l8) - l5) → 0 ≤ l7 ∧ (l7 < 1700 ∧ (0 ≤ l8 ∧ (l8 < 918 ∧ (mr_rg ((M2.1 74 l8) + l6) ∧ ((((M2.1 74 l8) + l6) ≤ (M2.1 87 l7) → en_R sc 95 131 [mm_r 72, mm_i l1, mm_i l2, mm_i l3, mm_i l4, mm_i l5, mm_i l6, mm_i l7, mm_i (l8 + 1), l9] [] M2 Q) ∧ (¬ ((M2.1 74 l8) + l6) ≤ (M2.1 87 l7) → en_CV sc 94 [mm_r 72, mm_u] M2 (fun M23 => mr_ok M23 → 0 ≤ l8 ∧ (l8 < 918 ∧ (en_R sc 95 199 [mm_r 72, mm_i l1, mm_i l2, mm_i l3, mm_i l4, mm_i l5, mm_i l6, mm_i l7, mm_i l8, mm_i ((mm_putN M23 72 17 0).1 75 l8)] [] (mm_putN M23 72 17 0) Q))) (fun e M9 => Q (.inr e) M9)))))))))))))))) (fun e M9 => Q (.inr e) M9)) : en_R sc 95 131 [mm_r 72, mm_i l1, mm_i l2, mm_i l3, mm_i l4, mm_i l5, mm_i l6, mm_i l7, mm_i l8, l9] [] M Q := by
  refine en_iload mc95_131 rfl ?_
  refine en_aload_n mc95_133 rfl ?_
  refine en_iload_n mc95_134 rfl ?_
  refine en_callI (lz := [mm_r 72, mm_i l2]) mv95 mc95_135 rfl rfl (lk_m7_107) mv45 rfl (by decide) rfl (mk_cokV rfl (⟨rfl, by decide⟩ : mt_kd[72]? = some (.inl 7) ∧ 72 < 99)) rfl (mk_nh rfl _) ho ?_
  refine en_CI_mono h (fun x1 M2 h => ?_) (fun _ _ h => h)
  intro ho3
  replace h := h ho3
  obtain ⟨g4, h⟩ := h
  refine en_icmp_ge 319 mc95_138 (by decide) hg_l8 g4 (fun q => ?_) (fun q => ?_)
  · replace h := h.1 q
    obtain ⟨g5, h⟩ := h
    obtain ⟨g6, h⟩ := h
    obtain ⟨g7, h⟩ := h
    obtain ⟨g8, h⟩ := h
    refine en_aload_n mc95_319 rfl ?_
    refine en_aload_n mc95_320 rfl ?_
    refine en_getR (b := 87) mv95 mc95_321 (lk_f7_52) (⟨rfl, by decide⟩ : mt_kd[72]? = some (.inl 7) ∧ 72 < 99) rfl (mk_fc ho3 (by decide +kernel)) ?_
    refine en_iload mc95_324 rfl ?_
    refine en_iald mc95_326 (⟨rfl, by decide, by decide⟩ : mt_kd[87]? = some (.inr (.int, 1700)) ∧ 87 < 99 ∧ 1700 < 2147483648) g5 g6 ?_
    refine en_aload_n mc95_327 rfl ?_
    refine en_getR (b := 87) mv95 mc95_328 (lk_f7_52) (⟨rfl, by decide⟩ : mt_kd[72]? = some (.inl 7) ∧ 72 < 99) rfl (mk_fc ho3 (by decide +kernel)) ?_
    refine en_iload mc95_331 rfl ?_
    refine en_iconst mc95_333 ?_
    refine en_iadd mc95_334 ?_
    refine en_iald mc95_335 (⟨rfl, by decide, by decide⟩ : mt_kd[87]? = some (.inr (.int, 1700)) ∧ 87 < 99 ∧ 1700 < 2147483648) g7 g8 ?_
    refine en_callV (lz := [mm_r 72, mm_i (M2.1 87 l7), mm_i (M2.1 87 (l7 + 1)), mm_u, mm_u]) mv95 mc95_336 rfl rfl (lk_m7_142) mv38 rfl (by decide) rfl (mk_cokV rfl (⟨rfl, by decide⟩ : mt_kd[72]? = some (.inl 7) ∧ 72 < 99)) rfl (mk_nh rfl _) ho3 ?_
    refine en_CV_mono h (fun M10 h => ?_) (fun _ _ h => h)
    intro ho11
    replace h := h ho11
    refine en_iinc (ls' := [mm_r 72, mm_i l1, mm_i l2, mm_i l3, mm_i l4, mm_i l5, mm_i l6, mm_i (l7 + 1), mm_i l8, l9]) mc95_339 rfl rfl ?_
    refine en_goto 109 mc95_342 (by decide) ?_
    exact h
  · replace h := h.2 q
    obtain ⟨g12, h⟩ := h
    obtain ⟨g13, h⟩ := h
    obtain ⟨g14, h⟩ := h
    obtain ⟨g15, h⟩ := h
    obtain ⟨g16, h⟩ := h
    refine en_aload_n mc95_141 rfl ?_
    refine en_getR (b := 73) mv95 mc95_142 (lk_f7_7) (⟨rfl, by decide⟩ : mt_kd[72]? = some (.inl 7) ∧ 72 < 99) rfl (mk_fc ho3 (by decide +kernel)) ?_
    refine en_iload mc95_145 rfl ?_
    refine en_iald mc95_147 (⟨rfl, by decide, by decide⟩ : mt_kd[73]? = some (.inr (.int, 918)) ∧ 73 < 99 ∧ 918 < 2147483648) g12 g13 ?_
    refine en_iload mc95_148 rfl ?_
    refine en_isub mc95_150 ?_
    refine en_aload_n mc95_151 rfl ?_
    refine en_getR (b := 87) mv95 mc95_152 (lk_f7_52) (⟨rfl, by decide⟩ : mt_kd[72]? = some (.inl 7) ∧ 72 < 99) rfl (mk_fc ho3 (by decide +kernel)) ?_
    refine en_iload mc95_155 rfl ?_
    refine en_iald mc95_157 (⟨rfl, by decide, by decide⟩ : mt_kd[87]? = some (.inr (.int, 1700)) ∧ 87 < 99 ∧ 1700 < 2147483648) g14 g15 ?_
    refine en_icmp_gt 313 mc95_158 (by decide) g16 (ho3.2.1 87 l7 (by unfold mr_lg; omega)) (fun q => ?_) (fun q => ?_)
    · replace h := h.1 q
      refine en_iinc (ls' := [mm_r 72, mm_i l1, mm_i l2, mm_i l3, mm_i l4, mm_i l5, mm_i l6, mm_i l7, mm_i (l8 + 1), l9]) mc95_313 rfl rfl ?_
      refine en_goto 131 mc95_316 (by decide) ?_
      exact h
    · replace h := h.2 q
      obtain ⟨g17, h⟩ := h
      obtain ⟨g18, h⟩ := h
      obtain ⟨g19, h⟩ := h
      obtain ⟨g20, h⟩ := h
      obtain ⟨g21, h⟩ := h
      refine en_aload_n mc95_161 rfl ?_
      refine en_getR (b := 87) mv95 mc95_162 (lk_f7_52) (⟨rfl, by decide⟩ : mt_kd[72]? = some (.inl 7) ∧ 72 < 99) rfl (mk_fc ho3 (by decide +kernel)) ?_
      refine en_iload mc95_165 rfl ?_
      refine en_iald mc95_167 (⟨rfl, by decide, by decide⟩ : mt_kd[87]? = some (.inr (.int, 1700)) ∧ 87 < 99 ∧ 1700 < 2147483648) g17 g18 ?_
      refine en_aload_n mc95_168 rfl ?_
      refine en_getR (b := 74) mv95 mc95_169 (lk_f7_13) (⟨rfl, by decide⟩ : mt_kd[72]? = some (.inl 7) ∧ 72 < 99) rfl (mk_fc ho3 (by decide +kernel)) ?_
      refine en_iload mc95_172 rfl ?_
      refine en_iald mc95_174 (⟨rfl, by decide, by decide⟩ : mt_kd[74]? = some (.inr (.int, 918)) ∧ 74 < 99 ∧ 918 < 2147483648) g19 g20 ?_
      refine en_iload mc95_175 rfl ?_
      refine en_iadd mc95_177 ?_
      refine en_icmp_ge 313 mc95_178 (by decide) (ho3.2.1 87 l7 (by unfold mr_lg; omega)) g21 (fun q => ?_) (fun q => ?_)
      · replace h := h.1 q
        refine en_iinc (ls' := [mm_r 72, mm_i l1, mm_i l2, mm_i l3, mm_i l4, mm_i l5, mm_i l6, mm_i l7, mm_i (l8 + 1), l9]) mc95_313 rfl rfl ?_
        refine en_goto 131 mc95_316 (by decide) ?_
        exact h
      · replace h := h.2 q
        refine en_aload_n mc95_181 rfl ?_
        refine en_callV (lz := [mm_r 72, mm_u]) mv95 mc95_182 rfl rfl (lk_m7_184) mv94 rfl (by decide) rfl (mk_cokV rfl (⟨rfl, by decide⟩ : mt_kd[72]? = some (.inl 7) ∧ 72 < 99)) rfl (mk_nh rfl _) ho3 ?_
        refine en_CV_mono h (fun M23 h => ?_) (fun _ _ h => h)
        intro ho24
        replace h := h ho24
        obtain ⟨g25, h⟩ := h
        obtain ⟨g26, h⟩ := h
        refine en_aload_n mc95_185 rfl ?_
        refine en_iconst mc95_186 ?_
        refine en_putI mv95 mc95_187 (lk_f7_100) (⟨rfl, by decide⟩ : mt_kd[72]? = some (.inl 7) ∧ 72 < 99) rfl rfl (⟨by decide, by decide⟩ : mr_rg 0) ?_
        refine en_aload_n mc95_190 rfl ?_
        refine en_getR (b := 75) mv95 mc95_191 (lk_f7_16) (⟨rfl, by decide⟩ : mt_kd[72]? = some (.inl 7) ∧ 72 < 99) rfl (mk_fc (mr_ok_putI (a := 72) (k := 17) ho24 (⟨by decide, by decide⟩ : mr_rg 0)) (by decide +kernel)) ?_
        refine en_iload mc95_194 rfl ?_
        refine en_iald mc95_196 (⟨rfl, by decide, by decide⟩ : mt_kd[75]? = some (.inr (.int, 918)) ∧ 75 < 99 ∧ 918 < 2147483648) g25 g26 ?_
        refine en_istore (ls' := [mm_r 72, mm_i l1, mm_i l2, mm_i l3, mm_i l4, mm_i l5, mm_i l6, mm_i l7, mm_i l8, mm_i ((mm_putN M23 72 17 0).1 75 l8)]) mc95_197 (Nat.le_of_ble_eq_true rfl) rfl ?_
        exact h
theorem vc95_199 {sc : Nat × (Int → Int)} {Q : mm_R → mm_M → Prop} {M : mm_M} {l1 : Int} {l2 : Int} {l3 : Int} {l4 : Int} {l5 : Int} {l6 : Int} {l7 : Int} {l8 : Int} {l9 : Int} (ho : mr_ok M) (hg_l9 : mr_rg l9)
    (h : 0 ≤ l8 ∧ (l8 < 918 ∧ (0 ≤ l8 ∧ (l8 < 918 ∧ (mr_rg ((M.1 75 l8) + (M.1 76 l8)) ∧ ((((M.1 75 l8) + (M.1 76 l8)) ≤ l9 → en_R sc 95 265 [mm_r 72, mm_i l1, mm_i l2, mm_i l3, mm_i l4, mm_i l5, mm_i l6, mm_i l7, mm_i l8, mm_i 0] [] (mm_putN M 72 14 (M.1 72 17)) Q) ∧ (¬ ((M.1 75 l8) + (M.1 76 l8)) ≤ l9 → 0 ≤ l9 ∧ (l9 < 3618 ∧ (en_CI sc 74 [mm_i ((M.1 78 l9) - l3)] M (fun x8 M9 => mr_ok M9 → 0 ≤ l9 ∧ (l9 < 3618 ∧ (en_CI sc 74 [mm_i ((M9.1 79 l9) + l4)] M9 (fun x13 M14 => mr_ok M14 → en_CV sc 36 [mm_r 72, mm_i x8, mm_i x13] M14 (fun M17 => mr_ok M17 → en_R sc 95 199 [mm_r 72, mm_i l1, mm_i l2, mm_i l3, mm_i l4, mm_i l5, mm_i l6, mm_i l7, mm_i l8, mm_i (l9 + 1)] [] M17 Q) (fun e M9 => Q (.inr e) M9)) (fun e M9 => Q (.inr e) M9)))) (fun e M9 => Q (.inr e) M9)))))))))) : en_R sc 95 199 [mm_r 72, mm_i l1, mm_i l2, mm_i l3, mm_i l4, mm_i l5, mm_i l6, mm_i l7, mm_i l8, mm_i l9] [] M Q := by
  obtain ⟨g1, h⟩ := h
  obtain ⟨g2, h⟩ := h
  obtain ⟨g3, h⟩ := h
  obtain ⟨g4, h⟩ := h
  obtain ⟨g5, h⟩ := h
  refine en_iload mc95_199 rfl ?_
  refine en_aload_n mc95_201 rfl ?_
  refine en_getR (b := 75) mv95 mc95_202 (lk_f7_16) (⟨rfl, by decide⟩ : mt_kd[72]? = some (.inl 7) ∧ 72 < 99) rfl (mk_fc ho (by decide +kernel)) ?_
  refine en_iload mc95_205 rfl ?_
  refine en_iald mc95_207 (⟨rfl, by decide, by decide⟩ : mt_kd[75]? = some (.inr (.int, 918)) ∧ 75 < 99 ∧ 918 < 2147483648) g1 g2 ?_
  refine en_aload_n mc95_208 rfl ?_
  refine en_getR (b := 76) mv95 mc95_209 (lk_f7_19) (⟨rfl, by decide⟩ : mt_kd[72]? = some (.inl 7) ∧ 72 < 99) rfl (mk_fc ho (by decide +kernel)) ?_
  refine en_iload mc95_212 rfl ?_
  refine en_iald mc95_214 (⟨rfl, by decide, by decide⟩ : mt_kd[76]? = some (.inr (.int, 918)) ∧ 76 < 99 ∧ 918 < 2147483648) g3 g4 ?_
  refine en_iadd mc95_215 ?_
  refine en_icmp_ge 254 mc95_216 (by decide) hg_l9 g5 (fun q => ?_) (fun q => ?_)
  · replace h := h.1 q
    refine en_aload_n mc95_254 rfl ?_
    refine en_aload_n mc95_255 rfl ?_
    refine en_getI mv95 mc95_256 (lk_f7_100) (⟨rfl, by decide⟩ : mt_kd[72]? = some (.inl 7) ∧ 72 < 99) (Or.inl rfl) ?_
    refine en_putI mv95 mc95_259 (lk_f7_118) (⟨rfl, by decide⟩ : mt_kd[72]? = some (.inl 7) ∧ 72 < 99) rfl rfl (ho.2.1 72 17 (by unfold mr_lg; omega)) ?_
    refine en_iconst mc95_262 ?_
    refine en_istore (ls' := [mm_r 72, mm_i l1, mm_i l2, mm_i l3, mm_i l4, mm_i l5, mm_i l6, mm_i l7, mm_i l8, mm_i 0]) mc95_263 (Nat.le_of_ble_eq_true rfl) rfl ?_
    exact h
  · replace h := h.2 q
    obtain ⟨g6, h⟩ := h
    obtain ⟨g7, h⟩ := h
    refine en_aload_n mc95_219 rfl ?_
    refine en_aload_n mc95_220 rfl ?_
    refine en_getR (b := 78) mv95 mc95_221 (lk_f7_25) (⟨rfl, by decide⟩ : mt_kd[72]? = some (.inl 7) ∧ 72 < 99) rfl (mk_fc ho (by decide +kernel)) ?_
    refine en_iload mc95_224 rfl ?_
    refine en_iald mc95_226 (⟨rfl, by decide, by decide⟩ : mt_kd[78]? = some (.inr (.int, 3618)) ∧ 78 < 99 ∧ 3618 < 2147483648) g6 g7 ?_
    refine en_iload_n mc95_227 rfl ?_
    refine en_isub mc95_228 ?_
    refine en_callI (lz := [mm_i ((M.1 78 l9) - l3)]) mv95 mc95_229 rfl rfl (lk_m7_171) mv74 rfl (by decide) rfl (mk_cokS rfl) rfl (mk_nh rfl _) ho ?_
    refine en_CI_mono h (fun x8 M9 h => ?_) (fun _ _ h => h)
    intro ho10
    replace h := h ho10
    obtain ⟨g11, h⟩ := h
    obtain ⟨g12, h⟩ := h
    refine en_aload_n mc95_232 rfl ?_
    refine en_getR (b := 79) mv95 mc95_233 (lk_f7_28) (⟨rfl, by decide⟩ : mt_kd[72]? = some (.inl 7) ∧ 72 < 99) rfl (mk_fc ho10 (by decide +kernel)) ?_
    refine en_iload mc95_236 rfl ?_
    refine en_iald mc95_238 (⟨rfl, by decide, by decide⟩ : mt_kd[79]? = some (.inr (.int, 3618)) ∧ 79 < 99 ∧ 3618 < 2147483648) g11 g12 ?_
    refine en_iload mc95_239 rfl ?_
    refine en_iadd mc95_241 ?_
    refine en_callI (lz := [mm_i ((M9.1 79 l9) + l4)]) mv95 mc95_242 rfl rfl (lk_m7_171) mv74 rfl (by decide) rfl (mk_cokS rfl) rfl (mk_nh rfl _) ho10 ?_
    refine en_CI_mono h (fun x13 M14 h => ?_) (fun _ _ h => h)
    intro ho15
    replace h := h ho15
    refine en_callV (lz := [mm_r 72, mm_i x8, mm_i x13]) mv95 mc95_245 rfl rfl (lk_m7_127) mv36 rfl (by decide) rfl (mk_cokV rfl (⟨rfl, by decide⟩ : mt_kd[72]? = some (.inl 7) ∧ 72 < 99)) rfl (mk_nh rfl _) ho15 ?_
    refine en_CV_mono h (fun M17 h => ?_) (fun _ _ h => h)
    intro ho18
    replace h := h ho18
    refine en_iinc (ls' := [mm_r 72, mm_i l1, mm_i l2, mm_i l3, mm_i l4, mm_i l5, mm_i l6, mm_i l7, mm_i l8, mm_i (l9 + 1)]) mc95_248 rfl rfl ?_
    refine en_goto 199 mc95_251 (by decide) ?_
    exact h
theorem vc95_265 {sc : Nat × (Int → Int)} {Q : mm_R → mm_M → Prop} {M : mm_M} {l1 : Int} {l2 : Int} {l3 : Int} {l4 : Int} {l5 : Int} {l6 : Int} {l7 : Int} {l8 : Int} {l9 : Int} (ho : mr_ok M) (hg_l9 : mr_rg l9)
    (h : ((M.1 72 17) ≤ l9 → en_CV sc 65 [mm_r 72, mm_i 0, mm_u, mm_u, mm_u, mm_u, mm_u, mm_u, mm_u, mm_u] M (fun M2 => mr_ok M2 → en_R sc 95 131 [mm_r 72, mm_i l1, mm_i l2, mm_i l3, mm_i l4, mm_i l5, mm_i l6, mm_i l7, mm_i (l8 + 1), mm_i l9] [] M2 Q) (fun e M9 => Q (.inr e) M9)) ∧ (¬ (M.1 72 17) ≤ l9 → 0 ≤ l9 ∧ (l9 < 1200 ∧ (0 ≤ l9 ∧ (l9 < 1200 ∧ (0 ≤ l9 ∧ (l9 < 1200 ∧ (0 ≤ l9 ∧ (l9 < 1200 ∧ (en_R sc 95 265 [mm_r 72, mm_i l1, mm_i l2, mm_i l3, mm_i l4, mm_i l5, mm_i l6, mm_i l7, mm_i l8, mm_i (l9 + 1)] [] (mm_putN (mm_putN M 83 l9 (M.1 85 l9)) 84 l9 ((mm_putN M 83 l9 (M.1 85 l9)).1 86 l9)) Q)))))))))) : en_R sc 95 265 [mm_r 72, mm_i l1, mm_i l2, mm_i l3, mm_i l4, mm_i l5, mm_i l6, mm_i l7, mm_i l8, mm_i l9] [] M Q := by
  refine en_iload mc95_265 rfl ?_
  refine en_aload_n mc95_267 rfl ?_
  refine en_getI mv95 mc95_268 (lk_f7_100) (⟨rfl, by decide⟩ : mt_kd[72]? = some (.inl 7) ∧ 72 < 99) (Or.inl rfl) ?_
  refine en_icmp_ge 308 mc95_271 (by decide) hg_l9 (ho.2.1 72 17 (by unfold mr_lg; omega)) (fun q => ?_) (fun q => ?_)
  · replace h := h.1 q
    refine en_aload_n mc95_308 rfl ?_
    refine en_iconst mc95_309 ?_
    refine en_callV (lz := [mm_r 72, mm_i 0, mm_u, mm_u, mm_u, mm_u, mm_u, mm_u, mm_u, mm_u]) mv95 mc95_310 rfl rfl (lk_m7_164) mv65 rfl (by decide) rfl (mk_cokV rfl (⟨rfl, by decide⟩ : mt_kd[72]? = some (.inl 7) ∧ 72 < 99)) rfl (mk_nh rfl _) ho ?_
    refine en_CV_mono h (fun M2 h => ?_) (fun _ _ h => h)
    intro ho3
    replace h := h ho3
    refine en_iinc (ls' := [mm_r 72, mm_i l1, mm_i l2, mm_i l3, mm_i l4, mm_i l5, mm_i l6, mm_i l7, mm_i (l8 + 1), mm_i l9]) mc95_313 rfl rfl ?_
    refine en_goto 131 mc95_316 (by decide) ?_
    exact h
  · replace h := h.2 q
    obtain ⟨g4, h⟩ := h
    obtain ⟨g5, h⟩ := h
    obtain ⟨g6, h⟩ := h
    obtain ⟨g7, h⟩ := h
    obtain ⟨g8, h⟩ := h
    obtain ⟨g9, h⟩ := h
    obtain ⟨g10, h⟩ := h
    obtain ⟨g11, h⟩ := h
    refine en_aload_n mc95_274 rfl ?_
    refine en_getR (b := 83) mv95 mc95_275 (lk_f7_40) (⟨rfl, by decide⟩ : mt_kd[72]? = some (.inl 7) ∧ 72 < 99) rfl (mk_fc ho (by decide +kernel)) ?_
    refine en_iload mc95_278 rfl ?_
    refine en_aload_n mc95_280 rfl ?_
    refine en_getR (b := 85) mv95 mc95_281 (lk_f7_46) (⟨rfl, by decide⟩ : mt_kd[72]? = some (.inl 7) ∧ 72 < 99) rfl (mk_fc ho (by decide +kernel)) ?_
    refine en_iload mc95_284 rfl ?_
    refine en_iald mc95_286 (⟨rfl, by decide, by decide⟩ : mt_kd[85]? = some (.inr (.int, 1200)) ∧ 85 < 99 ∧ 1200 < 2147483648) g4 g5 ?_
    refine en_iast mc95_287 (⟨rfl, by decide, by decide⟩ : mt_kd[83]? = some (.inr (.int, 1200)) ∧ 83 < 99 ∧ 1200 < 2147483648) g6 g7 (ho.2.1 85 l9 (by unfold mr_lg; omega)) ?_
    refine en_aload_n mc95_288 rfl ?_
    refine en_getR (b := 84) mv95 mc95_289 (lk_f7_43) (⟨rfl, by decide⟩ : mt_kd[72]? = some (.inl 7) ∧ 72 < 99) rfl (mk_fc (mr_ok_putI (a := 83) (k := l9) ho (ho.2.1 85 l9 (by unfold mr_lg; omega))) (by decide +kernel)) ?_
    refine en_iload mc95_292 rfl ?_
    refine en_aload_n mc95_294 rfl ?_
    refine en_getR (b := 86) mv95 mc95_295 (lk_f7_49) (⟨rfl, by decide⟩ : mt_kd[72]? = some (.inl 7) ∧ 72 < 99) rfl (mk_fc (mr_ok_putI (a := 83) (k := l9) ho (ho.2.1 85 l9 (by unfold mr_lg; omega))) (by decide +kernel)) ?_
    refine en_iload mc95_298 rfl ?_
    refine en_iald mc95_300 (⟨rfl, by decide, by decide⟩ : mt_kd[86]? = some (.inr (.int, 1200)) ∧ 86 < 99 ∧ 1200 < 2147483648) g8 g9 ?_
    refine en_iast mc95_301 (⟨rfl, by decide, by decide⟩ : mt_kd[84]? = some (.inr (.int, 1200)) ∧ 84 < 99 ∧ 1200 < 2147483648) g10 g11 ((mr_ok_putI (a := 83) (k := l9) ho (ho.2.1 85 l9 (by unfold mr_lg; omega))).2.1 86 l9 (by unfold mr_lg; omega)) ?_
    refine en_iinc (ls' := [mm_r 72, mm_i l1, mm_i l2, mm_i l3, mm_i l4, mm_i l5, mm_i l6, mm_i l7, mm_i l8, mm_i (l9 + 1)]) mc95_302 rfl rfl ?_
    refine en_goto 265 mc95_305 (by decide) ?_
    exact h
/-! 96: CellAreas$Area.below(I)I -/
theorem mc96_0 : mr_C 96 0 = some (.iload_n 1, 1) := rfl
theorem mc96_1 : mr_C 96 1 = some (.ifCond .le (26), 3) := rfl
theorem mc96_4 : mr_C 96 4 = some (.aload_n 0, 1) := rfl
theorem mc96_5 : mr_C 96 5 = some (.getfield 19, 3) := rfl
theorem mc96_8 : mr_C 96 8 = some (.iload_n 1, 1) := rfl
theorem mc96_9 : mr_C 96 9 = some (.iconst 1, 1) := rfl
theorem mc96_10 : mr_C 96 10 = some (.isub, 1) := rfl
theorem mc96_11 : mr_C 96 11 = some (.iaload, 1) := rfl
theorem mc96_12 : mr_C 96 12 = some (.aload_n 0, 1) := rfl
theorem mc96_13 : mr_C 96 13 = some (.getfield 15, 3) := rfl
theorem mc96_16 : mr_C 96 16 = some (.iload_n 1, 1) := rfl
theorem mc96_17 : mr_C 96 17 = some (.iaload, 1) := rfl
theorem mc96_18 : mr_C 96 18 = some (.if_icmp .ne (9), 3) := rfl
theorem mc96_21 : mr_C 96 21 = some (.iload_n 1, 1) := rfl
theorem mc96_22 : mr_C 96 22 = some (.iconst 1, 1) := rfl
theorem mc96_23 : mr_C 96 23 = some (.isub, 1) := rfl
theorem mc96_24 : mr_C 96 24 = some (.goto 4, 3) := rfl
theorem mc96_27 : mr_C 96 27 = some (.iconst (-1), 1) := rfl
theorem mc96_28 : mr_C 96 28 = some (.ireturn, 1) := rfl
theorem vc96_0 {sc : Nat × (Int → Int)} {Q : mm_R → mm_M → Prop} {M : mm_M} {l0 : Nat} {l1 : Int} (ho : mr_ok M) (hg_l1 : mr_rg l1) (hA_l0 : mr_A l0)
    (h : (l1 ≤ 0 → Q (.inl (some (mm_i (-1)))) M) ∧ (¬ l1 ≤ 0 → 0 ≤ (l1 - 1) ∧ ((l1 - 1) < 100 ∧ (0 ≤ l1 ∧ (l1 < 100 ∧ (((M.1 (l0 + 2) (l1 - 1)) ≠ (M.1 (l0 + 1) l1) → Q (.inl (some (mm_i (-1)))) M) ∧ (¬ ((M.1 (l0 + 2) (l1 - 1)) ≠ (M.1 (l0 + 1) l1)) → Q (.inl (some (mm_i (l1 - 1)))) M))))))) : en_R sc 96 0 [mm_r l0, mm_i l1] [] M Q := by
  refine en_iload_n mc96_0 rfl ?_
  refine en_if_le 27 mc96_1 (by decide) hg_l1 (fun q => ?_) (fun q => ?_)
  · replace h := h.1 q
    refine en_iconst mc96_27 ?_
    exact en_iret mv96 mc96_28 rfl h
  · replace h := h.2 q
    obtain ⟨g1, h⟩ := h
    obtain ⟨g2, h⟩ := h
    obtain ⟨g3, h⟩ := h
    obtain ⟨g4, h⟩ := h
    refine en_aload_n mc96_4 rfl ?_
    refine en_getR (b := (l0 + 2)) mv96 mc96_5 (lk_f0_19) (mk_A0 hA_l0) rfl (mk_fA2 hA_l0 ho) ?_
    refine en_iload_n mc96_8 rfl ?_
    refine en_iconst mc96_9 ?_
    refine en_isub mc96_10 ?_
    refine en_iald mc96_11 (mk_A2 hA_l0) g1 g2 ?_
    refine en_aload_n mc96_12 rfl ?_
    refine en_getR (b := (l0 + 1)) mv96 mc96_13 (lk_f0_15) (mk_A0 hA_l0) rfl (mk_fA1 hA_l0 ho) ?_
    refine en_iload_n mc96_16 rfl ?_
    refine en_iald mc96_17 (mk_A1 hA_l0) g3 g4 ?_
    refine en_icmp_ne 27 mc96_18 (by decide) (ho.2.1 (l0 + 2) (l1 - 1) ((mk_nA2 hA_l0) _)) (ho.2.1 (l0 + 1) l1 ((mk_nA1 hA_l0) _)) (fun q => ?_) (fun q => ?_)
    · replace h := h.1 q
      refine en_iconst mc96_27 ?_
      exact en_iret mv96 mc96_28 rfl h
    · replace h := h.2 q
      refine en_iload_n mc96_21 rfl ?_
      refine en_iconst mc96_22 ?_
      refine en_isub mc96_23 ?_
      refine en_goto 28 mc96_24 (by decide) ?_
      exact en_iret mv96 mc96_28 rfl h
/-! 97: CellAreas.layShrunkRow(LCellAreas$Area;IIII)V -/
theorem mc97_0 : mr_C 97 0 = some (.aload_n 1, 1) := rfl
theorem mc97_1 : mr_C 97 1 = some (.iload_n 2, 1) := rfl
theorem mc97_2 : mr_C 97 2 = some (.invokevirtual 165, 3) := rfl
theorem mc97_5 : mr_C 97 5 = some (.istore 6, 2) := rfl
theorem mc97_7 : mr_C 97 7 = some (.aload_n 1, 1) := rfl
theorem mc97_8 : mr_C 97 8 = some (.iload_n 3, 1) := rfl
theorem mc97_9 : mr_C 97 9 = some (.invokevirtual 165, 3) := rfl
theorem mc97_12 : mr_C 97 12 = some (.istore 7, 2) := rfl
theorem mc97_14 : mr_C 97 14 = some (.aload_n 0, 1) := rfl
theorem mc97_15 : mr_C 97 15 = some (.getfield 25, 3) := rfl
theorem mc97_18 : mr_C 97 18 = some (.invokevirtual 69, 3) := rfl
theorem mc97_21 : mr_C 97 21 = some (.iload 6, 2) := rfl
theorem mc97_23 : mr_C 97 23 = some (.iconst (-1), 1) := rfl
theorem mc97_24 : mr_C 97 24 = some (.if_icmp .eq (9), 3) := rfl
theorem mc97_27 : mr_C 97 27 = some (.iload 7, 2) := rfl
theorem mc97_29 : mr_C 97 29 = some (.iconst (-1), 1) := rfl
theorem mc97_30 : mr_C 97 30 = some (.if_icmp .ne (4), 3) := rfl
theorem mc97_33 : mr_C 97 33 = some (.return_, 1) := rfl
theorem mc97_34 : mr_C 97 34 = some (.aload_n 1, 1) := rfl
theorem mc97_35 : mr_C 97 35 = some (.iload 6, 2) := rfl
theorem mc97_37 : mr_C 97 37 = some (.aload_n 0, 1) := rfl
theorem mc97_38 : mr_C 97 38 = some (.getfield 25, 3) := rfl
theorem mc97_41 : mr_C 97 41 = some (.iload 4, 2) := by decide +kernel
theorem mc97_43 : mr_C 97 43 = some (.ineg, 1) := by decide +kernel
theorem mc97_44 : mr_C 97 44 = some (.iload 5, 2) := by decide +kernel
theorem mc97_46 : mr_C 97 46 = some (.ineg, 1) := by decide +kernel
theorem mc97_47 : mr_C 97 47 = some (.invokevirtual 121, 3) := by decide +kernel
theorem mc97_50 : mr_C 97 50 = some (.iload 6, 2) := by decide +kernel
theorem mc97_52 : mr_C 97 52 = some (.iconst 1, 1) := by decide +kernel
theorem mc97_53 : mr_C 97 53 = some (.iadd, 1) := by decide +kernel
theorem mc97_54 : mr_C 97 54 = some (.istore 8, 2) := by decide +kernel
theorem mc97_56 : mr_C 97 56 = some (.iload 8, 2) := by decide +kernel
theorem mc97_58 : mr_C 97 58 = some (.iload 7, 2) := by decide +kernel
theorem mc97_60 : mr_C 97 60 = some (.if_icmp .gt (64), 3) := by decide +kernel
theorem mc97_63 : mr_C 97 63 = some (.aload_n 0, 1) := by decide +kernel
theorem mc97_64 : mr_C 97 64 = some (.getfield 25, 3) := by decide +kernel
theorem mc97_67 : mr_C 97 67 = some (.invokevirtual 229, 3) := by decide +kernel
theorem mc97_70 : mr_C 97 70 = some (.ifCond .ne (54), 3) := by decide +kernel
theorem mc97_73 : mr_C 97 73 = some (.aload_n 0, 1) := by decide +kernel
theorem mc97_74 : mr_C 97 74 = some (.getfield 29, 3) := by decide +kernel
theorem mc97_77 : mr_C 97 77 = some (.invokevirtual 69, 3) := by decide +kernel
theorem mc97_80 : mr_C 97 80 = some (.aload_n 1, 1) := by decide +kernel
theorem mc97_81 : mr_C 97 81 = some (.iload 8, 2) := by decide +kernel
theorem mc97_83 : mr_C 97 83 = some (.invokevirtual 281, 3) := by decide +kernel
theorem mc97_86 : mr_C 97 86 = some (.iconst (-1), 1) := by decide +kernel
theorem mc97_87 : mr_C 97 87 = some (.if_icmp .eq (19), 3) := by decide +kernel
theorem mc97_90 : mr_C 97 90 = some (.aload_n 1, 1) := by decide +kernel
theorem mc97_91 : mr_C 97 91 = some (.iload 8, 2) := by decide +kernel
theorem mc97_93 : mr_C 97 93 = some (.aload_n 0, 1) := by decide +kernel
theorem mc97_94 : mr_C 97 94 = some (.getfield 29, 3) := by decide +kernel
theorem mc97_97 : mr_C 97 97 = some (.iload 4, 2) := by decide +kernel
theorem mc97_99 : mr_C 97 99 = some (.ineg, 1) := by decide +kernel
theorem mc97_100 : mr_C 97 100 = some (.iload 5, 2) := by decide +kernel
theorem mc97_102 : mr_C 97 102 = some (.ineg, 1) := by decide +kernel
theorem mc97_103 : mr_C 97 103 = some (.invokevirtual 121, 3) := by decide +kernel
theorem mc97_106 : mr_C 97 106 = some (.aload_n 0, 1) := by decide +kernel
theorem mc97_107 : mr_C 97 107 = some (.getfield 25, 3) := by decide +kernel
theorem mc97_110 : mr_C 97 110 = some (.aload_n 0, 1) := by decide +kernel
theorem mc97_111 : mr_C 97 111 = some (.getfield 29, 3) := by decide +kernel
theorem mc97_114 : mr_C 97 114 = some (.iconst 1, 1) := by decide +kernel
theorem mc97_115 : mr_C 97 115 = some (.invokevirtual 112, 3) := by decide +kernel
theorem mc97_118 : mr_C 97 118 = some (.iinc 8 (1), 3) := by decide +kernel
theorem mc97_121 : mr_C 97 121 = some (.goto (-65), 3) := by decide +kernel
theorem mc97_124 : mr_C 97 124 = some (.return_, 1) := by decide +kernel
theorem vc97_0 {sc : Nat × (Int → Int)} {Q : mm_R → mm_M → Prop} {M : mm_M} {l1 : Nat} {l2 : Int} {l3 : Int} {l4 : Int} {l5 : Int} (ho : mr_ok M) (hA_l1 : mr_A l1)
    (h : en_CI sc 49 [mm_r l1, mm_i l2, mm_u, mm_u, mm_u] M (fun x1 M2 => mr_ok M2 → en_CI sc 49 [mm_r l1, mm_i l3, mm_u, mm_u, mm_u] M2 (fun x4 M5 => mr_ok M5 → en_CV sc 12 [mm_r 11] M5 (fun M8 => mr_ok M8 → mr_rg x1 ∧ ((x1 = (-1) → Q (.inl none) M8) ∧ (¬ x1 = (-1) → mr_rg x4 ∧ ((x4 ≠ (-1) → en_CV sc 52 [mm_r l1, mm_i x1, mm_r 11, mm_i (0 - l4), mm_i (0 - l5), mm_u] M8 (fun M13 => mr_ok M13 → en_R sc 97 56 [mm_r 0, mm_r l1, mm_i l2, mm_i l3, mm_i l4, mm_i l5, mm_i x1, mm_i x4, mm_i (x1 + 1)] [] M13 Q) (fun e M9 => Q (.inr e) M9)) ∧ (¬ (x4 ≠ (-1)) → Q (.inl none) M8))))) (fun e M9 => Q (.inr e) M9)) (fun e M9 => Q (.inr e) M9)) (fun e M9 => Q (.inr e) M9)) : en_R sc 97 0 [mm_r 0, mm_r l1, mm_i l2, mm_i l3, mm_i l4, mm_i l5, mm_u, mm_u, mm_u] [] M Q := by
  refine en_aload_n mc97_0 rfl ?_
  refine en_iload_n mc97_1 rfl ?_
  refine en_callI (lz := [mm_r l1, mm_i l2, mm_u, mm_u, mm_u]) mv97 mc97_2 rfl rfl (lk_m6_165) mv49 rfl (by decide) rfl (mk_cokV rfl (mk_A0 hA_l1)) rfl (mk_nh rfl _) ho ?_
  refine en_CI_mono h (fun x1 M2 h => ?_) (fun _ _ h => h)
  intro ho3
  replace h := h ho3
  refine en_istore (ls' := [mm_r 0, mm_r l1, mm_i l2, mm_i l3, mm_i l4, mm_i l5, mm_i x1, mm_u, mm_u]) mc97_5 (Nat.le_of_ble_eq_true rfl) rfl ?_
  refine en_aload_n mc97_7 rfl ?_
  refine en_iload_n mc97_8 rfl ?_
  refine en_callI (lz := [mm_r l1, mm_i l3, mm_u, mm_u, mm_u]) mv97 mc97_9 rfl rfl (lk_m6_165) mv49 rfl (by decide) rfl (mk_cokV rfl (mk_A0 hA_l1)) rfl (mk_nh rfl _) ho3 ?_
  refine en_CI_mono h (fun x4 M5 h => ?_) (fun _ _ h => h)
  intro ho6
  replace h := h ho6
  refine en_istore (ls' := [mm_r 0, mm_r l1, mm_i l2, mm_i l3, mm_i l4, mm_i l5, mm_i x1, mm_i x4, mm_u]) mc97_12 (Nat.le_of_ble_eq_true rfl) rfl ?_
  refine en_aload_n mc97_14 rfl ?_
  refine en_getR (b := 11) mv97 mc97_15 (lk_f6_25) (⟨rfl, by decide⟩ : mt_kd[0]? = some (.inl 6) ∧ 0 < 99) rfl (mk_fc ho6 (by decide +kernel)) ?_
  refine en_callV (lz := [mm_r 11]) mv97 mc97_18 rfl rfl (lk_m6_69) mv12 rfl (by decide) rfl (mk_cokV rfl (mk_R0 (by unfold mr_Rw; decide : mr_Rw 11))) rfl (mk_nh rfl _) ho6 ?_
  refine en_CV_mono h (fun M8 h => ?_) (fun _ _ h => h)
  intro ho9
  replace h := h ho9
  obtain ⟨g10, h⟩ := h
  refine en_iload mc97_21 rfl ?_
  refine en_iconst mc97_23 ?_
  refine en_icmp_eq 33 mc97_24 (by decide) g10 (⟨by decide, by decide⟩ : mr_rg (-1)) (fun q => ?_) (fun q => ?_)
  · replace h := h.1 q
    exact en_vret mv97 mc97_33 rfl h
  · replace h := h.2 q
    obtain ⟨g11, h⟩ := h
    refine en_iload mc97_27 rfl ?_
    refine en_iconst mc97_29 ?_
    refine en_icmp_ne 34 mc97_30 (by decide) g11 (⟨by decide, by decide⟩ : mr_rg (-1)) (fun q => ?_) (fun q => ?_)
    · replace h := h.1 q
      refine en_aload_n mc97_34 rfl ?_
      refine en_iload mc97_35 rfl ?_
      refine en_aload_n mc97_37 rfl ?_
      refine en_getR (b := 11) mv97 mc97_38 (lk_f6_25) (⟨rfl, by decide⟩ : mt_kd[0]? = some (.inl 6) ∧ 0 < 99) rfl (mk_fc ho9 (by decide +kernel)) ?_
      refine en_iload mc97_41 rfl ?_
      refine en_ineg mc97_43 ?_
      refine en_iload mc97_44 rfl ?_
      refine en_ineg mc97_46 ?_
      refine en_callV (lz := [mm_r l1, mm_i x1, mm_r 11, mm_i (0 - l4), mm_i (0 - l5), mm_u]) mv97 mc97_47 rfl rfl (lk_m6_121) mv52 rfl (by decide) rfl (mk_cokV rfl (mk_A0 hA_l1)) rfl (mk_nh rfl _) ho9 ?_
      refine en_CV_mono h (fun M13 h => ?_) (fun _ _ h => h)
      intro ho14
      replace h := h ho14
      refine en_iload mc97_50 rfl ?_
      refine en_iconst mc97_52 ?_
      refine en_iadd mc97_53 ?_
      refine en_istore (ls' := [mm_r 0, mm_r l1, mm_i l2, mm_i l3, mm_i l4, mm_i l5, mm_i x1, mm_i x4, mm_i (x1 + 1)]) mc97_54 (Nat.le_of_ble_eq_true rfl) rfl ?_
      exact h
    · replace h := h.2 q
      exact en_vret mv97 mc97_33 rfl h
theorem vc97_56 {sc : Nat × (Int → Int)} {Q : mm_R → mm_M → Prop} {M : mm_M} {l1 : Nat} {l2 : Int} {l3 : Int} {l4 : Int} {l5 : Int} {l6 : Int} {l7 : Int} {l8 : Int} (ho : mr_ok M) (hg_l8 : mr_rg l8) (hg_l7 : mr_rg l7) (hA_l1 : mr_A l1)
    (h : (l7 < l8 → Q (.inl none) M) ∧ (¬ l7 < l8 → en_CI sc 23 [mm_r 11] M (fun x1 M2 => mr_ok M2 → mr_rg x1 ∧ ((x1 ≠ 0 → Q (.inl none) M2) ∧ (¬ (x1 ≠ 0) → en_CV sc 12 [mm_r 13] M2 (fun M6 => mr_ok M6 → en_CI sc 96 [mm_r l1, mm_i l8] M6 (fun x8 M9 => mr_ok M9 → mr_rg x8 ∧ ((x8 = (-1) → en_R sc 97 106 [mm_r 0, mm_r l1, mm_i l2, mm_i l3, mm_i l4, mm_i l5, mm_i l6, mm_i l7, mm_i l8] [] M9 Q) ∧ (¬ x8 = (-1) → en_CV sc 52 [mm_r l1, mm_i l8, mm_r 13, mm_i (0 - l4), mm_i (0 - l5), mm_u] M9 (fun M13 => mr_ok M13 → en_R sc 97 106 [mm_r 0, mm_r l1, mm_i l2, mm_i l3, mm_i l4, mm_i l5, mm_i l6, mm_i l7, mm_i l8] [] M13 Q) (fun e M9 => Q (.inr e) M9)))) (fun e M9 => Q (.inr e) M9)) (fun e M9 => Q (.inr e) M9)))) (fun e M9 => Q (.inr e) M9))) : en_R sc 97 56 [mm_r 0, mm_r l1, mm_i l2, mm_i l3, mm_i l4, mm_i l5, mm_i l6, mm_i l7, mm_i l8] [] M Q := by
  refine en_iload mc97_56 rfl ?_
  refine en_iload mc97_58 rfl ?_
  refine en_icmp_gt 124 mc97_60 (by decide) hg_l8 hg_l7 (fun q => ?_) (fun q => ?_)
  · replace h := h.1 q
    exact en_vret mv97 mc97_124 rfl h
  · replace h := h.2 q
    refine en_aload_n mc97_63 rfl ?_
    refine en_getR (b := 11) mv97 mc97_64 (lk_f6_25) (⟨rfl, by decide⟩ : mt_kd[0]? = some (.inl 6) ∧ 0 < 99) rfl (mk_fc ho (by decide +kernel)) ?_
    refine en_callI (lz := [mm_r 11]) mv97 mc97_67 rfl rfl (lk_m6_229) mv23 rfl (by decide) rfl (mk_cokV rfl (mk_R0 (by unfold mr_Rw; decide : mr_Rw 11))) rfl (mk_nh rfl _) ho ?_
    refine en_CI_mono h (fun x1 M2 h => ?_) (fun _ _ h => h)
    intro ho3
    replace h := h ho3
    obtain ⟨g4, h⟩ := h
    refine en_if_ne 124 mc97_70 (by decide) g4 (fun q => ?_) (fun q => ?_)
    · replace h := h.1 q
      exact en_vret mv97 mc97_124 rfl h
    · replace h := h.2 q
      refine en_aload_n mc97_73 rfl ?_
      refine en_getR (b := 13) mv97 mc97_74 (lk_f6_29) (⟨rfl, by decide⟩ : mt_kd[0]? = some (.inl 6) ∧ 0 < 99) rfl (mk_fc ho3 (by decide +kernel)) ?_
      refine en_callV (lz := [mm_r 13]) mv97 mc97_77 rfl rfl (lk_m6_69) mv12 rfl (by decide) rfl (mk_cokV rfl (mk_R0 (by unfold mr_Rw; decide : mr_Rw 13))) rfl (mk_nh rfl _) ho3 ?_
      refine en_CV_mono h (fun M6 h => ?_) (fun _ _ h => h)
      intro ho7
      replace h := h ho7
      refine en_aload_n mc97_80 rfl ?_
      refine en_iload mc97_81 rfl ?_
      refine en_callI (lz := [mm_r l1, mm_i l8]) mv97 mc97_83 rfl rfl (lk_m6_281) mv96 rfl (by decide) rfl (mk_cokV rfl (mk_A0 hA_l1)) rfl (mk_nh rfl _) ho7 ?_
      refine en_CI_mono h (fun x8 M9 h => ?_) (fun _ _ h => h)
      intro ho10
      replace h := h ho10
      obtain ⟨g11, h⟩ := h
      refine en_iconst mc97_86 ?_
      refine en_icmp_eq 106 mc97_87 (by decide) g11 (⟨by decide, by decide⟩ : mr_rg (-1)) (fun q => ?_) (fun q => ?_)
      · replace h := h.1 q
        exact h
      · replace h := h.2 q
        refine en_aload_n mc97_90 rfl ?_
        refine en_iload mc97_91 rfl ?_
        refine en_aload_n mc97_93 rfl ?_
        refine en_getR (b := 13) mv97 mc97_94 (lk_f6_29) (⟨rfl, by decide⟩ : mt_kd[0]? = some (.inl 6) ∧ 0 < 99) rfl (mk_fc ho10 (by decide +kernel)) ?_
        refine en_iload mc97_97 rfl ?_
        refine en_ineg mc97_99 ?_
        refine en_iload mc97_100 rfl ?_
        refine en_ineg mc97_102 ?_
        refine en_callV (lz := [mm_r l1, mm_i l8, mm_r 13, mm_i (0 - l4), mm_i (0 - l5), mm_u]) mv97 mc97_103 rfl rfl (lk_m6_121) mv52 rfl (by decide) rfl (mk_cokV rfl (mk_A0 hA_l1)) rfl (mk_nh rfl _) ho10 ?_
        refine en_CV_mono h (fun M13 h => ?_) (fun _ _ h => h)
        intro ho14
        replace h := h ho14
        exact h
theorem vc97_106 {sc : Nat × (Int → Int)} {Q : mm_R → mm_M → Prop} {M : mm_M} {l1 : Nat} {l2 : Int} {l3 : Int} {l4 : Int} {l5 : Int} {l6 : Int} {l7 : Int} {l8 : Int} (ho : mr_ok M)
    (h : en_CV sc 55 [mm_r 11, mm_r 13, mm_i 1, mm_u] M (fun M2 => mr_ok M2 → en_R sc 97 56 [mm_r 0, mm_r l1, mm_i l2, mm_i l3, mm_i l4, mm_i l5, mm_i l6, mm_i l7, mm_i (l8 + 1)] [] M2 Q) (fun e M9 => Q (.inr e) M9)) : en_R sc 97 106 [mm_r 0, mm_r l1, mm_i l2, mm_i l3, mm_i l4, mm_i l5, mm_i l6, mm_i l7, mm_i l8] [] M Q := by
  refine en_aload_n mc97_106 rfl ?_
  refine en_getR (b := 11) mv97 mc97_107 (lk_f6_25) (⟨rfl, by decide⟩ : mt_kd[0]? = some (.inl 6) ∧ 0 < 99) rfl (mk_fc ho (by decide +kernel)) ?_
  refine en_aload_n mc97_110 rfl ?_
  refine en_getR (b := 13) mv97 mc97_111 (lk_f6_29) (⟨rfl, by decide⟩ : mt_kd[0]? = some (.inl 6) ∧ 0 < 99) rfl (mk_fc ho (by decide +kernel)) ?_
  refine en_iconst mc97_114 ?_
  refine en_callV (lz := [mm_r 11, mm_r 13, mm_i 1, mm_u]) mv97 mc97_115 rfl rfl (lk_m6_112) mv55 rfl (by decide) rfl (mk_cokV rfl (mk_R0 (by unfold mr_Rw; decide : mr_Rw 11))) rfl (mk_nh rfl _) ho ?_
  refine en_CV_mono h (fun M2 h => ?_) (fun _ _ h => h)
  intro ho3
  replace h := h ho3
  refine en_iinc (ls' := [mm_r 0, mm_r l1, mm_i l2, mm_i l3, mm_i l4, mm_i l5, mm_i l6, mm_i l7, mm_i (l8 + 1)]) mc97_118 rfl rfl ?_
  refine en_goto 56 mc97_121 (by decide) ?_
  exact h
/-! 98: CellAreas.shrink(IIIIII)I -/
theorem mc98_0 : mr_C 98 0 = some (.iload_n 1, 1) := rfl
theorem mc98_1 : mr_C 98 1 = some (.invokestatic 61, 3) := rfl
theorem mc98_4 : mr_C 98 4 = some (.iload_n 2, 1) := rfl
theorem mc98_5 : mr_C 98 5 = some (.invokestatic 61, 3) := rfl
theorem mc98_8 : mr_C 98 8 = some (.iload_n 3, 1) := rfl
theorem mc98_9 : mr_C 98 9 = some (.iload 4, 2) := rfl
theorem mc98_11 : mr_C 98 11 = some (.iload 5, 2) := rfl
theorem mc98_13 : mr_C 98 13 = some (.iload 6, 2) := rfl
theorem mc98_15 : mr_C 98 15 = some (.invokestatic 145, 3) := rfl
theorem mc98_18 : mr_C 98 18 = some (.aload_n 0, 1) := rfl
theorem mc98_19 : mr_C 98 19 = some (.getfield 11, 3) := rfl
theorem mc98_22 : mr_C 98 22 = some (.iload_n 2, 1) := rfl
theorem mc98_23 : mr_C 98 23 = some (.aaload, 1) := rfl
theorem mc98_24 : mr_C 98 24 = some (.astore 7, 2) := rfl
theorem mc98_26 : mr_C 98 26 = some (.aload_n 0, 1) := rfl
theorem mc98_27 : mr_C 98 27 = some (.getfield 32, 3) := rfl
theorem mc98_30 : mr_C 98 30 = some (.invokevirtual 69, 3) := rfl
theorem mc98_33 : mr_C 98 33 = some (.aload 7, 2) := rfl
theorem mc98_35 : mr_C 98 35 = some (.aload_n 0, 1) := rfl
theorem mc98_36 : mr_C 98 36 = some (.getfield 32, 3) := rfl
theorem mc98_39 : mr_C 98 39 = some (.iload 5, 2) := rfl
theorem mc98_41 : mr_C 98 41 = some (.invokevirtual 91, 3) := by decide +kernel
theorem mc98_44 : mr_C 98 44 = some (.aload 7, 2) := by decide +kernel
theorem mc98_46 : mr_C 98 46 = some (.aload_n 0, 1) := by decide +kernel
theorem mc98_47 : mr_C 98 47 = some (.getfield 32, 3) := by decide +kernel
theorem mc98_50 : mr_C 98 50 = some (.iload 6, 2) := by decide +kernel
theorem mc98_52 : mr_C 98 52 = some (.ineg, 1) := by decide +kernel
theorem mc98_53 : mr_C 98 53 = some (.invokevirtual 91, 3) := by decide +kernel
theorem mc98_56 : mr_C 98 56 = some (.aload_n 0, 1) := by decide +kernel
theorem mc98_57 : mr_C 98 57 = some (.getfield 18, 3) := by decide +kernel
theorem mc98_60 : mr_C 98 60 = some (.invokevirtual 76, 3) := by decide +kernel
theorem mc98_63 : mr_C 98 63 = some (.sipush (-1000), 3) := by decide +kernel
theorem mc98_66 : mr_C 98 66 = some (.istore 9, 2) := by decide +kernel
theorem mc98_68 : mr_C 98 68 = some (.iload 9, 2) := by decide +kernel
theorem mc98_70 : mr_C 98 70 = some (.sipush 1000, 3) := by decide +kernel
theorem mc98_73 : mr_C 98 73 = some (.if_icmp .ge (74), 3) := by decide +kernel
theorem mc98_76 : mr_C 98 76 = some (.aload_n 0, 1) := by decide +kernel
theorem mc98_77 : mr_C 98 77 = some (.getfield 18, 3) := by decide +kernel
theorem mc98_80 : mr_C 98 80 = some (.getfield 95, 3) := by decide +kernel
theorem mc98_83 : mr_C 98 83 = some (.ifCond .ne (64), 3) := by decide +kernel
theorem mc98_86 : mr_C 98 86 = some (.iload 9, 2) := by decide +kernel
theorem mc98_88 : mr_C 98 88 = some (.iconst 1, 1) := by decide +kernel
theorem mc98_89 : mr_C 98 89 = some (.iadd, 1) := by decide +kernel
theorem mc98_90 : mr_C 98 90 = some (.aload_n 0, 1) := by decide +kernel
theorem mc98_91 : mr_C 98 91 = some (.getfield 32, 3) := by decide +kernel
theorem mc98_94 : mr_C 98 94 = some (.iload 9, 2) := by decide +kernel
theorem mc98_96 : mr_C 98 96 = some (.iconst 1, 1) := by decide +kernel
theorem mc98_97 : mr_C 98 97 = some (.iadd, 1) := by decide +kernel
theorem mc98_98 : mr_C 98 98 = some (.invokevirtual 99, 3) := by decide +kernel
theorem mc98_101 : mr_C 98 101 = some (.invokestatic 102, 3) := by decide +kernel
theorem mc98_104 : mr_C 98 104 = some (.istore 8, 2) := by decide +kernel
theorem mc98_106 : mr_C 98 106 = some (.aload_n 0, 1) := by decide +kernel
theorem mc98_107 : mr_C 98 107 = some (.aload 7, 2) := by decide +kernel
theorem mc98_109 : mr_C 98 109 = some (.iload 9, 2) := by decide +kernel
theorem mc98_111 : mr_C 98 111 = some (.iload 5, 2) := by decide +kernel
theorem mc98_113 : mr_C 98 113 = some (.isub, 1) := by decide +kernel
theorem mc98_114 : mr_C 98 114 = some (.iload 9, 2) := by decide +kernel
theorem mc98_116 : mr_C 98 116 = some (.iload 6, 2) := by decide +kernel
theorem mc98_118 : mr_C 98 118 = some (.iadd, 1) := by decide +kernel
theorem mc98_119 : mr_C 98 119 = some (.iload_n 3, 1) := by decide +kernel
theorem mc98_120 : mr_C 98 120 = some (.iload 4, 2) := by decide +kernel
theorem mc98_122 : mr_C 98 122 = some (.invokevirtual 149, 3) := by decide +kernel
theorem mc98_125 : mr_C 98 125 = some (.aload_n 0, 1) := by decide +kernel
theorem mc98_126 : mr_C 98 126 = some (.getfield 18, 3) := by decide +kernel
theorem mc98_129 : mr_C 98 129 = some (.iload 9, 2) := by decide +kernel
theorem mc98_131 : mr_C 98 131 = some (.iload 8, 2) := by decide +kernel
theorem mc98_133 : mr_C 98 133 = some (.aload_n 0, 1) := by decide +kernel
theorem mc98_134 : mr_C 98 134 = some (.getfield 25, 3) := by decide +kernel
theorem mc98_137 : mr_C 98 137 = some (.invokevirtual 79, 3) := by decide +kernel
theorem mc98_140 : mr_C 98 140 = some (.iload 8, 2) := by decide +kernel
theorem mc98_142 : mr_C 98 142 = some (.istore 9, 2) := by decide +kernel
theorem mc98_144 : mr_C 98 144 = some (.goto (-76), 3) := by decide +kernel
theorem mc98_147 : mr_C 98 147 = some (.aload_n 0, 1) := by decide +kernel
theorem mc98_148 : mr_C 98 148 = some (.iload_n 1, 1) := by decide +kernel
theorem mc98_149 : mr_C 98 149 = some (.invokevirtual 83, 3) := by decide +kernel
theorem mc98_152 : mr_C 98 152 = some (.ireturn, 1) := by decide +kernel
theorem vc98_0 {sc : Nat × (Int → Int)} {Q : mm_R → mm_M → Prop} {M : mm_M} {l1 : Int} {l2 : Int} {l3 : Int} {l4 : Int} {l5 : Int} {l6 : Int} (ho : mr_ok M)
    (h : en_CV sc 9 [mm_i l1] M (fun M2 => mr_ok M2 → en_CV sc 9 [mm_i l2] M2 (fun M5 => mr_ok M5 → en_CV sc 90 [mm_i l3, mm_i l4, mm_i l5, mm_i l6] M5 (fun M8 => mr_ok M8 → 0 ≤ l2 ∧ (l2 < 8 ∧ (∃ b12, M8.2.1 1 l2 = some b12 ∧ mr_A b12 ∧ (en_CV sc 12 [mm_r 15] M8 (fun M15 => mr_ok M15 → en_CV sc 48 [mm_r b12, mm_r 15, mm_i l5, mm_u] M15 (fun M18 => mr_ok M18 → en_CV sc 48 [mm_r b12, mm_r 15, mm_i (0 - l6), mm_u] M18 (fun M21 => mr_ok M21 → en_CV sc 18 [mm_r 2] M21 (fun M24 => mr_ok M24 → en_R sc 98 68 [mm_r 0, mm_i l1, mm_i l2, mm_i l3, mm_i l4, mm_i l5, mm_i l6, mm_r b12, mm_u, mm_i (-1000)] [] M24 Q) (fun e M9 => Q (.inr e) M9)) (fun e M9 => Q (.inr e) M9)) (fun e M9 => Q (.inr e) M9)) (fun e M9 => Q (.inr e) M9))))) (fun e M9 => Q (.inr e) M9)) (fun e M9 => Q (.inr e) M9)) (fun e M9 => Q (.inr e) M9)) : en_R sc 98 0 [mm_r 0, mm_i l1, mm_i l2, mm_i l3, mm_i l4, mm_i l5, mm_i l6, mm_u, mm_u, mm_u] [] M Q := by
  refine en_iload_n mc98_0 rfl ?_
  refine en_callV (lz := [mm_i l1]) mv98 mc98_1 rfl rfl (lk_m6_61) mv9 rfl (by decide) rfl (mk_cokS rfl) rfl (mk_nh rfl _) ho ?_
  refine en_CV_mono h (fun M2 h => ?_) (fun _ _ h => h)
  intro ho3
  replace h := h ho3
  refine en_iload_n mc98_4 rfl ?_
  refine en_callV (lz := [mm_i l2]) mv98 mc98_5 rfl rfl (lk_m6_61) mv9 rfl (by decide) rfl (mk_cokS rfl) rfl (mk_nh rfl _) ho3 ?_
  refine en_CV_mono h (fun M5 h => ?_) (fun _ _ h => h)
  intro ho6
  replace h := h ho6
  refine en_iload_n mc98_8 rfl ?_
  refine en_iload mc98_9 rfl ?_
  refine en_iload mc98_11 rfl ?_
  refine en_iload mc98_13 rfl ?_
  refine en_callV (lz := [mm_i l3, mm_i l4, mm_i l5, mm_i l6]) mv98 mc98_15 rfl rfl (lk_m6_145) mv90 rfl (by decide) rfl (mk_cokS rfl) rfl (mk_nh rfl _) ho6 ?_
  refine en_CV_mono h (fun M8 h => ?_) (fun _ _ h => h)
  intro ho9
  replace h := h ho9
  obtain ⟨g10, h⟩ := h
  obtain ⟨g11, h⟩ := h
  refine en_aload_n mc98_18 rfl ?_
  refine en_getR (b := 1) mv98 mc98_19 (lk_f6_11) (⟨rfl, by decide⟩ : mt_kd[0]? = some (.inl 6) ∧ 0 < 99) rfl (mk_fc ho9 (by decide +kernel)) ?_
  refine en_iload_n mc98_22 rfl ?_
  obtain ⟨b12, g13, hA_b12_, h⟩ := h
  refine en_aald mc98_23 g10 g11 g13 ?_
  refine en_astore (ls' := [mm_r 0, mm_i l1, mm_i l2, mm_i l3, mm_i l4, mm_i l5, mm_i l6, mm_r b12, mm_u, mm_u]) mc98_24 (Nat.le_of_ble_eq_true rfl) rfl ?_
  refine en_aload_n mc98_26 rfl ?_
  refine en_getR (b := 15) mv98 mc98_27 (lk_f6_32) (⟨rfl, by decide⟩ : mt_kd[0]? = some (.inl 6) ∧ 0 < 99) rfl (mk_fc ho9 (by decide +kernel)) ?_
  refine en_callV (lz := [mm_r 15]) mv98 mc98_30 rfl rfl (lk_m6_69) mv12 rfl (by decide) rfl (mk_cokV rfl (mk_R0 (by unfold mr_Rw; decide : mr_Rw 15))) rfl (mk_nh rfl _) ho9 ?_
  refine en_CV_mono h (fun M15 h => ?_) (fun _ _ h => h)
  intro ho16
  replace h := h ho16
  refine en_aload mc98_33 rfl ?_
  refine en_aload_n mc98_35 rfl ?_
  refine en_getR (b := 15) mv98 mc98_36 (lk_f6_32) (⟨rfl, by decide⟩ : mt_kd[0]? = some (.inl 6) ∧ 0 < 99) rfl (mk_fc ho16 (by decide +kernel)) ?_
  refine en_iload mc98_39 rfl ?_
  refine en_callV (lz := [mm_r b12, mm_r 15, mm_i l5, mm_u]) mv98 mc98_41 rfl rfl (lk_m6_91) mv48 rfl (by decide) rfl (mk_cokV rfl (mk_A0 hA_b12_)) rfl (mk_nh rfl _) ho16 ?_
  refine en_CV_mono h (fun M18 h => ?_) (fun _ _ h => h)
  intro ho19
  replace h := h ho19
  refine en_aload mc98_44 rfl ?_
  refine en_aload_n mc98_46 rfl ?_
  refine en_getR (b := 15) mv98 mc98_47 (lk_f6_32) (⟨rfl, by decide⟩ : mt_kd[0]? = some (.inl 6) ∧ 0 < 99) rfl (mk_fc ho19 (by decide +kernel)) ?_
  refine en_iload mc98_50 rfl ?_
  refine en_ineg mc98_52 ?_
  refine en_callV (lz := [mm_r b12, mm_r 15, mm_i (0 - l6), mm_u]) mv98 mc98_53 rfl rfl (lk_m6_91) mv48 rfl (by decide) rfl (mk_cokV rfl (mk_A0 hA_b12_)) rfl (mk_nh rfl _) ho19 ?_
  refine en_CV_mono h (fun M21 h => ?_) (fun _ _ h => h)
  intro ho22
  replace h := h ho22
  refine en_aload_n mc98_56 rfl ?_
  refine en_getR (b := 2) mv98 mc98_57 (lk_f6_18) (⟨rfl, by decide⟩ : mt_kd[0]? = some (.inl 6) ∧ 0 < 99) rfl (mk_fc ho22 (by decide +kernel)) ?_
  refine en_callV (lz := [mm_r 2]) mv98 mc98_60 rfl rfl (lk_m6_76) mv18 rfl (by decide) rfl (mk_cokV rfl (⟨rfl, by decide⟩ : mt_kd[2]? = some (.inl 2) ∧ 2 < 99)) rfl (mk_nh rfl _) ho22 ?_
  refine en_CV_mono h (fun M24 h => ?_) (fun _ _ h => h)
  intro ho25
  replace h := h ho25
  refine en_sipush mc98_63 (by decide) ?_
  refine en_istore (ls' := [mm_r 0, mm_i l1, mm_i l2, mm_i l3, mm_i l4, mm_i l5, mm_i l6, mm_r b12, mm_u, mm_i (-1000)]) mc98_66 (Nat.le_of_ble_eq_true rfl) rfl ?_
  exact h
theorem vc98_68 {sc : Nat × (Int → Int)} {Q : mm_R → mm_M → Prop} {M : mm_M} {l1 : Int} {l2 : Int} {l3 : Int} {l4 : Int} {l5 : Int} {l6 : Int} {l7 : Nat} {l8 : mm_V} {l9 : Int} (ho : mr_ok M) (hg_l9 : mr_rg l9)
    (h : (1000 ≤ l9 → en_R sc 98 147 [mm_r 0, mm_i l1, mm_i l2, mm_i l3, mm_i l4, mm_i l5, mm_i l6, mm_r l7, l8, mm_i l9] [] M Q) ∧ (¬ 1000 ≤ l9 → ((M.1 2 2) ≠ 0 → en_R sc 98 147 [mm_r 0, mm_i l1, mm_i l2, mm_i l3, mm_i l4, mm_i l5, mm_i l6, mm_r l7, l8, mm_i l9] [] M Q) ∧ (¬ ((M.1 2 2) ≠ 0) → en_CI sc 22 [mm_r 15, mm_i (l9 + 1)] M (fun x1 M2 => mr_ok M2 → mr_rg (l9 + 1) ∧ (mr_rg x1 ∧ (en_CV sc 97 [mm_r 0, mm_r l7, mm_i (l9 - l5), mm_i (l9 + l6), mm_i l3, mm_i l4, mm_u, mm_u, mm_u] M2 (fun M7 => mr_ok M7 → en_CV sc 29 [mm_r 2, mm_i l9, mm_i (max (l9 + 1) x1), mm_r 11, mm_u] M7 (fun M10 => mr_ok M10 → en_R sc 98 68 [mm_r 0, mm_i l1, mm_i l2, mm_i l3, mm_i l4, mm_i l5, mm_i l6, mm_r l7, mm_i (max (l9 + 1) x1), mm_i (max (l9 + 1) x1)] [] M10 Q) (fun e M9 => Q (.inr e) M9)) (fun e M9 => Q (.inr e) M9)))) (fun e M9 => Q (.inr e) M9)))) : en_R sc 98 68 [mm_r 0, mm_i l1, mm_i l2, mm_i l3, mm_i l4, mm_i l5, mm_i l6, mm_r l7, l8, mm_i l9] [] M Q := by
  refine en_iload mc98_68 rfl ?_
  refine en_sipush mc98_70 (by decide) ?_
  refine en_icmp_ge 147 mc98_73 (by decide) hg_l9 (⟨by decide, by decide⟩ : mr_rg 1000) (fun q => ?_) (fun q => ?_)
  · replace h := h.1 q
    exact h
  · replace h := h.2 q
    refine en_aload_n mc98_76 rfl ?_
    refine en_getR (b := 2) mv98 mc98_77 (lk_f6_18) (⟨rfl, by decide⟩ : mt_kd[0]? = some (.inl 6) ∧ 0 < 99) rfl (mk_fc ho (by decide +kernel)) ?_
    refine en_getI mv98 mc98_80 (lk_f6_95) (⟨rfl, by decide⟩ : mt_kd[2]? = some (.inl 2) ∧ 2 < 99) (Or.inr rfl) ?_
    refine en_if_ne 147 mc98_83 (by decide) (ho.2.1 2 2 (by unfold mr_lg; omega)) (fun q => ?_) (fun q => ?_)
    · replace h := h.1 q
      exact h
    · replace h := h.2 q
      refine en_iload mc98_86 rfl ?_
      refine en_iconst mc98_88 ?_
      refine en_iadd mc98_89 ?_
      refine en_aload_n mc98_90 rfl ?_
      refine en_getR (b := 15) mv98 mc98_91 (lk_f6_32) (⟨rfl, by decide⟩ : mt_kd[0]? = some (.inl 6) ∧ 0 < 99) rfl (mk_fc ho (by decide +kernel)) ?_
      refine en_iload mc98_94 rfl ?_
      refine en_iconst mc98_96 ?_
      refine en_iadd mc98_97 ?_
      refine en_callI (lz := [mm_r 15, mm_i (l9 + 1)]) mv98 mc98_98 rfl rfl (lk_m6_99) mv22 rfl (by decide) rfl (mk_cokV rfl (mk_R0 (by unfold mr_Rw; decide : mr_Rw 15))) rfl (mk_nh rfl _) ho ?_
      refine en_CI_mono h (fun x1 M2 h => ?_) (fun _ _ h => h)
      intro ho3
      replace h := h ho3
      obtain ⟨g4, h⟩ := h
      obtain ⟨g5, h⟩ := h
      refine en_max mv98 mc98_101 (lk_m6_102) mv13 rfl ⟨Nat.le_of_ble_eq_true rfl, Nat.le_of_ble_eq_true rfl⟩ g4 g5 ?_
      refine en_istore (ls' := [mm_r 0, mm_i l1, mm_i l2, mm_i l3, mm_i l4, mm_i l5, mm_i l6, mm_r l7, mm_i (max (l9 + 1) x1), mm_i l9]) mc98_104 (Nat.le_of_ble_eq_true rfl) rfl ?_
      refine en_aload_n mc98_106 rfl ?_
      refine en_aload mc98_107 rfl ?_
      refine en_iload mc98_109 rfl ?_
      refine en_iload mc98_111 rfl ?_
      refine en_isub mc98_113 ?_
      refine en_iload mc98_114 rfl ?_
      refine en_iload mc98_116 rfl ?_
      refine en_iadd mc98_118 ?_
      refine en_iload_n mc98_119 rfl ?_
      refine en_iload mc98_120 rfl ?_
      refine en_callV (lz := [mm_r 0, mm_r l7, mm_i (l9 - l5), mm_i (l9 + l6), mm_i l3, mm_i l4, mm_u, mm_u, mm_u]) mv98 mc98_122 rfl rfl (lk_m6_149) mv97 rfl (by decide) rfl (mk_cokV rfl (⟨rfl, by decide⟩ : mt_kd[0]? = some (.inl 6) ∧ 0 < 99)) rfl (mk_nh rfl _) ho3 ?_
      refine en_CV_mono h (fun M7 h => ?_) (fun _ _ h => h)
      intro ho8
      replace h := h ho8
      refine en_aload_n mc98_125 rfl ?_
      refine en_getR (b := 2) mv98 mc98_126 (lk_f6_18) (⟨rfl, by decide⟩ : mt_kd[0]? = some (.inl 6) ∧ 0 < 99) rfl (mk_fc ho8 (by decide +kernel)) ?_
      refine en_iload mc98_129 rfl ?_
      refine en_iload mc98_131 rfl ?_
      refine en_aload_n mc98_133 rfl ?_
      refine en_getR (b := 11) mv98 mc98_134 (lk_f6_25) (⟨rfl, by decide⟩ : mt_kd[0]? = some (.inl 6) ∧ 0 < 99) rfl (mk_fc ho8 (by decide +kernel)) ?_
      refine en_callV (lz := [mm_r 2, mm_i l9, mm_i (max (l9 + 1) x1), mm_r 11, mm_u]) mv98 mc98_137 rfl rfl (lk_m6_79) mv29 rfl (by decide) rfl (mk_cokV rfl (⟨rfl, by decide⟩ : mt_kd[2]? = some (.inl 2) ∧ 2 < 99)) rfl (mk_nh rfl _) ho8 ?_
      refine en_CV_mono h (fun M10 h => ?_) (fun _ _ h => h)
      intro ho11
      replace h := h ho11
      refine en_iload mc98_140 rfl ?_
      refine en_istore (ls' := [mm_r 0, mm_i l1, mm_i l2, mm_i l3, mm_i l4, mm_i l5, mm_i l6, mm_r l7, mm_i (max (l9 + 1) x1), mm_i (max (l9 + 1) x1)]) mc98_142 (Nat.le_of_ble_eq_true rfl) rfl ?_
      refine en_goto 68 mc98_144 (by decide) ?_
      exact h
theorem vc98_147 {sc : Nat × (Int → Int)} {Q : mm_R → mm_M → Prop} {M : mm_M} {l1 : Int} {l2 : Int} {l3 : Int} {l4 : Int} {l5 : Int} {l6 : Int} {l7 : Nat} {l8 : mm_V} {l9 : Int} (ho : mr_ok M)
    (h : en_CI sc 30 [mm_r 0, mm_i l1, mm_u] M (fun x1 M2 => mr_ok M2 → Q (.inl (some (mm_i x1))) M2) (fun e M9 => Q (.inr e) M9)) : en_R sc 98 147 [mm_r 0, mm_i l1, mm_i l2, mm_i l3, mm_i l4, mm_i l5, mm_i l6, mm_r l7, l8, mm_i l9] [] M Q := by
  refine en_aload_n mc98_147 rfl ?_
  refine en_iload_n mc98_148 rfl ?_
  refine en_callI (lz := [mm_r 0, mm_i l1, mm_u]) mv98 mc98_149 rfl rfl (lk_m6_83) mv30 rfl (by decide) rfl (mk_cokV rfl (⟨rfl, by decide⟩ : mt_kd[0]? = some (.inl 6) ∧ 0 < 99)) rfl (mk_nh rfl _) ho ?_
  refine en_CI_mono h (fun x1 M2 h => ?_) (fun _ _ h => h)
  intro ho3
  replace h := h ho3
  exact en_iret mv98 mc98_152 rfl h
/-! 100: CellAreasModel.shrinkRow(IIIIII)V -/
theorem mc100_0 : mr_C 100 0 = some (.aload_n 0, 1) := rfl
theorem mc100_1 : mr_C 100 1 = some (.iconst 1, 1) := rfl
theorem mc100_2 : mr_C 100 2 = some (.putfield 100, 3) := rfl
theorem mc100_5 : mr_C 100 5 = some (.aload_n 0, 1) := rfl
theorem mc100_6 : mr_C 100 6 = some (.getfield 46, 3) := rfl
theorem mc100_9 : mr_C 100 9 = some (.iconst 0, 1) := rfl
theorem mc100_10 : mr_C 100 10 = some (.sipush (-1000), 3) := rfl
theorem mc100_13 : mr_C 100 13 = some (.iastore, 1) := rfl
theorem mc100_14 : mr_C 100 14 = some (.aload_n 0, 1) := rfl
theorem mc100_15 : mr_C 100 15 = some (.getfield 49, 3) := rfl
theorem mc100_18 : mr_C 100 18 = some (.iconst 0, 1) := rfl
theorem mc100_19 : mr_C 100 19 = some (.sipush 1000, 3) := rfl
theorem mc100_22 : mr_C 100 22 = some (.iastore, 1) := rfl
theorem mc100_23 : mr_C 100 23 = some (.iload_n 2, 1) := rfl
theorem mc100_24 : mr_C 100 24 = some (.iload 5, 2) := rfl
theorem mc100_26 : mr_C 100 26 = some (.isub, 1) := rfl
theorem mc100_27 : mr_C 100 27 = some (.istore 7, 2) := rfl
theorem mc100_29 : mr_C 100 29 = some (.iload 7, 2) := rfl
theorem mc100_31 : mr_C 100 31 = some (.iload_n 2, 1) := rfl
theorem mc100_32 : mr_C 100 32 = some (.iload 6, 2) := rfl
theorem mc100_34 : mr_C 100 34 = some (.iadd, 1) := by decide +kernel
theorem mc100_35 : mr_C 100 35 = some (.if_icmp .gt (156), 3) := by decide +kernel
theorem mc100_38 : mr_C 100 38 = some (.aload_n 0, 1) := by decide +kernel
theorem mc100_39 : mr_C 100 39 = some (.iload_n 1, 1) := by decide +kernel
theorem mc100_40 : mr_C 100 40 = some (.iload 7, 2) := by decide +kernel
theorem mc100_42 : mr_C 100 42 = some (.invokevirtual 111, 3) := by decide +kernel
theorem mc100_45 : mr_C 100 45 = some (.istore 8, 2) := by decide +kernel
theorem mc100_47 : mr_C 100 47 = some (.aload_n 0, 1) := by decide +kernel
theorem mc100_48 : mr_C 100 48 = some (.invokevirtual 184, 3) := by decide +kernel
theorem mc100_51 : mr_C 100 51 = some (.aload_n 0, 1) := by decide +kernel
theorem mc100_52 : mr_C 100 52 = some (.iconst 0, 1) := by decide +kernel
theorem mc100_53 : mr_C 100 53 = some (.putfield 118, 3) := by decide +kernel
theorem mc100_56 : mr_C 100 56 = some (.iconst 0, 1) := by decide +kernel
theorem mc100_57 : mr_C 100 57 = some (.istore 9, 2) := by decide +kernel
theorem mc100_59 : mr_C 100 59 = some (.iload 8, 2) := by decide +kernel
theorem mc100_61 : mr_C 100 61 = some (.ifCond .lt (99), 3) := by decide +kernel
theorem mc100_64 : mr_C 100 64 = some (.iload 9, 2) := by decide +kernel
theorem mc100_66 : mr_C 100 66 = some (.aload_n 0, 1) := by decide +kernel
theorem mc100_67 : mr_C 100 67 = some (.getfield 19, 3) := by decide +kernel
theorem mc100_70 : mr_C 100 70 = some (.iload 8, 2) := by decide +kernel
theorem mc100_72 : mr_C 100 72 = some (.iaload, 1) := by decide +kernel
theorem mc100_73 : mr_C 100 73 = some (.if_icmp .ge (87), 3) := by decide +kernel
theorem mc100_76 : mr_C 100 76 = some (.aload_n 0, 1) := by decide +kernel
theorem mc100_77 : mr_C 100 77 = some (.getfield 25, 3) := by decide +kernel
theorem mc100_80 : mr_C 100 80 = some (.aload_n 0, 1) := by decide +kernel
theorem mc100_81 : mr_C 100 81 = some (.getfield 16, 3) := by decide +kernel
theorem mc100_84 : mr_C 100 84 = some (.iload 8, 2) := by decide +kernel
theorem mc100_86 : mr_C 100 86 = some (.iaload, 1) := by decide +kernel
theorem mc100_87 : mr_C 100 87 = some (.iload 9, 2) := by decide +kernel
theorem mc100_89 : mr_C 100 89 = some (.iadd, 1) := by decide +kernel
theorem mc100_90 : mr_C 100 90 = some (.iaload, 1) := by decide +kernel
theorem mc100_91 : mr_C 100 91 = some (.iload_n 3, 1) := by decide +kernel
theorem mc100_92 : mr_C 100 92 = some (.iadd, 1) := by decide +kernel
theorem mc100_93 : mr_C 100 93 = some (.istore 10, 2) := by decide +kernel
theorem mc100_95 : mr_C 100 95 = some (.aload_n 0, 1) := by decide +kernel
theorem mc100_96 : mr_C 100 96 = some (.getfield 28, 3) := by decide +kernel
theorem mc100_99 : mr_C 100 99 = some (.aload_n 0, 1) := by decide +kernel
theorem mc100_100 : mr_C 100 100 = some (.getfield 16, 3) := by decide +kernel
theorem mc100_103 : mr_C 100 103 = some (.iload 8, 2) := by decide +kernel
theorem mc100_105 : mr_C 100 105 = some (.iaload, 1) := by decide +kernel
theorem mc100_106 : mr_C 100 106 = some (.iload 9, 2) := by decide +kernel
theorem mc100_108 : mr_C 100 108 = some (.iadd, 1) := by decide +kernel
theorem mc100_109 : mr_C 100 109 = some (.iaload, 1) := by decide +kernel
theorem mc100_110 : mr_C 100 110 = some (.iload 4, 2) := by decide +kernel
theorem mc100_112 : mr_C 100 112 = some (.isub, 1) := by decide +kernel
theorem mc100_113 : mr_C 100 113 = some (.istore 11, 2) := by decide +kernel
theorem mc100_115 : mr_C 100 115 = some (.iload 10, 2) := by decide +kernel
theorem mc100_117 : mr_C 100 117 = some (.iload 11, 2) := by decide +kernel
theorem mc100_119 : mr_C 100 119 = some (.if_icmp .ge (35), 3) := by decide +kernel
theorem mc100_122 : mr_C 100 122 = some (.aload_n 0, 1) := by decide +kernel
theorem mc100_123 : mr_C 100 123 = some (.getfield 40, 3) := by decide +kernel
theorem mc100_126 : mr_C 100 126 = some (.aload_n 0, 1) := by decide +kernel
theorem mc100_127 : mr_C 100 127 = some (.getfield 118, 3) := by decide +kernel
theorem mc100_130 : mr_C 100 130 = some (.iload 10, 2) := by decide +kernel
theorem mc100_132 : mr_C 100 132 = some (.iastore, 1) := by decide +kernel
theorem mc100_133 : mr_C 100 133 = some (.aload_n 0, 1) := by decide +kernel
theorem mc100_134 : mr_C 100 134 = some (.getfield 43, 3) := by decide +kernel
theorem mc100_137 : mr_C 100 137 = some (.aload_n 0, 1) := by decide +kernel
theorem mc100_138 : mr_C 100 138 = some (.getfield 118, 3) := by decide +kernel
theorem mc100_141 : mr_C 100 141 = some (.iload 11, 2) := by decide +kernel
theorem mc100_143 : mr_C 100 143 = some (.iastore, 1) := by decide +kernel
theorem mc100_144 : mr_C 100 144 = some (.aload_n 0, 1) := by decide +kernel
theorem mc100_145 : mr_C 100 145 = some (.dup, 1) := by decide +kernel
theorem mc100_146 : mr_C 100 146 = some (.getfield 118, 3) := by decide +kernel
theorem mc100_149 : mr_C 100 149 = some (.iconst 1, 1) := by decide +kernel
theorem mc100_150 : mr_C 100 150 = some (.iadd, 1) := by decide +kernel
theorem mc100_151 : mr_C 100 151 = some (.putfield 118, 3) := by decide +kernel
theorem mc100_154 : mr_C 100 154 = some (.iinc 9 (1), 3) := by decide +kernel
theorem mc100_157 : mr_C 100 157 = some (.goto (-98), 3) := by decide +kernel
theorem mc100_160 : mr_C 100 160 = some (.aload_n 0, 1) := by decide +kernel
theorem mc100_161 : mr_C 100 161 = some (.iconst 1, 1) := by decide +kernel
theorem mc100_162 : mr_C 100 162 = some (.invokevirtual 164, 3) := by decide +kernel
theorem mc100_165 : mr_C 100 165 = some (.iload 8, 2) := by decide +kernel
theorem mc100_167 : mr_C 100 167 = some (.ifCond .ge (12), 3) := by decide +kernel
theorem mc100_170 : mr_C 100 170 = some (.iload_n 2, 1) := by decide +kernel
theorem mc100_171 : mr_C 100 171 = some (.iload 6, 2) := by decide +kernel
theorem mc100_173 : mr_C 100 173 = some (.iadd, 1) := by decide +kernel
theorem mc100_174 : mr_C 100 174 = some (.iconst 1, 1) := by decide +kernel
theorem mc100_175 : mr_C 100 175 = some (.iadd, 1) := by decide +kernel
theorem mc100_176 : mr_C 100 176 = some (.goto 10, 3) := by decide +kernel
theorem mc100_179 : mr_C 100 179 = some (.aload_n 0, 1) := by decide +kernel
theorem mc100_180 : mr_C 100 180 = some (.getfield 13, 3) := by decide +kernel
theorem mc100_183 : mr_C 100 183 = some (.iload 8, 2) := by decide +kernel
theorem mc100_185 : mr_C 100 185 = some (.iaload, 1) := by decide +kernel
theorem mc100_186 : mr_C 100 186 = some (.istore 7, 2) := by decide +kernel
theorem mc100_188 : mr_C 100 188 = some (.goto (-159), 3) := by decide +kernel
theorem mc100_191 : mr_C 100 191 = some (.return_, 1) := by decide +kernel
theorem vc100_0 {sc : Nat × (Int → Int)} {Q : mm_R → mm_M → Prop} {M : mm_M} {l1 : Int} {l2 : Int} {l3 : Int} {l4 : Int} {l5 : Int} {l6 : Int} (ho : mr_ok M)
    (h : en_R sc 100 29 [mm_r 72, mm_i l1, mm_i l2, mm_i l3, mm_i l4, mm_i l5, mm_i l6, mm_i (l2 - l5), mm_u, mm_u, mm_u, mm_u] [] (mm_putN (mm_putN (mm_putN M 72 17 1) 85 0 (-1000)) 86 0 1000) Q) : en_R sc 100 0 [mm_r 72, mm_i l1, mm_i l2, mm_i l3, mm_i l4, mm_i l5, mm_i l6, mm_u, mm_u, mm_u, mm_u, mm_u] [] M Q := by
  refine en_aload_n mc100_0 rfl ?_
  refine en_iconst mc100_1 ?_
  refine en_putI mv100 mc100_2 (lk_f7_100) (⟨rfl, by decide⟩ : mt_kd[72]? = some (.inl 7) ∧ 72 < 99) rfl rfl (⟨by decide, by decide⟩ : mr_rg 1) ?_
  refine en_aload_n mc100_5 rfl ?_
  refine en_getR (b := 85) mv100 mc100_6 (lk_f7_46) (⟨rfl, by decide⟩ : mt_kd[72]? = some (.inl 7) ∧ 72 < 99) rfl (mk_fc (mr_ok_putI (a := 72) (k := 17) ho (⟨by decide, by decide⟩ : mr_rg 1)) (by decide +kernel)) ?_
  refine en_iconst mc100_9 ?_
  refine en_sipush mc100_10 (by decide) ?_
  refine en_iast mc100_13 (⟨rfl, by decide, by decide⟩ : mt_kd[85]? = some (.inr (.int, 1200)) ∧ 85 < 99 ∧ 1200 < 2147483648) (by decide) (by decide) (⟨by decide, by decide⟩ : mr_rg (-1000)) ?_
  refine en_aload_n mc100_14 rfl ?_
  refine en_getR (b := 86) mv100 mc100_15 (lk_f7_49) (⟨rfl, by decide⟩ : mt_kd[72]? = some (.inl 7) ∧ 72 < 99) rfl (mk_fc (mr_ok_putI (a := 85) (k := 0) (mr_ok_putI (a := 72) (k := 17) ho (⟨by decide, by decide⟩ : mr_rg 1)) (⟨by decide, by decide⟩ : mr_rg (-1000))) (by decide +kernel)) ?_
  refine en_iconst mc100_18 ?_
  refine en_sipush mc100_19 (by decide) ?_
  refine en_iast mc100_22 (⟨rfl, by decide, by decide⟩ : mt_kd[86]? = some (.inr (.int, 1200)) ∧ 86 < 99 ∧ 1200 < 2147483648) (by decide) (by decide) (⟨by decide, by decide⟩ : mr_rg 1000) ?_
  refine en_iload_n mc100_23 rfl ?_
  refine en_iload mc100_24 rfl ?_
  refine en_isub mc100_26 ?_
  refine en_istore (ls' := [mm_r 72, mm_i l1, mm_i l2, mm_i l3, mm_i l4, mm_i l5, mm_i l6, mm_i (l2 - l5), mm_u, mm_u, mm_u, mm_u]) mc100_27 (Nat.le_of_ble_eq_true rfl) rfl ?_
  exact h
theorem vc100_29 {sc : Nat × (Int → Int)} {Q : mm_R → mm_M → Prop} {M : mm_M} {l1 : Int} {l2 : Int} {l3 : Int} {l4 : Int} {l5 : Int} {l6 : Int} {l7 : Int} {l8 : mm_V} {l9 : mm_V} {l10 : mm_V} {l11 : mm_V} (ho : mr_ok M) (hg_l7 : mr_rg l7)
    (h : mr_rg (l2 + l6) ∧ (((l2 + l6) < l7 → Q (.inl none) M) ∧ (¬ (l2 + l6) < l7 → en_CI sc 60 [mm_r 72, mm_i l1, mm_i l7, mm_u, mm_u] M (fun x2 M3 => mr_ok M3 → en_CV sc 94 [mm_r 72, mm_u] M3 (fun M6 => mr_ok M6 → en_R sc 100 59 [mm_r 72, mm_i l1, mm_i l2, mm_i l3, mm_i l4, mm_i l5, mm_i l6, mm_i l7, mm_i x2, mm_i 0, l10, l11] [] (mm_putN M6 72 14 0) Q) (fun e M9 => Q (.inr e) M9)) (fun e M9 => Q (.inr e) M9)))) : en_R sc 100 29 [mm_r 72, mm_i l1, mm_i l2, mm_i l3, mm_i l4, mm_i l5, mm_i l6, mm_i l7, l8, l9, l10, l11] [] M Q := by
  obtain ⟨g1, h⟩ := h
  refine en_iload mc100_29 rfl ?_
  refine en_iload_n mc100_31 rfl ?_
  refine en_iload mc100_32 rfl ?_
  refine en_iadd mc100_34 ?_
  refine en_icmp_gt 191 mc100_35 (by decide) hg_l7 g1 (fun q => ?_) (fun q => ?_)
  · replace h := h.1 q
    exact en_vret mv100 mc100_191 rfl h
  · replace h := h.2 q
    refine en_aload_n mc100_38 rfl ?_
    refine en_iload_n mc100_39 rfl ?_
    refine en_iload mc100_40 rfl ?_
    refine en_callI (lz := [mm_r 72, mm_i l1, mm_i l7, mm_u, mm_u]) mv100 mc100_42 rfl rfl (lk_m7_111) mv60 rfl (by decide) rfl (mk_cokV rfl (⟨rfl, by decide⟩ : mt_kd[72]? = some (.inl 7) ∧ 72 < 99)) rfl (mk_nh rfl _) ho ?_
    refine en_CI_mono h (fun x2 M3 h => ?_) (fun _ _ h => h)
    intro ho4
    replace h := h ho4
    refine en_istore (ls' := [mm_r 72, mm_i l1, mm_i l2, mm_i l3, mm_i l4, mm_i l5, mm_i l6, mm_i l7, mm_i x2, l9, l10, l11]) mc100_45 (Nat.le_of_ble_eq_true rfl) rfl ?_
    refine en_aload_n mc100_47 rfl ?_
    refine en_callV (lz := [mm_r 72, mm_u]) mv100 mc100_48 rfl rfl (lk_m7_184) mv94 rfl (by decide) rfl (mk_cokV rfl (⟨rfl, by decide⟩ : mt_kd[72]? = some (.inl 7) ∧ 72 < 99)) rfl (mk_nh rfl _) ho4 ?_
    refine en_CV_mono h (fun M6 h => ?_) (fun _ _ h => h)
    intro ho7
    replace h := h ho7
    refine en_aload_n mc100_51 rfl ?_
    refine en_iconst mc100_52 ?_
    refine en_putI mv100 mc100_53 (lk_f7_118) (⟨rfl, by decide⟩ : mt_kd[72]? = some (.inl 7) ∧ 72 < 99) rfl rfl (⟨by decide, by decide⟩ : mr_rg 0) ?_
    refine en_iconst mc100_56 ?_
    refine en_istore (ls' := [mm_r 72, mm_i l1, mm_i l2, mm_i l3, mm_i l4, mm_i l5, mm_i l6, mm_i l7, mm_i x2, mm_i 0, l10, l11]) mc100_57 (Nat.le_of_ble_eq_true rfl) rfl ?_
    exact h
theorem vc100_59 {sc : Nat × (Int → Int)} {Q : mm_R → mm_M → Prop} {M : mm_M} {l1 : Int} {l2 : Int} {l3 : Int} {l4 : Int} {l5 : Int} {l6 : Int} {l7 : Int} {l8 : Int} {l9 : Int} {l10 : mm_V} {l11 : mm_V} (ho : mr_ok M) (hg_l8 : mr_rg l8) (hg_l9 : mr_rg l9)
    (h : (l8 < 0 → en_R sc 100 160 [mm_r 72, mm_i l1, mm_i l2, mm_i l3, mm_i l4, mm_i l5, mm_i l6, mm_i l7, mm_i l8, mm_i l9, l10, l11] [] M Q) ∧ (¬ l8 < 0 → 0 ≤ l8 ∧ (l8 < 918 ∧ (((M.1 76 l8) ≤ l9 → en_R sc 100 160 [mm_r 72, mm_i l1, mm_i l2, mm_i l3, mm_i l4, mm_i l5, mm_i l6, mm_i l7, mm_i l8, mm_i l9, l10, l11] [] M Q) ∧ (¬ (M.1 76 l8) ≤ l9 → 0 ≤ l8 ∧ (l8 < 918 ∧ (0 ≤ ((M.1 75 l8) + l9) ∧ (((M.1 75 l8) + l9) < 3618 ∧ (0 ≤ l8 ∧ (l8 < 918 ∧ (0 ≤ ((M.1 75 l8) + l9) ∧ (((M.1 75 l8) + l9) < 3618 ∧ (mr_rg ((M.1 78 ((M.1 75 l8) + l9)) + l3) ∧ (mr_rg ((M.1 79 ((M.1 75 l8) + l9)) - l4) ∧ ((((M.1 79 ((M.1 75 l8) + l9)) - l4) ≤ ((M.1 78 ((M.1 75 l8) + l9)) + l3) → en_R sc 100 59 [mm_r 72, mm_i l1, mm_i l2, mm_i l3, mm_i l4, mm_i l5, mm_i l6, mm_i l7, mm_i l8, mm_i (l9 + 1), mm_i ((M.1 78 ((M.1 75 l8) + l9)) + l3), mm_i ((M.1 79 ((M.1 75 l8) + l9)) - l4)] [] M Q) ∧ (¬ ((M.1 79 ((M.1 75 l8) + l9)) - l4) ≤ ((M.1 78 ((M.1 75 l8) + l9)) + l3) → 0 ≤ (M.1 72 14) ∧ ((M.1 72 14) < 1200 ∧ (0 ≤ ((mm_putN M 83 (M.1 72 14) ((M.1 78 ((M.1 75 l8) + l9)) + l3)).1 72 14) ∧ (((mm_putN M 83 (M.1 72 14) ((M.1 78 ((M.1 75 l8) + l9)) + l3)).1 72 14) < 1200 ∧ (mr_rg (((mm_putN (mm_putN M 83 (M.1 72 14) ((M.1 78 ((M.1 75 l8) + l9)) + l3)) 84 ((mm_putN M 83 (M.1 72 14) ((M.1 78 ((M.1 75 l8) + l9)) + l3)).1 72 14) ((M.1 79 ((M.1 75 l8) + l9)) - l4)).1 72 14) + 1) ∧ (en_R sc 100 59 [mm_r 72, mm_i l1, mm_i l2, mm_i l3, mm_i l4, mm_i l5, mm_i l6, mm_i l7, mm_i l8, mm_i (l9 + 1), mm_i ((M.1 78 ((M.1 75 l8) + l9)) + l3), mm_i ((M.1 79 ((M.1 75 l8) + l9)) - l4)] [] (mm_putN (mm_putN (mm_putN M 83 (M.1 72 14) ((M.1 78 ((M.1 75 l8) + l9)) + l3)) 84 ((mm_putN M 83 (M.1 72 14) ((M.1 78 ((M.1 75 l8) + l9)) + l3)).1 72 14) ((M.1 79 ((M.1 75 l8) + l9)) - l4)) 72 14 (((mm_putN (mm_putN M 83 (M.1 72 14) ((M.1 78 ((M.1 75 l8) + l9)) + l3)) 84 ((mm_putN M 83 (M.1 72 14) ((M.1 78 ((M.1 75 l8) + l9)) + l3)).1 72 14) ((M.1 79 ((M.1 75 l8) + l9)) - l4)).1 72 14) + 1)) Q))))))))))))))))))))) : en_R sc 100 59 [mm_r 72, mm_i l1, mm_i l2, mm_i l3, mm_i l4, mm_i l5, mm_i l6, mm_i l7, mm_i l8, mm_i l9, l10, l11] [] M Q := by
  refine en_iload mc100_59 rfl ?_
  refine en_if_lt 160 mc100_61 (by decide) hg_l8 (fun q => ?_) (fun q => ?_)
  · replace h := h.1 q
    exact h
  · replace h := h.2 q
    obtain ⟨g1, h⟩ := h
    obtain ⟨g2, h⟩ := h
    refine en_iload mc100_64 rfl ?_
    refine en_aload_n mc100_66 rfl ?_
    refine en_getR (b := 76) mv100 mc100_67 (lk_f7_19) (⟨rfl, by decide⟩ : mt_kd[72]? = some (.inl 7) ∧ 72 < 99) rfl (mk_fc ho (by decide +kernel)) ?_
    refine en_iload mc100_70 rfl ?_
    refine en_iald mc100_72 (⟨rfl, by decide, by decide⟩ : mt_kd[76]? = some (.inr (.int, 918)) ∧ 76 < 99 ∧ 918 < 2147483648) g1 g2 ?_
    refine en_icmp_ge 160 mc100_73 (by decide) hg_l9 (ho.2.1 76 l8 (by unfold mr_lg; omega)) (fun q => ?_) (fun q => ?_)
    · replace h := h.1 q
      exact h
    · replace h := h.2 q
      obtain ⟨g3, h⟩ := h
      obtain ⟨g4, h⟩ := h
      obtain ⟨g5, h⟩ := h
      obtain ⟨g6, h⟩ := h
      obtain ⟨g7, h⟩ := h
      obtain ⟨g8, h⟩ := h
      obtain ⟨g9, h⟩ := h
      obtain ⟨g10, h⟩ := h
      obtain ⟨g11, h⟩ := h
      obtain ⟨g12, h⟩ := h
      refine en_aload_n mc100_76 rfl ?_
      refine en_getR (b := 78) mv100 mc100_77 (lk_f7_25) (⟨rfl, by decide⟩ : mt_kd[72]? = some (.inl 7) ∧ 72 < 99) rfl (mk_fc ho (by decide +kernel)) ?_
      refine en_aload_n mc100_80 rfl ?_
      refine en_getR (b := 75) mv100 mc100_81 (lk_f7_16) (⟨rfl, by decide⟩ : mt_kd[72]? = some (.inl 7) ∧ 72 < 99) rfl (mk_fc ho (by decide +kernel)) ?_
      refine en_iload mc100_84 rfl ?_
      refine en_iald mc100_86 (⟨rfl, by decide, by decide⟩ : mt_kd[75]? = some (.inr (.int, 918)) ∧ 75 < 99 ∧ 918 < 2147483648) g3 g4 ?_
      refine en_iload mc100_87 rfl ?_
      refine en_iadd mc100_89 ?_
      refine en_iald mc100_90 (⟨rfl, by decide, by decide⟩ : mt_kd[78]? = some (.inr (.int, 3618)) ∧ 78 < 99 ∧ 3618 < 2147483648) g5 g6 ?_
      refine en_iload_n mc100_91 rfl ?_
      refine en_iadd mc100_92 ?_
      refine en_istore (ls' := [mm_r 72, mm_i l1, mm_i l2, mm_i l3, mm_i l4, mm_i l5, mm_i l6, mm_i l7, mm_i l8, mm_i l9, mm_i ((M.1 78 ((M.1 75 l8) + l9)) + l3), l11]) mc100_93 (Nat.le_of_ble_eq_true rfl) rfl ?_
      refine en_aload_n mc100_95 rfl ?_
      refine en_getR (b := 79) mv100 mc100_96 (lk_f7_28) (⟨rfl, by decide⟩ : mt_kd[72]? = some (.inl 7) ∧ 72 < 99) rfl (mk_fc ho (by decide +kernel)) ?_
      refine en_aload_n mc100_99 rfl ?_
      refine en_getR (b := 75) mv100 mc100_100 (lk_f7_16) (⟨rfl, by decide⟩ : mt_kd[72]? = some (.inl 7) ∧ 72 < 99) rfl (mk_fc ho (by decide +kernel)) ?_
      refine en_iload mc100_103 rfl ?_
      refine en_iald mc100_105 (⟨rfl, by decide, by decide⟩ : mt_kd[75]? = some (.inr (.int, 918)) ∧ 75 < 99 ∧ 918 < 2147483648) g7 g8 ?_
      refine en_iload mc100_106 rfl ?_
      refine en_iadd mc100_108 ?_
      refine en_iald mc100_109 (⟨rfl, by decide, by decide⟩ : mt_kd[79]? = some (.inr (.int, 3618)) ∧ 79 < 99 ∧ 3618 < 2147483648) g9 g10 ?_
      refine en_iload mc100_110 rfl ?_
      refine en_isub mc100_112 ?_
      refine en_istore (ls' := [mm_r 72, mm_i l1, mm_i l2, mm_i l3, mm_i l4, mm_i l5, mm_i l6, mm_i l7, mm_i l8, mm_i l9, mm_i ((M.1 78 ((M.1 75 l8) + l9)) + l3), mm_i ((M.1 79 ((M.1 75 l8) + l9)) - l4)]) mc100_113 (Nat.le_of_ble_eq_true rfl) rfl ?_
      refine en_iload mc100_115 rfl ?_
      refine en_iload mc100_117 rfl ?_
      refine en_icmp_ge 154 mc100_119 (by decide) g11 g12 (fun q => ?_) (fun q => ?_)
      · replace h := h.1 q
        refine en_iinc (ls' := [mm_r 72, mm_i l1, mm_i l2, mm_i l3, mm_i l4, mm_i l5, mm_i l6, mm_i l7, mm_i l8, mm_i (l9 + 1), mm_i ((M.1 78 ((M.1 75 l8) + l9)) + l3), mm_i ((M.1 79 ((M.1 75 l8) + l9)) - l4)]) mc100_154 rfl rfl ?_
        refine en_goto 59 mc100_157 (by decide) ?_
        exact h
      · replace h := h.2 q
        obtain ⟨g13, h⟩ := h
        obtain ⟨g14, h⟩ := h
        obtain ⟨g15, h⟩ := h
        obtain ⟨g16, h⟩ := h
        obtain ⟨g17, h⟩ := h
        refine en_aload_n mc100_122 rfl ?_
        refine en_getR (b := 83) mv100 mc100_123 (lk_f7_40) (⟨rfl, by decide⟩ : mt_kd[72]? = some (.inl 7) ∧ 72 < 99) rfl (mk_fc ho (by decide +kernel)) ?_
        refine en_aload_n mc100_126 rfl ?_
        refine en_getI mv100 mc100_127 (lk_f7_118) (⟨rfl, by decide⟩ : mt_kd[72]? = some (.inl 7) ∧ 72 < 99) (Or.inl rfl) ?_
        refine en_iload mc100_130 rfl ?_
        refine en_iast mc100_132 (⟨rfl, by decide, by decide⟩ : mt_kd[83]? = some (.inr (.int, 1200)) ∧ 83 < 99 ∧ 1200 < 2147483648) g13 g14 g11 ?_
        refine en_aload_n mc100_133 rfl ?_
        refine en_getR (b := 84) mv100 mc100_134 (lk_f7_43) (⟨rfl, by decide⟩ : mt_kd[72]? = some (.inl 7) ∧ 72 < 99) rfl (mk_fc (mr_ok_putI (a := 83) (k := (M.1 72 14)) ho g11) (by decide +kernel)) ?_
        refine en_aload_n mc100_137 rfl ?_
        refine en_getI mv100 mc100_138 (lk_f7_118) (⟨rfl, by decide⟩ : mt_kd[72]? = some (.inl 7) ∧ 72 < 99) (Or.inl rfl) ?_
        refine en_iload mc100_141 rfl ?_
        refine en_iast mc100_143 (⟨rfl, by decide, by decide⟩ : mt_kd[84]? = some (.inr (.int, 1200)) ∧ 84 < 99 ∧ 1200 < 2147483648) g15 g16 g12 ?_
        refine en_aload_n mc100_144 rfl ?_
        refine en_dup mc100_145 rfl ?_
        refine en_getI mv100 mc100_146 (lk_f7_118) (⟨rfl, by decide⟩ : mt_kd[72]? = some (.inl 7) ∧ 72 < 99) (Or.inl rfl) ?_
        refine en_iconst mc100_149 ?_
        refine en_iadd mc100_150 ?_
        refine en_putI mv100 mc100_151 (lk_f7_118) (⟨rfl, by decide⟩ : mt_kd[72]? = some (.inl 7) ∧ 72 < 99) rfl rfl g17 ?_
        refine en_iinc (ls' := [mm_r 72, mm_i l1, mm_i l2, mm_i l3, mm_i l4, mm_i l5, mm_i l6, mm_i l7, mm_i l8, mm_i (l9 + 1), mm_i ((M.1 78 ((M.1 75 l8) + l9)) + l3), mm_i ((M.1 79 ((M.1 75 l8) + l9)) - l4)]) mc100_154 rfl rfl ?_
        refine en_goto 59 mc100_157 (by decide) ?_
        exact h
theorem vc100_160 {sc : Nat × (Int → Int)} {Q : mm_R → mm_M → Prop} {M : mm_M} {l1 : Int} {l2 : Int} {l3 : Int} {l4 : Int} {l5 : Int} {l6 : Int} {l7 : Int} {l8 : Int} {l9 : Int} {l10 : mm_V} {l11 : mm_V} (ho : mr_ok M) (hg_l8 : mr_rg l8)
    (h : en_CV sc 65 [mm_r 72, mm_i 1, mm_u, mm_u, mm_u, mm_u, mm_u, mm_u, mm_u, mm_u] M (fun M2 => mr_ok M2 → (0 ≤ l8 → 0 ≤ l8 ∧ (l8 < 918 ∧ (en_R sc 100 29 [mm_r 72, mm_i l1, mm_i l2, mm_i l3, mm_i l4, mm_i l5, mm_i l6, mm_i (M2.1 74 l8), mm_i l8, mm_i l9, l10, l11] [] M2 Q))) ∧ (¬ 0 ≤ l8 → en_R sc 100 29 [mm_r 72, mm_i l1, mm_i l2, mm_i l3, mm_i l4, mm_i l5, mm_i l6, mm_i ((l2 + l6) + 1), mm_i l8, mm_i l9, l10, l11] [] M2 Q)) (fun e M9 => Q (.inr e) M9)) : en_R sc 100 160 [mm_r 72, mm_i l1, mm_i l2, mm_i l3, mm_i l4, mm_i l5, mm_i l6, mm_i l7, mm_i l8, mm_i l9, l10, l11] [] M Q := by
  refine en_aload_n mc100_160 rfl ?_
  refine en_iconst mc100_161 ?_
  refine en_callV (lz := [mm_r 72, mm_i 1, mm_u, mm_u, mm_u, mm_u, mm_u, mm_u, mm_u, mm_u]) mv100 mc100_162 rfl rfl (lk_m7_164) mv65 rfl (by decide) rfl (mk_cokV rfl (⟨rfl, by decide⟩ : mt_kd[72]? = some (.inl 7) ∧ 72 < 99)) rfl (mk_nh rfl _) ho ?_
  refine en_CV_mono h (fun M2 h => ?_) (fun _ _ h => h)
  intro ho3
  replace h := h ho3
  refine en_iload mc100_165 rfl ?_
  refine en_if_ge 179 mc100_167 (by decide) hg_l8 (fun q => ?_) (fun q => ?_)
  · replace h := h.1 q
    obtain ⟨g4, h⟩ := h
    obtain ⟨g5, h⟩ := h
    refine en_aload_n mc100_179 rfl ?_
    refine en_getR (b := 74) mv100 mc100_180 (lk_f7_13) (⟨rfl, by decide⟩ : mt_kd[72]? = some (.inl 7) ∧ 72 < 99) rfl (mk_fc ho3 (by decide +kernel)) ?_
    refine en_iload mc100_183 rfl ?_
    refine en_iald mc100_185 (⟨rfl, by decide, by decide⟩ : mt_kd[74]? = some (.inr (.int, 918)) ∧ 74 < 99 ∧ 918 < 2147483648) g4 g5 ?_
    refine en_istore (ls' := [mm_r 72, mm_i l1, mm_i l2, mm_i l3, mm_i l4, mm_i l5, mm_i l6, mm_i (M2.1 74 l8), mm_i l8, mm_i l9, l10, l11]) mc100_186 (Nat.le_of_ble_eq_true rfl) rfl ?_
    refine en_goto 29 mc100_188 (by decide) ?_
    exact h
  · replace h := h.2 q
    refine en_iload_n mc100_170 rfl ?_
    refine en_iload mc100_171 rfl ?_
    refine en_iadd mc100_173 ?_
    refine en_iconst mc100_174 ?_
    refine en_iadd mc100_175 ?_
    refine en_goto 186 mc100_176 (by decide) ?_
    refine en_istore (ls' := [mm_r 72, mm_i l1, mm_i l2, mm_i l3, mm_i l4, mm_i l5, mm_i l6, mm_i ((l2 + l6) + 1), mm_i l8, mm_i l9, l10, l11]) mc100_186 (Nat.le_of_ble_eq_true rfl) rfl ?_
    refine en_goto 29 mc100_188 (by decide) ?_
    exact h
/-! 101: CellAreasModel.shrink(IIIIII)I -/
theorem mc101_0 : mr_C 101 0 = some (.aload_n 0, 1) := rfl
theorem mc101_1 : mr_C 101 1 = some (.aload_n 0, 1) := rfl
theorem mc101_2 : mr_C 101 2 = some (.iload_n 1, 1) := rfl
theorem mc101_3 : mr_C 101 3 = some (.invokevirtual 131, 3) := rfl
theorem mc101_6 : mr_C 101 6 = some (.ifCond .eq (11), 3) := rfl
theorem mc101_9 : mr_C 101 9 = some (.aload_n 0, 1) := rfl
theorem mc101_10 : mr_C 101 10 = some (.iload_n 2, 1) := rfl
theorem mc101_11 : mr_C 101 11 = some (.invokevirtual 131, 3) := rfl
theorem mc101_14 : mr_C 101 14 = some (.ifCond .ne (7), 3) := rfl
theorem mc101_17 : mr_C 101 17 = some (.iconst 1, 1) := rfl
theorem mc101_18 : mr_C 101 18 = some (.goto 22, 3) := rfl
theorem mc101_21 : mr_C 101 21 = some (.aload_n 0, 1) := rfl
theorem mc101_22 : mr_C 101 22 = some (.iload_n 3, 1) := rfl
theorem mc101_23 : mr_C 101 23 = some (.iload 4, 2) := rfl
theorem mc101_25 : mr_C 101 25 = some (.iload 5, 2) := rfl
theorem mc101_27 : mr_C 101 27 = some (.iload 6, 2) := rfl
theorem mc101_29 : mr_C 101 29 = some (.invokevirtual 180, 3) := rfl
theorem mc101_32 : mr_C 101 32 = some (.ifCond .ne (7), 3) := rfl
theorem mc101_35 : mr_C 101 35 = some (.iconst 2, 1) := rfl
theorem mc101_36 : mr_C 101 36 = some (.goto 4, 3) := rfl
theorem mc101_39 : mr_C 101 39 = some (.iconst 0, 1) := by decide +kernel
theorem mc101_40 : mr_C 101 40 = some (.putfield 89, 3) := by decide +kernel
theorem mc101_43 : mr_C 101 43 = some (.aload_n 0, 1) := by decide +kernel
theorem mc101_44 : mr_C 101 44 = some (.getfield 89, 3) := by decide +kernel
theorem mc101_47 : mr_C 101 47 = some (.ifCond .le (5), 3) := by decide +kernel
theorem mc101_50 : mr_C 101 50 = some (.iconst 0, 1) := by decide +kernel
theorem mc101_51 : mr_C 101 51 = some (.ireturn, 1) := by decide +kernel
theorem mc101_52 : mr_C 101 52 = some (.aload_n 0, 1) := by decide +kernel
theorem mc101_53 : mr_C 101 53 = some (.invokevirtual 139, 3) := by decide +kernel
theorem mc101_56 : mr_C 101 56 = some (.bipush 102, 2) := by decide +kernel
theorem mc101_58 : mr_C 101 58 = some (.iload_n 2, 1) := by decide +kernel
theorem mc101_59 : mr_C 101 59 = some (.imul, 1) := by decide +kernel
theorem mc101_60 : mr_C 101 60 = some (.istore 7, 2) := by decide +kernel
theorem mc101_62 : mr_C 101 62 = some (.iload 7, 2) := by decide +kernel
theorem mc101_64 : mr_C 101 64 = some (.aload_n 0, 1) := by decide +kernel
theorem mc101_65 : mr_C 101 65 = some (.iload_n 2, 1) := by decide +kernel
theorem mc101_66 : mr_C 101 66 = some (.invokevirtual 107, 3) := by decide +kernel
theorem mc101_69 : mr_C 101 69 = some (.if_icmp .ge (65), 3) := by decide +kernel
theorem mc101_72 : mr_C 101 72 = some (.aload_n 0, 1) := by decide +kernel
theorem mc101_73 : mr_C 101 73 = some (.aload_n 0, 1) := by decide +kernel
theorem mc101_74 : mr_C 101 74 = some (.getfield 7, 3) := by decide +kernel
theorem mc101_77 : mr_C 101 77 = some (.iload 7, 2) := by decide +kernel
theorem mc101_79 : mr_C 101 79 = some (.iaload, 1) := by decide +kernel
theorem mc101_80 : mr_C 101 80 = some (.iload 5, 2) := by decide +kernel
theorem mc101_82 : mr_C 101 82 = some (.iadd, 1) := by decide +kernel
theorem mc101_83 : mr_C 101 83 = some (.invokevirtual 151, 3) := by decide +kernel
theorem mc101_86 : mr_C 101 86 = some (.aload_n 0, 1) := by decide +kernel
theorem mc101_87 : mr_C 101 87 = some (.aload_n 0, 1) := by decide +kernel
theorem mc101_88 : mr_C 101 88 = some (.getfield 13, 3) := by decide +kernel
theorem mc101_91 : mr_C 101 91 = some (.iload 7, 2) := by decide +kernel
theorem mc101_93 : mr_C 101 93 = some (.iaload, 1) := by decide +kernel
theorem mc101_94 : mr_C 101 94 = some (.iload 5, 2) := by decide +kernel
theorem mc101_96 : mr_C 101 96 = some (.iadd, 1) := by decide +kernel
theorem mc101_97 : mr_C 101 97 = some (.invokevirtual 151, 3) := by decide +kernel
theorem mc101_100 : mr_C 101 100 = some (.aload_n 0, 1) := by decide +kernel
theorem mc101_101 : mr_C 101 101 = some (.aload_n 0, 1) := by decide +kernel
theorem mc101_102 : mr_C 101 102 = some (.getfield 7, 3) := by decide +kernel
theorem mc101_105 : mr_C 101 105 = some (.iload 7, 2) := by decide +kernel
theorem mc101_107 : mr_C 101 107 = some (.iaload, 1) := by decide +kernel
theorem mc101_108 : mr_C 101 108 = some (.iload 6, 2) := by decide +kernel
theorem mc101_110 : mr_C 101 110 = some (.isub, 1) := by decide +kernel
theorem mc101_111 : mr_C 101 111 = some (.invokevirtual 151, 3) := by decide +kernel
theorem mc101_114 : mr_C 101 114 = some (.aload_n 0, 1) := by decide +kernel
theorem mc101_115 : mr_C 101 115 = some (.aload_n 0, 1) := by decide +kernel
theorem mc101_116 : mr_C 101 116 = some (.getfield 13, 3) := by decide +kernel
theorem mc101_119 : mr_C 101 119 = some (.iload 7, 2) := by decide +kernel
theorem mc101_121 : mr_C 101 121 = some (.iaload, 1) := by decide +kernel
theorem mc101_122 : mr_C 101 122 = some (.iload 6, 2) := by decide +kernel
theorem mc101_124 : mr_C 101 124 = some (.isub, 1) := by decide +kernel
theorem mc101_125 : mr_C 101 125 = some (.invokevirtual 151, 3) := by decide +kernel
theorem mc101_128 : mr_C 101 128 = some (.iinc 7 (1), 3) := by decide +kernel
theorem mc101_131 : mr_C 101 131 = some (.goto (-69), 3) := by decide +kernel
theorem mc101_134 : mr_C 101 134 = some (.iconst 0, 1) := by decide +kernel
theorem mc101_135 : mr_C 101 135 = some (.istore 7, 2) := by decide +kernel
theorem mc101_137 : mr_C 101 137 = some (.iload 7, 2) := by decide +kernel
theorem mc101_139 : mr_C 101 139 = some (.iconst 1, 1) := by decide +kernel
theorem mc101_140 : mr_C 101 140 = some (.iadd, 1) := by decide +kernel
theorem mc101_141 : mr_C 101 141 = some (.aload_n 0, 1) := by decide +kernel
theorem mc101_142 : mr_C 101 142 = some (.getfield 97, 3) := by decide +kernel
theorem mc101_145 : mr_C 101 145 = some (.if_icmp .ge (48), 3) := by decide +kernel
theorem mc101_148 : mr_C 101 148 = some (.aload_n 0, 1) := by decide +kernel
theorem mc101_149 : mr_C 101 149 = some (.iload_n 2, 1) := by decide +kernel
theorem mc101_150 : mr_C 101 150 = some (.aload_n 0, 1) := by decide +kernel
theorem mc101_151 : mr_C 101 151 = some (.getfield 52, 3) := by decide +kernel
theorem mc101_154 : mr_C 101 154 = some (.iload 7, 2) := by decide +kernel
theorem mc101_156 : mr_C 101 156 = some (.iaload, 1) := by decide +kernel
theorem mc101_157 : mr_C 101 157 = some (.iload_n 3, 1) := by decide +kernel
theorem mc101_158 : mr_C 101 158 = some (.iload 4, 2) := by decide +kernel
theorem mc101_160 : mr_C 101 160 = some (.iload 5, 2) := by decide +kernel
theorem mc101_162 : mr_C 101 162 = some (.iload 6, 2) := by decide +kernel
theorem mc101_164 : mr_C 101 164 = some (.invokevirtual 187, 3) := by decide +kernel
theorem mc101_167 : mr_C 101 167 = some (.aload_n 0, 1) := by decide +kernel
theorem mc101_168 : mr_C 101 168 = some (.aload_n 0, 1) := by decide +kernel
theorem mc101_169 : mr_C 101 169 = some (.getfield 52, 3) := by decide +kernel
theorem mc101_172 : mr_C 101 172 = some (.iload 7, 2) := by decide +kernel
theorem mc101_174 : mr_C 101 174 = some (.iaload, 1) := by decide +kernel
theorem mc101_175 : mr_C 101 175 = some (.aload_n 0, 1) := by decide +kernel
theorem mc101_176 : mr_C 101 176 = some (.getfield 52, 3) := by decide +kernel
theorem mc101_179 : mr_C 101 179 = some (.iload 7, 2) := by decide +kernel
theorem mc101_181 : mr_C 101 181 = some (.iconst 1, 1) := by decide +kernel
theorem mc101_182 : mr_C 101 182 = some (.iadd, 1) := by decide +kernel
theorem mc101_183 : mr_C 101 183 = some (.iaload, 1) := by decide +kernel
theorem mc101_184 : mr_C 101 184 = some (.invokevirtual 142, 3) := by decide +kernel
theorem mc101_187 : mr_C 101 187 = some (.iinc 7 (1), 3) := by decide +kernel
theorem mc101_190 : mr_C 101 190 = some (.goto (-53), 3) := by decide +kernel
theorem mc101_193 : mr_C 101 193 = some (.aload_n 0, 1) := by decide +kernel
theorem mc101_194 : mr_C 101 194 = some (.iload_n 1, 1) := by decide +kernel
theorem mc101_195 : mr_C 101 195 = some (.invokevirtual 145, 3) := by decide +kernel
theorem mc101_198 : mr_C 101 198 = some (.ireturn, 1) := by decide +kernel
theorem vc101_0 {sc : Nat × (Int → Int)} {Q : mm_R → mm_M → Prop} {M : mm_M} {l1 : Int} {l2 : Int} {l3 : Int} {l4 : Int} {l5 : Int} {l6 : Int} (ho : mr_ok M)
    (h : en_CI sc 34 [mm_r 72, mm_i l1] M (fun x1 M2 => mr_ok M2 → mr_rg x1 ∧ ((x1 = 0 → en_R sc 101 17 [mm_r 72, mm_i l1, mm_i l2, mm_i l3, mm_i l4, mm_i l5, mm_i l6, mm_u] [mm_r 72] M2 Q) ∧ (¬ x1 = 0 → en_CI sc 34 [mm_r 72, mm_i l2] M2 (fun x5 M6 => mr_ok M6 → mr_rg x5 ∧ ((x5 ≠ 0 → en_CI sc 93 [mm_r 72, mm_i l3, mm_i l4, mm_i l5, mm_i l6] M6 (fun x9 M10 => mr_ok M10 → mr_rg x9 ∧ ((x9 ≠ 0 → en_R sc 101 40 [mm_r 72, mm_i l1, mm_i l2, mm_i l3, mm_i l4, mm_i l5, mm_i l6, mm_u] [mm_i 0, mm_r 72] M10 Q) ∧ (¬ (x9 ≠ 0) → en_R sc 101 40 [mm_r 72, mm_i l1, mm_i l2, mm_i l3, mm_i l4, mm_i l5, mm_i l6, mm_u] [mm_i 2, mm_r 72] M10 Q))) (fun e M9 => Q (.inr e) M9)) ∧ (¬ (x5 ≠ 0) → en_R sc 101 17 [mm_r 72, mm_i l1, mm_i l2, mm_i l3, mm_i l4, mm_i l5, mm_i l6, mm_u] [mm_r 72] M6 Q))) (fun e M9 => Q (.inr e) M9)))) (fun e M9 => Q (.inr e) M9)) : en_R sc 101 0 [mm_r 72, mm_i l1, mm_i l2, mm_i l3, mm_i l4, mm_i l5, mm_i l6, mm_u] [] M Q := by
  refine en_aload_n mc101_0 rfl ?_
  refine en_aload_n mc101_1 rfl ?_
  refine en_iload_n mc101_2 rfl ?_
  refine en_callI (lz := [mm_r 72, mm_i l1]) mv101 mc101_3 rfl rfl (lk_m7_131) mv34 rfl (by decide) rfl (mk_cokV rfl (⟨rfl, by decide⟩ : mt_kd[72]? = some (.inl 7) ∧ 72 < 99)) rfl (mk_nh rfl _) ho ?_
  refine en_CI_mono h (fun x1 M2 h => ?_) (fun _ _ h => h)
  intro ho3
  replace h := h ho3
  obtain ⟨g4, h⟩ := h
  refine en_if_eq 17 mc101_6 (by decide) g4 (fun q => ?_) (fun q => ?_)
  · replace h := h.1 q
    exact h
  · replace h := h.2 q
    refine en_aload_n mc101_9 rfl ?_
    refine en_iload_n mc101_10 rfl ?_
    refine en_callI (lz := [mm_r 72, mm_i l2]) mv101 mc101_11 rfl rfl (lk_m7_131) mv34 rfl (by decide) rfl (mk_cokV rfl (⟨rfl, by decide⟩ : mt_kd[72]? = some (.inl 7) ∧ 72 < 99)) rfl (mk_nh rfl _) ho3 ?_
    refine en_CI_mono h (fun x5 M6 h => ?_) (fun _ _ h => h)
    intro ho7
    replace h := h ho7
    obtain ⟨g8, h⟩ := h
    refine en_if_ne 21 mc101_14 (by decide) g8 (fun q => ?_) (fun q => ?_)
    · replace h := h.1 q
      refine en_aload_n mc101_21 rfl ?_
      refine en_iload_n mc101_22 rfl ?_
      refine en_iload mc101_23 rfl ?_
      refine en_iload mc101_25 rfl ?_
      refine en_iload mc101_27 rfl ?_
      refine en_callI (lz := [mm_r 72, mm_i l3, mm_i l4, mm_i l5, mm_i l6]) mv101 mc101_29 rfl rfl (lk_m7_180) mv93 rfl (by decide) rfl (mk_cokV rfl (⟨rfl, by decide⟩ : mt_kd[72]? = some (.inl 7) ∧ 72 < 99)) rfl (mk_nh rfl _) ho7 ?_
      refine en_CI_mono h (fun x9 M10 h => ?_) (fun _ _ h => h)
      intro ho11
      replace h := h ho11
      obtain ⟨g12, h⟩ := h
      refine en_if_ne 39 mc101_32 (by decide) g12 (fun q => ?_) (fun q => ?_)
      · replace h := h.1 q
        refine en_iconst mc101_39 ?_
        exact h
      · replace h := h.2 q
        refine en_iconst mc101_35 ?_
        refine en_goto 40 mc101_36 (by decide) ?_
        exact h
    · replace h := h.2 q
      exact h
theorem vc101_17 {sc : Nat × (Int → Int)} {Q : mm_R → mm_M → Prop} {M : mm_M} {l1 : Int} {l2 : Int} {l3 : Int} {l4 : Int} {l5 : Int} {l6 : Int} (ho : mr_ok M)
    (h : en_R sc 101 40 [mm_r 72, mm_i l1, mm_i l2, mm_i l3, mm_i l4, mm_i l5, mm_i l6, mm_u] [mm_i 1, mm_r 72] M Q) : en_R sc 101 17 [mm_r 72, mm_i l1, mm_i l2, mm_i l3, mm_i l4, mm_i l5, mm_i l6, mm_u] [mm_r 72] M Q := by
  refine en_iconst mc101_17 ?_
  refine en_goto 40 mc101_18 (by decide) ?_
  exact h
theorem vc101_40 {sc : Nat × (Int → Int)} {Q : mm_R → mm_M → Prop} {M : mm_M} {l1 : Int} {l2 : Int} {l3 : Int} {l4 : Int} {l5 : Int} {l6 : Int} {s1 : Int} (ho : mr_ok M) (hg_s1 : mr_rg s1)
    (h : (((mm_putN M 72 0 s1).1 72 0) ≤ 0 → en_CV sc 35 [mm_r 72] (mm_putN M 72 0 s1) (fun M2 => mr_ok M2 → en_R sc 101 62 [mm_r 72, mm_i l1, mm_i l2, mm_i l3, mm_i l4, mm_i l5, mm_i l6, mm_i (102 * l2)] [] M2 Q) (fun e M9 => Q (.inr e) M9)) ∧ (¬ ((mm_putN M 72 0 s1).1 72 0) ≤ 0 → Q (.inl (some (mm_i 0))) (mm_putN M 72 0 s1))) : en_R sc 101 40 [mm_r 72, mm_i l1, mm_i l2, mm_i l3, mm_i l4, mm_i l5, mm_i l6, mm_u] [mm_i s1, mm_r 72] M Q := by
  refine en_putI mv101 mc101_40 (lk_f7_89) (⟨rfl, by decide⟩ : mt_kd[72]? = some (.inl 7) ∧ 72 < 99) rfl rfl hg_s1 ?_
  refine en_aload_n mc101_43 rfl ?_
  refine en_getI mv101 mc101_44 (lk_f7_89) (⟨rfl, by decide⟩ : mt_kd[72]? = some (.inl 7) ∧ 72 < 99) (Or.inl rfl) ?_
  refine en_if_le 52 mc101_47 (by decide) ((mr_ok_putI (a := 72) (k := 0) ho hg_s1).2.1 72 0 (by unfold mr_lg; omega)) (fun q => ?_) (fun q => ?_)
  · replace h := h.1 q
    refine en_aload_n mc101_52 rfl ?_
    refine en_callV (lz := [mm_r 72]) mv101 mc101_53 rfl rfl (lk_m7_139) mv35 rfl (by decide) rfl (mk_cokV rfl (⟨rfl, by decide⟩ : mt_kd[72]? = some (.inl 7) ∧ 72 < 99)) rfl (mk_nh rfl _) (mr_ok_putI (a := 72) (k := 0) ho hg_s1) ?_
    refine en_CV_mono h (fun M2 h => ?_) (fun _ _ h => h)
    intro ho3
    replace h := h ho3
    refine en_bipush mc101_56 (by decide) ?_
    refine en_iload_n mc101_58 rfl ?_
    refine en_imul mc101_59 ?_
    refine en_istore (ls' := [mm_r 72, mm_i l1, mm_i l2, mm_i l3, mm_i l4, mm_i l5, mm_i l6, mm_i (102 * l2)]) mc101_60 (Nat.le_of_ble_eq_true rfl) rfl ?_
    exact h
  · replace h := h.2 q
    refine en_iconst mc101_50 ?_
    exact en_iret mv101 mc101_51 rfl h
theorem vc101_62 {sc : Nat × (Int → Int)} {Q : mm_R → mm_M → Prop} {M : mm_M} {l1 : Int} {l2 : Int} {l3 : Int} {l4 : Int} {l5 : Int} {l6 : Int} {l7 : Int} (ho : mr_ok M) (hg_l7 : mr_rg l7)
    (h : en_CI sc 45 [mm_r 72, mm_i l2] M (fun x1 M2 => mr_ok M2 → mr_rg x1 ∧ ((x1 ≤ l7 → en_R sc 101 137 [mm_r 72, mm_i l1, mm_i l2, mm_i l3, mm_i l4, mm_i l5, mm_i l6, mm_i 0] [] M2 Q) ∧ (¬ x1 ≤ l7 → 0 ≤ l7 ∧ (l7 < 918 ∧ (en_CV sc 58 [mm_r 72, mm_i ((M2.1 73 l7) + l5), mm_u, mm_u, mm_u] M2 (fun M8 => mr_ok M8 → 0 ≤ l7 ∧ (l7 < 918 ∧ (en_CV sc 58 [mm_r 72, mm_i ((M8.1 74 l7) + l5), mm_u, mm_u, mm_u] M8 (fun M13 => mr_ok M13 → 0 ≤ l7 ∧ (l7 < 918 ∧ (en_CV sc 58 [mm_r 72, mm_i ((M13.1 73 l7) - l6), mm_u, mm_u, mm_u] M13 (fun M18 => mr_ok M18 → 0 ≤ l7 ∧ (l7 < 918 ∧ (en_CV sc 58 [mm_r 72, mm_i ((M18.1 74 l7) - l6), mm_u, mm_u, mm_u] M18 (fun M23 => mr_ok M23 → en_R sc 101 62 [mm_r 72, mm_i l1, mm_i l2, mm_i l3, mm_i l4, mm_i l5, mm_i l6, mm_i (l7 + 1)] [] M23 Q) (fun e M9 => Q (.inr e) M9)))) (fun e M9 => Q (.inr e) M9)))) (fun e M9 => Q (.inr e) M9)))) (fun e M9 => Q (.inr e) M9)))))) (fun e M9 => Q (.inr e) M9)) : en_R sc 101 62 [mm_r 72, mm_i l1, mm_i l2, mm_i l3, mm_i l4, mm_i l5, mm_i l6, mm_i l7] [] M Q := by
  refine en_iload mc101_62 rfl ?_
  refine en_aload_n mc101_64 rfl ?_
  refine en_iload_n mc101_65 rfl ?_
  refine en_callI (lz := [mm_r 72, mm_i l2]) mv101 mc101_66 rfl rfl (lk_m7_107) mv45 rfl (by decide) rfl (mk_cokV rfl (⟨rfl, by decide⟩ : mt_kd[72]? = some (.inl 7) ∧ 72 < 99)) rfl (mk_nh rfl _) ho ?_
  refine en_CI_mono h (fun x1 M2 h => ?_) (fun _ _ h => h)
  intro ho3
  replace h := h ho3
  obtain ⟨g4, h⟩ := h
  refine en_icmp_ge 134 mc101_69 (by decide) hg_l7 g4 (fun q => ?_) (fun q => ?_)
  · replace h := h.1 q
    refine en_iconst mc101_134 ?_
    refine en_istore (ls' := [mm_r 72, mm_i l1, mm_i l2, mm_i l3, mm_i l4, mm_i l5, mm_i l6, mm_i 0]) mc101_135 (Nat.le_of_ble_eq_true rfl) rfl ?_
    exact h
  · replace h := h.2 q
    obtain ⟨g5, h⟩ := h
    obtain ⟨g6, h⟩ := h
    refine en_aload_n mc101_72 rfl ?_
    refine en_aload_n mc101_73 rfl ?_
    refine en_getR (b := 73) mv101 mc101_74 (lk_f7_7) (⟨rfl, by decide⟩ : mt_kd[72]? = some (.inl 7) ∧ 72 < 99) rfl (mk_fc ho3 (by decide +kernel)) ?_
    refine en_iload mc101_77 rfl ?_
    refine en_iald mc101_79 (⟨rfl, by decide, by decide⟩ : mt_kd[73]? = some (.inr (.int, 918)) ∧ 73 < 99 ∧ 918 < 2147483648) g5 g6 ?_
    refine en_iload mc101_80 rfl ?_
    refine en_iadd mc101_82 ?_
    refine en_callV (lz := [mm_r 72, mm_i ((M2.1 73 l7) + l5), mm_u, mm_u, mm_u]) mv101 mc101_83 rfl rfl (lk_m7_151) mv58 rfl (by decide) rfl (mk_cokV rfl (⟨rfl, by decide⟩ : mt_kd[72]? = some (.inl 7) ∧ 72 < 99)) rfl (mk_nh rfl _) ho3 ?_
    refine en_CV_mono h (fun M8 h => ?_) (fun _ _ h => h)
    intro ho9
    replace h := h ho9
    obtain ⟨g10, h⟩ := h
    obtain ⟨g11, h⟩ := h
    refine en_aload_n mc101_86 rfl ?_
    refine en_aload_n mc101_87 rfl ?_
    refine en_getR (b := 74) mv101 mc101_88 (lk_f7_13) (⟨rfl, by decide⟩ : mt_kd[72]? = some (.inl 7) ∧ 72 < 99) rfl (mk_fc ho9 (by decide +kernel)) ?_
    refine en_iload mc101_91 rfl ?_
    refine en_iald mc101_93 (⟨rfl, by decide, by decide⟩ : mt_kd[74]? = some (.inr (.int, 918)) ∧ 74 < 99 ∧ 918 < 2147483648) g10 g11 ?_
    refine en_iload mc101_94 rfl ?_
    refine en_iadd mc101_96 ?_
    refine en_callV (lz := [mm_r 72, mm_i ((M8.1 74 l7) + l5), mm_u, mm_u, mm_u]) mv101 mc101_97 rfl rfl (lk_m7_151) mv58 rfl (by decide) rfl (mk_cokV rfl (⟨rfl, by decide⟩ : mt_kd[72]? = some (.inl 7) ∧ 72 < 99)) rfl (mk_nh rfl _) ho9 ?_
    refine en_CV_mono h (fun M13 h => ?_) (fun _ _ h => h)
    intro ho14
    replace h := h ho14
    obtain ⟨g15, h⟩ := h
    obtain ⟨g16, h⟩ := h
    refine en_aload_n mc101_100 rfl ?_
    refine en_aload_n mc101_101 rfl ?_
    refine en_getR (b := 73) mv101 mc101_102 (lk_f7_7) (⟨rfl, by decide⟩ : mt_kd[72]? = some (.inl 7) ∧ 72 < 99) rfl (mk_fc ho14 (by decide +kernel)) ?_
    refine en_iload mc101_105 rfl ?_
    refine en_iald mc101_107 (⟨rfl, by decide, by decide⟩ : mt_kd[73]? = some (.inr (.int, 918)) ∧ 73 < 99 ∧ 918 < 2147483648) g15 g16 ?_
    refine en_iload mc101_108 rfl ?_
    refine en_isub mc101_110 ?_
    refine en_callV (lz := [mm_r 72, mm_i ((M13.1 73 l7) - l6), mm_u, mm_u, mm_u]) mv101 mc101_111 rfl rfl (lk_m7_151) mv58 rfl (by decide) rfl (mk_cokV rfl (⟨rfl, by decide⟩ : mt_kd[72]? = some (.inl 7) ∧ 72 < 99)) rfl (mk_nh rfl _) ho14 ?_
    refine en_CV_mono h (fun M18 h => ?_) (fun _ _ h => h)
    intro ho19
    replace h := h ho19
    obtain ⟨g20, h⟩ := h
    obtain ⟨g21, h⟩ := h
    refine en_aload_n mc101_114 rfl ?_
    refine en_aload_n mc101_115 rfl ?_
    refine en_getR (b := 74) mv101 mc101_116 (lk_f7_13) (⟨rfl, by decide⟩ : mt_kd[72]? = some (.inl 7) ∧ 72 < 99) rfl (mk_fc ho19 (by decide +kernel)) ?_
    refine en_iload mc101_119 rfl ?_
    refine en_iald mc101_121 (⟨rfl, by decide, by decide⟩ : mt_kd[74]? = some (.inr (.int, 918)) ∧ 74 < 99 ∧ 918 < 2147483648) g20 g21 ?_
    refine en_iload mc101_122 rfl ?_
    refine en_isub mc101_124 ?_
    refine en_callV (lz := [mm_r 72, mm_i ((M18.1 74 l7) - l6), mm_u, mm_u, mm_u]) mv101 mc101_125 rfl rfl (lk_m7_151) mv58 rfl (by decide) rfl (mk_cokV rfl (⟨rfl, by decide⟩ : mt_kd[72]? = some (.inl 7) ∧ 72 < 99)) rfl (mk_nh rfl _) ho19 ?_
    refine en_CV_mono h (fun M23 h => ?_) (fun _ _ h => h)
    intro ho24
    replace h := h ho24
    refine en_iinc (ls' := [mm_r 72, mm_i l1, mm_i l2, mm_i l3, mm_i l4, mm_i l5, mm_i l6, mm_i (l7 + 1)]) mc101_128 rfl rfl ?_
    refine en_goto 62 mc101_131 (by decide) ?_
    exact h
theorem vc101_137 {sc : Nat × (Int → Int)} {Q : mm_R → mm_M → Prop} {M : mm_M} {l1 : Int} {l2 : Int} {l3 : Int} {l4 : Int} {l5 : Int} {l6 : Int} {l7 : Int} (ho : mr_ok M)
    (h : mr_rg (l7 + 1) ∧ (((M.1 72 19) ≤ (l7 + 1) → en_CI sc 39 [mm_r 72, mm_i l1, mm_u] M (fun x2 M3 => mr_ok M3 → Q (.inl (some (mm_i x2))) M3) (fun e M9 => Q (.inr e) M9)) ∧ (¬ (M.1 72 19) ≤ (l7 + 1) → 0 ≤ l7 ∧ (l7 < 1700 ∧ (en_CV sc 100 [mm_r 72, mm_i l2, mm_i (M.1 87 l7), mm_i l3, mm_i l4, mm_i l5, mm_i l6, mm_u, mm_u, mm_u, mm_u, mm_u] M (fun M8 => mr_ok M8 → 0 ≤ l7 ∧ (l7 < 1700 ∧ (0 ≤ (l7 + 1) ∧ ((l7 + 1) < 1700 ∧ (en_CV sc 38 [mm_r 72, mm_i (M8.1 87 l7), mm_i (M8.1 87 (l7 + 1)), mm_u, mm_u] M8 (fun M15 => mr_ok M15 → en_R sc 101 137 [mm_r 72, mm_i l1, mm_i l2, mm_i l3, mm_i l4, mm_i l5, mm_i l6, mm_i (l7 + 1)] [] M15 Q) (fun e M9 => Q (.inr e) M9)))))) (fun e M9 => Q (.inr e) M9)))))) : en_R sc 101 137 [mm_r 72, mm_i l1, mm_i l2, mm_i l3, mm_i l4, mm_i l5, mm_i l6, mm_i l7] [] M Q := by
  obtain ⟨g1, h⟩ := h
  refine en_iload mc101_137 rfl ?_
  refine en_iconst mc101_139 ?_
  refine en_iadd mc101_140 ?_
  refine en_aload_n mc101_141 rfl ?_
  refine en_getI mv101 mc101_142 (lk_f7_97) (⟨rfl, by decide⟩ : mt_kd[72]? = some (.inl 7) ∧ 72 < 99) (Or.inl rfl) ?_
  refine en_icmp_ge 193 mc101_145 (by decide) g1 (ho.2.1 72 19 (by unfold mr_lg; omega)) (fun q => ?_) (fun q => ?_)
  · replace h := h.1 q
    refine en_aload_n mc101_193 rfl ?_
    refine en_iload_n mc101_194 rfl ?_
    refine en_callI (lz := [mm_r 72, mm_i l1, mm_u]) mv101 mc101_195 rfl rfl (lk_m7_145) mv39 rfl (by decide) rfl (mk_cokV rfl (⟨rfl, by decide⟩ : mt_kd[72]? = some (.inl 7) ∧ 72 < 99)) rfl (mk_nh rfl _) ho ?_
    refine en_CI_mono h (fun x2 M3 h => ?_) (fun _ _ h => h)
    intro ho4
    replace h := h ho4
    exact en_iret mv101 mc101_198 rfl h
  · replace h := h.2 q
    obtain ⟨g5, h⟩ := h
    obtain ⟨g6, h⟩ := h
    refine en_aload_n mc101_148 rfl ?_
    refine en_iload_n mc101_149 rfl ?_
    refine en_aload_n mc101_150 rfl ?_
    refine en_getR (b := 87) mv101 mc101_151 (lk_f7_52) (⟨rfl, by decide⟩ : mt_kd[72]? = some (.inl 7) ∧ 72 < 99) rfl (mk_fc ho (by decide +kernel)) ?_
    refine en_iload mc101_154 rfl ?_
    refine en_iald mc101_156 (⟨rfl, by decide, by decide⟩ : mt_kd[87]? = some (.inr (.int, 1700)) ∧ 87 < 99 ∧ 1700 < 2147483648) g5 g6 ?_
    refine en_iload_n mc101_157 rfl ?_
    refine en_iload mc101_158 rfl ?_
    refine en_iload mc101_160 rfl ?_
    refine en_iload mc101_162 rfl ?_
    refine en_callV (lz := [mm_r 72, mm_i l2, mm_i (M.1 87 l7), mm_i l3, mm_i l4, mm_i l5, mm_i l6, mm_u, mm_u, mm_u, mm_u, mm_u]) mv101 mc101_164 rfl rfl (lk_m7_187) mv100 rfl (by decide) rfl (mk_cokV rfl (⟨rfl, by decide⟩ : mt_kd[72]? = some (.inl 7) ∧ 72 < 99)) rfl (mk_nh rfl _) ho ?_
    refine en_CV_mono h (fun M8 h => ?_) (fun _ _ h => h)
    intro ho9
    replace h := h ho9
    obtain ⟨g10, h⟩ := h
    obtain ⟨g11, h⟩ := h
    obtain ⟨g12, h⟩ := h
    obtain ⟨g13, h⟩ := h
    refine en_aload_n mc101_167 rfl ?_
    refine en_aload_n mc101_168 rfl ?_
    refine en_getR (b := 87) mv101 mc101_169 (lk_f7_52) (⟨rfl, by decide⟩ : mt_kd[72]? = some (.inl 7) ∧ 72 < 99) rfl (mk_fc ho9 (by decide +kernel)) ?_
    refine en_iload mc101_172 rfl ?_
    refine en_iald mc101_174 (⟨rfl, by decide, by decide⟩ : mt_kd[87]? = some (.inr (.int, 1700)) ∧ 87 < 99 ∧ 1700 < 2147483648) g10 g11 ?_
    refine en_aload_n mc101_175 rfl ?_
    refine en_getR (b := 87) mv101 mc101_176 (lk_f7_52) (⟨rfl, by decide⟩ : mt_kd[72]? = some (.inl 7) ∧ 72 < 99) rfl (mk_fc ho9 (by decide +kernel)) ?_
    refine en_iload mc101_179 rfl ?_
    refine en_iconst mc101_181 ?_
    refine en_iadd mc101_182 ?_
    refine en_iald mc101_183 (⟨rfl, by decide, by decide⟩ : mt_kd[87]? = some (.inr (.int, 1700)) ∧ 87 < 99 ∧ 1700 < 2147483648) g12 g13 ?_
    refine en_callV (lz := [mm_r 72, mm_i (M8.1 87 l7), mm_i (M8.1 87 (l7 + 1)), mm_u, mm_u]) mv101 mc101_184 rfl rfl (lk_m7_142) mv38 rfl (by decide) rfl (mk_cokV rfl (⟨rfl, by decide⟩ : mt_kd[72]? = some (.inl 7) ∧ 72 < 99)) rfl (mk_nh rfl _) ho9 ?_
    refine en_CV_mono h (fun M15 h => ?_) (fun _ _ h => h)
    intro ho16
    replace h := h ho16
    refine en_iinc (ls' := [mm_r 72, mm_i l1, mm_i l2, mm_i l3, mm_i l4, mm_i l5, mm_i l6, mm_i (l7 + 1)]) mc101_187 rfl rfl ?_
    refine en_goto 137 mc101_190 (by decide) ?_
    exact h
/-! 102: CellAreas.bands(I)I -/
theorem mc102_0 : mr_C 102 0 = some (.iload_n 1, 1) := rfl
theorem mc102_1 : mr_C 102 1 = some (.invokestatic 61, 3) := rfl
theorem mc102_4 : mr_C 102 4 = some (.aload_n 0, 1) := rfl
theorem mc102_5 : mr_C 102 5 = some (.getfield 11, 3) := rfl
theorem mc102_8 : mr_C 102 8 = some (.iload_n 1, 1) := rfl
theorem mc102_9 : mr_C 102 9 = some (.aaload, 1) := rfl
theorem mc102_10 : mr_C 102 10 = some (.getfield 118, 3) := rfl
theorem mc102_13 : mr_C 102 13 = some (.ireturn, 1) := rfl
theorem vc102_0 {sc : Nat × (Int → Int)} {Q : mm_R → mm_M → Prop} {M : mm_M} {l1 : Int} (ho : mr_ok M)
    (h : en_CV sc 9 [mm_i l1] M (fun M2 => mr_ok M2 → 0 ≤ l1 ∧ (l1 < 8 ∧ (∃ b6, M2.2.1 1 l1 = some b6 ∧ mr_A b6 ∧ (Q (.inl (some (mm_i (M2.1 b6 0)))) M2)))) (fun e M9 => Q (.inr e) M9)) : en_R sc 102 0 [mm_r 0, mm_i l1] [] M Q := by
  refine en_iload_n mc102_0 rfl ?_
  refine en_callV (lz := [mm_i l1]) mv102 mc102_1 rfl rfl (lk_m6_61) mv9 rfl (by decide) rfl (mk_cokS rfl) rfl (mk_nh rfl _) ho ?_
  refine en_CV_mono h (fun M2 h => ?_) (fun _ _ h => h)
  intro ho3
  replace h := h ho3
  obtain ⟨g4, h⟩ := h
  obtain ⟨g5, h⟩ := h
  refine en_aload_n mc102_4 rfl ?_
  refine en_getR (b := 1) mv102 mc102_5 (lk_f6_11) (⟨rfl, by decide⟩ : mt_kd[0]? = some (.inl 6) ∧ 0 < 99) rfl (mk_fc ho3 (by decide +kernel)) ?_
  refine en_iload_n mc102_8 rfl ?_
  obtain ⟨b6, g7, hA_b6_, h⟩ := h
  refine en_aald mc102_9 g4 g5 g7 ?_
  refine en_getI mv102 mc102_10 (lk_f6_118) (mk_A0 hA_b6_) (Or.inl rfl) ?_
  exact en_iret mv102 mc102_13 rfl h
/-! 104: CellAreasModel.bands(I)I -/
theorem mc104_0 : mr_C 104 0 = some (.aload_n 0, 1) := rfl
theorem mc104_1 : mr_C 104 1 = some (.aload_n 0, 1) := rfl
theorem mc104_2 : mr_C 104 2 = some (.iload_n 1, 1) := rfl
theorem mc104_3 : mr_C 104 3 = some (.invokevirtual 131, 3) := rfl
theorem mc104_6 : mr_C 104 6 = some (.ifCond .eq (7), 3) := rfl
theorem mc104_9 : mr_C 104 9 = some (.iconst 0, 1) := rfl
theorem mc104_10 : mr_C 104 10 = some (.goto 4, 3) := rfl
theorem mc104_13 : mr_C 104 13 = some (.iconst 1, 1) := rfl
theorem mc104_14 : mr_C 104 14 = some (.putfield 89, 3) := rfl
theorem mc104_17 : mr_C 104 17 = some (.aload_n 0, 1) := rfl
theorem mc104_18 : mr_C 104 18 = some (.getfield 89, 3) := rfl
theorem mc104_21 : mr_C 104 21 = some (.ifCond .le (7), 3) := rfl
theorem mc104_24 : mr_C 104 24 = some (.iconst 0, 1) := rfl
theorem mc104_25 : mr_C 104 25 = some (.goto 9, 3) := rfl
theorem mc104_28 : mr_C 104 28 = some (.aload_n 0, 1) := rfl
theorem mc104_29 : mr_C 104 29 = some (.getfield 22, 3) := rfl
theorem mc104_32 : mr_C 104 32 = some (.iload_n 1, 1) := rfl
theorem mc104_33 : mr_C 104 33 = some (.iaload, 1) := rfl
theorem mc104_34 : mr_C 104 34 = some (.ireturn, 1) := by decide +kernel
theorem vc104_0 {sc : Nat × (Int → Int)} {Q : mm_R → mm_M → Prop} {M : mm_M} {l1 : Int} (ho : mr_ok M)
    (h : en_CI sc 34 [mm_r 72, mm_i l1] M (fun x1 M2 => mr_ok M2 → mr_rg x1 ∧ ((x1 = 0 → en_R sc 104 14 [mm_r 72, mm_i l1] [mm_i 1, mm_r 72] M2 Q) ∧ (¬ x1 = 0 → en_R sc 104 14 [mm_r 72, mm_i l1] [mm_i 0, mm_r 72] M2 Q))) (fun e M9 => Q (.inr e) M9)) : en_R sc 104 0 [mm_r 72, mm_i l1] [] M Q := by
  refine en_aload_n mc104_0 rfl ?_
  refine en_aload_n mc104_1 rfl ?_
  refine en_iload_n mc104_2 rfl ?_
  refine en_callI (lz := [mm_r 72, mm_i l1]) mv104 mc104_3 rfl rfl (lk_m7_131) mv34 rfl (by decide) rfl (mk_cokV rfl (⟨rfl, by decide⟩ : mt_kd[72]? = some (.inl 7) ∧ 72 < 99)) rfl (mk_nh rfl _) ho ?_
  refine en_CI_mono h (fun x1 M2 h => ?_) (fun _ _ h => h)
  intro ho3
  replace h := h ho3
  obtain ⟨g4, h⟩ := h
  refine en_if_eq 13 mc104_6 (by decide) g4 (fun q => ?_) (fun q => ?_)
  · replace h := h.1 q
    refine en_iconst mc104_13 ?_
    exact h
  · replace h := h.2 q
    refine en_iconst mc104_9 ?_
    refine en_goto 14 mc104_10 (by decide) ?_
    exact h
theorem vc104_14 {sc : Nat × (Int → Int)} {Q : mm_R → mm_M → Prop} {M : mm_M} {l1 : Int} {s1 : Int} (ho : mr_ok M) (hg_s1 : mr_rg s1)
    (h : (((mm_putN M 72 0 s1).1 72 0) ≤ 0 → 0 ≤ l1 ∧ (l1 < 9 ∧ (Q (.inl (some (mm_i ((mm_putN M 72 0 s1).1 77 l1)))) (mm_putN M 72 0 s1)))) ∧ (¬ ((mm_putN M 72 0 s1).1 72 0) ≤ 0 → Q (.inl (some (mm_i 0))) (mm_putN M 72 0 s1))) : en_R sc 104 14 [mm_r 72, mm_i l1] [mm_i s1, mm_r 72] M Q := by
  refine en_putI mv104 mc104_14 (lk_f7_89) (⟨rfl, by decide⟩ : mt_kd[72]? = some (.inl 7) ∧ 72 < 99) rfl rfl hg_s1 ?_
  refine en_aload_n mc104_17 rfl ?_
  refine en_getI mv104 mc104_18 (lk_f7_89) (⟨rfl, by decide⟩ : mt_kd[72]? = some (.inl 7) ∧ 72 < 99) (Or.inl rfl) ?_
  refine en_if_le 28 mc104_21 (by decide) ((mr_ok_putI (a := 72) (k := 0) ho hg_s1).2.1 72 0 (by unfold mr_lg; omega)) (fun q => ?_) (fun q => ?_)
  · replace h := h.1 q
    obtain ⟨g1, h⟩ := h
    obtain ⟨g2, h⟩ := h
    refine en_aload_n mc104_28 rfl ?_
    refine en_getR (b := 77) mv104 mc104_29 (lk_f7_22) (⟨rfl, by decide⟩ : mt_kd[72]? = some (.inl 7) ∧ 72 < 99) rfl (mk_fc (mr_ok_putI (a := 72) (k := 0) ho hg_s1) (by decide +kernel)) ?_
    refine en_iload_n mc104_32 rfl ?_
    refine en_iald mc104_33 (⟨rfl, by decide, by decide⟩ : mt_kd[77]? = some (.inr (.int, 9)) ∧ 77 < 99 ∧ 9 < 2147483648) g1 g2 ?_
    exact en_iret mv104 mc104_34 rfl h
  · replace h := h.2 q
    refine en_iconst mc104_24 ?_
    refine en_goto 34 mc104_25 (by decide) ?_
    exact en_iret mv104 mc104_34 rfl h
/-! 105: CellAreas.band(III)I -/
theorem mc105_0 : mr_C 105 0 = some (.iload_n 1, 1) := rfl
theorem mc105_1 : mr_C 105 1 = some (.invokestatic 61, 3) := rfl
theorem mc105_4 : mr_C 105 4 = some (.aload_n 0, 1) := rfl
theorem mc105_5 : mr_C 105 5 = some (.getfield 11, 3) := rfl
theorem mc105_8 : mr_C 105 8 = some (.iload_n 1, 1) := rfl
theorem mc105_9 : mr_C 105 9 = some (.aaload, 1) := rfl
theorem mc105_10 : mr_C 105 10 = some (.astore 4, 2) := rfl
theorem mc105_12 : mr_C 105 12 = some (.iload_n 2, 1) := rfl
theorem mc105_13 : mr_C 105 13 = some (.ifCond .lt (12), 3) := rfl
theorem mc105_16 : mr_C 105 16 = some (.iload_n 2, 1) := rfl
theorem mc105_17 : mr_C 105 17 = some (.aload 4, 2) := rfl
theorem mc105_19 : mr_C 105 19 = some (.getfield 118, 3) := rfl
theorem mc105_22 : mr_C 105 22 = some (.if_icmp .lt (7), 3) := rfl
theorem mc105_25 : mr_C 105 25 = some (.sipush (-2001), 3) := rfl
theorem mc105_28 : mr_C 105 28 = some (.ireturn, 1) := rfl
theorem mc105_29 : mr_C 105 29 = some (.iload_n 3, 1) := rfl
theorem mc105_30 : mr_C 105 30 = some (.tableswitch (56) (0) (2) #[26, 34, 42], 26) := rfl
theorem mc105_56 : mr_C 105 56 = some (.aload 4, 2) := rfl
theorem mc105_58 : mr_C 105 58 = some (.getfield 125, 3) := by decide +kernel
theorem mc105_61 : mr_C 105 61 = some (.iload_n 2, 1) := by decide +kernel
theorem mc105_62 : mr_C 105 62 = some (.iaload, 1) := by decide +kernel
theorem mc105_63 : mr_C 105 63 = some (.ireturn, 1) := by decide +kernel
theorem mc105_64 : mr_C 105 64 = some (.aload 4, 2) := by decide +kernel
theorem mc105_66 : mr_C 105 66 = some (.getfield 129, 3) := by decide +kernel
theorem mc105_69 : mr_C 105 69 = some (.iload_n 2, 1) := by decide +kernel
theorem mc105_70 : mr_C 105 70 = some (.iaload, 1) := by decide +kernel
theorem mc105_71 : mr_C 105 71 = some (.ireturn, 1) := by decide +kernel
theorem mc105_72 : mr_C 105 72 = some (.aload 4, 2) := by decide +kernel
theorem mc105_74 : mr_C 105 74 = some (.iload_n 2, 1) := by decide +kernel
theorem mc105_75 : mr_C 105 75 = some (.invokevirtual 153, 3) := by decide +kernel
theorem mc105_78 : mr_C 105 78 = some (.aload 4, 2) := by decide +kernel
theorem mc105_80 : mr_C 105 80 = some (.iload_n 2, 1) := by decide +kernel
theorem mc105_81 : mr_C 105 81 = some (.invokevirtual 156, 3) := by decide +kernel
theorem mc105_84 : mr_C 105 84 = some (.isub, 1) := by decide +kernel
theorem mc105_85 : mr_C 105 85 = some (.ireturn, 1) := by decide +kernel
theorem mc105_86 : mr_C 105 86 = some (.sipush (-2001), 3) := by decide +kernel
theorem mc105_89 : mr_C 105 89 = some (.ireturn, 1) := by decide +kernel
theorem vc105_0 {sc : Nat × (Int → Int)} {Q : mm_R → mm_M → Prop} {M : mm_M} {l1 : Int} {l2 : Int} {l3 : Int} (ho : mr_ok M) (hg_l2 : mr_rg l2) (hg_l3 : mr_rg l3)
    (h : en_CV sc 9 [mm_i l1] M (fun M2 => mr_ok M2 → 0 ≤ l1 ∧ (l1 < 8 ∧ (∃ b6, M2.2.1 1 l1 = some b6 ∧ mr_A b6 ∧ ((l2 < 0 → Q (.inl (some (mm_i (-2001)))) M2) ∧ (¬ l2 < 0 → (l2 < (M2.1 b6 0) → (l3 = 0 → 0 ≤ l2 ∧ (l2 < 100 ∧ (Q (.inl (some (mm_i (M2.1 (b6 + 1) l2)))) M2))) ∧ (l3 = 1 → 0 ≤ l2 ∧ (l2 < 100 ∧ (Q (.inl (some (mm_i (M2.1 (b6 + 2) l2)))) M2))) ∧ (l3 = 2 → en_CI sc 51 [mm_r b6, mm_i l2] M2 (fun x12 M13 => mr_ok M13 → en_CI sc 50 [mm_r b6, mm_i l2] M13 (fun x15 M16 => mr_ok M16 → Q (.inl (some (mm_i (x12 - x15)))) M16) (fun e M9 => Q (.inr e) M9)) (fun e M9 => Q (.inr e) M9)) ∧ (l3 ≠ 0 → l3 ≠ 1 → l3 ≠ 2 → Q (.inl (some (mm_i (-2001)))) M2)) ∧ (¬ l2 < (M2.1 b6 0) → Q (.inl (some (mm_i (-2001)))) M2)))))) (fun e M9 => Q (.inr e) M9)) : en_R sc 105 0 [mm_r 0, mm_i l1, mm_i l2, mm_i l3, mm_u] [] M Q := by
  refine en_iload_n mc105_0 rfl ?_
  refine en_callV (lz := [mm_i l1]) mv105 mc105_1 rfl rfl (lk_m6_61) mv9 rfl (by decide) rfl (mk_cokS rfl) rfl (mk_nh rfl _) ho ?_
  refine en_CV_mono h (fun M2 h => ?_) (fun _ _ h => h)
  intro ho3
  replace h := h ho3
  obtain ⟨g4, h⟩ := h
  obtain ⟨g5, h⟩ := h
  refine en_aload_n mc105_4 rfl ?_
  refine en_getR (b := 1) mv105 mc105_5 (lk_f6_11) (⟨rfl, by decide⟩ : mt_kd[0]? = some (.inl 6) ∧ 0 < 99) rfl (mk_fc ho3 (by decide +kernel)) ?_
  refine en_iload_n mc105_8 rfl ?_
  obtain ⟨b6, g7, hA_b6_, h⟩ := h
  refine en_aald mc105_9 g4 g5 g7 ?_
  refine en_astore (ls' := [mm_r 0, mm_i l1, mm_i l2, mm_i l3, mm_r b6]) mc105_10 (Nat.le_of_ble_eq_true rfl) rfl ?_
  refine en_iload_n mc105_12 rfl ?_
  refine en_if_lt 25 mc105_13 (by decide) hg_l2 (fun q => ?_) (fun q => ?_)
  · replace h := h.1 q
    refine en_sipush mc105_25 (by decide) ?_
    exact en_iret mv105 mc105_28 rfl h
  · replace h := h.2 q
    refine en_iload_n mc105_16 rfl ?_
    refine en_aload mc105_17 rfl ?_
    refine en_getI mv105 mc105_19 (lk_f6_118) (mk_A0 hA_b6_) (Or.inl rfl) ?_
    refine en_icmp_lt 29 mc105_22 (by decide) hg_l2 (ho3.2.1 b6 0 (mk_nA0 hA_b6_ _)) (fun q => ?_) (fun q => ?_)
    · replace h := h.1 q
      refine en_iload_n mc105_29 rfl ?_
      by_cases q0 : l3 = 0
      · replace h := h.1 q0
        refine en_tsw 56 mc105_30 hg_l3 (by first | (rw [q0]; done) | (rw [q0]; rfl)) (by decide) ?_
        obtain ⟨g8, h⟩ := h
        obtain ⟨g9, h⟩ := h
        refine en_aload mc105_56 rfl ?_
        refine en_getR (b := (b6 + 1)) mv105 mc105_58 (lk_f6_125) (mk_A0 hA_b6_) rfl (mk_fA1 hA_b6_ ho3) ?_
        refine en_iload_n mc105_61 rfl ?_
        refine en_iald mc105_62 (mk_A1 hA_b6_) g8 g9 ?_
        exact en_iret mv105 mc105_63 rfl h
      by_cases q1 : l3 = 1
      · replace h := h.2.1 q1
        refine en_tsw 64 mc105_30 hg_l3 (by first | (rw [q1]; done) | (rw [q1]; rfl)) (by decide) ?_
        obtain ⟨g10, h⟩ := h
        obtain ⟨g11, h⟩ := h
        refine en_aload mc105_64 rfl ?_
        refine en_getR (b := (b6 + 2)) mv105 mc105_66 (lk_f6_129) (mk_A0 hA_b6_) rfl (mk_fA2 hA_b6_ ho3) ?_
        refine en_iload_n mc105_69 rfl ?_
        refine en_iald mc105_70 (mk_A2 hA_b6_) g10 g11 ?_
        exact en_iret mv105 mc105_71 rfl h
      by_cases q2 : l3 = 2
      · replace h := h.2.2.1 q2
        refine en_tsw 72 mc105_30 hg_l3 (by first | (rw [q2]; done) | (rw [q2]; rfl)) (by decide) ?_
        refine en_aload mc105_72 rfl ?_
        refine en_iload_n mc105_74 rfl ?_
        refine en_callI (lz := [mm_r b6, mm_i l2]) mv105 mc105_75 rfl rfl (lk_m6_153) mv51 rfl (by decide) rfl (mk_cokV rfl (mk_A0 hA_b6_)) rfl (mk_nh rfl _) ho3 ?_
        refine en_CI_mono h (fun x12 M13 h => ?_) (fun _ _ h => h)
        intro ho14
        replace h := h ho14
        refine en_aload mc105_78 rfl ?_
        refine en_iload_n mc105_80 rfl ?_
        refine en_callI (lz := [mm_r b6, mm_i l2]) mv105 mc105_81 rfl rfl (lk_m6_156) mv50 rfl (by decide) rfl (mk_cokV rfl (mk_A0 hA_b6_)) rfl (mk_nh rfl _) ho14 ?_
        refine en_CI_mono h (fun x15 M16 h => ?_) (fun _ _ h => h)
        intro ho17
        replace h := h ho17
        refine en_isub mc105_84 ?_
        exact en_iret mv105 mc105_85 rfl h
      replace h := h.2.2.2 q0 q1 q2
      refine en_tsw 86 mc105_30 hg_l3 (by rw [if_pos (by omega)]) (by decide) ?_
      refine en_sipush mc105_86 (by decide) ?_
      exact en_iret mv105 mc105_89 rfl h
    · replace h := h.2 q
      refine en_sipush mc105_25 (by decide) ?_
      exact en_iret mv105 mc105_28 rfl h
/-! 107: CellAreasModel.band(III)I -/
theorem mc107_0 : mr_C 107 0 = some (.aload_n 0, 1) := rfl
theorem mc107_1 : mr_C 107 1 = some (.aload_n 0, 1) := rfl
theorem mc107_2 : mr_C 107 2 = some (.iload_n 1, 1) := rfl
theorem mc107_3 : mr_C 107 3 = some (.invokevirtual 131, 3) := rfl
theorem mc107_6 : mr_C 107 6 = some (.ifCond .eq (7), 3) := rfl
theorem mc107_9 : mr_C 107 9 = some (.iconst 0, 1) := rfl
theorem mc107_10 : mr_C 107 10 = some (.goto 4, 3) := rfl
theorem mc107_13 : mr_C 107 13 = some (.iconst 1, 1) := rfl
theorem mc107_14 : mr_C 107 14 = some (.putfield 89, 3) := rfl
theorem mc107_17 : mr_C 107 17 = some (.aload_n 0, 1) := rfl
theorem mc107_18 : mr_C 107 18 = some (.getfield 89, 3) := rfl
theorem mc107_21 : mr_C 107 21 = some (.ifCond .gt (28), 3) := rfl
theorem mc107_24 : mr_C 107 24 = some (.iload_n 2, 1) := rfl
theorem mc107_25 : mr_C 107 25 = some (.iconst 0, 1) := rfl
theorem mc107_26 : mr_C 107 26 = some (.aload_n 0, 1) := rfl
theorem mc107_27 : mr_C 107 27 = some (.getfield 22, 3) := rfl
theorem mc107_30 : mr_C 107 30 = some (.iload_n 1, 1) := rfl
theorem mc107_31 : mr_C 107 31 = some (.iaload, 1) := by decide +kernel
theorem mc107_32 : mr_C 107 32 = some (.iconst 1, 1) := by decide +kernel
theorem mc107_33 : mr_C 107 33 = some (.isub, 1) := by decide +kernel
theorem mc107_34 : mr_C 107 34 = some (.invokestatic 135, 3) := by decide +kernel
theorem mc107_37 : mr_C 107 37 = some (.ifCond .eq (12), 3) := by decide +kernel
theorem mc107_40 : mr_C 107 40 = some (.iload_n 3, 1) := by decide +kernel
theorem mc107_41 : mr_C 107 41 = some (.iconst 0, 1) := by decide +kernel
theorem mc107_42 : mr_C 107 42 = some (.iconst 2, 1) := by decide +kernel
theorem mc107_43 : mr_C 107 43 = some (.invokestatic 135, 3) := by decide +kernel
theorem mc107_46 : mr_C 107 46 = some (.ifCond .ne (18), 3) := by decide +kernel
theorem mc107_49 : mr_C 107 49 = some (.aload_n 0, 1) := by decide +kernel
theorem mc107_50 : mr_C 107 50 = some (.getfield 89, 3) := by decide +kernel
theorem mc107_53 : mr_C 107 53 = some (.ifCond .le (7), 3) := by decide +kernel
theorem mc107_56 : mr_C 107 56 = some (.iconst 0, 1) := by decide +kernel
theorem mc107_57 : mr_C 107 57 = some (.goto 6, 3) := by decide +kernel
theorem mc107_60 : mr_C 107 60 = some (.sipush (-2001), 3) := by decide +kernel
theorem mc107_63 : mr_C 107 63 = some (.ireturn, 1) := by decide +kernel
theorem mc107_64 : mr_C 107 64 = some (.bipush 102, 2) := by decide +kernel
theorem mc107_66 : mr_C 107 66 = some (.iload_n 1, 1) := by decide +kernel
theorem mc107_67 : mr_C 107 67 = some (.imul, 1) := by decide +kernel
theorem mc107_68 : mr_C 107 68 = some (.iload_n 2, 1) := by decide +kernel
theorem mc107_69 : mr_C 107 69 = some (.iadd, 1) := by decide +kernel
theorem mc107_70 : mr_C 107 70 = some (.istore 4, 2) := by decide +kernel
theorem mc107_72 : mr_C 107 72 = some (.iload_n 3, 1) := by decide +kernel
theorem mc107_73 : mr_C 107 73 = some (.ifCond .ne (13), 3) := by decide +kernel
theorem mc107_76 : mr_C 107 76 = some (.aload_n 0, 1) := by decide +kernel
theorem mc107_77 : mr_C 107 77 = some (.getfield 7, 3) := by decide +kernel
theorem mc107_80 : mr_C 107 80 = some (.iload 4, 2) := by decide +kernel
theorem mc107_82 : mr_C 107 82 = some (.iaload, 1) := by decide +kernel
theorem mc107_83 : mr_C 107 83 = some (.goto 25, 3) := by decide +kernel
theorem mc107_86 : mr_C 107 86 = some (.iload_n 3, 1) := by decide +kernel
theorem mc107_87 : mr_C 107 87 = some (.iconst 1, 1) := by decide +kernel
theorem mc107_88 : mr_C 107 88 = some (.if_icmp .ne (13), 3) := by decide +kernel
theorem mc107_91 : mr_C 107 91 = some (.aload_n 0, 1) := by decide +kernel
theorem mc107_92 : mr_C 107 92 = some (.getfield 13, 3) := by decide +kernel
theorem mc107_95 : mr_C 107 95 = some (.iload 4, 2) := by decide +kernel
theorem mc107_97 : mr_C 107 97 = some (.iaload, 1) := by decide +kernel
theorem mc107_98 : mr_C 107 98 = some (.goto 10, 3) := by decide +kernel
theorem mc107_101 : mr_C 107 101 = some (.aload_n 0, 1) := by decide +kernel
theorem mc107_102 : mr_C 107 102 = some (.getfield 19, 3) := by decide +kernel
theorem mc107_105 : mr_C 107 105 = some (.iload 4, 2) := by decide +kernel
theorem mc107_107 : mr_C 107 107 = some (.iaload, 1) := by decide +kernel
theorem mc107_108 : mr_C 107 108 = some (.ireturn, 1) := by decide +kernel
theorem vc107_0 {sc : Nat × (Int → Int)} {Q : mm_R → mm_M → Prop} {M : mm_M} {l1 : Int} {l2 : Int} {l3 : Int} (ho : mr_ok M)
    (h : en_CI sc 34 [mm_r 72, mm_i l1] M (fun x1 M2 => mr_ok M2 → mr_rg x1 ∧ ((x1 = 0 → en_R sc 107 14 [mm_r 72, mm_i l1, mm_i l2, mm_i l3, mm_u] [mm_i 1, mm_r 72] M2 Q) ∧ (¬ x1 = 0 → en_R sc 107 14 [mm_r 72, mm_i l1, mm_i l2, mm_i l3, mm_u] [mm_i 0, mm_r 72] M2 Q))) (fun e M9 => Q (.inr e) M9)) : en_R sc 107 0 [mm_r 72, mm_i l1, mm_i l2, mm_i l3, mm_u] [] M Q := by
  refine en_aload_n mc107_0 rfl ?_
  refine en_aload_n mc107_1 rfl ?_
  refine en_iload_n mc107_2 rfl ?_
  refine en_callI (lz := [mm_r 72, mm_i l1]) mv107 mc107_3 rfl rfl (lk_m7_131) mv34 rfl (by decide) rfl (mk_cokV rfl (⟨rfl, by decide⟩ : mt_kd[72]? = some (.inl 7) ∧ 72 < 99)) rfl (mk_nh rfl _) ho ?_
  refine en_CI_mono h (fun x1 M2 h => ?_) (fun _ _ h => h)
  intro ho3
  replace h := h ho3
  obtain ⟨g4, h⟩ := h
  refine en_if_eq 13 mc107_6 (by decide) g4 (fun q => ?_) (fun q => ?_)
  · replace h := h.1 q
    refine en_iconst mc107_13 ?_
    exact h
  · replace h := h.2 q
    refine en_iconst mc107_9 ?_
    refine en_goto 14 mc107_10 (by decide) ?_
    exact h
theorem vc107_14 {sc : Nat × (Int → Int)} {Q : mm_R → mm_M → Prop} {M : mm_M} {l1 : Int} {l2 : Int} {l3 : Int} {s1 : Int} (ho : mr_ok M) (hg_s1 : mr_rg s1) (hg_l3 : mr_rg l3)
    (h : (0 < ((mm_putN M 72 0 s1).1 72 0) → en_R sc 107 49 [mm_r 72, mm_i l1, mm_i l2, mm_i l3, mm_u] [] (mm_putN M 72 0 s1) Q) ∧ (¬ 0 < ((mm_putN M 72 0 s1).1 72 0) → 0 ≤ l1 ∧ (l1 < 9 ∧ (en_CI sc 33 [mm_i l2, mm_i 0, mm_i (((mm_putN M 72 0 s1).1 77 l1) - 1)] (mm_putN M 72 0 s1) (fun x3 M4 => mr_ok M4 → mr_rg x3 ∧ ((x3 = 0 → en_R sc 107 49 [mm_r 72, mm_i l1, mm_i l2, mm_i l3, mm_u] [] M4 Q) ∧ (¬ x3 = 0 → en_CI sc 33 [mm_i l3, mm_i 0, mm_i 2] M4 (fun x7 M8 => mr_ok M8 → mr_rg x7 ∧ ((x7 ≠ 0 → (l3 ≠ 0 → (l3 ≠ 1 → 0 ≤ ((102 * l1) + l2) ∧ (((102 * l1) + l2) < 918 ∧ (Q (.inl (some (mm_i (M8.1 76 ((102 * l1) + l2))))) M8))) ∧ (¬ (l3 ≠ 1) → 0 ≤ ((102 * l1) + l2) ∧ (((102 * l1) + l2) < 918 ∧ (Q (.inl (some (mm_i (M8.1 74 ((102 * l1) + l2))))) M8)))) ∧ (¬ (l3 ≠ 0) → 0 ≤ ((102 * l1) + l2) ∧ (((102 * l1) + l2) < 918 ∧ (Q (.inl (some (mm_i (M8.1 73 ((102 * l1) + l2))))) M8)))) ∧ (¬ (x7 ≠ 0) → en_R sc 107 49 [mm_r 72, mm_i l1, mm_i l2, mm_i l3, mm_u] [] M8 Q))) (fun e M9 => Q (.inr e) M9)))) (fun e M9 => Q (.inr e) M9))))) : en_R sc 107 14 [mm_r 72, mm_i l1, mm_i l2, mm_i l3, mm_u] [mm_i s1, mm_r 72] M Q := by
  refine en_putI mv107 mc107_14 (lk_f7_89) (⟨rfl, by decide⟩ : mt_kd[72]? = some (.inl 7) ∧ 72 < 99) rfl rfl hg_s1 ?_
  refine en_aload_n mc107_17 rfl ?_
  refine en_getI mv107 mc107_18 (lk_f7_89) (⟨rfl, by decide⟩ : mt_kd[72]? = some (.inl 7) ∧ 72 < 99) (Or.inl rfl) ?_
  refine en_if_gt 49 mc107_21 (by decide) ((mr_ok_putI (a := 72) (k := 0) ho hg_s1).2.1 72 0 (by unfold mr_lg; omega)) (fun q => ?_) (fun q => ?_)
  · replace h := h.1 q
    exact h
  · replace h := h.2 q
    obtain ⟨g1, h⟩ := h
    obtain ⟨g2, h⟩ := h
    refine en_iload_n mc107_24 rfl ?_
    refine en_iconst mc107_25 ?_
    refine en_aload_n mc107_26 rfl ?_
    refine en_getR (b := 77) mv107 mc107_27 (lk_f7_22) (⟨rfl, by decide⟩ : mt_kd[72]? = some (.inl 7) ∧ 72 < 99) rfl (mk_fc (mr_ok_putI (a := 72) (k := 0) ho hg_s1) (by decide +kernel)) ?_
    refine en_iload_n mc107_30 rfl ?_
    refine en_iald mc107_31 (⟨rfl, by decide, by decide⟩ : mt_kd[77]? = some (.inr (.int, 9)) ∧ 77 < 99 ∧ 9 < 2147483648) g1 g2 ?_
    refine en_iconst mc107_32 ?_
    refine en_isub mc107_33 ?_
    refine en_callI (lz := [mm_i l2, mm_i 0, mm_i (((mm_putN M 72 0 s1).1 77 l1) - 1)]) mv107 mc107_34 rfl rfl (lk_m7_135) mv33 rfl (by decide) rfl (mk_cokS rfl) rfl (mk_nh rfl _) (mr_ok_putI (a := 72) (k := 0) ho hg_s1) ?_
    refine en_CI_mono h (fun x3 M4 h => ?_) (fun _ _ h => h)
    intro ho5
    replace h := h ho5
    obtain ⟨g6, h⟩ := h
    refine en_if_eq 49 mc107_37 (by decide) g6 (fun q => ?_) (fun q => ?_)
    · replace h := h.1 q
      exact h
    · replace h := h.2 q
      refine en_iload_n mc107_40 rfl ?_
      refine en_iconst mc107_41 ?_
      refine en_iconst mc107_42 ?_
      refine en_callI (lz := [mm_i l3, mm_i 0, mm_i 2]) mv107 mc107_43 rfl rfl (lk_m7_135) mv33 rfl (by decide) rfl (mk_cokS rfl) rfl (mk_nh rfl _) ho5 ?_
      refine en_CI_mono h (fun x7 M8 h => ?_) (fun _ _ h => h)
      intro ho9
      replace h := h ho9
      obtain ⟨g10, h⟩ := h
      refine en_if_ne 64 mc107_46 (by decide) g10 (fun q => ?_) (fun q => ?_)
      · replace h := h.1 q
        refine en_bipush mc107_64 (by decide) ?_
        refine en_iload_n mc107_66 rfl ?_
        refine en_imul mc107_67 ?_
        refine en_iload_n mc107_68 rfl ?_
        refine en_iadd mc107_69 ?_
        refine en_istore (ls' := [mm_r 72, mm_i l1, mm_i l2, mm_i l3, mm_i ((102 * l1) + l2)]) mc107_70 (Nat.le_of_ble_eq_true rfl) rfl ?_
        refine en_iload_n mc107_72 rfl ?_
        refine en_if_ne 86 mc107_73 (by decide) hg_l3 (fun q => ?_) (fun q => ?_)
        · replace h := h.1 q
          refine en_iload_n mc107_86 rfl ?_
          refine en_iconst mc107_87 ?_
          refine en_icmp_ne 101 mc107_88 (by decide) hg_l3 (⟨by decide, by decide⟩ : mr_rg 1) (fun q => ?_) (fun q => ?_)
          · replace h := h.1 q
            obtain ⟨g11, h⟩ := h
            obtain ⟨g12, h⟩ := h
            refine en_aload_n mc107_101 rfl ?_
            refine en_getR (b := 76) mv107 mc107_102 (lk_f7_19) (⟨rfl, by decide⟩ : mt_kd[72]? = some (.inl 7) ∧ 72 < 99) rfl (mk_fc ho9 (by decide +kernel)) ?_
            refine en_iload mc107_105 rfl ?_
            refine en_iald mc107_107 (⟨rfl, by decide, by decide⟩ : mt_kd[76]? = some (.inr (.int, 918)) ∧ 76 < 99 ∧ 918 < 2147483648) g11 g12 ?_
            exact en_iret mv107 mc107_108 rfl h
          · replace h := h.2 q
            obtain ⟨g13, h⟩ := h
            obtain ⟨g14, h⟩ := h
            refine en_aload_n mc107_91 rfl ?_
            refine en_getR (b := 74) mv107 mc107_92 (lk_f7_13) (⟨rfl, by decide⟩ : mt_kd[72]? = some (.inl 7) ∧ 72 < 99) rfl (mk_fc ho9 (by decide +kernel)) ?_
            refine en_iload mc107_95 rfl ?_
            refine en_iald mc107_97 (⟨rfl, by decide, by decide⟩ : mt_kd[74]? = some (.inr (.int, 918)) ∧ 74 < 99 ∧ 918 < 2147483648) g13 g14 ?_
            refine en_goto 108 mc107_98 (by decide) ?_
            exact en_iret mv107 mc107_108 rfl h
        · replace h := h.2 q
          obtain ⟨g15, h⟩ := h
          obtain ⟨g16, h⟩ := h
          refine en_aload_n mc107_76 rfl ?_
          refine en_getR (b := 73) mv107 mc107_77 (lk_f7_7) (⟨rfl, by decide⟩ : mt_kd[72]? = some (.inl 7) ∧ 72 < 99) rfl (mk_fc ho9 (by decide +kernel)) ?_
          refine en_iload mc107_80 rfl ?_
          refine en_iald mc107_82 (⟨rfl, by decide, by decide⟩ : mt_kd[73]? = some (.inr (.int, 918)) ∧ 73 < 99 ∧ 918 < 2147483648) g15 g16 ?_
          refine en_goto 108 mc107_83 (by decide) ?_
          exact en_iret mv107 mc107_108 rfl h
      · replace h := h.2 q
        exact h
theorem vc107_49 {sc : Nat × (Int → Int)} {Q : mm_R → mm_M → Prop} {M : mm_M} {l1 : Int} {l2 : Int} {l3 : Int} (ho : mr_ok M)
    (h : ((M.1 72 0) ≤ 0 → Q (.inl (some (mm_i (-2001)))) M) ∧ (¬ (M.1 72 0) ≤ 0 → Q (.inl (some (mm_i 0))) M)) : en_R sc 107 49 [mm_r 72, mm_i l1, mm_i l2, mm_i l3, mm_u] [] M Q := by
  refine en_aload_n mc107_49 rfl ?_
  refine en_getI mv107 mc107_50 (lk_f7_89) (⟨rfl, by decide⟩ : mt_kd[72]? = some (.inl 7) ∧ 72 < 99) (Or.inl rfl) ?_
  refine en_if_le 60 mc107_53 (by decide) (ho.2.1 72 0 (by unfold mr_lg; omega)) (fun q => ?_) (fun q => ?_)
  · replace h := h.1 q
    refine en_sipush mc107_60 (by decide) ?_
    exact en_iret mv107 mc107_63 rfl h
  · replace h := h.2 q
    refine en_iconst mc107_56 ?_
    refine en_goto 63 mc107_57 (by decide) ?_
    exact en_iret mv107 mc107_63 rfl h
/-! 108: CellAreas.stretch(IIII)I -/
theorem mc108_0 : mr_C 108 0 = some (.iload_n 1, 1) := rfl
theorem mc108_1 : mr_C 108 1 = some (.invokestatic 61, 3) := rfl
theorem mc108_4 : mr_C 108 4 = some (.aload_n 0, 1) := rfl
theorem mc108_5 : mr_C 108 5 = some (.getfield 11, 3) := rfl
theorem mc108_8 : mr_C 108 8 = some (.iload_n 1, 1) := rfl
theorem mc108_9 : mr_C 108 9 = some (.aaload, 1) := rfl
theorem mc108_10 : mr_C 108 10 = some (.astore 5, 2) := rfl
theorem mc108_12 : mr_C 108 12 = some (.iload_n 2, 1) := rfl
theorem mc108_13 : mr_C 108 13 = some (.ifCond .lt (33), 3) := rfl
theorem mc108_16 : mr_C 108 16 = some (.iload_n 2, 1) := rfl
theorem mc108_17 : mr_C 108 17 = some (.aload 5, 2) := rfl
theorem mc108_19 : mr_C 108 19 = some (.getfield 118, 3) := rfl
theorem mc108_22 : mr_C 108 22 = some (.if_icmp .ge (24), 3) := rfl
theorem mc108_25 : mr_C 108 25 = some (.iload_n 3, 1) := rfl
theorem mc108_26 : mr_C 108 26 = some (.ifCond .lt (20), 3) := rfl
theorem mc108_29 : mr_C 108 29 = some (.iload_n 3, 1) := rfl
theorem mc108_30 : mr_C 108 30 = some (.aload 5, 2) := by decide +kernel
theorem mc108_32 : mr_C 108 32 = some (.iload_n 2, 1) := by decide +kernel
theorem mc108_33 : mr_C 108 33 = some (.invokevirtual 153, 3) := by decide +kernel
theorem mc108_36 : mr_C 108 36 = some (.aload 5, 2) := by decide +kernel
theorem mc108_38 : mr_C 108 38 = some (.iload_n 2, 1) := by decide +kernel
theorem mc108_39 : mr_C 108 39 = some (.invokevirtual 156, 3) := by decide +kernel
theorem mc108_42 : mr_C 108 42 = some (.isub, 1) := by decide +kernel
theorem mc108_43 : mr_C 108 43 = some (.if_icmp .lt (7), 3) := by decide +kernel
theorem mc108_46 : mr_C 108 46 = some (.sipush (-2001), 3) := by decide +kernel
theorem mc108_49 : mr_C 108 49 = some (.ireturn, 1) := by decide +kernel
theorem mc108_50 : mr_C 108 50 = some (.iload 4, 2) := by decide +kernel
theorem mc108_52 : mr_C 108 52 = some (.lookupswitch (58) #[(0, 28), (1, 43)], 28) := by decide +kernel
theorem mc108_80 : mr_C 108 80 = some (.aload 5, 2) := by decide +kernel
theorem mc108_82 : mr_C 108 82 = some (.getfield 159, 3) := by decide +kernel
theorem mc108_85 : mr_C 108 85 = some (.aload 5, 2) := by decide +kernel
theorem mc108_87 : mr_C 108 87 = some (.iload_n 2, 1) := by decide +kernel
theorem mc108_88 : mr_C 108 88 = some (.invokevirtual 156, 3) := by decide +kernel
theorem mc108_91 : mr_C 108 91 = some (.iload_n 3, 1) := by decide +kernel
theorem mc108_92 : mr_C 108 92 = some (.iadd, 1) := by decide +kernel
theorem mc108_93 : mr_C 108 93 = some (.iaload, 1) := by decide +kernel
theorem mc108_94 : mr_C 108 94 = some (.ireturn, 1) := by decide +kernel
theorem mc108_95 : mr_C 108 95 = some (.aload 5, 2) := by decide +kernel
theorem mc108_97 : mr_C 108 97 = some (.getfield 162, 3) := by decide +kernel
theorem mc108_100 : mr_C 108 100 = some (.aload 5, 2) := by decide +kernel
theorem mc108_102 : mr_C 108 102 = some (.iload_n 2, 1) := by decide +kernel
theorem mc108_103 : mr_C 108 103 = some (.invokevirtual 156, 3) := by decide +kernel
theorem mc108_106 : mr_C 108 106 = some (.iload_n 3, 1) := by decide +kernel
theorem mc108_107 : mr_C 108 107 = some (.iadd, 1) := by decide +kernel
theorem mc108_108 : mr_C 108 108 = some (.iaload, 1) := by decide +kernel
theorem mc108_109 : mr_C 108 109 = some (.ireturn, 1) := by decide +kernel
theorem mc108_110 : mr_C 108 110 = some (.sipush (-2001), 3) := by decide +kernel
theorem mc108_113 : mr_C 108 113 = some (.ireturn, 1) := by decide +kernel
theorem vc108_0 {sc : Nat × (Int → Int)} {Q : mm_R → mm_M → Prop} {M : mm_M} {l1 : Int} {l2 : Int} {l3 : Int} {l4 : Int} (ho : mr_ok M) (hg_l2 : mr_rg l2) (hg_l3 : mr_rg l3) (hg_l4 : mr_rg l4)
    (h : en_CV sc 9 [mm_i l1] M (fun M2 => mr_ok M2 → 0 ≤ l1 ∧ (l1 < 8 ∧ (∃ b6, M2.2.1 1 l1 = some b6 ∧ mr_A b6 ∧ ((l2 < 0 → Q (.inl (some (mm_i (-2001)))) M2) ∧ (¬ l2 < 0 → ((M2.1 b6 0) ≤ l2 → Q (.inl (some (mm_i (-2001)))) M2) ∧ (¬ (M2.1 b6 0) ≤ l2 → (l3 < 0 → Q (.inl (some (mm_i (-2001)))) M2) ∧ (¬ l3 < 0 → en_CI sc 51 [mm_r b6, mm_i l2] M2 (fun x8 M9 => mr_ok M9 → en_CI sc 50 [mm_r b6, mm_i l2] M9 (fun x11 M12 => mr_ok M12 → mr_rg (x8 - x11) ∧ ((l3 < (x8 - x11) → (l4 = 0 → en_CI sc 50 [mm_r b6, mm_i l2] M12 (fun x15 M16 => mr_ok M16 → 0 ≤ (x15 + l3) ∧ ((x15 + l3) < 400 ∧ (Q (.inl (some (mm_i (M16.1 (b6 + 4) (x15 + l3))))) M16))) (fun e M9 => Q (.inr e) M9)) ∧ (l4 = 1 → en_CI sc 50 [mm_r b6, mm_i l2] M12 (fun x20 M21 => mr_ok M21 → 0 ≤ (x20 + l3) ∧ ((x20 + l3) < 400 ∧ (Q (.inl (some (mm_i (M21.1 (b6 + 5) (x20 + l3))))) M21))) (fun e M9 => Q (.inr e) M9)) ∧ (l4 ≠ 0 → l4 ≠ 1 → Q (.inl (some (mm_i (-2001)))) M12)) ∧ (¬ l3 < (x8 - x11) → Q (.inl (some (mm_i (-2001)))) M12))) (fun e M9 => Q (.inr e) M9)) (fun e M9 => Q (.inr e) M9)))))))) (fun e M9 => Q (.inr e) M9)) : en_R sc 108 0 [mm_r 0, mm_i l1, mm_i l2, mm_i l3, mm_i l4, mm_u] [] M Q := by
  refine en_iload_n mc108_0 rfl ?_
  refine en_callV (lz := [mm_i l1]) mv108 mc108_1 rfl rfl (lk_m6_61) mv9 rfl (by decide) rfl (mk_cokS rfl) rfl (mk_nh rfl _) ho ?_
  refine en_CV_mono h (fun M2 h => ?_) (fun _ _ h => h)
  intro ho3
  replace h := h ho3
  obtain ⟨g4, h⟩ := h
  obtain ⟨g5, h⟩ := h
  refine en_aload_n mc108_4 rfl ?_
  refine en_getR (b := 1) mv108 mc108_5 (lk_f6_11) (⟨rfl, by decide⟩ : mt_kd[0]? = some (.inl 6) ∧ 0 < 99) rfl (mk_fc ho3 (by decide +kernel)) ?_
  refine en_iload_n mc108_8 rfl ?_
  obtain ⟨b6, g7, hA_b6_, h⟩ := h
  refine en_aald mc108_9 g4 g5 g7 ?_
  refine en_astore (ls' := [mm_r 0, mm_i l1, mm_i l2, mm_i l3, mm_i l4, mm_r b6]) mc108_10 (Nat.le_of_ble_eq_true rfl) rfl ?_
  refine en_iload_n mc108_12 rfl ?_
  refine en_if_lt 46 mc108_13 (by decide) hg_l2 (fun q => ?_) (fun q => ?_)
  · replace h := h.1 q
    refine en_sipush mc108_46 (by decide) ?_
    exact en_iret mv108 mc108_49 rfl h
  · replace h := h.2 q
    refine en_iload_n mc108_16 rfl ?_
    refine en_aload mc108_17 rfl ?_
    refine en_getI mv108 mc108_19 (lk_f6_118) (mk_A0 hA_b6_) (Or.inl rfl) ?_
    refine en_icmp_ge 46 mc108_22 (by decide) hg_l2 (ho3.2.1 b6 0 (mk_nA0 hA_b6_ _)) (fun q => ?_) (fun q => ?_)
    · replace h := h.1 q
      refine en_sipush mc108_46 (by decide) ?_
      exact en_iret mv108 mc108_49 rfl h
    · replace h := h.2 q
      refine en_iload_n mc108_25 rfl ?_
      refine en_if_lt 46 mc108_26 (by decide) hg_l3 (fun q => ?_) (fun q => ?_)
      · replace h := h.1 q
        refine en_sipush mc108_46 (by decide) ?_
        exact en_iret mv108 mc108_49 rfl h
      · replace h := h.2 q
        refine en_iload_n mc108_29 rfl ?_
        refine en_aload mc108_30 rfl ?_
        refine en_iload_n mc108_32 rfl ?_
        refine en_callI (lz := [mm_r b6, mm_i l2]) mv108 mc108_33 rfl rfl (lk_m6_153) mv51 rfl (by decide) rfl (mk_cokV rfl (mk_A0 hA_b6_)) rfl (mk_nh rfl _) ho3 ?_
        refine en_CI_mono h (fun x8 M9 h => ?_) (fun _ _ h => h)
        intro ho10
        replace h := h ho10
        refine en_aload mc108_36 rfl ?_
        refine en_iload_n mc108_38 rfl ?_
        refine en_callI (lz := [mm_r b6, mm_i l2]) mv108 mc108_39 rfl rfl (lk_m6_156) mv50 rfl (by decide) rfl (mk_cokV rfl (mk_A0 hA_b6_)) rfl (mk_nh rfl _) ho10 ?_
        refine en_CI_mono h (fun x11 M12 h => ?_) (fun _ _ h => h)
        intro ho13
        replace h := h ho13
        obtain ⟨g14, h⟩ := h
        refine en_isub mc108_42 ?_
        refine en_icmp_lt 50 mc108_43 (by decide) hg_l3 g14 (fun q => ?_) (fun q => ?_)
        · replace h := h.1 q
          refine en_iload mc108_50 rfl ?_
          by_cases q0 : l4 = 0
          · replace h := h.1 q0
            refine en_lsw 80 mc108_52 hg_l4 (by decide) (by first | (rw [q0]; done) | (rw [q0]; rfl)) (by decide) ?_
            refine en_aload mc108_80 rfl ?_
            refine en_getR (b := (b6 + 4)) mv108 mc108_82 (lk_f6_159) (mk_A0 hA_b6_) rfl (mk_fA4 hA_b6_ ho13) ?_
            refine en_aload mc108_85 rfl ?_
            refine en_iload_n mc108_87 rfl ?_
            refine en_callI (lz := [mm_r b6, mm_i l2]) mv108 mc108_88 rfl rfl (lk_m6_156) mv50 rfl (by decide) rfl (mk_cokV rfl (mk_A0 hA_b6_)) rfl (mk_nh rfl _) ho13 ?_
            refine en_CI_mono h (fun x15 M16 h => ?_) (fun _ _ h => h)
            intro ho17
            replace h := h ho17
            obtain ⟨g18, h⟩ := h
            obtain ⟨g19, h⟩ := h
            refine en_iload_n mc108_91 rfl ?_
            refine en_iadd mc108_92 ?_
            refine en_iald mc108_93 (mk_A4 hA_b6_) g18 g19 ?_
            exact en_iret mv108 mc108_94 rfl h
          by_cases q1 : l4 = 1
          · replace h := h.2.1 q1
            refine en_lsw 95 mc108_52 hg_l4 (by decide) (by first | (rw [q1]; done) | (rw [q1]; rfl)) (by decide) ?_
            refine en_aload mc108_95 rfl ?_
            refine en_getR (b := (b6 + 5)) mv108 mc108_97 (lk_f6_162) (mk_A0 hA_b6_) rfl (mk_fA5 hA_b6_ ho13) ?_
            refine en_aload mc108_100 rfl ?_
            refine en_iload_n mc108_102 rfl ?_
            refine en_callI (lz := [mm_r b6, mm_i l2]) mv108 mc108_103 rfl rfl (lk_m6_156) mv50 rfl (by decide) rfl (mk_cokV rfl (mk_A0 hA_b6_)) rfl (mk_nh rfl _) ho13 ?_
            refine en_CI_mono h (fun x20 M21 h => ?_) (fun _ _ h => h)
            intro ho22
            replace h := h ho22
            obtain ⟨g23, h⟩ := h
            obtain ⟨g24, h⟩ := h
            refine en_iload_n mc108_106 rfl ?_
            refine en_iadd mc108_107 ?_
            refine en_iald mc108_108 (mk_A5 hA_b6_) g23 g24 ?_
            exact en_iret mv108 mc108_109 rfl h
          replace h := h.2.2 q0 q1
          refine en_lsw 110 mc108_52 hg_l4 (by decide) (mk_lsw2 q0 q1) (by decide) ?_
          refine en_sipush mc108_110 (by decide) ?_
          exact en_iret mv108 mc108_113 rfl h
        · replace h := h.2 q
          refine en_sipush mc108_46 (by decide) ?_
          exact en_iret mv108 mc108_49 rfl h
