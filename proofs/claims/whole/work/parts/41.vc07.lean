/-! 170: CellAreas.take(III)I -/
theorem mc170_0 : mr_C 170 0 = some (.iload_n 1, 1) := by decide +kernel
theorem mc170_1 : mr_C 170 1 = some (.invokestatic 61, 3) := by decide +kernel
theorem mc170_4 : mr_C 170 4 = some (.iload_n 2, 1) := by decide +kernel
theorem mc170_5 : mr_C 170 5 = some (.invokestatic 61, 3) := by decide +kernel
theorem mc170_8 : mr_C 170 8 = some (.aload_n 0, 1) := by decide +kernel
theorem mc170_9 : mr_C 170 9 = some (.iload_n 2, 1) := by decide +kernel
theorem mc170_10 : mr_C 170 10 = some (.invokevirtual 183, 3) := by decide +kernel
theorem mc170_13 : mr_C 170 13 = some (.astore 4, 2) := by decide +kernel
theorem mc170_15 : mr_C 170 15 = some (.iload_n 3, 1) := by decide +kernel
theorem mc170_16 : mr_C 170 16 = some (.iconst 0, 1) := by decide +kernel
theorem mc170_17 : mr_C 170 17 = some (.aload 4, 2) := by decide +kernel
theorem mc170_19 : mr_C 170 19 = some (.getfield 187, 3) := by decide +kernel
theorem mc170_22 : mr_C 170 22 = some (.iconst 1, 1) := by decide +kernel
theorem mc170_23 : mr_C 170 23 = some (.isub, 1) := by decide +kernel
theorem mc170_24 : mr_C 170 24 = some (.invokestatic 65, 3) := by decide +kernel
theorem mc170_27 : mr_C 170 27 = some (.aload_n 0, 1) := by decide +kernel
theorem mc170_28 : mr_C 170 28 = some (.getfield 11, 3) := by decide +kernel
theorem mc170_31 : mr_C 170 31 = some (.iload_n 2, 1) := by decide +kernel
theorem mc170_32 : mr_C 170 32 = some (.aaload, 1) := by decide +kernel
theorem mc170_33 : mr_C 170 33 = some (.astore 5, 2) := by decide +kernel
theorem mc170_35 : mr_C 170 35 = some (.aload_n 0, 1) := by decide +kernel
theorem mc170_36 : mr_C 170 36 = some (.getfield 18, 3) := by decide +kernel
theorem mc170_39 : mr_C 170 39 = some (.invokevirtual 76, 3) := by decide +kernel
theorem mc170_42 : mr_C 170 42 = some (.iconst 0, 1) := by decide +kernel
theorem mc170_43 : mr_C 170 43 = some (.istore 6, 2) := by decide +kernel
theorem mc170_45 : mr_C 170 45 = some (.iload 6, 2) := by decide +kernel
theorem mc170_47 : mr_C 170 47 = some (.aload 5, 2) := by decide +kernel
theorem mc170_49 : mr_C 170 49 = some (.getfield 118, 3) := by decide +kernel
theorem mc170_52 : mr_C 170 52 = some (.if_icmp .ge (105), 3) := by decide +kernel
theorem mc170_55 : mr_C 170 55 = some (.aload_n 0, 1) := by decide +kernel
theorem mc170_56 : mr_C 170 56 = some (.getfield 25, 3) := by decide +kernel
theorem mc170_59 : mr_C 170 59 = some (.invokevirtual 69, 3) := by decide +kernel
theorem mc170_62 : mr_C 170 62 = some (.aload 5, 2) := by decide +kernel
theorem mc170_64 : mr_C 170 64 = some (.iload 6, 2) := by decide +kernel
theorem mc170_66 : mr_C 170 66 = some (.invokevirtual 156, 3) := by decide +kernel
theorem mc170_69 : mr_C 170 69 = some (.istore 7, 2) := by decide +kernel
theorem mc170_71 : mr_C 170 71 = some (.iload 7, 2) := by decide +kernel
theorem mc170_73 : mr_C 170 73 = some (.aload 5, 2) := by decide +kernel
theorem mc170_75 : mr_C 170 75 = some (.iload 6, 2) := by decide +kernel
theorem mc170_77 : mr_C 170 77 = some (.invokevirtual 153, 3) := by decide +kernel
theorem mc170_80 : mr_C 170 80 = some (.if_icmp .ge (44), 3) := by decide +kernel
theorem mc170_83 : mr_C 170 83 = some (.aload 4, 2) := by decide +kernel
theorem mc170_85 : mr_C 170 85 = some (.getfield 213, 3) := by decide +kernel
theorem mc170_88 : mr_C 170 88 = some (.iload 7, 2) := by decide +kernel
theorem mc170_90 : mr_C 170 90 = some (.iaload, 1) := by decide +kernel
theorem mc170_91 : mr_C 170 91 = some (.iload_n 3, 1) := by decide +kernel
theorem mc170_92 : mr_C 170 92 = some (.if_icmp .ne (26), 3) := by decide +kernel
theorem mc170_95 : mr_C 170 95 = some (.aload_n 0, 1) := by decide +kernel
theorem mc170_96 : mr_C 170 96 = some (.getfield 25, 3) := by decide +kernel
theorem mc170_99 : mr_C 170 99 = some (.aload 5, 2) := by decide +kernel
theorem mc170_101 : mr_C 170 101 = some (.getfield 159, 3) := by decide +kernel
theorem mc170_104 : mr_C 170 104 = some (.iload 7, 2) := by decide +kernel
theorem mc170_106 : mr_C 170 106 = some (.iaload, 1) := by decide +kernel
theorem mc170_107 : mr_C 170 107 = some (.aload 5, 2) := by decide +kernel
theorem mc170_109 : mr_C 170 109 = some (.getfield 162, 3) := by decide +kernel
theorem mc170_112 : mr_C 170 112 = some (.iload 7, 2) := by decide +kernel
theorem mc170_114 : mr_C 170 114 = some (.iaload, 1) := by decide +kernel
theorem mc170_115 : mr_C 170 115 = some (.invokevirtual 72, 3) := by decide +kernel
theorem mc170_118 : mr_C 170 118 = some (.iinc 7 (1), 3) := by decide +kernel
theorem mc170_121 : mr_C 170 121 = some (.goto (-50), 3) := by decide +kernel
theorem mc170_124 : mr_C 170 124 = some (.aload_n 0, 1) := by decide +kernel
theorem mc170_125 : mr_C 170 125 = some (.getfield 18, 3) := by decide +kernel
theorem mc170_128 : mr_C 170 128 = some (.aload 5, 2) := by decide +kernel
theorem mc170_130 : mr_C 170 130 = some (.getfield 125, 3) := by decide +kernel
theorem mc170_133 : mr_C 170 133 = some (.iload 6, 2) := by decide +kernel
theorem mc170_135 : mr_C 170 135 = some (.iaload, 1) := by decide +kernel
theorem mc170_136 : mr_C 170 136 = some (.aload 5, 2) := by decide +kernel
theorem mc170_138 : mr_C 170 138 = some (.getfield 129, 3) := by decide +kernel
theorem mc170_141 : mr_C 170 141 = some (.iload 6, 2) := by decide +kernel
theorem mc170_143 : mr_C 170 143 = some (.iaload, 1) := by decide +kernel
theorem mc170_144 : mr_C 170 144 = some (.aload_n 0, 1) := by decide +kernel
theorem mc170_145 : mr_C 170 145 = some (.getfield 25, 3) := by decide +kernel
theorem mc170_148 : mr_C 170 148 = some (.invokevirtual 79, 3) := by decide +kernel
theorem mc170_151 : mr_C 170 151 = some (.iinc 6 (1), 3) := by decide +kernel
theorem mc170_154 : mr_C 170 154 = some (.goto (-109), 3) := by decide +kernel
theorem mc170_157 : mr_C 170 157 = some (.aload_n 0, 1) := by decide +kernel
theorem mc170_158 : mr_C 170 158 = some (.iload_n 1, 1) := by decide +kernel
theorem mc170_159 : mr_C 170 159 = some (.invokevirtual 83, 3) := by decide +kernel
theorem mc170_162 : mr_C 170 162 = some (.ireturn, 1) := by decide +kernel
theorem vc170_0 {sc : Nat × (Int → Int)} {Q : mm_R → mm_M → Prop} {M : mm_M} {l1 : Int} {l2 : Int} {l3 : Int} (ho : mr_ok M)
    (h : en_CV sc 9 [mm_i l1] M (fun M2 => mr_ok M2 → en_CV sc 9 [mm_i l2] M2 (fun M5 => mr_ok M5 → en_CR sc 137 [mm_r 0, mm_i l2] M5 (fun x7 M8 => x7 = 21 ∧ (mr_ok M8 → en_CV sc 10 [mm_i l3, mm_i 0, mm_i ((M8.1 21 0) - 1)] M8 (fun M11 => mr_ok M11 → 0 ≤ l2 ∧ (l2 < 8 ∧ (∃ b15, M11.2.1 1 l2 = some b15 ∧ mr_A b15 ∧ (en_CV sc 18 [mm_r 2] M11 (fun M18 => mr_ok M18 → en_R sc 170 45 [mm_r 0, mm_i l1, mm_i l2, mm_i l3, mm_r 21, mm_r b15, mm_i 0, mm_u] [] M18 Q) (fun e M9 => Q (.inr e) M9))))) (fun e M9 => Q (.inr e) M9))) (fun e M9 => Q (.inr e) M9)) (fun e M9 => Q (.inr e) M9)) (fun e M9 => Q (.inr e) M9)) : en_R sc 170 0 [mm_r 0, mm_i l1, mm_i l2, mm_i l3, mm_u, mm_u, mm_u, mm_u] [] M Q := by
  refine en_iload_n mc170_0 rfl ?_
  refine en_callV (lz := [mm_i l1]) mv170 mc170_1 rfl rfl (lk_m6_61) mv9 rfl (by decide) rfl (mk_cokS rfl) rfl (mk_nh rfl _) ho ?_
  refine en_CV_mono h (fun M2 h => ?_) (fun _ _ h => h)
  intro ho3
  replace h := h ho3
  refine en_iload_n mc170_4 rfl ?_
  refine en_callV (lz := [mm_i l2]) mv170 mc170_5 rfl rfl (lk_m6_61) mv9 rfl (by decide) rfl (mk_cokS rfl) rfl (mk_nh rfl _) ho3 ?_
  refine en_CV_mono h (fun M5 h => ?_) (fun _ _ h => h)
  intro ho6
  replace h := h ho6
  refine en_aload_n mc170_8 rfl ?_
  refine en_iload_n mc170_9 rfl ?_
  refine en_callR (lz := [mm_r 0, mm_i l2]) mv170 mc170_10 rfl rfl (lk_m6_183) mv137 rfl (by decide) rfl (mk_cokV rfl (⟨rfl, by decide⟩ : mt_kd[0]? = some (.inl 6) ∧ 0 < 99)) rfl (mk_nh rfl _) ho6 ?_
  refine en_CR_mono h (fun x7 M8 h => ?_) (fun _ _ h => h)
  obtain ⟨rfl, h⟩ := h
  intro ho9
  replace h := h ho9
  refine en_astore (ls' := [mm_r 0, mm_i l1, mm_i l2, mm_i l3, mm_r 21, mm_u, mm_u, mm_u]) mc170_13 (Nat.le_of_ble_eq_true rfl) rfl ?_
  refine en_iload_n mc170_15 rfl ?_
  refine en_iconst mc170_16 ?_
  refine en_aload mc170_17 rfl ?_
  refine en_getI mv170 mc170_19 (lk_f6_187) (⟨rfl, by decide⟩ : mt_kd[21]? = some (.inl 4) ∧ 21 < 99) (Or.inl rfl) ?_
  refine en_iconst mc170_22 ?_
  refine en_isub mc170_23 ?_
  refine en_callV (lz := [mm_i l3, mm_i 0, mm_i ((M8.1 21 0) - 1)]) mv170 mc170_24 rfl rfl (lk_m6_65) mv10 rfl (by decide) rfl (mk_cokS rfl) rfl (mk_nh rfl _) ho9 ?_
  refine en_CV_mono h (fun M11 h => ?_) (fun _ _ h => h)
  intro ho12
  replace h := h ho12
  obtain ⟨g13, h⟩ := h
  obtain ⟨g14, h⟩ := h
  refine en_aload_n mc170_27 rfl ?_
  refine en_getR (b := 1) mv170 mc170_28 (lk_f6_11) (⟨rfl, by decide⟩ : mt_kd[0]? = some (.inl 6) ∧ 0 < 99) rfl (mk_fc ho12 (by decide +kernel)) ?_
  refine en_iload_n mc170_31 rfl ?_
  obtain ⟨b15, g16, hA_b15_, h⟩ := h
  refine en_aald mc170_32 g13 g14 g16 ?_
  refine en_astore (ls' := [mm_r 0, mm_i l1, mm_i l2, mm_i l3, mm_r 21, mm_r b15, mm_u, mm_u]) mc170_33 (Nat.le_of_ble_eq_true rfl) rfl ?_
  refine en_aload_n mc170_35 rfl ?_
  refine en_getR (b := 2) mv170 mc170_36 (lk_f6_18) (⟨rfl, by decide⟩ : mt_kd[0]? = some (.inl 6) ∧ 0 < 99) rfl (mk_fc ho12 (by decide +kernel)) ?_
  refine en_callV (lz := [mm_r 2]) mv170 mc170_39 rfl rfl (lk_m6_76) mv18 rfl (by decide) rfl (mk_cokV rfl (⟨rfl, by decide⟩ : mt_kd[2]? = some (.inl 2) ∧ 2 < 99)) rfl (mk_nh rfl _) ho12 ?_
  refine en_CV_mono h (fun M18 h => ?_) (fun _ _ h => h)
  intro ho19
  replace h := h ho19
  refine en_iconst mc170_42 ?_
  refine en_istore (ls' := [mm_r 0, mm_i l1, mm_i l2, mm_i l3, mm_r 21, mm_r b15, mm_i 0, mm_u]) mc170_43 (Nat.le_of_ble_eq_true rfl) rfl ?_
  exact h
theorem vc170_45 {sc : Nat × (Int → Int)} {Q : mm_R → mm_M → Prop} {M : mm_M} {l1 : Int} {l2 : Int} {l3 : Int} {l5 : Nat} {l6 : Int} {l7 : mm_V} (ho : mr_ok M) (hA_l5 : mr_A l5) (hg_l6 : mr_rg l6)
    (h : ((M.1 l5 0) ≤ l6 → en_CI sc 30 [mm_r 0, mm_i l1, mm_u] M (fun x1 M2 => mr_ok M2 → Q (.inl (some (mm_i x1))) M2) (fun e M9 => Q (.inr e) M9)) ∧ (¬ (M.1 l5 0) ≤ l6 → en_CV sc 12 [mm_r 11] M (fun M5 => mr_ok M5 → en_CI sc 50 [mm_r l5, mm_i l6] M5 (fun x7 M8 => mr_ok M8 → en_R sc 170 71 [mm_r 0, mm_i l1, mm_i l2, mm_i l3, mm_r 21, mm_r l5, mm_i l6, mm_i x7] [] M8 Q) (fun e M9 => Q (.inr e) M9)) (fun e M9 => Q (.inr e) M9))) : en_R sc 170 45 [mm_r 0, mm_i l1, mm_i l2, mm_i l3, mm_r 21, mm_r l5, mm_i l6, l7] [] M Q := by
  refine en_iload mc170_45 rfl ?_
  refine en_aload mc170_47 rfl ?_
  refine en_getI mv170 mc170_49 (lk_f6_118) (mk_A0 hA_l5) (Or.inl rfl) ?_
  refine en_icmp_ge 157 mc170_52 (by decide) hg_l6 (ho.2.1 l5 0 (mk_nA0 hA_l5 _)) (fun q => ?_) (fun q => ?_)
  · replace h := h.1 q
    refine en_aload_n mc170_157 rfl ?_
    refine en_iload_n mc170_158 rfl ?_
    refine en_callI (lz := [mm_r 0, mm_i l1, mm_u]) mv170 mc170_159 rfl rfl (lk_m6_83) mv30 rfl (by decide) rfl (mk_cokV rfl (⟨rfl, by decide⟩ : mt_kd[0]? = some (.inl 6) ∧ 0 < 99)) rfl (mk_nh rfl _) ho ?_
    refine en_CI_mono h (fun x1 M2 h => ?_) (fun _ _ h => h)
    intro ho3
    replace h := h ho3
    exact en_iret mv170 mc170_162 rfl h
  · replace h := h.2 q
    refine en_aload_n mc170_55 rfl ?_
    refine en_getR (b := 11) mv170 mc170_56 (lk_f6_25) (⟨rfl, by decide⟩ : mt_kd[0]? = some (.inl 6) ∧ 0 < 99) rfl (mk_fc ho (by decide +kernel)) ?_
    refine en_callV (lz := [mm_r 11]) mv170 mc170_59 rfl rfl (lk_m6_69) mv12 rfl (by decide) rfl (mk_cokV rfl (mk_R0 (by unfold mr_Rw; decide : mr_Rw 11))) rfl (mk_nh rfl _) ho ?_
    refine en_CV_mono h (fun M5 h => ?_) (fun _ _ h => h)
    intro ho6
    replace h := h ho6
    refine en_aload mc170_62 rfl ?_
    refine en_iload mc170_64 rfl ?_
    refine en_callI (lz := [mm_r l5, mm_i l6]) mv170 mc170_66 rfl rfl (lk_m6_156) mv50 rfl (by decide) rfl (mk_cokV rfl (mk_A0 hA_l5)) rfl (mk_nh rfl _) ho6 ?_
    refine en_CI_mono h (fun x7 M8 h => ?_) (fun _ _ h => h)
    intro ho9
    replace h := h ho9
    refine en_istore (ls' := [mm_r 0, mm_i l1, mm_i l2, mm_i l3, mm_r 21, mm_r l5, mm_i l6, mm_i x7]) mc170_69 (Nat.le_of_ble_eq_true rfl) rfl ?_
    exact h
theorem vc170_71 {sc : Nat × (Int → Int)} {Q : mm_R → mm_M → Prop} {M : mm_M} {l1 : Int} {l2 : Int} {l3 : Int} {l5 : Nat} {l6 : Int} {l7 : Int} (ho : mr_ok M) (hA_l5 : mr_A l5) (hg_l7 : mr_rg l7) (hg_l3 : mr_rg l3)
    (h : en_CI sc 51 [mm_r l5, mm_i l6] M (fun x1 M2 => mr_ok M2 → mr_rg x1 ∧ ((x1 ≤ l7 → 0 ≤ l6 ∧ (l6 < 100 ∧ (0 ≤ l6 ∧ (l6 < 100 ∧ (en_CV sc 29 [mm_r 2, mm_i (M2.1 (l5 + 1) l6), mm_i (M2.1 (l5 + 2) l6), mm_r 11, mm_u] M2 (fun M10 => mr_ok M10 → en_R sc 170 45 [mm_r 0, mm_i l1, mm_i l2, mm_i l3, mm_r 21, mm_r l5, mm_i (l6 + 1), mm_i l7] [] M10 Q) (fun e M9 => Q (.inr e) M9)))))) ∧ (¬ x1 ≤ l7 → 0 ≤ l7 ∧ (l7 < 400 ∧ (((M2.1 22 l7) ≠ l3 → en_R sc 170 71 [mm_r 0, mm_i l1, mm_i l2, mm_i l3, mm_r 21, mm_r l5, mm_i l6, mm_i (l7 + 1)] [] M2 Q) ∧ (¬ ((M2.1 22 l7) ≠ l3) → 0 ≤ l7 ∧ (l7 < 400 ∧ (0 ≤ l7 ∧ (l7 < 400 ∧ (en_CV sc 17 [mm_r 11, mm_i (M2.1 (l5 + 4) l7), mm_i (M2.1 (l5 + 5) l7)] M2 (fun M19 => mr_ok M19 → en_R sc 170 71 [mm_r 0, mm_i l1, mm_i l2, mm_i l3, mm_r 21, mm_r l5, mm_i l6, mm_i (l7 + 1)] [] M19 Q) (fun e M9 => Q (.inr e) M9))))))))))) (fun e M9 => Q (.inr e) M9)) : en_R sc 170 71 [mm_r 0, mm_i l1, mm_i l2, mm_i l3, mm_r 21, mm_r l5, mm_i l6, mm_i l7] [] M Q := by
  refine en_iload mc170_71 rfl ?_
  refine en_aload mc170_73 rfl ?_
  refine en_iload mc170_75 rfl ?_
  refine en_callI (lz := [mm_r l5, mm_i l6]) mv170 mc170_77 rfl rfl (lk_m6_153) mv51 rfl (by decide) rfl (mk_cokV rfl (mk_A0 hA_l5)) rfl (mk_nh rfl _) ho ?_
  refine en_CI_mono h (fun x1 M2 h => ?_) (fun _ _ h => h)
  intro ho3
  replace h := h ho3
  obtain ⟨g4, h⟩ := h
  refine en_icmp_ge 124 mc170_80 (by decide) hg_l7 g4 (fun q => ?_) (fun q => ?_)
  · replace h := h.1 q
    obtain ⟨g5, h⟩ := h
    obtain ⟨g6, h⟩ := h
    obtain ⟨g7, h⟩ := h
    obtain ⟨g8, h⟩ := h
    refine en_aload_n mc170_124 rfl ?_
    refine en_getR (b := 2) mv170 mc170_125 (lk_f6_18) (⟨rfl, by decide⟩ : mt_kd[0]? = some (.inl 6) ∧ 0 < 99) rfl (mk_fc ho3 (by decide +kernel)) ?_
    refine en_aload mc170_128 rfl ?_
    refine en_getR (b := (l5 + 1)) mv170 mc170_130 (lk_f6_125) (mk_A0 hA_l5) rfl (mk_fA1 hA_l5 ho3) ?_
    refine en_iload mc170_133 rfl ?_
    refine en_iald mc170_135 (mk_A1 hA_l5) g5 g6 ?_
    refine en_aload mc170_136 rfl ?_
    refine en_getR (b := (l5 + 2)) mv170 mc170_138 (lk_f6_129) (mk_A0 hA_l5) rfl (mk_fA2 hA_l5 ho3) ?_
    refine en_iload mc170_141 rfl ?_
    refine en_iald mc170_143 (mk_A2 hA_l5) g7 g8 ?_
    refine en_aload_n mc170_144 rfl ?_
    refine en_getR (b := 11) mv170 mc170_145 (lk_f6_25) (⟨rfl, by decide⟩ : mt_kd[0]? = some (.inl 6) ∧ 0 < 99) rfl (mk_fc ho3 (by decide +kernel)) ?_
    refine en_callV (lz := [mm_r 2, mm_i (M2.1 (l5 + 1) l6), mm_i (M2.1 (l5 + 2) l6), mm_r 11, mm_u]) mv170 mc170_148 rfl rfl (lk_m6_79) mv29 rfl (by decide) rfl (mk_cokV rfl (⟨rfl, by decide⟩ : mt_kd[2]? = some (.inl 2) ∧ 2 < 99)) rfl (mk_nh rfl _) ho3 ?_
    refine en_CV_mono h (fun M10 h => ?_) (fun _ _ h => h)
    intro ho11
    replace h := h ho11
    refine en_iinc (ls' := [mm_r 0, mm_i l1, mm_i l2, mm_i l3, mm_r 21, mm_r l5, mm_i (l6 + 1), mm_i l7]) mc170_151 rfl rfl ?_
    refine en_goto 45 mc170_154 (by decide) ?_
    exact h
  · replace h := h.2 q
    obtain ⟨g12, h⟩ := h
    obtain ⟨g13, h⟩ := h
    refine en_aload mc170_83 rfl ?_
    refine en_getR (b := 22) mv170 mc170_85 (lk_f6_213) (⟨rfl, by decide⟩ : mt_kd[21]? = some (.inl 4) ∧ 21 < 99) rfl (mk_fc ho3 (by decide +kernel)) ?_
    refine en_iload mc170_88 rfl ?_
    refine en_iald mc170_90 (⟨rfl, by decide, by decide⟩ : mt_kd[22]? = some (.inr (.int, 400)) ∧ 22 < 99 ∧ 400 < 2147483648) g12 g13 ?_
    refine en_iload_n mc170_91 rfl ?_
    refine en_icmp_ne 118 mc170_92 (by decide) (ho3.2.1 22 l7 (by unfold mr_lg; omega)) hg_l3 (fun q => ?_) (fun q => ?_)
    · replace h := h.1 q
      refine en_iinc (ls' := [mm_r 0, mm_i l1, mm_i l2, mm_i l3, mm_r 21, mm_r l5, mm_i l6, mm_i (l7 + 1)]) mc170_118 rfl rfl ?_
      refine en_goto 71 mc170_121 (by decide) ?_
      exact h
    · replace h := h.2 q
      obtain ⟨g14, h⟩ := h
      obtain ⟨g15, h⟩ := h
      obtain ⟨g16, h⟩ := h
      obtain ⟨g17, h⟩ := h
      refine en_aload_n mc170_95 rfl ?_
      refine en_getR (b := 11) mv170 mc170_96 (lk_f6_25) (⟨rfl, by decide⟩ : mt_kd[0]? = some (.inl 6) ∧ 0 < 99) rfl (mk_fc ho3 (by decide +kernel)) ?_
      refine en_aload mc170_99 rfl ?_
      refine en_getR (b := (l5 + 4)) mv170 mc170_101 (lk_f6_159) (mk_A0 hA_l5) rfl (mk_fA4 hA_l5 ho3) ?_
      refine en_iload mc170_104 rfl ?_
      refine en_iald mc170_106 (mk_A4 hA_l5) g14 g15 ?_
      refine en_aload mc170_107 rfl ?_
      refine en_getR (b := (l5 + 5)) mv170 mc170_109 (lk_f6_162) (mk_A0 hA_l5) rfl (mk_fA5 hA_l5 ho3) ?_
      refine en_iload mc170_112 rfl ?_
      refine en_iald mc170_114 (mk_A5 hA_l5) g16 g17 ?_
      refine en_callV (lz := [mm_r 11, mm_i (M2.1 (l5 + 4) l7), mm_i (M2.1 (l5 + 5) l7)]) mv170 mc170_115 rfl rfl (lk_m6_72) mv17 rfl (by decide) rfl (mk_cokV rfl (mk_R0 (by unfold mr_Rw; decide : mr_Rw 11))) rfl (mk_nh rfl _) ho3 ?_
      refine en_CV_mono h (fun M19 h => ?_) (fun _ _ h => h)
      intro ho20
      replace h := h ho20
      refine en_iinc (ls' := [mm_r 0, mm_i l1, mm_i l2, mm_i l3, mm_r 21, mm_r l5, mm_i l6, mm_i (l7 + 1)]) mc170_118 rfl rfl ?_
      refine en_goto 71 mc170_121 (by decide) ?_
      exact h
/-! 172: CellAreasModel.take(III)I -/
theorem mc172_0 : mr_C 172 0 = some (.aload_n 0, 1) := by decide +kernel
theorem mc172_1 : mr_C 172 1 = some (.iload_n 1, 1) := by decide +kernel
theorem mc172_2 : mr_C 172 2 = some (.iload_n 2, 1) := by decide +kernel
theorem mc172_3 : mr_C 172 3 = some (.invokevirtual 167, 3) := by decide +kernel
theorem mc172_6 : mr_C 172 6 = some (.ifCond .ne (5), 3) := by decide +kernel
theorem mc172_9 : mr_C 172 9 = some (.iconst 0, 1) := by decide +kernel
theorem mc172_10 : mr_C 172 10 = some (.ireturn, 1) := by decide +kernel
theorem mc172_11 : mr_C 172 11 = some (.aload_n 0, 1) := by decide +kernel
theorem mc172_12 : mr_C 172 12 = some (.iload_n 3, 1) := by decide +kernel
theorem mc172_13 : mr_C 172 13 = some (.iconst 0, 1) := by decide +kernel
theorem mc172_14 : mr_C 172 14 = some (.aload_n 0, 1) := by decide +kernel
theorem mc172_15 : mr_C 172 15 = some (.iload_n 2, 1) := by decide +kernel
theorem mc172_16 : mr_C 172 16 = some (.invokevirtual 258, 3) := by decide +kernel
theorem mc172_19 : mr_C 172 19 = some (.iconst 1, 1) := by decide +kernel
theorem mc172_20 : mr_C 172 20 = some (.isub, 1) := by decide +kernel
theorem mc172_21 : mr_C 172 21 = some (.invokestatic 135, 3) := by decide +kernel
theorem mc172_24 : mr_C 172 24 = some (.ifCond .eq (7), 3) := by decide +kernel
theorem mc172_27 : mr_C 172 27 = some (.iconst 0, 1) := by decide +kernel
theorem mc172_28 : mr_C 172 28 = some (.goto 4, 3) := by decide +kernel
theorem mc172_31 : mr_C 172 31 = some (.iconst 2, 1) := by decide +kernel
theorem mc172_32 : mr_C 172 32 = some (.putfield 89, 3) := by decide +kernel
theorem mc172_35 : mr_C 172 35 = some (.aload_n 0, 1) := by decide +kernel
theorem mc172_36 : mr_C 172 36 = some (.getfield 89, 3) := by decide +kernel
theorem mc172_39 : mr_C 172 39 = some (.ifCond .le (5), 3) := by decide +kernel
theorem mc172_42 : mr_C 172 42 = some (.iconst 0, 1) := by decide +kernel
theorem mc172_43 : mr_C 172 43 = some (.ireturn, 1) := by decide +kernel
theorem mc172_44 : mr_C 172 44 = some (.aload_n 0, 1) := by decide +kernel
theorem mc172_45 : mr_C 172 45 = some (.invokevirtual 139, 3) := by decide +kernel
theorem mc172_48 : mr_C 172 48 = some (.bipush 102, 2) := by decide +kernel
theorem mc172_50 : mr_C 172 50 = some (.iload_n 2, 1) := by decide +kernel
theorem mc172_51 : mr_C 172 51 = some (.imul, 1) := by decide +kernel
theorem mc172_52 : mr_C 172 52 = some (.istore 4, 2) := by decide +kernel
theorem mc172_54 : mr_C 172 54 = some (.iload 4, 2) := by decide +kernel
theorem mc172_56 : mr_C 172 56 = some (.aload_n 0, 1) := by decide +kernel
theorem mc172_57 : mr_C 172 57 = some (.iload_n 2, 1) := by decide +kernel
theorem mc172_58 : mr_C 172 58 = some (.invokevirtual 107, 3) := by decide +kernel
theorem mc172_61 : mr_C 172 61 = some (.if_icmp .ge (102), 3) := by decide +kernel
theorem mc172_64 : mr_C 172 64 = some (.aload_n 0, 1) := by decide +kernel
theorem mc172_65 : mr_C 172 65 = some (.iconst 0, 1) := by decide +kernel
theorem mc172_66 : mr_C 172 66 = some (.putfield 100, 3) := by decide +kernel
theorem mc172_69 : mr_C 172 69 = some (.aload_n 0, 1) := by decide +kernel
theorem mc172_70 : mr_C 172 70 = some (.getfield 16, 3) := by decide +kernel
theorem mc172_73 : mr_C 172 73 = some (.iload 4, 2) := by decide +kernel
theorem mc172_75 : mr_C 172 75 = some (.iaload, 1) := by decide +kernel
theorem mc172_76 : mr_C 172 76 = some (.istore 5, 2) := by decide +kernel
theorem mc172_78 : mr_C 172 78 = some (.iload 5, 2) := by decide +kernel
theorem mc172_80 : mr_C 172 80 = some (.aload_n 0, 1) := by decide +kernel
theorem mc172_81 : mr_C 172 81 = some (.getfield 16, 3) := by decide +kernel
theorem mc172_84 : mr_C 172 84 = some (.iload 4, 2) := by decide +kernel
theorem mc172_86 : mr_C 172 86 = some (.iaload, 1) := by decide +kernel
theorem mc172_87 : mr_C 172 87 = some (.aload_n 0, 1) := by decide +kernel
theorem mc172_88 : mr_C 172 88 = some (.getfield 19, 3) := by decide +kernel
theorem mc172_91 : mr_C 172 91 = some (.iload 4, 2) := by decide +kernel
theorem mc172_93 : mr_C 172 93 = some (.iaload, 1) := by decide +kernel
theorem mc172_94 : mr_C 172 94 = some (.iadd, 1) := by decide +kernel
theorem mc172_95 : mr_C 172 95 = some (.if_icmp .ge (44), 3) := by decide +kernel
theorem mc172_98 : mr_C 172 98 = some (.aload_n 0, 1) := by decide +kernel
theorem mc172_99 : mr_C 172 99 = some (.getfield 83, 3) := by decide +kernel
theorem mc172_102 : mr_C 172 102 = some (.iload 5, 2) := by decide +kernel
theorem mc172_104 : mr_C 172 104 = some (.sipush 402, 3) := by decide +kernel
theorem mc172_107 : mr_C 172 107 = some (.iload_n 2, 1) := by decide +kernel
theorem mc172_108 : mr_C 172 108 = some (.imul, 1) := by decide +kernel
theorem mc172_109 : mr_C 172 109 = some (.isub, 1) := by decide +kernel
theorem mc172_110 : mr_C 172 110 = some (.iaload, 1) := by decide +kernel
theorem mc172_111 : mr_C 172 111 = some (.iload_n 3, 1) := by decide +kernel
theorem mc172_112 : mr_C 172 112 = some (.if_icmp .ne (21), 3) := by decide +kernel
theorem mc172_115 : mr_C 172 115 = some (.aload_n 0, 1) := by decide +kernel
theorem mc172_116 : mr_C 172 116 = some (.aload_n 0, 1) := by decide +kernel
theorem mc172_117 : mr_C 172 117 = some (.getfield 25, 3) := by decide +kernel
theorem mc172_120 : mr_C 172 120 = some (.iload 5, 2) := by decide +kernel
theorem mc172_122 : mr_C 172 122 = some (.iaload, 1) := by decide +kernel
theorem mc172_123 : mr_C 172 123 = some (.aload_n 0, 1) := by decide +kernel
theorem mc172_124 : mr_C 172 124 = some (.getfield 28, 3) := by decide +kernel
theorem mc172_127 : mr_C 172 127 = some (.iload 5, 2) := by decide +kernel
theorem mc172_129 : mr_C 172 129 = some (.iaload, 1) := by decide +kernel
theorem mc172_130 : mr_C 172 130 = some (.invokevirtual 127, 3) := by decide +kernel
theorem mc172_133 : mr_C 172 133 = some (.iinc 5 (1), 3) := by decide +kernel
theorem mc172_136 : mr_C 172 136 = some (.goto (-58), 3) := by decide +kernel
theorem mc172_139 : mr_C 172 139 = some (.aload_n 0, 1) := by decide +kernel
theorem mc172_140 : mr_C 172 140 = some (.aload_n 0, 1) := by decide +kernel
theorem mc172_141 : mr_C 172 141 = some (.getfield 7, 3) := by decide +kernel
theorem mc172_144 : mr_C 172 144 = some (.iload 4, 2) := by decide +kernel
theorem mc172_146 : mr_C 172 146 = some (.iaload, 1) := by decide +kernel
theorem mc172_147 : mr_C 172 147 = some (.aload_n 0, 1) := by decide +kernel
theorem mc172_148 : mr_C 172 148 = some (.getfield 13, 3) := by decide +kernel
theorem mc172_151 : mr_C 172 151 = some (.iload 4, 2) := by decide +kernel
theorem mc172_153 : mr_C 172 153 = some (.iaload, 1) := by decide +kernel
theorem mc172_154 : mr_C 172 154 = some (.invokevirtual 142, 3) := by decide +kernel
theorem mc172_157 : mr_C 172 157 = some (.iinc 4 (1), 3) := by decide +kernel
theorem mc172_160 : mr_C 172 160 = some (.goto (-106), 3) := by decide +kernel
theorem mc172_163 : mr_C 172 163 = some (.aload_n 0, 1) := by decide +kernel
theorem mc172_164 : mr_C 172 164 = some (.iload_n 1, 1) := by decide +kernel
theorem mc172_165 : mr_C 172 165 = some (.invokevirtual 145, 3) := by decide +kernel
theorem mc172_168 : mr_C 172 168 = some (.ireturn, 1) := by decide +kernel
theorem vc172_0 {sc : Nat × (Int → Int)} {Q : mm_R → mm_M → Prop} {M : mm_M} {l1 : Int} {l2 : Int} {l3 : Int} (ho : mr_ok M)
    (h : en_CI sc 70 [mm_r 72, mm_i l1, mm_i l2] M (fun x1 M2 => mr_ok M2 → mr_rg x1 ∧ ((x1 ≠ 0 → en_CI sc 144 [mm_r 72, mm_i l2, mm_u, mm_u, mm_u, mm_u, mm_u, mm_u] M2 (fun x5 M6 => mr_ok M6 → en_CI sc 33 [mm_i l3, mm_i 0, mm_i (x5 - 1)] M6 (fun x8 M9 => mr_ok M9 → mr_rg x8 ∧ ((x8 = 0 → en_R sc 172 32 [mm_r 72, mm_i l1, mm_i l2, mm_i l3, mm_u, mm_u] [mm_i 2, mm_r 72] M9 Q) ∧ (¬ x8 = 0 → en_R sc 172 32 [mm_r 72, mm_i l1, mm_i l2, mm_i l3, mm_u, mm_u] [mm_i 0, mm_r 72] M9 Q))) (fun e M9 => Q (.inr e) M9)) (fun e M9 => Q (.inr e) M9)) ∧ (¬ (x1 ≠ 0) → Q (.inl (some (mm_i 0))) M2))) (fun e M9 => Q (.inr e) M9)) : en_R sc 172 0 [mm_r 72, mm_i l1, mm_i l2, mm_i l3, mm_u, mm_u] [] M Q := by
  refine en_aload_n mc172_0 rfl ?_
  refine en_iload_n mc172_1 rfl ?_
  refine en_iload_n mc172_2 rfl ?_
  refine en_callI (lz := [mm_r 72, mm_i l1, mm_i l2]) mv172 mc172_3 rfl rfl (lk_m7_167) mv70 rfl (by decide) rfl (mk_cokV rfl (⟨rfl, by decide⟩ : mt_kd[72]? = some (.inl 7) ∧ 72 < 99)) rfl (mk_nh rfl _) ho ?_
  refine en_CI_mono h (fun x1 M2 h => ?_) (fun _ _ h => h)
  intro ho3
  replace h := h ho3
  obtain ⟨g4, h⟩ := h
  refine en_if_ne 11 mc172_6 (by decide) g4 (fun q => ?_) (fun q => ?_)
  · replace h := h.1 q
    refine en_aload_n mc172_11 rfl ?_
    refine en_iload_n mc172_12 rfl ?_
    refine en_iconst mc172_13 ?_
    refine en_aload_n mc172_14 rfl ?_
    refine en_iload_n mc172_15 rfl ?_
    refine en_callI (lz := [mm_r 72, mm_i l2, mm_u, mm_u, mm_u, mm_u, mm_u, mm_u]) mv172 mc172_16 rfl rfl (lk_m7_258) mv144 rfl (by decide) rfl (mk_cokV rfl (⟨rfl, by decide⟩ : mt_kd[72]? = some (.inl 7) ∧ 72 < 99)) rfl (mk_nh rfl _) ho3 ?_
    refine en_CI_mono h (fun x5 M6 h => ?_) (fun _ _ h => h)
    intro ho7
    replace h := h ho7
    refine en_iconst mc172_19 ?_
    refine en_isub mc172_20 ?_
    refine en_callI (lz := [mm_i l3, mm_i 0, mm_i (x5 - 1)]) mv172 mc172_21 rfl rfl (lk_m7_135) mv33 rfl (by decide) rfl (mk_cokS rfl) rfl (mk_nh rfl _) ho7 ?_
    refine en_CI_mono h (fun x8 M9 h => ?_) (fun _ _ h => h)
    intro ho10
    replace h := h ho10
    obtain ⟨g11, h⟩ := h
    refine en_if_eq 31 mc172_24 (by decide) g11 (fun q => ?_) (fun q => ?_)
    · replace h := h.1 q
      refine en_iconst mc172_31 ?_
      exact h
    · replace h := h.2 q
      refine en_iconst mc172_27 ?_
      refine en_goto 32 mc172_28 (by decide) ?_
      exact h
  · replace h := h.2 q
    refine en_iconst mc172_9 ?_
    exact en_iret mv172 mc172_10 rfl h
theorem vc172_32 {sc : Nat × (Int → Int)} {Q : mm_R → mm_M → Prop} {M : mm_M} {l1 : Int} {l2 : Int} {l3 : Int} {s1 : Int} (ho : mr_ok M) (hg_s1 : mr_rg s1)
    (h : (((mm_putN M 72 0 s1).1 72 0) ≤ 0 → en_CV sc 35 [mm_r 72] (mm_putN M 72 0 s1) (fun M2 => mr_ok M2 → en_R sc 172 54 [mm_r 72, mm_i l1, mm_i l2, mm_i l3, mm_i (102 * l2), mm_u] [] M2 Q) (fun e M9 => Q (.inr e) M9)) ∧ (¬ ((mm_putN M 72 0 s1).1 72 0) ≤ 0 → Q (.inl (some (mm_i 0))) (mm_putN M 72 0 s1))) : en_R sc 172 32 [mm_r 72, mm_i l1, mm_i l2, mm_i l3, mm_u, mm_u] [mm_i s1, mm_r 72] M Q := by
  refine en_putI mv172 mc172_32 (lk_f7_89) (⟨rfl, by decide⟩ : mt_kd[72]? = some (.inl 7) ∧ 72 < 99) rfl rfl hg_s1 ?_
  refine en_aload_n mc172_35 rfl ?_
  refine en_getI mv172 mc172_36 (lk_f7_89) (⟨rfl, by decide⟩ : mt_kd[72]? = some (.inl 7) ∧ 72 < 99) (Or.inl rfl) ?_
  refine en_if_le 44 mc172_39 (by decide) ((mr_ok_putI (a := 72) (k := 0) ho hg_s1).2.1 72 0 (by unfold mr_lg; omega)) (fun q => ?_) (fun q => ?_)
  · replace h := h.1 q
    refine en_aload_n mc172_44 rfl ?_
    refine en_callV (lz := [mm_r 72]) mv172 mc172_45 rfl rfl (lk_m7_139) mv35 rfl (by decide) rfl (mk_cokV rfl (⟨rfl, by decide⟩ : mt_kd[72]? = some (.inl 7) ∧ 72 < 99)) rfl (mk_nh rfl _) (mr_ok_putI (a := 72) (k := 0) ho hg_s1) ?_
    refine en_CV_mono h (fun M2 h => ?_) (fun _ _ h => h)
    intro ho3
    replace h := h ho3
    refine en_bipush mc172_48 (by decide) ?_
    refine en_iload_n mc172_50 rfl ?_
    refine en_imul mc172_51 ?_
    refine en_istore (ls' := [mm_r 72, mm_i l1, mm_i l2, mm_i l3, mm_i (102 * l2), mm_u]) mc172_52 (Nat.le_of_ble_eq_true rfl) rfl ?_
    exact h
  · replace h := h.2 q
    refine en_iconst mc172_42 ?_
    exact en_iret mv172 mc172_43 rfl h
theorem vc172_54 {sc : Nat × (Int → Int)} {Q : mm_R → mm_M → Prop} {M : mm_M} {l1 : Int} {l2 : Int} {l3 : Int} {l4 : Int} {l5 : mm_V} (ho : mr_ok M) (hg_l4 : mr_rg l4)
    (h : en_CI sc 45 [mm_r 72, mm_i l2] M (fun x1 M2 => mr_ok M2 → mr_rg x1 ∧ ((x1 ≤ l4 → en_CI sc 39 [mm_r 72, mm_i l1, mm_u] M2 (fun x5 M6 => mr_ok M6 → Q (.inl (some (mm_i x5))) M6) (fun e M9 => Q (.inr e) M9)) ∧ (¬ x1 ≤ l4 → 0 ≤ l4 ∧ (l4 < 918 ∧ (en_R sc 172 78 [mm_r 72, mm_i l1, mm_i l2, mm_i l3, mm_i l4, mm_i ((mm_putN M2 72 17 0).1 75 l4)] [] (mm_putN M2 72 17 0) Q))))) (fun e M9 => Q (.inr e) M9)) : en_R sc 172 54 [mm_r 72, mm_i l1, mm_i l2, mm_i l3, mm_i l4, l5] [] M Q := by
  refine en_iload mc172_54 rfl ?_
  refine en_aload_n mc172_56 rfl ?_
  refine en_iload_n mc172_57 rfl ?_
  refine en_callI (lz := [mm_r 72, mm_i l2]) mv172 mc172_58 rfl rfl (lk_m7_107) mv45 rfl (by decide) rfl (mk_cokV rfl (⟨rfl, by decide⟩ : mt_kd[72]? = some (.inl 7) ∧ 72 < 99)) rfl (mk_nh rfl _) ho ?_
  refine en_CI_mono h (fun x1 M2 h => ?_) (fun _ _ h => h)
  intro ho3
  replace h := h ho3
  obtain ⟨g4, h⟩ := h
  refine en_icmp_ge 163 mc172_61 (by decide) hg_l4 g4 (fun q => ?_) (fun q => ?_)
  · replace h := h.1 q
    refine en_aload_n mc172_163 rfl ?_
    refine en_iload_n mc172_164 rfl ?_
    refine en_callI (lz := [mm_r 72, mm_i l1, mm_u]) mv172 mc172_165 rfl rfl (lk_m7_145) mv39 rfl (by decide) rfl (mk_cokV rfl (⟨rfl, by decide⟩ : mt_kd[72]? = some (.inl 7) ∧ 72 < 99)) rfl (mk_nh rfl _) ho3 ?_
    refine en_CI_mono h (fun x5 M6 h => ?_) (fun _ _ h => h)
    intro ho7
    replace h := h ho7
    exact en_iret mv172 mc172_168 rfl h
  · replace h := h.2 q
    obtain ⟨g8, h⟩ := h
    obtain ⟨g9, h⟩ := h
    refine en_aload_n mc172_64 rfl ?_
    refine en_iconst mc172_65 ?_
    refine en_putI mv172 mc172_66 (lk_f7_100) (⟨rfl, by decide⟩ : mt_kd[72]? = some (.inl 7) ∧ 72 < 99) rfl rfl (⟨by decide, by decide⟩ : mr_rg 0) ?_
    refine en_aload_n mc172_69 rfl ?_
    refine en_getR (b := 75) mv172 mc172_70 (lk_f7_16) (⟨rfl, by decide⟩ : mt_kd[72]? = some (.inl 7) ∧ 72 < 99) rfl (mk_fc (mr_ok_putI (a := 72) (k := 17) ho3 (⟨by decide, by decide⟩ : mr_rg 0)) (by decide +kernel)) ?_
    refine en_iload mc172_73 rfl ?_
    refine en_iald mc172_75 (⟨rfl, by decide, by decide⟩ : mt_kd[75]? = some (.inr (.int, 918)) ∧ 75 < 99 ∧ 918 < 2147483648) g8 g9 ?_
    refine en_istore (ls' := [mm_r 72, mm_i l1, mm_i l2, mm_i l3, mm_i l4, mm_i ((mm_putN M2 72 17 0).1 75 l4)]) mc172_76 (Nat.le_of_ble_eq_true rfl) rfl ?_
    exact h
theorem vc172_78 {sc : Nat × (Int → Int)} {Q : mm_R → mm_M → Prop} {M : mm_M} {l1 : Int} {l2 : Int} {l3 : Int} {l4 : Int} {l5 : Int} (ho : mr_ok M) (hg_l5 : mr_rg l5) (hg_l3 : mr_rg l3)
    (h : 0 ≤ l4 ∧ (l4 < 918 ∧ (0 ≤ l4 ∧ (l4 < 918 ∧ (mr_rg ((M.1 75 l4) + (M.1 76 l4)) ∧ ((((M.1 75 l4) + (M.1 76 l4)) ≤ l5 → 0 ≤ l4 ∧ (l4 < 918 ∧ (0 ≤ l4 ∧ (l4 < 918 ∧ (en_CV sc 38 [mm_r 72, mm_i (M.1 73 l4), mm_i (M.1 74 l4), mm_u, mm_u] M (fun M11 => mr_ok M11 → en_R sc 172 54 [mm_r 72, mm_i l1, mm_i l2, mm_i l3, mm_i (l4 + 1), mm_i l5] [] M11 Q) (fun e M9 => Q (.inr e) M9)))))) ∧ (¬ ((M.1 75 l4) + (M.1 76 l4)) ≤ l5 → 0 ≤ (l5 - (402 * l2)) ∧ ((l5 - (402 * l2)) < 402 ∧ (((M.1 96 (l5 - (402 * l2))) ≠ l3 → en_R sc 172 78 [mm_r 72, mm_i l1, mm_i l2, mm_i l3, mm_i l4, mm_i (l5 + 1)] [] M Q) ∧ (¬ ((M.1 96 (l5 - (402 * l2))) ≠ l3) → 0 ≤ l5 ∧ (l5 < 3618 ∧ (0 ≤ l5 ∧ (l5 < 3618 ∧ (en_CV sc 36 [mm_r 72, mm_i (M.1 78 l5), mm_i (M.1 79 l5)] M (fun M20 => mr_ok M20 → en_R sc 172 78 [mm_r 72, mm_i l1, mm_i l2, mm_i l3, mm_i l4, mm_i (l5 + 1)] [] M20 Q) (fun e M9 => Q (.inr e) M9))))))))))))))) : en_R sc 172 78 [mm_r 72, mm_i l1, mm_i l2, mm_i l3, mm_i l4, mm_i l5] [] M Q := by
  obtain ⟨g1, h⟩ := h
  obtain ⟨g2, h⟩ := h
  obtain ⟨g3, h⟩ := h
  obtain ⟨g4, h⟩ := h
  obtain ⟨g5, h⟩ := h
  refine en_iload mc172_78 rfl ?_
  refine en_aload_n mc172_80 rfl ?_
  refine en_getR (b := 75) mv172 mc172_81 (lk_f7_16) (⟨rfl, by decide⟩ : mt_kd[72]? = some (.inl 7) ∧ 72 < 99) rfl (mk_fc ho (by decide +kernel)) ?_
  refine en_iload mc172_84 rfl ?_
  refine en_iald mc172_86 (⟨rfl, by decide, by decide⟩ : mt_kd[75]? = some (.inr (.int, 918)) ∧ 75 < 99 ∧ 918 < 2147483648) g1 g2 ?_
  refine en_aload_n mc172_87 rfl ?_
  refine en_getR (b := 76) mv172 mc172_88 (lk_f7_19) (⟨rfl, by decide⟩ : mt_kd[72]? = some (.inl 7) ∧ 72 < 99) rfl (mk_fc ho (by decide +kernel)) ?_
  refine en_iload mc172_91 rfl ?_
  refine en_iald mc172_93 (⟨rfl, by decide, by decide⟩ : mt_kd[76]? = some (.inr (.int, 918)) ∧ 76 < 99 ∧ 918 < 2147483648) g3 g4 ?_
  refine en_iadd mc172_94 ?_
  refine en_icmp_ge 139 mc172_95 (by decide) hg_l5 g5 (fun q => ?_) (fun q => ?_)
  · replace h := h.1 q
    obtain ⟨g6, h⟩ := h
    obtain ⟨g7, h⟩ := h
    obtain ⟨g8, h⟩ := h
    obtain ⟨g9, h⟩ := h
    refine en_aload_n mc172_139 rfl ?_
    refine en_aload_n mc172_140 rfl ?_
    refine en_getR (b := 73) mv172 mc172_141 (lk_f7_7) (⟨rfl, by decide⟩ : mt_kd[72]? = some (.inl 7) ∧ 72 < 99) rfl (mk_fc ho (by decide +kernel)) ?_
    refine en_iload mc172_144 rfl ?_
    refine en_iald mc172_146 (⟨rfl, by decide, by decide⟩ : mt_kd[73]? = some (.inr (.int, 918)) ∧ 73 < 99 ∧ 918 < 2147483648) g6 g7 ?_
    refine en_aload_n mc172_147 rfl ?_
    refine en_getR (b := 74) mv172 mc172_148 (lk_f7_13) (⟨rfl, by decide⟩ : mt_kd[72]? = some (.inl 7) ∧ 72 < 99) rfl (mk_fc ho (by decide +kernel)) ?_
    refine en_iload mc172_151 rfl ?_
    refine en_iald mc172_153 (⟨rfl, by decide, by decide⟩ : mt_kd[74]? = some (.inr (.int, 918)) ∧ 74 < 99 ∧ 918 < 2147483648) g8 g9 ?_
    refine en_callV (lz := [mm_r 72, mm_i (M.1 73 l4), mm_i (M.1 74 l4), mm_u, mm_u]) mv172 mc172_154 rfl rfl (lk_m7_142) mv38 rfl (by decide) rfl (mk_cokV rfl (⟨rfl, by decide⟩ : mt_kd[72]? = some (.inl 7) ∧ 72 < 99)) rfl (mk_nh rfl _) ho ?_
    refine en_CV_mono h (fun M11 h => ?_) (fun _ _ h => h)
    intro ho12
    replace h := h ho12
    refine en_iinc (ls' := [mm_r 72, mm_i l1, mm_i l2, mm_i l3, mm_i (l4 + 1), mm_i l5]) mc172_157 rfl rfl ?_
    refine en_goto 54 mc172_160 (by decide) ?_
    exact h
  · replace h := h.2 q
    obtain ⟨g13, h⟩ := h
    obtain ⟨g14, h⟩ := h
    refine en_aload_n mc172_98 rfl ?_
    refine en_getR (b := 96) mv172 mc172_99 (lk_f7_83) (⟨rfl, by decide⟩ : mt_kd[72]? = some (.inl 7) ∧ 72 < 99) rfl (mk_fc ho (by decide +kernel)) ?_
    refine en_iload mc172_102 rfl ?_
    refine en_sipush mc172_104 (by decide) ?_
    refine en_iload_n mc172_107 rfl ?_
    refine en_imul mc172_108 ?_
    refine en_isub mc172_109 ?_
    refine en_iald mc172_110 (⟨rfl, by decide, by decide⟩ : mt_kd[96]? = some (.inr (.int, 402)) ∧ 96 < 99 ∧ 402 < 2147483648) g13 g14 ?_
    refine en_iload_n mc172_111 rfl ?_
    refine en_icmp_ne 133 mc172_112 (by decide) (ho.2.1 96 (l5 - (402 * l2)) (by unfold mr_lg; omega)) hg_l3 (fun q => ?_) (fun q => ?_)
    · replace h := h.1 q
      refine en_iinc (ls' := [mm_r 72, mm_i l1, mm_i l2, mm_i l3, mm_i l4, mm_i (l5 + 1)]) mc172_133 rfl rfl ?_
      refine en_goto 78 mc172_136 (by decide) ?_
      exact h
    · replace h := h.2 q
      obtain ⟨g15, h⟩ := h
      obtain ⟨g16, h⟩ := h
      obtain ⟨g17, h⟩ := h
      obtain ⟨g18, h⟩ := h
      refine en_aload_n mc172_115 rfl ?_
      refine en_aload_n mc172_116 rfl ?_
      refine en_getR (b := 78) mv172 mc172_117 (lk_f7_25) (⟨rfl, by decide⟩ : mt_kd[72]? = some (.inl 7) ∧ 72 < 99) rfl (mk_fc ho (by decide +kernel)) ?_
      refine en_iload mc172_120 rfl ?_
      refine en_iald mc172_122 (⟨rfl, by decide, by decide⟩ : mt_kd[78]? = some (.inr (.int, 3618)) ∧ 78 < 99 ∧ 3618 < 2147483648) g15 g16 ?_
      refine en_aload_n mc172_123 rfl ?_
      refine en_getR (b := 79) mv172 mc172_124 (lk_f7_28) (⟨rfl, by decide⟩ : mt_kd[72]? = some (.inl 7) ∧ 72 < 99) rfl (mk_fc ho (by decide +kernel)) ?_
      refine en_iload mc172_127 rfl ?_
      refine en_iald mc172_129 (⟨rfl, by decide, by decide⟩ : mt_kd[79]? = some (.inr (.int, 3618)) ∧ 79 < 99 ∧ 3618 < 2147483648) g17 g18 ?_
      refine en_callV (lz := [mm_r 72, mm_i (M.1 78 l5), mm_i (M.1 79 l5)]) mv172 mc172_130 rfl rfl (lk_m7_127) mv36 rfl (by decide) rfl (mk_cokV rfl (⟨rfl, by decide⟩ : mt_kd[72]? = some (.inl 7) ∧ 72 < 99)) rfl (mk_nh rfl _) ho ?_
      refine en_CV_mono h (fun M20 h => ?_) (fun _ _ h => h)
      intro ho21
      replace h := h ho21
      refine en_iinc (ls' := [mm_r 72, mm_i l1, mm_i l2, mm_i l3, mm_i l4, mm_i (l5 + 1)]) mc172_133 rfl rfl ?_
      refine en_goto 78 mc172_136 (by decide) ?_
      exact h
/-! 173: CellAreas$BestBox.forget()V -/
theorem mc173_0 : mr_C 173 0 = some (.aload_n 0, 1) := by decide +kernel
theorem mc173_1 : mr_C 173 1 = some (.iconst 0, 1) := by decide +kernel
theorem mc173_2 : mr_C 173 2 = some (.putfield 22, 3) := by decide +kernel
theorem mc173_5 : mr_C 173 5 = some (.return_, 1) := by decide +kernel
theorem vc173_0 {sc : Nat × (Int → Int)} {Q : mm_R → mm_M → Prop} {M : mm_M} (ho : mr_ok M)
    (h : Q (.inl none) (mm_putN M 23 4 0)) : en_R sc 173 0 [mm_r 23] [] M Q := by
  refine en_aload_n mc173_0 rfl ?_
  refine en_iconst mc173_1 ?_
  refine en_putI mv173 mc173_2 (lk_f1_22) (⟨rfl, by decide⟩ : mt_kd[23]? = some (.inl 1) ∧ 23 < 99) rfl rfl (⟨by decide, by decide⟩ : mr_rg 0) ?_
  exact en_vret mv173 mc173_5 rfl h
/-! 174: CellAreas$BestBox.comesBefore(III)Z -/
theorem mc174_0 : mr_C 174 0 = some (.iload_n 2, 1) := by decide +kernel
theorem mc174_1 : mr_C 174 1 = some (.aload_n 0, 1) := by decide +kernel
theorem mc174_2 : mr_C 174 2 = some (.getfield 13, 3) := by decide +kernel
theorem mc174_5 : mr_C 174 5 = some (.if_icmp .eq (17), 3) := by decide +kernel
theorem mc174_8 : mr_C 174 8 = some (.iload_n 2, 1) := by decide +kernel
theorem mc174_9 : mr_C 174 9 = some (.aload_n 0, 1) := by decide +kernel
theorem mc174_10 : mr_C 174 10 = some (.getfield 13, 3) := by decide +kernel
theorem mc174_13 : mr_C 174 13 = some (.if_icmp .ge (7), 3) := by decide +kernel
theorem mc174_16 : mr_C 174 16 = some (.iconst 1, 1) := by decide +kernel
theorem mc174_17 : mr_C 174 17 = some (.goto 4, 3) := by decide +kernel
theorem mc174_20 : mr_C 174 20 = some (.iconst 0, 1) := by decide +kernel
theorem mc174_21 : mr_C 174 21 = some (.ireturn, 1) := by decide +kernel
theorem mc174_22 : mr_C 174 22 = some (.iload_n 1, 1) := by decide +kernel
theorem mc174_23 : mr_C 174 23 = some (.aload_n 0, 1) := by decide +kernel
theorem mc174_24 : mr_C 174 24 = some (.getfield 7, 3) := by decide +kernel
theorem mc174_27 : mr_C 174 27 = some (.if_icmp .eq (19), 3) := by decide +kernel
theorem mc174_30 : mr_C 174 30 = some (.iload_n 1, 1) := by decide +kernel
theorem mc174_31 : mr_C 174 31 = some (.aload_n 0, 1) := by decide +kernel
theorem mc174_32 : mr_C 174 32 = some (.getfield 7, 3) := by decide +kernel
theorem mc174_35 : mr_C 174 35 = some (.if_icmp .ge (7), 3) := by decide +kernel
theorem mc174_38 : mr_C 174 38 = some (.iconst 1, 1) := by decide +kernel
theorem mc174_39 : mr_C 174 39 = some (.goto 20, 3) := by decide +kernel
theorem mc174_42 : mr_C 174 42 = some (.iconst 0, 1) := by decide +kernel
theorem mc174_43 : mr_C 174 43 = some (.goto 16, 3) := by decide +kernel
theorem mc174_46 : mr_C 174 46 = some (.iload_n 3, 1) := by decide +kernel
theorem mc174_47 : mr_C 174 47 = some (.aload_n 0, 1) := by decide +kernel
theorem mc174_48 : mr_C 174 48 = some (.getfield 16, 3) := by decide +kernel
theorem mc174_51 : mr_C 174 51 = some (.if_icmp .ge (7), 3) := by decide +kernel
theorem mc174_54 : mr_C 174 54 = some (.iconst 1, 1) := by decide +kernel
theorem mc174_55 : mr_C 174 55 = some (.goto 4, 3) := by decide +kernel
theorem mc174_58 : mr_C 174 58 = some (.iconst 0, 1) := by decide +kernel
theorem mc174_59 : mr_C 174 59 = some (.ireturn, 1) := by decide +kernel
theorem vc174_0 {sc : Nat × (Int → Int)} {Q : mm_R → mm_M → Prop} {M : mm_M} {l1 : Int} {l2 : Int} {l3 : Int} (ho : mr_ok M) (hg_l2 : mr_rg l2) (hg_l1 : mr_rg l1) (hg_l3 : mr_rg l3)
    (h : (l2 = (M.1 23 1) → (l1 = (M.1 23 0) → ((M.1 23 2) ≤ l3 → Q (.inl (some (mm_i 0))) M) ∧ (¬ (M.1 23 2) ≤ l3 → Q (.inl (some (mm_i 1))) M)) ∧ (¬ l1 = (M.1 23 0) → ((M.1 23 0) ≤ l1 → Q (.inl (some (mm_i 0))) M) ∧ (¬ (M.1 23 0) ≤ l1 → Q (.inl (some (mm_i 1))) M))) ∧ (¬ l2 = (M.1 23 1) → ((M.1 23 1) ≤ l2 → Q (.inl (some (mm_i 0))) M) ∧ (¬ (M.1 23 1) ≤ l2 → Q (.inl (some (mm_i 1))) M))) : en_R sc 174 0 [mm_r 23, mm_i l1, mm_i l2, mm_i l3] [] M Q := by
  refine en_iload_n mc174_0 rfl ?_
  refine en_aload_n mc174_1 rfl ?_
  refine en_getI mv174 mc174_2 (lk_f1_13) (⟨rfl, by decide⟩ : mt_kd[23]? = some (.inl 1) ∧ 23 < 99) (Or.inl rfl) ?_
  refine en_icmp_eq 22 mc174_5 (by decide) hg_l2 (ho.2.1 23 1 (by unfold mr_lg; omega)) (fun q => ?_) (fun q => ?_)
  · replace h := h.1 q
    refine en_iload_n mc174_22 rfl ?_
    refine en_aload_n mc174_23 rfl ?_
    refine en_getI mv174 mc174_24 (lk_f1_7) (⟨rfl, by decide⟩ : mt_kd[23]? = some (.inl 1) ∧ 23 < 99) (Or.inl rfl) ?_
    refine en_icmp_eq 46 mc174_27 (by decide) hg_l1 (ho.2.1 23 0 (by unfold mr_lg; omega)) (fun q => ?_) (fun q => ?_)
    · replace h := h.1 q
      refine en_iload_n mc174_46 rfl ?_
      refine en_aload_n mc174_47 rfl ?_
      refine en_getI mv174 mc174_48 (lk_f1_16) (⟨rfl, by decide⟩ : mt_kd[23]? = some (.inl 1) ∧ 23 < 99) (Or.inl rfl) ?_
      refine en_icmp_ge 58 mc174_51 (by decide) hg_l3 (ho.2.1 23 2 (by unfold mr_lg; omega)) (fun q => ?_) (fun q => ?_)
      · replace h := h.1 q
        refine en_iconst mc174_58 ?_
        exact en_zret mv174 mc174_59 rfl (by decide) h
      · replace h := h.2 q
        refine en_iconst mc174_54 ?_
        refine en_goto 59 mc174_55 (by decide) ?_
        exact en_zret mv174 mc174_59 rfl (by decide) h
    · replace h := h.2 q
      refine en_iload_n mc174_30 rfl ?_
      refine en_aload_n mc174_31 rfl ?_
      refine en_getI mv174 mc174_32 (lk_f1_7) (⟨rfl, by decide⟩ : mt_kd[23]? = some (.inl 1) ∧ 23 < 99) (Or.inl rfl) ?_
      refine en_icmp_ge 42 mc174_35 (by decide) hg_l1 (ho.2.1 23 0 (by unfold mr_lg; omega)) (fun q => ?_) (fun q => ?_)
      · replace h := h.1 q
        refine en_iconst mc174_42 ?_
        refine en_goto 59 mc174_43 (by decide) ?_
        exact en_zret mv174 mc174_59 rfl (by decide) h
      · replace h := h.2 q
        refine en_iconst mc174_38 ?_
        refine en_goto 59 mc174_39 (by decide) ?_
        exact en_zret mv174 mc174_59 rfl (by decide) h
  · replace h := h.2 q
    refine en_iload_n mc174_8 rfl ?_
    refine en_aload_n mc174_9 rfl ?_
    refine en_getI mv174 mc174_10 (lk_f1_13) (⟨rfl, by decide⟩ : mt_kd[23]? = some (.inl 1) ∧ 23 < 99) (Or.inl rfl) ?_
    refine en_icmp_ge 20 mc174_13 (by decide) hg_l2 (ho.2.1 23 1 (by unfold mr_lg; omega)) (fun q => ?_) (fun q => ?_)
    · replace h := h.1 q
      refine en_iconst mc174_20 ?_
      exact en_zret mv174 mc174_21 rfl (by decide) h
    · replace h := h.2 q
      refine en_iconst mc174_16 ?_
      refine en_goto 21 mc174_17 (by decide) ?_
      exact en_zret mv174 mc174_21 rfl (by decide) h
/-! 175: CellAreas$BestBox.offer(IIII)V -/
theorem mc175_0 : mr_C 175 0 = some (.iload_n 3, 1) := by decide +kernel
theorem mc175_1 : mr_C 175 1 = some (.iload_n 1, 1) := by decide +kernel
theorem mc175_2 : mr_C 175 2 = some (.isub, 1) := by decide +kernel
theorem mc175_3 : mr_C 175 3 = some (.iload 4, 2) := by decide +kernel
theorem mc175_5 : mr_C 175 5 = some (.iload_n 2, 1) := by decide +kernel
theorem mc175_6 : mr_C 175 6 = some (.isub, 1) := by decide +kernel
theorem mc175_7 : mr_C 175 7 = some (.imul, 1) := by decide +kernel
theorem mc175_8 : mr_C 175 8 = some (.istore 5, 2) := by decide +kernel
theorem mc175_10 : mr_C 175 10 = some (.iload 5, 2) := by decide +kernel
theorem mc175_12 : mr_C 175 12 = some (.aload_n 0, 1) := by decide +kernel
theorem mc175_13 : mr_C 175 13 = some (.getfield 22, 3) := by decide +kernel
theorem mc175_16 : mr_C 175 16 = some (.if_icmp .gt (22), 3) := by decide +kernel
theorem mc175_19 : mr_C 175 19 = some (.iload 5, 2) := by decide +kernel
theorem mc175_21 : mr_C 175 21 = some (.aload_n 0, 1) := by decide +kernel
theorem mc175_22 : mr_C 175 22 = some (.getfield 22, 3) := by decide +kernel
theorem mc175_25 : mr_C 175 25 = some (.if_icmp .ne (40), 3) := by decide +kernel
theorem mc175_28 : mr_C 175 28 = some (.aload_n 0, 1) := by decide +kernel
theorem mc175_29 : mr_C 175 29 = some (.iload_n 1, 1) := by decide +kernel
theorem mc175_30 : mr_C 175 30 = some (.iload_n 2, 1) := by decide +kernel
theorem mc175_31 : mr_C 175 31 = some (.iload_n 3, 1) := by decide +kernel
theorem mc175_32 : mr_C 175 32 = some (.invokevirtual 25, 3) := by decide +kernel
theorem mc175_35 : mr_C 175 35 = some (.ifCond .eq (30), 3) := by decide +kernel
theorem mc175_38 : mr_C 175 38 = some (.aload_n 0, 1) := by decide +kernel
theorem mc175_39 : mr_C 175 39 = some (.iload_n 1, 1) := by decide +kernel
theorem mc175_40 : mr_C 175 40 = some (.putfield 7, 3) := by decide +kernel
theorem mc175_43 : mr_C 175 43 = some (.aload_n 0, 1) := by decide +kernel
theorem mc175_44 : mr_C 175 44 = some (.iload_n 2, 1) := by decide +kernel
theorem mc175_45 : mr_C 175 45 = some (.putfield 13, 3) := by decide +kernel
theorem mc175_48 : mr_C 175 48 = some (.aload_n 0, 1) := by decide +kernel
theorem mc175_49 : mr_C 175 49 = some (.iload_n 3, 1) := by decide +kernel
theorem mc175_50 : mr_C 175 50 = some (.putfield 16, 3) := by decide +kernel
theorem mc175_53 : mr_C 175 53 = some (.aload_n 0, 1) := by decide +kernel
theorem mc175_54 : mr_C 175 54 = some (.iload 4, 2) := by decide +kernel
theorem mc175_56 : mr_C 175 56 = some (.putfield 19, 3) := by decide +kernel
theorem mc175_59 : mr_C 175 59 = some (.aload_n 0, 1) := by decide +kernel
theorem mc175_60 : mr_C 175 60 = some (.iload 5, 2) := by decide +kernel
theorem mc175_62 : mr_C 175 62 = some (.putfield 22, 3) := by decide +kernel
theorem mc175_65 : mr_C 175 65 = some (.return_, 1) := by decide +kernel
theorem vc175_0 {sc : Nat × (Int → Int)} {Q : mm_R → mm_M → Prop} {M : mm_M} {l1 : Int} {l2 : Int} {l3 : Int} {l4 : Int} (ho : mr_ok M)
    (h : mr_rg ((l3 - l1) * (l4 - l2)) ∧ (((M.1 23 4) < ((l3 - l1) * (l4 - l2)) → en_R sc 175 38 [mm_r 23, mm_i l1, mm_i l2, mm_i l3, mm_i l4, mm_i ((l3 - l1) * (l4 - l2))] [] M Q) ∧ (¬ (M.1 23 4) < ((l3 - l1) * (l4 - l2)) → (((l3 - l1) * (l4 - l2)) ≠ (M.1 23 4) → Q (.inl none) M) ∧ (¬ (((l3 - l1) * (l4 - l2)) ≠ (M.1 23 4)) → en_CI sc 174 [mm_r 23, mm_i l1, mm_i l2, mm_i l3] M (fun x2 M3 => mr_ok M3 → mr_rg x2 ∧ ((x2 = 0 → Q (.inl none) M3) ∧ (¬ x2 = 0 → en_R sc 175 38 [mm_r 23, mm_i l1, mm_i l2, mm_i l3, mm_i l4, mm_i ((l3 - l1) * (l4 - l2))] [] M3 Q))) (fun e M9 => Q (.inr e) M9))))) : en_R sc 175 0 [mm_r 23, mm_i l1, mm_i l2, mm_i l3, mm_i l4, mm_u] [] M Q := by
  obtain ⟨g1, h⟩ := h
  refine en_iload_n mc175_0 rfl ?_
  refine en_iload_n mc175_1 rfl ?_
  refine en_isub mc175_2 ?_
  refine en_iload mc175_3 rfl ?_
  refine en_iload_n mc175_5 rfl ?_
  refine en_isub mc175_6 ?_
  refine en_imul mc175_7 ?_
  refine en_istore (ls' := [mm_r 23, mm_i l1, mm_i l2, mm_i l3, mm_i l4, mm_i ((l3 - l1) * (l4 - l2))]) mc175_8 (Nat.le_of_ble_eq_true rfl) rfl ?_
  refine en_iload mc175_10 rfl ?_
  refine en_aload_n mc175_12 rfl ?_
  refine en_getI mv175 mc175_13 (lk_f1_22) (⟨rfl, by decide⟩ : mt_kd[23]? = some (.inl 1) ∧ 23 < 99) (Or.inl rfl) ?_
  refine en_icmp_gt 38 mc175_16 (by decide) g1 (ho.2.1 23 4 (by unfold mr_lg; omega)) (fun q => ?_) (fun q => ?_)
  · replace h := h.1 q
    exact h
  · replace h := h.2 q
    refine en_iload mc175_19 rfl ?_
    refine en_aload_n mc175_21 rfl ?_
    refine en_getI mv175 mc175_22 (lk_f1_22) (⟨rfl, by decide⟩ : mt_kd[23]? = some (.inl 1) ∧ 23 < 99) (Or.inl rfl) ?_
    refine en_icmp_ne 65 mc175_25 (by decide) g1 (ho.2.1 23 4 (by unfold mr_lg; omega)) (fun q => ?_) (fun q => ?_)
    · replace h := h.1 q
      exact en_vret mv175 mc175_65 rfl h
    · replace h := h.2 q
      refine en_aload_n mc175_28 rfl ?_
      refine en_iload_n mc175_29 rfl ?_
      refine en_iload_n mc175_30 rfl ?_
      refine en_iload_n mc175_31 rfl ?_
      refine en_callI (lz := [mm_r 23, mm_i l1, mm_i l2, mm_i l3]) mv175 mc175_32 rfl rfl (lk_m1_25) mv174 rfl (by decide) rfl (mk_cokV rfl (⟨rfl, by decide⟩ : mt_kd[23]? = some (.inl 1) ∧ 23 < 99)) rfl (mk_nh rfl _) ho ?_
      refine en_CI_mono h (fun x2 M3 h => ?_) (fun _ _ h => h)
      intro ho4
      replace h := h ho4
      obtain ⟨g5, h⟩ := h
      refine en_if_eq 65 mc175_35 (by decide) g5 (fun q => ?_) (fun q => ?_)
      · replace h := h.1 q
        exact en_vret mv175 mc175_65 rfl h
      · replace h := h.2 q
        exact h
theorem vc175_38 {sc : Nat × (Int → Int)} {Q : mm_R → mm_M → Prop} {M : mm_M} {l1 : Int} {l2 : Int} {l3 : Int} {l4 : Int} {l5 : Int} (ho : mr_ok M) (hg_l1 : mr_rg l1) (hg_l2 : mr_rg l2) (hg_l3 : mr_rg l3) (hg_l4 : mr_rg l4) (hg_l5 : mr_rg l5)
    (h : Q (.inl none) (mm_putN (mm_putN (mm_putN (mm_putN (mm_putN M 23 0 l1) 23 1 l2) 23 2 l3) 23 3 l4) 23 4 l5)) : en_R sc 175 38 [mm_r 23, mm_i l1, mm_i l2, mm_i l3, mm_i l4, mm_i l5] [] M Q := by
  refine en_aload_n mc175_38 rfl ?_
  refine en_iload_n mc175_39 rfl ?_
  refine en_putI mv175 mc175_40 (lk_f1_7) (⟨rfl, by decide⟩ : mt_kd[23]? = some (.inl 1) ∧ 23 < 99) rfl rfl hg_l1 ?_
  refine en_aload_n mc175_43 rfl ?_
  refine en_iload_n mc175_44 rfl ?_
  refine en_putI mv175 mc175_45 (lk_f1_13) (⟨rfl, by decide⟩ : mt_kd[23]? = some (.inl 1) ∧ 23 < 99) rfl rfl hg_l2 ?_
  refine en_aload_n mc175_48 rfl ?_
  refine en_iload_n mc175_49 rfl ?_
  refine en_putI mv175 mc175_50 (lk_f1_16) (⟨rfl, by decide⟩ : mt_kd[23]? = some (.inl 1) ∧ 23 < 99) rfl rfl hg_l3 ?_
  refine en_aload_n mc175_53 rfl ?_
  refine en_iload mc175_54 rfl ?_
  refine en_putI mv175 mc175_56 (lk_f1_19) (⟨rfl, by decide⟩ : mt_kd[23]? = some (.inl 1) ∧ 23 < 99) rfl rfl hg_l4 ?_
  refine en_aload_n mc175_59 rfl ?_
  refine en_iload mc175_60 rfl ?_
  refine en_putI mv175 mc175_62 (lk_f1_22) (⟨rfl, by decide⟩ : mt_kd[23]? = some (.inl 1) ∧ 23 < 99) rfl rfl hg_l5 ?_
  exact en_vret mv175 mc175_65 rfl h
/-! 176: CellAreas.offerBoxes(II)V -/
theorem mc176_0 : mr_C 176 0 = some (.aload_n 0, 1) := by decide +kernel
theorem mc176_1 : mr_C 176 1 = some (.getfield 25, 3) := by decide +kernel
theorem mc176_4 : mr_C 176 4 = some (.sipush (-1000), 3) := by decide +kernel
theorem mc176_7 : mr_C 176 7 = some (.invokevirtual 99, 3) := by decide +kernel
theorem mc176_10 : mr_C 176 10 = some (.istore 4, 2) := by decide +kernel
theorem mc176_12 : mr_C 176 12 = some (.iload 4, 2) := by decide +kernel
theorem mc176_14 : mr_C 176 14 = some (.sipush 1000, 3) := by decide +kernel
theorem mc176_17 : mr_C 176 17 = some (.if_icmp .ge (49), 3) := by decide +kernel
theorem mc176_20 : mr_C 176 20 = some (.iload 4, 2) := by decide +kernel
theorem mc176_22 : mr_C 176 22 = some (.iconst 1, 1) := by decide +kernel
theorem mc176_23 : mr_C 176 23 = some (.iadd, 1) := by decide +kernel
theorem mc176_24 : mr_C 176 24 = some (.aload_n 0, 1) := by decide +kernel
theorem mc176_25 : mr_C 176 25 = some (.getfield 25, 3) := by decide +kernel
theorem mc176_28 : mr_C 176 28 = some (.iload 4, 2) := by decide +kernel
theorem mc176_30 : mr_C 176 30 = some (.invokevirtual 290, 3) := by decide +kernel
theorem mc176_33 : mr_C 176 33 = some (.invokestatic 102, 3) := by decide +kernel
theorem mc176_36 : mr_C 176 36 = some (.istore_n 3, 1) := by decide +kernel
theorem mc176_37 : mr_C 176 37 = some (.aload_n 0, 1) := by decide +kernel
theorem mc176_38 : mr_C 176 38 = some (.getfield 56, 3) := by decide +kernel
theorem mc176_41 : mr_C 176 41 = some (.iload 4, 2) := by decide +kernel
theorem mc176_43 : mr_C 176 43 = some (.iload_n 1, 1) := by decide +kernel
theorem mc176_44 : mr_C 176 44 = some (.iload_n 3, 1) := by decide +kernel
theorem mc176_45 : mr_C 176 45 = some (.iload_n 2, 1) := by decide +kernel
theorem mc176_46 : mr_C 176 46 = some (.invokevirtual 293, 3) := by decide +kernel
theorem mc176_49 : mr_C 176 49 = some (.iload_n 3, 1) := by decide +kernel
theorem mc176_50 : mr_C 176 50 = some (.aload_n 0, 1) := by decide +kernel
theorem mc176_51 : mr_C 176 51 = some (.getfield 25, 3) := by decide +kernel
theorem mc176_54 : mr_C 176 54 = some (.iload_n 3, 1) := by decide +kernel
theorem mc176_55 : mr_C 176 55 = some (.invokevirtual 99, 3) := by decide +kernel
theorem mc176_58 : mr_C 176 58 = some (.invokestatic 102, 3) := by decide +kernel
theorem mc176_61 : mr_C 176 61 = some (.istore 4, 2) := by decide +kernel
theorem mc176_63 : mr_C 176 63 = some (.goto (-51), 3) := by decide +kernel
theorem mc176_66 : mr_C 176 66 = some (.return_, 1) := by decide +kernel
theorem vc176_0 {sc : Nat × (Int → Int)} {Q : mm_R → mm_M → Prop} {M : mm_M} {l1 : Int} {l2 : Int} (ho : mr_ok M)
    (h : en_CI sc 22 [mm_r 11, mm_i (-1000)] M (fun x1 M2 => mr_ok M2 → en_R sc 176 12 [mm_r 0, mm_i l1, mm_i l2, mm_u, mm_i x1] [] M2 Q) (fun e M9 => Q (.inr e) M9)) : en_R sc 176 0 [mm_r 0, mm_i l1, mm_i l2, mm_u, mm_u] [] M Q := by
  refine en_aload_n mc176_0 rfl ?_
  refine en_getR (b := 11) mv176 mc176_1 (lk_f6_25) (⟨rfl, by decide⟩ : mt_kd[0]? = some (.inl 6) ∧ 0 < 99) rfl (mk_fc ho (by decide +kernel)) ?_
  refine en_sipush mc176_4 (by decide) ?_
  refine en_callI (lz := [mm_r 11, mm_i (-1000)]) mv176 mc176_7 rfl rfl (lk_m6_99) mv22 rfl (by decide) rfl (mk_cokV rfl (mk_R0 (by unfold mr_Rw; decide : mr_Rw 11))) rfl (mk_nh rfl _) ho ?_
  refine en_CI_mono h (fun x1 M2 h => ?_) (fun _ _ h => h)
  intro ho3
  replace h := h ho3
  refine en_istore (ls' := [mm_r 0, mm_i l1, mm_i l2, mm_u, mm_i x1]) mc176_10 (Nat.le_of_ble_eq_true rfl) rfl ?_
  exact h
theorem vc176_12 {sc : Nat × (Int → Int)} {Q : mm_R → mm_M → Prop} {M : mm_M} {l1 : Int} {l2 : Int} {l3 : mm_V} {l4 : Int} (ho : mr_ok M) (hg_l4 : mr_rg l4)
    (h : (1000 ≤ l4 → Q (.inl none) M) ∧ (¬ 1000 ≤ l4 → en_CI sc 25 [mm_r 11, mm_i l4] M (fun x1 M2 => mr_ok M2 → mr_rg (l4 + 1) ∧ (mr_rg x1 ∧ (en_CV sc 175 [mm_r 23, mm_i l4, mm_i l1, mm_i (max (l4 + 1) x1), mm_i l2, mm_u] M2 (fun M7 => mr_ok M7 → en_CI sc 22 [mm_r 11, mm_i (max (l4 + 1) x1)] M7 (fun x9 M10 => mr_ok M10 → mr_rg (max (l4 + 1) x1) ∧ (mr_rg x9 ∧ (en_R sc 176 12 [mm_r 0, mm_i l1, mm_i l2, mm_i (max (l4 + 1) x1), mm_i (max (max (l4 + 1) x1) x9)] [] M10 Q))) (fun e M9 => Q (.inr e) M9)) (fun e M9 => Q (.inr e) M9)))) (fun e M9 => Q (.inr e) M9))) : en_R sc 176 12 [mm_r 0, mm_i l1, mm_i l2, l3, mm_i l4] [] M Q := by
  refine en_iload mc176_12 rfl ?_
  refine en_sipush mc176_14 (by decide) ?_
  refine en_icmp_ge 66 mc176_17 (by decide) hg_l4 (⟨by decide, by decide⟩ : mr_rg 1000) (fun q => ?_) (fun q => ?_)
  · replace h := h.1 q
    exact en_vret mv176 mc176_66 rfl h
  · replace h := h.2 q
    refine en_iload mc176_20 rfl ?_
    refine en_iconst mc176_22 ?_
    refine en_iadd mc176_23 ?_
    refine en_aload_n mc176_24 rfl ?_
    refine en_getR (b := 11) mv176 mc176_25 (lk_f6_25) (⟨rfl, by decide⟩ : mt_kd[0]? = some (.inl 6) ∧ 0 < 99) rfl (mk_fc ho (by decide +kernel)) ?_
    refine en_iload mc176_28 rfl ?_
    refine en_callI (lz := [mm_r 11, mm_i l4]) mv176 mc176_30 rfl rfl (lk_m6_290) mv25 rfl (by decide) rfl (mk_cokV rfl (mk_R0 (by unfold mr_Rw; decide : mr_Rw 11))) rfl (mk_nh rfl _) ho ?_
    refine en_CI_mono h (fun x1 M2 h => ?_) (fun _ _ h => h)
    intro ho3
    replace h := h ho3
    obtain ⟨g4, h⟩ := h
    obtain ⟨g5, h⟩ := h
    refine en_max mv176 mc176_33 (lk_m6_102) mv13 rfl ⟨Nat.le_of_ble_eq_true rfl, Nat.le_of_ble_eq_true rfl⟩ g4 g5 ?_
    refine en_istore_n (ls' := [mm_r 0, mm_i l1, mm_i l2, mm_i (max (l4 + 1) x1), mm_i l4]) mc176_36 (Nat.le_of_ble_eq_true rfl) rfl ?_
    refine en_aload_n mc176_37 rfl ?_
    refine en_getR (b := 23) mv176 mc176_38 (lk_f6_56) (⟨rfl, by decide⟩ : mt_kd[0]? = some (.inl 6) ∧ 0 < 99) rfl (mk_fc ho3 (by decide +kernel)) ?_
    refine en_iload mc176_41 rfl ?_
    refine en_iload_n mc176_43 rfl ?_
    refine en_iload_n mc176_44 rfl ?_
    refine en_iload_n mc176_45 rfl ?_
    refine en_callV (lz := [mm_r 23, mm_i l4, mm_i l1, mm_i (max (l4 + 1) x1), mm_i l2, mm_u]) mv176 mc176_46 rfl rfl (lk_m6_293) mv175 rfl (by decide) rfl (mk_cokV rfl (⟨rfl, by decide⟩ : mt_kd[23]? = some (.inl 1) ∧ 23 < 99)) rfl (mk_nh rfl _) ho3 ?_
    refine en_CV_mono h (fun M7 h => ?_) (fun _ _ h => h)
    intro ho8
    replace h := h ho8
    refine en_iload_n mc176_49 rfl ?_
    refine en_aload_n mc176_50 rfl ?_
    refine en_getR (b := 11) mv176 mc176_51 (lk_f6_25) (⟨rfl, by decide⟩ : mt_kd[0]? = some (.inl 6) ∧ 0 < 99) rfl (mk_fc ho8 (by decide +kernel)) ?_
    refine en_iload_n mc176_54 rfl ?_
    refine en_callI (lz := [mm_r 11, mm_i (max (l4 + 1) x1)]) mv176 mc176_55 rfl rfl (lk_m6_99) mv22 rfl (by decide) rfl (mk_cokV rfl (mk_R0 (by unfold mr_Rw; decide : mr_Rw 11))) rfl (mk_nh rfl _) ho8 ?_
    refine en_CI_mono h (fun x9 M10 h => ?_) (fun _ _ h => h)
    intro ho11
    replace h := h ho11
    obtain ⟨g12, h⟩ := h
    obtain ⟨g13, h⟩ := h
    refine en_max mv176 mc176_58 (lk_m6_102) mv13 rfl ⟨Nat.le_of_ble_eq_true rfl, Nat.le_of_ble_eq_true rfl⟩ g12 g13 ?_
    refine en_istore (ls' := [mm_r 0, mm_i l1, mm_i l2, mm_i (max (l4 + 1) x1), mm_i (max (max (l4 + 1) x1) x9)]) mc176_61 (Nat.le_of_ble_eq_true rfl) rfl ?_
    refine en_goto 12 mc176_63 (by decide) ?_
    exact h
/-! 177: CellAreas.findLargest(LCellAreas$Area;)V -/
theorem mc177_0 : mr_C 177 0 = some (.aload_n 0, 1) := by decide +kernel
theorem mc177_1 : mr_C 177 1 = some (.getfield 56, 3) := by decide +kernel
theorem mc177_4 : mr_C 177 4 = some (.invokevirtual 284, 3) := by decide +kernel
theorem mc177_7 : mr_C 177 7 = some (.iconst 0, 1) := by decide +kernel
theorem mc177_8 : mr_C 177 8 = some (.istore_n 2, 1) := by decide +kernel
theorem mc177_9 : mr_C 177 9 = some (.iload_n 2, 1) := by decide +kernel
theorem mc177_10 : mr_C 177 10 = some (.aload_n 1, 1) := by decide +kernel
theorem mc177_11 : mr_C 177 11 = some (.getfield 118, 3) := by decide +kernel
theorem mc177_14 : mr_C 177 14 = some (.if_icmp .ge (126), 3) := by decide +kernel
theorem mc177_17 : mr_C 177 17 = some (.aload_n 0, 1) := by decide +kernel
theorem mc177_18 : mr_C 177 18 = some (.getfield 25, 3) := by decide +kernel
theorem mc177_21 : mr_C 177 21 = some (.invokevirtual 69, 3) := by decide +kernel
theorem mc177_24 : mr_C 177 24 = some (.aload_n 1, 1) := by decide +kernel
theorem mc177_25 : mr_C 177 25 = some (.iload_n 2, 1) := by decide +kernel
theorem mc177_26 : mr_C 177 26 = some (.aload_n 0, 1) := by decide +kernel
theorem mc177_27 : mr_C 177 27 = some (.getfield 25, 3) := by decide +kernel
theorem mc177_30 : mr_C 177 30 = some (.iconst 0, 1) := by decide +kernel
theorem mc177_31 : mr_C 177 31 = some (.iconst 0, 1) := by decide +kernel
theorem mc177_32 : mr_C 177 32 = some (.invokevirtual 121, 3) := by decide +kernel
theorem mc177_35 : mr_C 177 35 = some (.aload_n 0, 1) := by decide +kernel
theorem mc177_36 : mr_C 177 36 = some (.aload_n 1, 1) := by decide +kernel
theorem mc177_37 : mr_C 177 37 = some (.getfield 125, 3) := by decide +kernel
theorem mc177_40 : mr_C 177 40 = some (.iload_n 2, 1) := by decide +kernel
theorem mc177_41 : mr_C 177 41 = some (.iaload, 1) := by decide +kernel
theorem mc177_42 : mr_C 177 42 = some (.aload_n 1, 1) := by decide +kernel
theorem mc177_43 : mr_C 177 43 = some (.getfield 129, 3) := by decide +kernel
theorem mc177_46 : mr_C 177 46 = some (.iload_n 2, 1) := by decide +kernel
theorem mc177_47 : mr_C 177 47 = some (.iaload, 1) := by decide +kernel
theorem mc177_48 : mr_C 177 48 = some (.invokevirtual 287, 3) := by decide +kernel
theorem mc177_51 : mr_C 177 51 = some (.iload_n 2, 1) := by decide +kernel
theorem mc177_52 : mr_C 177 52 = some (.iconst 1, 1) := by decide +kernel
theorem mc177_53 : mr_C 177 53 = some (.iadd, 1) := by decide +kernel
theorem mc177_54 : mr_C 177 54 = some (.istore_n 3, 1) := by decide +kernel
theorem mc177_55 : mr_C 177 55 = some (.iload_n 3, 1) := by decide +kernel
theorem mc177_56 : mr_C 177 56 = some (.aload_n 1, 1) := by decide +kernel
theorem mc177_57 : mr_C 177 57 = some (.getfield 118, 3) := by decide +kernel
theorem mc177_60 : mr_C 177 60 = some (.if_icmp .ge (74), 3) := by decide +kernel
theorem mc177_63 : mr_C 177 63 = some (.aload_n 1, 1) := by decide +kernel
theorem mc177_64 : mr_C 177 64 = some (.iload_n 3, 1) := by decide +kernel
theorem mc177_65 : mr_C 177 65 = some (.invokevirtual 281, 3) := by decide +kernel
theorem mc177_68 : mr_C 177 68 = some (.iconst (-1), 1) := by decide +kernel
theorem mc177_69 : mr_C 177 69 = some (.if_icmp .eq (65), 3) := by decide +kernel
theorem mc177_72 : mr_C 177 72 = some (.aload_n 0, 1) := by decide +kernel
theorem mc177_73 : mr_C 177 73 = some (.getfield 25, 3) := by decide +kernel
theorem mc177_76 : mr_C 177 76 = some (.invokevirtual 229, 3) := by decide +kernel
theorem mc177_79 : mr_C 177 79 = some (.ifCond .ne (55), 3) := by decide +kernel
theorem mc177_82 : mr_C 177 82 = some (.aload_n 0, 1) := by decide +kernel
theorem mc177_83 : mr_C 177 83 = some (.getfield 29, 3) := by decide +kernel
theorem mc177_86 : mr_C 177 86 = some (.invokevirtual 69, 3) := by decide +kernel
theorem mc177_89 : mr_C 177 89 = some (.aload_n 1, 1) := by decide +kernel
theorem mc177_90 : mr_C 177 90 = some (.iload_n 3, 1) := by decide +kernel
theorem mc177_91 : mr_C 177 91 = some (.aload_n 0, 1) := by decide +kernel
theorem mc177_92 : mr_C 177 92 = some (.getfield 29, 3) := by decide +kernel
theorem mc177_95 : mr_C 177 95 = some (.iconst 0, 1) := by decide +kernel
theorem mc177_96 : mr_C 177 96 = some (.iconst 0, 1) := by decide +kernel
theorem mc177_97 : mr_C 177 97 = some (.invokevirtual 121, 3) := by decide +kernel
theorem mc177_100 : mr_C 177 100 = some (.aload_n 0, 1) := by decide +kernel
theorem mc177_101 : mr_C 177 101 = some (.getfield 25, 3) := by decide +kernel
theorem mc177_104 : mr_C 177 104 = some (.aload_n 0, 1) := by decide +kernel
theorem mc177_105 : mr_C 177 105 = some (.getfield 29, 3) := by decide +kernel
theorem mc177_108 : mr_C 177 108 = some (.iconst 1, 1) := by decide +kernel
theorem mc177_109 : mr_C 177 109 = some (.invokevirtual 112, 3) := by decide +kernel
theorem mc177_112 : mr_C 177 112 = some (.aload_n 0, 1) := by decide +kernel
theorem mc177_113 : mr_C 177 113 = some (.aload_n 1, 1) := by decide +kernel
theorem mc177_114 : mr_C 177 114 = some (.getfield 125, 3) := by decide +kernel
theorem mc177_117 : mr_C 177 117 = some (.iload_n 2, 1) := by decide +kernel
theorem mc177_118 : mr_C 177 118 = some (.iaload, 1) := by decide +kernel
theorem mc177_119 : mr_C 177 119 = some (.aload_n 1, 1) := by decide +kernel
theorem mc177_120 : mr_C 177 120 = some (.getfield 129, 3) := by decide +kernel
theorem mc177_123 : mr_C 177 123 = some (.iload_n 3, 1) := by decide +kernel
theorem mc177_124 : mr_C 177 124 = some (.iaload, 1) := by decide +kernel
theorem mc177_125 : mr_C 177 125 = some (.invokevirtual 287, 3) := by decide +kernel
theorem mc177_128 : mr_C 177 128 = some (.iinc 3 (1), 3) := by decide +kernel
theorem mc177_131 : mr_C 177 131 = some (.goto (-76), 3) := by decide +kernel
theorem mc177_134 : mr_C 177 134 = some (.iinc 2 (1), 3) := by decide +kernel
theorem mc177_137 : mr_C 177 137 = some (.goto (-128), 3) := by decide +kernel
theorem mc177_140 : mr_C 177 140 = some (.return_, 1) := by decide +kernel
theorem vc177_0 {sc : Nat × (Int → Int)} {Q : mm_R → mm_M → Prop} {M : mm_M} {l1 : Nat} (ho : mr_ok M)
    (h : en_CV sc 173 [mm_r 23] M (fun M2 => mr_ok M2 → en_R sc 177 9 [mm_r 0, mm_r l1, mm_i 0, mm_u] [] M2 Q) (fun e M9 => Q (.inr e) M9)) : en_R sc 177 0 [mm_r 0, mm_r l1, mm_u, mm_u] [] M Q := by
  refine en_aload_n mc177_0 rfl ?_
  refine en_getR (b := 23) mv177 mc177_1 (lk_f6_56) (⟨rfl, by decide⟩ : mt_kd[0]? = some (.inl 6) ∧ 0 < 99) rfl (mk_fc ho (by decide +kernel)) ?_
  refine en_callV (lz := [mm_r 23]) mv177 mc177_4 rfl rfl (lk_m6_284) mv173 rfl (by decide) rfl (mk_cokV rfl (⟨rfl, by decide⟩ : mt_kd[23]? = some (.inl 1) ∧ 23 < 99)) rfl (mk_nh rfl _) ho ?_
  refine en_CV_mono h (fun M2 h => ?_) (fun _ _ h => h)
  intro ho3
  replace h := h ho3
  refine en_iconst mc177_7 ?_
  refine en_istore_n (ls' := [mm_r 0, mm_r l1, mm_i 0, mm_u]) mc177_8 (Nat.le_of_ble_eq_true rfl) rfl ?_
  exact h
theorem vc177_9 {sc : Nat × (Int → Int)} {Q : mm_R → mm_M → Prop} {M : mm_M} {l1 : Nat} {l2 : Int} {l3 : mm_V} (ho : mr_ok M) (hA_l1 : mr_A l1) (hg_l2 : mr_rg l2)
    (h : ((M.1 l1 0) ≤ l2 → Q (.inl none) M) ∧ (¬ (M.1 l1 0) ≤ l2 → en_CV sc 12 [mm_r 11] M (fun M2 => mr_ok M2 → en_CV sc 52 [mm_r l1, mm_i l2, mm_r 11, mm_i 0, mm_i 0, mm_u] M2 (fun M5 => mr_ok M5 → 0 ≤ l2 ∧ (l2 < 100 ∧ (0 ≤ l2 ∧ (l2 < 100 ∧ (en_CV sc 176 [mm_r 0, mm_i (M5.1 (l1 + 1) l2), mm_i (M5.1 (l1 + 2) l2), mm_u, mm_u] M5 (fun M12 => mr_ok M12 → en_R sc 177 55 [mm_r 0, mm_r l1, mm_i l2, mm_i (l2 + 1)] [] M12 Q) (fun e M9 => Q (.inr e) M9)))))) (fun e M9 => Q (.inr e) M9)) (fun e M9 => Q (.inr e) M9))) : en_R sc 177 9 [mm_r 0, mm_r l1, mm_i l2, l3] [] M Q := by
  refine en_iload_n mc177_9 rfl ?_
  refine en_aload_n mc177_10 rfl ?_
  refine en_getI mv177 mc177_11 (lk_f6_118) (mk_A0 hA_l1) (Or.inl rfl) ?_
  refine en_icmp_ge 140 mc177_14 (by decide) hg_l2 (ho.2.1 l1 0 (mk_nA0 hA_l1 _)) (fun q => ?_) (fun q => ?_)
  · replace h := h.1 q
    exact en_vret mv177 mc177_140 rfl h
  · replace h := h.2 q
    refine en_aload_n mc177_17 rfl ?_
    refine en_getR (b := 11) mv177 mc177_18 (lk_f6_25) (⟨rfl, by decide⟩ : mt_kd[0]? = some (.inl 6) ∧ 0 < 99) rfl (mk_fc ho (by decide +kernel)) ?_
    refine en_callV (lz := [mm_r 11]) mv177 mc177_21 rfl rfl (lk_m6_69) mv12 rfl (by decide) rfl (mk_cokV rfl (mk_R0 (by unfold mr_Rw; decide : mr_Rw 11))) rfl (mk_nh rfl _) ho ?_
    refine en_CV_mono h (fun M2 h => ?_) (fun _ _ h => h)
    intro ho3
    replace h := h ho3
    refine en_aload_n mc177_24 rfl ?_
    refine en_iload_n mc177_25 rfl ?_
    refine en_aload_n mc177_26 rfl ?_
    refine en_getR (b := 11) mv177 mc177_27 (lk_f6_25) (⟨rfl, by decide⟩ : mt_kd[0]? = some (.inl 6) ∧ 0 < 99) rfl (mk_fc ho3 (by decide +kernel)) ?_
    refine en_iconst mc177_30 ?_
    refine en_iconst mc177_31 ?_
    refine en_callV (lz := [mm_r l1, mm_i l2, mm_r 11, mm_i 0, mm_i 0, mm_u]) mv177 mc177_32 rfl rfl (lk_m6_121) mv52 rfl (by decide) rfl (mk_cokV rfl (mk_A0 hA_l1)) rfl (mk_nh rfl _) ho3 ?_
    refine en_CV_mono h (fun M5 h => ?_) (fun _ _ h => h)
    intro ho6
    replace h := h ho6
    obtain ⟨g7, h⟩ := h
    obtain ⟨g8, h⟩ := h
    obtain ⟨g9, h⟩ := h
    obtain ⟨g10, h⟩ := h
    refine en_aload_n mc177_35 rfl ?_
    refine en_aload_n mc177_36 rfl ?_
    refine en_getR (b := (l1 + 1)) mv177 mc177_37 (lk_f6_125) (mk_A0 hA_l1) rfl (mk_fA1 hA_l1 ho6) ?_
    refine en_iload_n mc177_40 rfl ?_
    refine en_iald mc177_41 (mk_A1 hA_l1) g7 g8 ?_
    refine en_aload_n mc177_42 rfl ?_
    refine en_getR (b := (l1 + 2)) mv177 mc177_43 (lk_f6_129) (mk_A0 hA_l1) rfl (mk_fA2 hA_l1 ho6) ?_
    refine en_iload_n mc177_46 rfl ?_
    refine en_iald mc177_47 (mk_A2 hA_l1) g9 g10 ?_
    refine en_callV (lz := [mm_r 0, mm_i (M5.1 (l1 + 1) l2), mm_i (M5.1 (l1 + 2) l2), mm_u, mm_u]) mv177 mc177_48 rfl rfl (lk_m6_287) mv176 rfl (by decide) rfl (mk_cokV rfl (⟨rfl, by decide⟩ : mt_kd[0]? = some (.inl 6) ∧ 0 < 99)) rfl (mk_nh rfl _) ho6 ?_
    refine en_CV_mono h (fun M12 h => ?_) (fun _ _ h => h)
    intro ho13
    replace h := h ho13
    refine en_iload_n mc177_51 rfl ?_
    refine en_iconst mc177_52 ?_
    refine en_iadd mc177_53 ?_
    refine en_istore_n (ls' := [mm_r 0, mm_r l1, mm_i l2, mm_i (l2 + 1)]) mc177_54 (Nat.le_of_ble_eq_true rfl) rfl ?_
    exact h
theorem vc177_55 {sc : Nat × (Int → Int)} {Q : mm_R → mm_M → Prop} {M : mm_M} {l1 : Nat} {l2 : Int} {l3 : Int} (ho : mr_ok M) (hA_l1 : mr_A l1) (hg_l3 : mr_rg l3)
    (h : ((M.1 l1 0) ≤ l3 → en_R sc 177 9 [mm_r 0, mm_r l1, mm_i (l2 + 1), mm_i l3] [] M Q) ∧ (¬ (M.1 l1 0) ≤ l3 → en_CI sc 96 [mm_r l1, mm_i l3] M (fun x1 M2 => mr_ok M2 → mr_rg x1 ∧ ((x1 = (-1) → en_R sc 177 9 [mm_r 0, mm_r l1, mm_i (l2 + 1), mm_i l3] [] M2 Q) ∧ (¬ x1 = (-1) → en_CI sc 23 [mm_r 11] M2 (fun x5 M6 => mr_ok M6 → mr_rg x5 ∧ ((x5 ≠ 0 → en_R sc 177 9 [mm_r 0, mm_r l1, mm_i (l2 + 1), mm_i l3] [] M6 Q) ∧ (¬ (x5 ≠ 0) → en_CV sc 12 [mm_r 13] M6 (fun M10 => mr_ok M10 → en_CV sc 52 [mm_r l1, mm_i l3, mm_r 13, mm_i 0, mm_i 0, mm_u] M10 (fun M13 => mr_ok M13 → en_CV sc 55 [mm_r 11, mm_r 13, mm_i 1, mm_u] M13 (fun M16 => mr_ok M16 → 0 ≤ l2 ∧ (l2 < 100 ∧ (0 ≤ l3 ∧ (l3 < 100 ∧ (en_CV sc 176 [mm_r 0, mm_i (M16.1 (l1 + 1) l2), mm_i (M16.1 (l1 + 2) l3), mm_u, mm_u] M16 (fun M23 => mr_ok M23 → en_R sc 177 55 [mm_r 0, mm_r l1, mm_i l2, mm_i (l3 + 1)] [] M23 Q) (fun e M9 => Q (.inr e) M9)))))) (fun e M9 => Q (.inr e) M9)) (fun e M9 => Q (.inr e) M9)) (fun e M9 => Q (.inr e) M9)))) (fun e M9 => Q (.inr e) M9)))) (fun e M9 => Q (.inr e) M9))) : en_R sc 177 55 [mm_r 0, mm_r l1, mm_i l2, mm_i l3] [] M Q := by
  refine en_iload_n mc177_55 rfl ?_
  refine en_aload_n mc177_56 rfl ?_
  refine en_getI mv177 mc177_57 (lk_f6_118) (mk_A0 hA_l1) (Or.inl rfl) ?_
  refine en_icmp_ge 134 mc177_60 (by decide) hg_l3 (ho.2.1 l1 0 (mk_nA0 hA_l1 _)) (fun q => ?_) (fun q => ?_)
  · replace h := h.1 q
    refine en_iinc (ls' := [mm_r 0, mm_r l1, mm_i (l2 + 1), mm_i l3]) mc177_134 rfl rfl ?_
    refine en_goto 9 mc177_137 (by decide) ?_
    exact h
  · replace h := h.2 q
    refine en_aload_n mc177_63 rfl ?_
    refine en_iload_n mc177_64 rfl ?_
    refine en_callI (lz := [mm_r l1, mm_i l3]) mv177 mc177_65 rfl rfl (lk_m6_281) mv96 rfl (by decide) rfl (mk_cokV rfl (mk_A0 hA_l1)) rfl (mk_nh rfl _) ho ?_
    refine en_CI_mono h (fun x1 M2 h => ?_) (fun _ _ h => h)
    intro ho3
    replace h := h ho3
    obtain ⟨g4, h⟩ := h
    refine en_iconst mc177_68 ?_
    refine en_icmp_eq 134 mc177_69 (by decide) g4 (⟨by decide, by decide⟩ : mr_rg (-1)) (fun q => ?_) (fun q => ?_)
    · replace h := h.1 q
      refine en_iinc (ls' := [mm_r 0, mm_r l1, mm_i (l2 + 1), mm_i l3]) mc177_134 rfl rfl ?_
      refine en_goto 9 mc177_137 (by decide) ?_
      exact h
    · replace h := h.2 q
      refine en_aload_n mc177_72 rfl ?_
      refine en_getR (b := 11) mv177 mc177_73 (lk_f6_25) (⟨rfl, by decide⟩ : mt_kd[0]? = some (.inl 6) ∧ 0 < 99) rfl (mk_fc ho3 (by decide +kernel)) ?_
      refine en_callI (lz := [mm_r 11]) mv177 mc177_76 rfl rfl (lk_m6_229) mv23 rfl (by decide) rfl (mk_cokV rfl (mk_R0 (by unfold mr_Rw; decide : mr_Rw 11))) rfl (mk_nh rfl _) ho3 ?_
      refine en_CI_mono h (fun x5 M6 h => ?_) (fun _ _ h => h)
      intro ho7
      replace h := h ho7
      obtain ⟨g8, h⟩ := h
      refine en_if_ne 134 mc177_79 (by decide) g8 (fun q => ?_) (fun q => ?_)
      · replace h := h.1 q
        refine en_iinc (ls' := [mm_r 0, mm_r l1, mm_i (l2 + 1), mm_i l3]) mc177_134 rfl rfl ?_
        refine en_goto 9 mc177_137 (by decide) ?_
        exact h
      · replace h := h.2 q
        refine en_aload_n mc177_82 rfl ?_
        refine en_getR (b := 13) mv177 mc177_83 (lk_f6_29) (⟨rfl, by decide⟩ : mt_kd[0]? = some (.inl 6) ∧ 0 < 99) rfl (mk_fc ho7 (by decide +kernel)) ?_
        refine en_callV (lz := [mm_r 13]) mv177 mc177_86 rfl rfl (lk_m6_69) mv12 rfl (by decide) rfl (mk_cokV rfl (mk_R0 (by unfold mr_Rw; decide : mr_Rw 13))) rfl (mk_nh rfl _) ho7 ?_
        refine en_CV_mono h (fun M10 h => ?_) (fun _ _ h => h)
        intro ho11
        replace h := h ho11
        refine en_aload_n mc177_89 rfl ?_
        refine en_iload_n mc177_90 rfl ?_
        refine en_aload_n mc177_91 rfl ?_
        refine en_getR (b := 13) mv177 mc177_92 (lk_f6_29) (⟨rfl, by decide⟩ : mt_kd[0]? = some (.inl 6) ∧ 0 < 99) rfl (mk_fc ho11 (by decide +kernel)) ?_
        refine en_iconst mc177_95 ?_
        refine en_iconst mc177_96 ?_
        refine en_callV (lz := [mm_r l1, mm_i l3, mm_r 13, mm_i 0, mm_i 0, mm_u]) mv177 mc177_97 rfl rfl (lk_m6_121) mv52 rfl (by decide) rfl (mk_cokV rfl (mk_A0 hA_l1)) rfl (mk_nh rfl _) ho11 ?_
        refine en_CV_mono h (fun M13 h => ?_) (fun _ _ h => h)
        intro ho14
        replace h := h ho14
        refine en_aload_n mc177_100 rfl ?_
        refine en_getR (b := 11) mv177 mc177_101 (lk_f6_25) (⟨rfl, by decide⟩ : mt_kd[0]? = some (.inl 6) ∧ 0 < 99) rfl (mk_fc ho14 (by decide +kernel)) ?_
        refine en_aload_n mc177_104 rfl ?_
        refine en_getR (b := 13) mv177 mc177_105 (lk_f6_29) (⟨rfl, by decide⟩ : mt_kd[0]? = some (.inl 6) ∧ 0 < 99) rfl (mk_fc ho14 (by decide +kernel)) ?_
        refine en_iconst mc177_108 ?_
        refine en_callV (lz := [mm_r 11, mm_r 13, mm_i 1, mm_u]) mv177 mc177_109 rfl rfl (lk_m6_112) mv55 rfl (by decide) rfl (mk_cokV rfl (mk_R0 (by unfold mr_Rw; decide : mr_Rw 11))) rfl (mk_nh rfl _) ho14 ?_
        refine en_CV_mono h (fun M16 h => ?_) (fun _ _ h => h)
        intro ho17
        replace h := h ho17
        obtain ⟨g18, h⟩ := h
        obtain ⟨g19, h⟩ := h
        obtain ⟨g20, h⟩ := h
        obtain ⟨g21, h⟩ := h
        refine en_aload_n mc177_112 rfl ?_
        refine en_aload_n mc177_113 rfl ?_
        refine en_getR (b := (l1 + 1)) mv177 mc177_114 (lk_f6_125) (mk_A0 hA_l1) rfl (mk_fA1 hA_l1 ho17) ?_
        refine en_iload_n mc177_117 rfl ?_
        refine en_iald mc177_118 (mk_A1 hA_l1) g18 g19 ?_
        refine en_aload_n mc177_119 rfl ?_
        refine en_getR (b := (l1 + 2)) mv177 mc177_120 (lk_f6_129) (mk_A0 hA_l1) rfl (mk_fA2 hA_l1 ho17) ?_
        refine en_iload_n mc177_123 rfl ?_
        refine en_iald mc177_124 (mk_A2 hA_l1) g20 g21 ?_
        refine en_callV (lz := [mm_r 0, mm_i (M16.1 (l1 + 1) l2), mm_i (M16.1 (l1 + 2) l3), mm_u, mm_u]) mv177 mc177_125 rfl rfl (lk_m6_287) mv176 rfl (by decide) rfl (mk_cokV rfl (⟨rfl, by decide⟩ : mt_kd[0]? = some (.inl 6) ∧ 0 < 99)) rfl (mk_nh rfl _) ho17 ?_
        refine en_CV_mono h (fun M23 h => ?_) (fun _ _ h => h)
        intro ho24
        replace h := h ho24
        refine en_iinc (ls' := [mm_r 0, mm_r l1, mm_i l2, mm_i (l3 + 1)]) mc177_128 rfl rfl ?_
        refine en_goto 55 mc177_131 (by decide) ?_
        exact h
/-! 178: CellAreas.largest(II)I -/
theorem mc178_0 : mr_C 178 0 = some (.iload_n 1, 1) := by decide +kernel
theorem mc178_1 : mr_C 178 1 = some (.invokestatic 61, 3) := by decide +kernel
theorem mc178_4 : mr_C 178 4 = some (.aload_n 0, 1) := by decide +kernel
theorem mc178_5 : mr_C 178 5 = some (.getfield 11, 3) := by decide +kernel
theorem mc178_8 : mr_C 178 8 = some (.iload_n 1, 1) := by decide +kernel
theorem mc178_9 : mr_C 178 9 = some (.aaload, 1) := by decide +kernel
theorem mc178_10 : mr_C 178 10 = some (.getfield 118, 3) := by decide +kernel
theorem mc178_13 : mr_C 178 13 = some (.ifCond .ne (7), 3) := by decide +kernel
theorem mc178_16 : mr_C 178 16 = some (.sipush (-2001), 3) := by decide +kernel
theorem mc178_19 : mr_C 178 19 = some (.ireturn, 1) := by decide +kernel
theorem mc178_20 : mr_C 178 20 = some (.aload_n 0, 1) := by decide +kernel
theorem mc178_21 : mr_C 178 21 = some (.aload_n 0, 1) := by decide +kernel
theorem mc178_22 : mr_C 178 22 = some (.getfield 11, 3) := by decide +kernel
theorem mc178_25 : mr_C 178 25 = some (.iload_n 1, 1) := by decide +kernel
theorem mc178_26 : mr_C 178 26 = some (.aaload, 1) := by decide +kernel
theorem mc178_27 : mr_C 178 27 = some (.invokevirtual 216, 3) := by decide +kernel
theorem mc178_30 : mr_C 178 30 = some (.iload_n 2, 1) := by decide +kernel
theorem mc178_31 : mr_C 178 31 = some (.tableswitch (73) (0) (4) #[33, 41, 49, 57, 65], 33) := by decide +kernel
theorem mc178_64 : mr_C 178 64 = some (.aload_n 0, 1) := by decide +kernel
theorem mc178_65 : mr_C 178 65 = some (.getfield 56, 3) := by decide +kernel
theorem mc178_68 : mr_C 178 68 = some (.getfield 219, 3) := by decide +kernel
theorem mc178_71 : mr_C 178 71 = some (.ireturn, 1) := by decide +kernel
theorem mc178_72 : mr_C 178 72 = some (.aload_n 0, 1) := by decide +kernel
theorem mc178_73 : mr_C 178 73 = some (.getfield 56, 3) := by decide +kernel
theorem mc178_76 : mr_C 178 76 = some (.getfield 221, 3) := by decide +kernel
theorem mc178_79 : mr_C 178 79 = some (.ireturn, 1) := by decide +kernel
theorem mc178_80 : mr_C 178 80 = some (.aload_n 0, 1) := by decide +kernel
theorem mc178_81 : mr_C 178 81 = some (.getfield 56, 3) := by decide +kernel
theorem mc178_84 : mr_C 178 84 = some (.getfield 223, 3) := by decide +kernel
theorem mc178_87 : mr_C 178 87 = some (.ireturn, 1) := by decide +kernel
theorem mc178_88 : mr_C 178 88 = some (.aload_n 0, 1) := by decide +kernel
theorem mc178_89 : mr_C 178 89 = some (.getfield 56, 3) := by decide +kernel
theorem mc178_92 : mr_C 178 92 = some (.getfield 225, 3) := by decide +kernel
theorem mc178_95 : mr_C 178 95 = some (.ireturn, 1) := by decide +kernel
theorem mc178_96 : mr_C 178 96 = some (.aload_n 0, 1) := by decide +kernel
theorem mc178_97 : mr_C 178 97 = some (.getfield 56, 3) := by decide +kernel
theorem mc178_100 : mr_C 178 100 = some (.getfield 227, 3) := by decide +kernel
theorem mc178_103 : mr_C 178 103 = some (.ireturn, 1) := by decide +kernel
theorem mc178_104 : mr_C 178 104 = some (.sipush (-2001), 3) := by decide +kernel
theorem mc178_107 : mr_C 178 107 = some (.ireturn, 1) := by decide +kernel
theorem vc178_0 {sc : Nat × (Int → Int)} {Q : mm_R → mm_M → Prop} {M : mm_M} {l1 : Int} {l2 : Int} (ho : mr_ok M) (hg_l2 : mr_rg l2)
    (h : en_CV sc 9 [mm_i l1] M (fun M2 => mr_ok M2 → 0 ≤ l1 ∧ (l1 < 8 ∧ (∃ b6, M2.2.1 1 l1 = some b6 ∧ mr_A b6 ∧ (((M2.1 b6 0) ≠ 0 → 0 ≤ l1 ∧ (l1 < 8 ∧ (∃ b10, M2.2.1 1 l1 = some b10 ∧ mr_A b10 ∧ (en_CV sc 177 [mm_r 0, mm_r b10, mm_u, mm_u] M2 (fun M13 => mr_ok M13 → (l2 = 0 → Q (.inl (some (mm_i (M13.1 23 0)))) M13) ∧ (l2 = 1 → Q (.inl (some (mm_i (M13.1 23 1)))) M13) ∧ (l2 = 2 → Q (.inl (some (mm_i (M13.1 23 2)))) M13) ∧ (l2 = 3 → Q (.inl (some (mm_i (M13.1 23 3)))) M13) ∧ (l2 = 4 → Q (.inl (some (mm_i (M13.1 23 4)))) M13) ∧ (l2 ≠ 0 → l2 ≠ 1 → l2 ≠ 2 → l2 ≠ 3 → l2 ≠ 4 → Q (.inl (some (mm_i (-2001)))) M13)) (fun e M9 => Q (.inr e) M9))))) ∧ (¬ ((M2.1 b6 0) ≠ 0) → Q (.inl (some (mm_i (-2001)))) M2))))) (fun e M9 => Q (.inr e) M9)) : en_R sc 178 0 [mm_r 0, mm_i l1, mm_i l2] [] M Q := by
  refine en_iload_n mc178_0 rfl ?_
  refine en_callV (lz := [mm_i l1]) mv178 mc178_1 rfl rfl (lk_m6_61) mv9 rfl (by decide) rfl (mk_cokS rfl) rfl (mk_nh rfl _) ho ?_
  refine en_CV_mono h (fun M2 h => ?_) (fun _ _ h => h)
  intro ho3
  replace h := h ho3
  obtain ⟨g4, h⟩ := h
  obtain ⟨g5, h⟩ := h
  refine en_aload_n mc178_4 rfl ?_
  refine en_getR (b := 1) mv178 mc178_5 (lk_f6_11) (⟨rfl, by decide⟩ : mt_kd[0]? = some (.inl 6) ∧ 0 < 99) rfl (mk_fc ho3 (by decide +kernel)) ?_
  refine en_iload_n mc178_8 rfl ?_
  obtain ⟨b6, g7, hA_b6_, h⟩ := h
  refine en_aald mc178_9 g4 g5 g7 ?_
  refine en_getI mv178 mc178_10 (lk_f6_118) (mk_A0 hA_b6_) (Or.inl rfl) ?_
  refine en_if_ne 20 mc178_13 (by decide) (ho3.2.1 b6 0 (mk_nA0 hA_b6_ _)) (fun q => ?_) (fun q => ?_)
  · replace h := h.1 q
    obtain ⟨g8, h⟩ := h
    obtain ⟨g9, h⟩ := h
    refine en_aload_n mc178_20 rfl ?_
    refine en_aload_n mc178_21 rfl ?_
    refine en_getR (b := 1) mv178 mc178_22 (lk_f6_11) (⟨rfl, by decide⟩ : mt_kd[0]? = some (.inl 6) ∧ 0 < 99) rfl (mk_fc ho3 (by decide +kernel)) ?_
    refine en_iload_n mc178_25 rfl ?_
    obtain ⟨b10, g11, hA_b10_, h⟩ := h
    refine en_aald mc178_26 g8 g9 g11 ?_
    refine en_callV (lz := [mm_r 0, mm_r b10, mm_u, mm_u]) mv178 mc178_27 rfl rfl (lk_m6_216) mv177 rfl (by decide) rfl (mk_cokV rfl (⟨rfl, by decide⟩ : mt_kd[0]? = some (.inl 6) ∧ 0 < 99)) rfl (mk_nh rfl _) ho3 ?_
    refine en_CV_mono h (fun M13 h => ?_) (fun _ _ h => h)
    intro ho14
    replace h := h ho14
    refine en_iload_n mc178_30 rfl ?_
    by_cases q0 : l2 = 0
    · replace h := h.1 q0
      refine en_tsw 64 mc178_31 hg_l2 (by first | (rw [q0]; done) | (rw [q0]; rfl)) (by decide) ?_
      refine en_aload_n mc178_64 rfl ?_
      refine en_getR (b := 23) mv178 mc178_65 (lk_f6_56) (⟨rfl, by decide⟩ : mt_kd[0]? = some (.inl 6) ∧ 0 < 99) rfl (mk_fc ho14 (by decide +kernel)) ?_
      refine en_getI mv178 mc178_68 (lk_f6_219) (⟨rfl, by decide⟩ : mt_kd[23]? = some (.inl 1) ∧ 23 < 99) (Or.inl rfl) ?_
      exact en_iret mv178 mc178_71 rfl h
    by_cases q1 : l2 = 1
    · replace h := h.2.1 q1
      refine en_tsw 72 mc178_31 hg_l2 (by first | (rw [q1]; done) | (rw [q1]; rfl)) (by decide) ?_
      refine en_aload_n mc178_72 rfl ?_
      refine en_getR (b := 23) mv178 mc178_73 (lk_f6_56) (⟨rfl, by decide⟩ : mt_kd[0]? = some (.inl 6) ∧ 0 < 99) rfl (mk_fc ho14 (by decide +kernel)) ?_
      refine en_getI mv178 mc178_76 (lk_f6_221) (⟨rfl, by decide⟩ : mt_kd[23]? = some (.inl 1) ∧ 23 < 99) (Or.inl rfl) ?_
      exact en_iret mv178 mc178_79 rfl h
    by_cases q2 : l2 = 2
    · replace h := h.2.2.1 q2
      refine en_tsw 80 mc178_31 hg_l2 (by first | (rw [q2]; done) | (rw [q2]; rfl)) (by decide) ?_
      refine en_aload_n mc178_80 rfl ?_
      refine en_getR (b := 23) mv178 mc178_81 (lk_f6_56) (⟨rfl, by decide⟩ : mt_kd[0]? = some (.inl 6) ∧ 0 < 99) rfl (mk_fc ho14 (by decide +kernel)) ?_
      refine en_getI mv178 mc178_84 (lk_f6_223) (⟨rfl, by decide⟩ : mt_kd[23]? = some (.inl 1) ∧ 23 < 99) (Or.inl rfl) ?_
      exact en_iret mv178 mc178_87 rfl h
    by_cases q3 : l2 = 3
    · replace h := h.2.2.2.1 q3
      refine en_tsw 88 mc178_31 hg_l2 (by first | (rw [q3]; done) | (rw [q3]; rfl)) (by decide) ?_
      refine en_aload_n mc178_88 rfl ?_
      refine en_getR (b := 23) mv178 mc178_89 (lk_f6_56) (⟨rfl, by decide⟩ : mt_kd[0]? = some (.inl 6) ∧ 0 < 99) rfl (mk_fc ho14 (by decide +kernel)) ?_
      refine en_getI mv178 mc178_92 (lk_f6_225) (⟨rfl, by decide⟩ : mt_kd[23]? = some (.inl 1) ∧ 23 < 99) (Or.inl rfl) ?_
      exact en_iret mv178 mc178_95 rfl h
    by_cases q4 : l2 = 4
    · replace h := h.2.2.2.2.1 q4
      refine en_tsw 96 mc178_31 hg_l2 (by first | (rw [q4]; done) | (rw [q4]; rfl)) (by decide) ?_
      refine en_aload_n mc178_96 rfl ?_
      refine en_getR (b := 23) mv178 mc178_97 (lk_f6_56) (⟨rfl, by decide⟩ : mt_kd[0]? = some (.inl 6) ∧ 0 < 99) rfl (mk_fc ho14 (by decide +kernel)) ?_
      refine en_getI mv178 mc178_100 (lk_f6_227) (⟨rfl, by decide⟩ : mt_kd[23]? = some (.inl 1) ∧ 23 < 99) (Or.inl rfl) ?_
      exact en_iret mv178 mc178_103 rfl h
    replace h := h.2.2.2.2.2 q0 q1 q2 q3 q4
    refine en_tsw 104 mc178_31 hg_l2 (by rw [if_pos (by omega)]) (by decide) ?_
    refine en_sipush mc178_104 (by decide) ?_
    exact en_iret mv178 mc178_107 rfl h
  · replace h := h.2 q
    refine en_sipush mc178_16 (by decide) ?_
    exact en_iret mv178 mc178_19 rfl h
/-! 180: CellAreasModel.offer(IIII)V -/
theorem mc180_0 : mr_C 180 0 = some (.iload_n 1, 1) := by decide +kernel
theorem mc180_1 : mr_C 180 1 = some (.iload_n 3, 1) := by decide +kernel
theorem mc180_2 : mr_C 180 2 = some (.if_icmp .lt (4), 3) := by decide +kernel
theorem mc180_5 : mr_C 180 5 = some (.return_, 1) := by decide +kernel
theorem mc180_6 : mr_C 180 6 = some (.aload_n 0, 1) := by decide +kernel
theorem mc180_7 : mr_C 180 7 = some (.getfield 55, 3) := by decide +kernel
theorem mc180_10 : mr_C 180 10 = some (.iload_n 3, 1) := by decide +kernel
theorem mc180_11 : mr_C 180 11 = some (.iaload, 1) := by decide +kernel
theorem mc180_12 : mr_C 180 12 = some (.aload_n 0, 1) := by decide +kernel
theorem mc180_13 : mr_C 180 13 = some (.getfield 55, 3) := by decide +kernel
theorem mc180_16 : mr_C 180 16 = some (.iload_n 1, 1) := by decide +kernel
theorem mc180_17 : mr_C 180 17 = some (.iaload, 1) := by decide +kernel
theorem mc180_18 : mr_C 180 18 = some (.isub, 1) := by decide +kernel
theorem mc180_19 : mr_C 180 19 = some (.aload_n 0, 1) := by decide +kernel
theorem mc180_20 : mr_C 180 20 = some (.getfield 58, 3) := by decide +kernel
theorem mc180_23 : mr_C 180 23 = some (.iload 4, 2) := by decide +kernel
theorem mc180_25 : mr_C 180 25 = some (.iaload, 1) := by decide +kernel
theorem mc180_26 : mr_C 180 26 = some (.aload_n 0, 1) := by decide +kernel
theorem mc180_27 : mr_C 180 27 = some (.getfield 58, 3) := by decide +kernel
theorem mc180_30 : mr_C 180 30 = some (.iload_n 2, 1) := by decide +kernel
theorem mc180_31 : mr_C 180 31 = some (.iaload, 1) := by decide +kernel
theorem mc180_32 : mr_C 180 32 = some (.isub, 1) := by decide +kernel
theorem mc180_33 : mr_C 180 33 = some (.imul, 1) := by decide +kernel
theorem mc180_34 : mr_C 180 34 = some (.istore 5, 2) := by decide +kernel
theorem mc180_36 : mr_C 180 36 = some (.aload_n 0, 1) := by decide +kernel
theorem mc180_37 : mr_C 180 37 = some (.getfield 58, 3) := by decide +kernel
theorem mc180_40 : mr_C 180 40 = some (.iload_n 2, 1) := by decide +kernel
theorem mc180_41 : mr_C 180 41 = some (.iaload, 1) := by decide +kernel
theorem mc180_42 : mr_C 180 42 = some (.aload_n 0, 1) := by decide +kernel
theorem mc180_43 : mr_C 180 43 = some (.getfield 276, 3) := by decide +kernel
theorem mc180_46 : mr_C 180 46 = some (.if_icmp .lt (55), 3) := by decide +kernel
theorem mc180_49 : mr_C 180 49 = some (.aload_n 0, 1) := by decide +kernel
theorem mc180_50 : mr_C 180 50 = some (.getfield 58, 3) := by decide +kernel
theorem mc180_53 : mr_C 180 53 = some (.iload_n 2, 1) := by decide +kernel
theorem mc180_54 : mr_C 180 54 = some (.iaload, 1) := by decide +kernel
theorem mc180_55 : mr_C 180 55 = some (.aload_n 0, 1) := by decide +kernel
theorem mc180_56 : mr_C 180 56 = some (.getfield 276, 3) := by decide +kernel
theorem mc180_59 : mr_C 180 59 = some (.if_icmp .ne (46), 3) := by decide +kernel
theorem mc180_62 : mr_C 180 62 = some (.aload_n 0, 1) := by decide +kernel
theorem mc180_63 : mr_C 180 63 = some (.getfield 55, 3) := by decide +kernel
theorem mc180_66 : mr_C 180 66 = some (.iload_n 1, 1) := by decide +kernel
theorem mc180_67 : mr_C 180 67 = some (.iaload, 1) := by decide +kernel
theorem mc180_68 : mr_C 180 68 = some (.aload_n 0, 1) := by decide +kernel
theorem mc180_69 : mr_C 180 69 = some (.getfield 279, 3) := by decide +kernel
theorem mc180_72 : mr_C 180 72 = some (.if_icmp .lt (29), 3) := by decide +kernel
theorem mc180_75 : mr_C 180 75 = some (.aload_n 0, 1) := by decide +kernel
theorem mc180_76 : mr_C 180 76 = some (.getfield 55, 3) := by decide +kernel
theorem mc180_79 : mr_C 180 79 = some (.iload_n 1, 1) := by decide +kernel
theorem mc180_80 : mr_C 180 80 = some (.iaload, 1) := by decide +kernel
theorem mc180_81 : mr_C 180 81 = some (.aload_n 0, 1) := by decide +kernel
theorem mc180_82 : mr_C 180 82 = some (.getfield 279, 3) := by decide +kernel
theorem mc180_85 : mr_C 180 85 = some (.if_icmp .ne (20), 3) := by decide +kernel
theorem mc180_88 : mr_C 180 88 = some (.aload_n 0, 1) := by decide +kernel
theorem mc180_89 : mr_C 180 89 = some (.getfield 55, 3) := by decide +kernel
theorem mc180_92 : mr_C 180 92 = some (.iload_n 3, 1) := by decide +kernel
theorem mc180_93 : mr_C 180 93 = some (.iaload, 1) := by decide +kernel
theorem mc180_94 : mr_C 180 94 = some (.aload_n 0, 1) := by decide +kernel
theorem mc180_95 : mr_C 180 95 = some (.getfield 282, 3) := by decide +kernel
theorem mc180_98 : mr_C 180 98 = some (.if_icmp .ge (7), 3) := by decide +kernel
theorem mc180_101 : mr_C 180 101 = some (.iconst 1, 1) := by decide +kernel
theorem mc180_102 : mr_C 180 102 = some (.goto 4, 3) := by decide +kernel
theorem mc180_105 : mr_C 180 105 = some (.iconst 0, 1) := by decide +kernel
theorem mc180_106 : mr_C 180 106 = some (.istore 6, 2) := by decide +kernel
theorem mc180_108 : mr_C 180 108 = some (.iload 5, 2) := by decide +kernel
theorem mc180_110 : mr_C 180 110 = some (.aload_n 0, 1) := by decide +kernel
theorem mc180_111 : mr_C 180 111 = some (.getfield 285, 3) := by decide +kernel
theorem mc180_114 : mr_C 180 114 = some (.if_icmp .gt (17), 3) := by decide +kernel
theorem mc180_117 : mr_C 180 117 = some (.iload 5, 2) := by decide +kernel
theorem mc180_119 : mr_C 180 119 = some (.aload_n 0, 1) := by decide +kernel
theorem mc180_120 : mr_C 180 120 = some (.getfield 285, 3) := by decide +kernel
theorem mc180_123 : mr_C 180 123 = some (.if_icmp .ne (55), 3) := by decide +kernel
theorem mc180_126 : mr_C 180 126 = some (.iload 6, 2) := by decide +kernel
theorem mc180_128 : mr_C 180 128 = some (.ifCond .eq (50), 3) := by decide +kernel
theorem mc180_131 : mr_C 180 131 = some (.aload_n 0, 1) := by decide +kernel
theorem mc180_132 : mr_C 180 132 = some (.iload 5, 2) := by decide +kernel
theorem mc180_134 : mr_C 180 134 = some (.putfield 285, 3) := by decide +kernel
theorem mc180_137 : mr_C 180 137 = some (.aload_n 0, 1) := by decide +kernel
theorem mc180_138 : mr_C 180 138 = some (.aload_n 0, 1) := by decide +kernel
theorem mc180_139 : mr_C 180 139 = some (.getfield 55, 3) := by decide +kernel
theorem mc180_142 : mr_C 180 142 = some (.iload_n 1, 1) := by decide +kernel
theorem mc180_143 : mr_C 180 143 = some (.iaload, 1) := by decide +kernel
theorem mc180_144 : mr_C 180 144 = some (.putfield 279, 3) := by decide +kernel
theorem mc180_147 : mr_C 180 147 = some (.aload_n 0, 1) := by decide +kernel
theorem mc180_148 : mr_C 180 148 = some (.aload_n 0, 1) := by decide +kernel
theorem mc180_149 : mr_C 180 149 = some (.getfield 58, 3) := by decide +kernel
theorem mc180_152 : mr_C 180 152 = some (.iload_n 2, 1) := by decide +kernel
theorem mc180_153 : mr_C 180 153 = some (.iaload, 1) := by decide +kernel
theorem mc180_154 : mr_C 180 154 = some (.putfield 276, 3) := by decide +kernel
theorem mc180_157 : mr_C 180 157 = some (.aload_n 0, 1) := by decide +kernel
theorem mc180_158 : mr_C 180 158 = some (.aload_n 0, 1) := by decide +kernel
theorem mc180_159 : mr_C 180 159 = some (.getfield 55, 3) := by decide +kernel
theorem mc180_162 : mr_C 180 162 = some (.iload_n 3, 1) := by decide +kernel
theorem mc180_163 : mr_C 180 163 = some (.iaload, 1) := by decide +kernel
theorem mc180_164 : mr_C 180 164 = some (.putfield 282, 3) := by decide +kernel
theorem mc180_167 : mr_C 180 167 = some (.aload_n 0, 1) := by decide +kernel
theorem mc180_168 : mr_C 180 168 = some (.aload_n 0, 1) := by decide +kernel
theorem mc180_169 : mr_C 180 169 = some (.getfield 58, 3) := by decide +kernel
theorem mc180_172 : mr_C 180 172 = some (.iload 4, 2) := by decide +kernel
theorem mc180_174 : mr_C 180 174 = some (.iaload, 1) := by decide +kernel
theorem mc180_175 : mr_C 180 175 = some (.putfield 288, 3) := by decide +kernel
theorem mc180_178 : mr_C 180 178 = some (.return_, 1) := by decide +kernel
theorem vc180_0 {sc : Nat × (Int → Int)} {Q : mm_R → mm_M → Prop} {M : mm_M} {l1 : Int} {l2 : Int} {l3 : Int} {l4 : Int} (ho : mr_ok M) (hg_l1 : mr_rg l1) (hg_l3 : mr_rg l3)
    (h : (l1 < l3 → 0 ≤ l3 ∧ (l3 < 801 ∧ (0 ≤ l1 ∧ (l1 < 801 ∧ (0 ≤ l4 ∧ (l4 < 202 ∧ (0 ≤ l2 ∧ (l2 < 202 ∧ (0 ≤ l2 ∧ (l2 < 202 ∧ (((M.1 89 l2) < (M.1 72 43) → en_R sc 180 101 [mm_r 72, mm_i l1, mm_i l2, mm_i l3, mm_i l4, mm_i (((M.1 88 l3) - (M.1 88 l1)) * ((M.1 89 l4) - (M.1 89 l2))), mm_u] [] M Q) ∧ (¬ (M.1 89 l2) < (M.1 72 43) → 0 ≤ l2 ∧ (l2 < 202 ∧ (((M.1 89 l2) ≠ (M.1 72 43) → en_R sc 180 105 [mm_r 72, mm_i l1, mm_i l2, mm_i l3, mm_i l4, mm_i (((M.1 88 l3) - (M.1 88 l1)) * ((M.1 89 l4) - (M.1 89 l2))), mm_u] [] M Q) ∧ (¬ ((M.1 89 l2) ≠ (M.1 72 43)) → 0 ≤ l1 ∧ (l1 < 801 ∧ (((M.1 88 l1) < (M.1 72 42) → en_R sc 180 101 [mm_r 72, mm_i l1, mm_i l2, mm_i l3, mm_i l4, mm_i (((M.1 88 l3) - (M.1 88 l1)) * ((M.1 89 l4) - (M.1 89 l2))), mm_u] [] M Q) ∧ (¬ (M.1 88 l1) < (M.1 72 42) → 0 ≤ l1 ∧ (l1 < 801 ∧ (((M.1 88 l1) ≠ (M.1 72 42) → en_R sc 180 105 [mm_r 72, mm_i l1, mm_i l2, mm_i l3, mm_i l4, mm_i (((M.1 88 l3) - (M.1 88 l1)) * ((M.1 89 l4) - (M.1 89 l2))), mm_u] [] M Q) ∧ (¬ ((M.1 88 l1) ≠ (M.1 72 42)) → 0 ≤ l3 ∧ (l3 < 801 ∧ (((M.1 72 44) ≤ (M.1 88 l3) → en_R sc 180 105 [mm_r 72, mm_i l1, mm_i l2, mm_i l3, mm_i l4, mm_i (((M.1 88 l3) - (M.1 88 l1)) * ((M.1 89 l4) - (M.1 89 l2))), mm_u] [] M Q) ∧ (¬ (M.1 72 44) ≤ (M.1 88 l3) → en_R sc 180 101 [mm_r 72, mm_i l1, mm_i l2, mm_i l3, mm_i l4, mm_i (((M.1 88 l3) - (M.1 88 l1)) * ((M.1 89 l4) - (M.1 89 l2))), mm_u] [] M Q)))))))))))))))))))))))) ∧ (¬ l1 < l3 → Q (.inl none) M)) : en_R sc 180 0 [mm_r 72, mm_i l1, mm_i l2, mm_i l3, mm_i l4, mm_u, mm_u] [] M Q := by
  refine en_iload_n mc180_0 rfl ?_
  refine en_iload_n mc180_1 rfl ?_
  refine en_icmp_lt 6 mc180_2 (by decide) hg_l1 hg_l3 (fun q => ?_) (fun q => ?_)
  · replace h := h.1 q
    obtain ⟨g1, h⟩ := h
    obtain ⟨g2, h⟩ := h
    obtain ⟨g3, h⟩ := h
    obtain ⟨g4, h⟩ := h
    obtain ⟨g5, h⟩ := h
    obtain ⟨g6, h⟩ := h
    obtain ⟨g7, h⟩ := h
    obtain ⟨g8, h⟩ := h
    obtain ⟨g9, h⟩ := h
    obtain ⟨g10, h⟩ := h
    refine en_aload_n mc180_6 rfl ?_
    refine en_getR (b := 88) mv180 mc180_7 (lk_f7_55) (⟨rfl, by decide⟩ : mt_kd[72]? = some (.inl 7) ∧ 72 < 99) rfl (mk_fc ho (by decide +kernel)) ?_
    refine en_iload_n mc180_10 rfl ?_
    refine en_iald mc180_11 (⟨rfl, by decide, by decide⟩ : mt_kd[88]? = some (.inr (.int, 801)) ∧ 88 < 99 ∧ 801 < 2147483648) g1 g2 ?_
    refine en_aload_n mc180_12 rfl ?_
    refine en_getR (b := 88) mv180 mc180_13 (lk_f7_55) (⟨rfl, by decide⟩ : mt_kd[72]? = some (.inl 7) ∧ 72 < 99) rfl (mk_fc ho (by decide +kernel)) ?_
    refine en_iload_n mc180_16 rfl ?_
    refine en_iald mc180_17 (⟨rfl, by decide, by decide⟩ : mt_kd[88]? = some (.inr (.int, 801)) ∧ 88 < 99 ∧ 801 < 2147483648) g3 g4 ?_
    refine en_isub mc180_18 ?_
    refine en_aload_n mc180_19 rfl ?_
    refine en_getR (b := 89) mv180 mc180_20 (lk_f7_58) (⟨rfl, by decide⟩ : mt_kd[72]? = some (.inl 7) ∧ 72 < 99) rfl (mk_fc ho (by decide +kernel)) ?_
    refine en_iload mc180_23 rfl ?_
    refine en_iald mc180_25 (⟨rfl, by decide, by decide⟩ : mt_kd[89]? = some (.inr (.int, 202)) ∧ 89 < 99 ∧ 202 < 2147483648) g5 g6 ?_
    refine en_aload_n mc180_26 rfl ?_
    refine en_getR (b := 89) mv180 mc180_27 (lk_f7_58) (⟨rfl, by decide⟩ : mt_kd[72]? = some (.inl 7) ∧ 72 < 99) rfl (mk_fc ho (by decide +kernel)) ?_
    refine en_iload_n mc180_30 rfl ?_
    refine en_iald mc180_31 (⟨rfl, by decide, by decide⟩ : mt_kd[89]? = some (.inr (.int, 202)) ∧ 89 < 99 ∧ 202 < 2147483648) g7 g8 ?_
    refine en_isub mc180_32 ?_
    refine en_imul mc180_33 ?_
    refine en_istore (ls' := [mm_r 72, mm_i l1, mm_i l2, mm_i l3, mm_i l4, mm_i (((M.1 88 l3) - (M.1 88 l1)) * ((M.1 89 l4) - (M.1 89 l2))), mm_u]) mc180_34 (Nat.le_of_ble_eq_true rfl) rfl ?_
    refine en_aload_n mc180_36 rfl ?_
    refine en_getR (b := 89) mv180 mc180_37 (lk_f7_58) (⟨rfl, by decide⟩ : mt_kd[72]? = some (.inl 7) ∧ 72 < 99) rfl (mk_fc ho (by decide +kernel)) ?_
    refine en_iload_n mc180_40 rfl ?_
    refine en_iald mc180_41 (⟨rfl, by decide, by decide⟩ : mt_kd[89]? = some (.inr (.int, 202)) ∧ 89 < 99 ∧ 202 < 2147483648) g9 g10 ?_
    refine en_aload_n mc180_42 rfl ?_
    refine en_getI mv180 mc180_43 (lk_f7_276) (⟨rfl, by decide⟩ : mt_kd[72]? = some (.inl 7) ∧ 72 < 99) (Or.inl rfl) ?_
    refine en_icmp_lt 101 mc180_46 (by decide) (ho.2.1 89 l2 (by unfold mr_lg; omega)) (ho.2.1 72 43 (by unfold mr_lg; omega)) (fun q => ?_) (fun q => ?_)
    · replace h := h.1 q
      exact h
    · replace h := h.2 q
      obtain ⟨g11, h⟩ := h
      obtain ⟨g12, h⟩ := h
      refine en_aload_n mc180_49 rfl ?_
      refine en_getR (b := 89) mv180 mc180_50 (lk_f7_58) (⟨rfl, by decide⟩ : mt_kd[72]? = some (.inl 7) ∧ 72 < 99) rfl (mk_fc ho (by decide +kernel)) ?_
      refine en_iload_n mc180_53 rfl ?_
      refine en_iald mc180_54 (⟨rfl, by decide, by decide⟩ : mt_kd[89]? = some (.inr (.int, 202)) ∧ 89 < 99 ∧ 202 < 2147483648) g11 g12 ?_
      refine en_aload_n mc180_55 rfl ?_
      refine en_getI mv180 mc180_56 (lk_f7_276) (⟨rfl, by decide⟩ : mt_kd[72]? = some (.inl 7) ∧ 72 < 99) (Or.inl rfl) ?_
      refine en_icmp_ne 105 mc180_59 (by decide) (ho.2.1 89 l2 (by unfold mr_lg; omega)) (ho.2.1 72 43 (by unfold mr_lg; omega)) (fun q => ?_) (fun q => ?_)
      · replace h := h.1 q
        exact h
      · replace h := h.2 q
        obtain ⟨g13, h⟩ := h
        obtain ⟨g14, h⟩ := h
        refine en_aload_n mc180_62 rfl ?_
        refine en_getR (b := 88) mv180 mc180_63 (lk_f7_55) (⟨rfl, by decide⟩ : mt_kd[72]? = some (.inl 7) ∧ 72 < 99) rfl (mk_fc ho (by decide +kernel)) ?_
        refine en_iload_n mc180_66 rfl ?_
        refine en_iald mc180_67 (⟨rfl, by decide, by decide⟩ : mt_kd[88]? = some (.inr (.int, 801)) ∧ 88 < 99 ∧ 801 < 2147483648) g13 g14 ?_
        refine en_aload_n mc180_68 rfl ?_
        refine en_getI mv180 mc180_69 (lk_f7_279) (⟨rfl, by decide⟩ : mt_kd[72]? = some (.inl 7) ∧ 72 < 99) (Or.inl rfl) ?_
        refine en_icmp_lt 101 mc180_72 (by decide) (ho.2.1 88 l1 (by unfold mr_lg; omega)) (ho.2.1 72 42 (by unfold mr_lg; omega)) (fun q => ?_) (fun q => ?_)
        · replace h := h.1 q
          exact h
        · replace h := h.2 q
          obtain ⟨g15, h⟩ := h
          obtain ⟨g16, h⟩ := h
          refine en_aload_n mc180_75 rfl ?_
          refine en_getR (b := 88) mv180 mc180_76 (lk_f7_55) (⟨rfl, by decide⟩ : mt_kd[72]? = some (.inl 7) ∧ 72 < 99) rfl (mk_fc ho (by decide +kernel)) ?_
          refine en_iload_n mc180_79 rfl ?_
          refine en_iald mc180_80 (⟨rfl, by decide, by decide⟩ : mt_kd[88]? = some (.inr (.int, 801)) ∧ 88 < 99 ∧ 801 < 2147483648) g15 g16 ?_
          refine en_aload_n mc180_81 rfl ?_
          refine en_getI mv180 mc180_82 (lk_f7_279) (⟨rfl, by decide⟩ : mt_kd[72]? = some (.inl 7) ∧ 72 < 99) (Or.inl rfl) ?_
          refine en_icmp_ne 105 mc180_85 (by decide) (ho.2.1 88 l1 (by unfold mr_lg; omega)) (ho.2.1 72 42 (by unfold mr_lg; omega)) (fun q => ?_) (fun q => ?_)
          · replace h := h.1 q
            exact h
          · replace h := h.2 q
            obtain ⟨g17, h⟩ := h
            obtain ⟨g18, h⟩ := h
            refine en_aload_n mc180_88 rfl ?_
            refine en_getR (b := 88) mv180 mc180_89 (lk_f7_55) (⟨rfl, by decide⟩ : mt_kd[72]? = some (.inl 7) ∧ 72 < 99) rfl (mk_fc ho (by decide +kernel)) ?_
            refine en_iload_n mc180_92 rfl ?_
            refine en_iald mc180_93 (⟨rfl, by decide, by decide⟩ : mt_kd[88]? = some (.inr (.int, 801)) ∧ 88 < 99 ∧ 801 < 2147483648) g17 g18 ?_
            refine en_aload_n mc180_94 rfl ?_
            refine en_getI mv180 mc180_95 (lk_f7_282) (⟨rfl, by decide⟩ : mt_kd[72]? = some (.inl 7) ∧ 72 < 99) (Or.inl rfl) ?_
            refine en_icmp_ge 105 mc180_98 (by decide) (ho.2.1 88 l3 (by unfold mr_lg; omega)) (ho.2.1 72 44 (by unfold mr_lg; omega)) (fun q => ?_) (fun q => ?_)
            · replace h := h.1 q
              exact h
            · replace h := h.2 q
              exact h
  · replace h := h.2 q
    exact en_vret mv180 mc180_5 rfl h
theorem vc180_101 {sc : Nat × (Int → Int)} {Q : mm_R → mm_M → Prop} {M : mm_M} {l1 : Int} {l2 : Int} {l3 : Int} {l4 : Int} {l5 : Int} (ho : mr_ok M)
    (h : en_R sc 180 106 [mm_r 72, mm_i l1, mm_i l2, mm_i l3, mm_i l4, mm_i l5, mm_u] [mm_i 1] M Q) : en_R sc 180 101 [mm_r 72, mm_i l1, mm_i l2, mm_i l3, mm_i l4, mm_i l5, mm_u] [] M Q := by
  refine en_iconst mc180_101 ?_
  refine en_goto 106 mc180_102 (by decide) ?_
  exact h
theorem vc180_105 {sc : Nat × (Int → Int)} {Q : mm_R → mm_M → Prop} {M : mm_M} {l1 : Int} {l2 : Int} {l3 : Int} {l4 : Int} {l5 : Int} (ho : mr_ok M)
    (h : en_R sc 180 106 [mm_r 72, mm_i l1, mm_i l2, mm_i l3, mm_i l4, mm_i l5, mm_u] [mm_i 0] M Q) : en_R sc 180 105 [mm_r 72, mm_i l1, mm_i l2, mm_i l3, mm_i l4, mm_i l5, mm_u] [] M Q := by
  refine en_iconst mc180_105 ?_
  exact h
theorem vc180_106 {sc : Nat × (Int → Int)} {Q : mm_R → mm_M → Prop} {M : mm_M} {l1 : Int} {l2 : Int} {l3 : Int} {l4 : Int} {l5 : Int} {s0 : Int} (ho : mr_ok M) (hg_l5 : mr_rg l5) (hg_s0 : mr_rg s0)
    (h : ((M.1 72 46) < l5 → en_R sc 180 131 [mm_r 72, mm_i l1, mm_i l2, mm_i l3, mm_i l4, mm_i l5, mm_i s0] [] M Q) ∧ (¬ (M.1 72 46) < l5 → (l5 ≠ (M.1 72 46) → Q (.inl none) M) ∧ (¬ (l5 ≠ (M.1 72 46)) → (s0 = 0 → Q (.inl none) M) ∧ (¬ s0 = 0 → en_R sc 180 131 [mm_r 72, mm_i l1, mm_i l2, mm_i l3, mm_i l4, mm_i l5, mm_i s0] [] M Q)))) : en_R sc 180 106 [mm_r 72, mm_i l1, mm_i l2, mm_i l3, mm_i l4, mm_i l5, mm_u] [mm_i s0] M Q := by
  refine en_istore (ls' := [mm_r 72, mm_i l1, mm_i l2, mm_i l3, mm_i l4, mm_i l5, mm_i s0]) mc180_106 (Nat.le_of_ble_eq_true rfl) rfl ?_
  refine en_iload mc180_108 rfl ?_
  refine en_aload_n mc180_110 rfl ?_
  refine en_getI mv180 mc180_111 (lk_f7_285) (⟨rfl, by decide⟩ : mt_kd[72]? = some (.inl 7) ∧ 72 < 99) (Or.inl rfl) ?_
  refine en_icmp_gt 131 mc180_114 (by decide) hg_l5 (ho.2.1 72 46 (by unfold mr_lg; omega)) (fun q => ?_) (fun q => ?_)
  · replace h := h.1 q
    exact h
  · replace h := h.2 q
    refine en_iload mc180_117 rfl ?_
    refine en_aload_n mc180_119 rfl ?_
    refine en_getI mv180 mc180_120 (lk_f7_285) (⟨rfl, by decide⟩ : mt_kd[72]? = some (.inl 7) ∧ 72 < 99) (Or.inl rfl) ?_
    refine en_icmp_ne 178 mc180_123 (by decide) hg_l5 (ho.2.1 72 46 (by unfold mr_lg; omega)) (fun q => ?_) (fun q => ?_)
    · replace h := h.1 q
      exact en_vret mv180 mc180_178 rfl h
    · replace h := h.2 q
      refine en_iload mc180_126 rfl ?_
      refine en_if_eq 178 mc180_128 (by decide) hg_s0 (fun q => ?_) (fun q => ?_)
      · replace h := h.1 q
        exact en_vret mv180 mc180_178 rfl h
      · replace h := h.2 q
        exact h
theorem vc180_131 {sc : Nat × (Int → Int)} {Q : mm_R → mm_M → Prop} {M : mm_M} {l1 : Int} {l2 : Int} {l3 : Int} {l4 : Int} {l5 : Int} {l6 : Int} (ho : mr_ok M) (hg_l5 : mr_rg l5)
    (h : 0 ≤ l1 ∧ (l1 < 801 ∧ (0 ≤ l2 ∧ (l2 < 202 ∧ (0 ≤ l3 ∧ (l3 < 801 ∧ (0 ≤ l4 ∧ (l4 < 202 ∧ (Q (.inl none) (mm_putN (mm_putN (mm_putN (mm_putN (mm_putN M 72 46 l5) 72 42 ((mm_putN M 72 46 l5).1 88 l1)) 72 43 ((mm_putN (mm_putN M 72 46 l5) 72 42 ((mm_putN M 72 46 l5).1 88 l1)).1 89 l2)) 72 44 ((mm_putN (mm_putN (mm_putN M 72 46 l5) 72 42 ((mm_putN M 72 46 l5).1 88 l1)) 72 43 ((mm_putN (mm_putN M 72 46 l5) 72 42 ((mm_putN M 72 46 l5).1 88 l1)).1 89 l2)).1 88 l3)) 72 45 ((mm_putN (mm_putN (mm_putN (mm_putN M 72 46 l5) 72 42 ((mm_putN M 72 46 l5).1 88 l1)) 72 43 ((mm_putN (mm_putN M 72 46 l5) 72 42 ((mm_putN M 72 46 l5).1 88 l1)).1 89 l2)) 72 44 ((mm_putN (mm_putN (mm_putN M 72 46 l5) 72 42 ((mm_putN M 72 46 l5).1 88 l1)) 72 43 ((mm_putN (mm_putN M 72 46 l5) 72 42 ((mm_putN M 72 46 l5).1 88 l1)).1 89 l2)).1 88 l3)).1 89 l4))))))))))) : en_R sc 180 131 [mm_r 72, mm_i l1, mm_i l2, mm_i l3, mm_i l4, mm_i l5, mm_i l6] [] M Q := by
  obtain ⟨g1, h⟩ := h
  obtain ⟨g2, h⟩ := h
  obtain ⟨g3, h⟩ := h
  obtain ⟨g4, h⟩ := h
  obtain ⟨g5, h⟩ := h
  obtain ⟨g6, h⟩ := h
  obtain ⟨g7, h⟩ := h
  obtain ⟨g8, h⟩ := h
  refine en_aload_n mc180_131 rfl ?_
  refine en_iload mc180_132 rfl ?_
  refine en_putI mv180 mc180_134 (lk_f7_285) (⟨rfl, by decide⟩ : mt_kd[72]? = some (.inl 7) ∧ 72 < 99) rfl rfl hg_l5 ?_
  refine en_aload_n mc180_137 rfl ?_
  refine en_aload_n mc180_138 rfl ?_
  refine en_getR (b := 88) mv180 mc180_139 (lk_f7_55) (⟨rfl, by decide⟩ : mt_kd[72]? = some (.inl 7) ∧ 72 < 99) rfl (mk_fc (mr_ok_putI (a := 72) (k := 46) ho hg_l5) (by decide +kernel)) ?_
  refine en_iload_n mc180_142 rfl ?_
  refine en_iald mc180_143 (⟨rfl, by decide, by decide⟩ : mt_kd[88]? = some (.inr (.int, 801)) ∧ 88 < 99 ∧ 801 < 2147483648) g1 g2 ?_
  refine en_putI mv180 mc180_144 (lk_f7_279) (⟨rfl, by decide⟩ : mt_kd[72]? = some (.inl 7) ∧ 72 < 99) rfl rfl ((mr_ok_putI (a := 72) (k := 46) ho hg_l5).2.1 88 l1 (by unfold mr_lg; omega)) ?_
  refine en_aload_n mc180_147 rfl ?_
  refine en_aload_n mc180_148 rfl ?_
  refine en_getR (b := 89) mv180 mc180_149 (lk_f7_58) (⟨rfl, by decide⟩ : mt_kd[72]? = some (.inl 7) ∧ 72 < 99) rfl (mk_fc (mr_ok_putI (a := 72) (k := 42) (mr_ok_putI (a := 72) (k := 46) ho hg_l5) ((mr_ok_putI (a := 72) (k := 46) ho hg_l5).2.1 88 l1 (by unfold mr_lg; omega))) (by decide +kernel)) ?_
  refine en_iload_n mc180_152 rfl ?_
  refine en_iald mc180_153 (⟨rfl, by decide, by decide⟩ : mt_kd[89]? = some (.inr (.int, 202)) ∧ 89 < 99 ∧ 202 < 2147483648) g3 g4 ?_
  refine en_putI mv180 mc180_154 (lk_f7_276) (⟨rfl, by decide⟩ : mt_kd[72]? = some (.inl 7) ∧ 72 < 99) rfl rfl ((mr_ok_putI (a := 72) (k := 42) (mr_ok_putI (a := 72) (k := 46) ho hg_l5) ((mr_ok_putI (a := 72) (k := 46) ho hg_l5).2.1 88 l1 (by unfold mr_lg; omega))).2.1 89 l2 (by unfold mr_lg; omega)) ?_
  refine en_aload_n mc180_157 rfl ?_
  refine en_aload_n mc180_158 rfl ?_
  refine en_getR (b := 88) mv180 mc180_159 (lk_f7_55) (⟨rfl, by decide⟩ : mt_kd[72]? = some (.inl 7) ∧ 72 < 99) rfl (mk_fc (mr_ok_putI (a := 72) (k := 43) (mr_ok_putI (a := 72) (k := 42) (mr_ok_putI (a := 72) (k := 46) ho hg_l5) ((mr_ok_putI (a := 72) (k := 46) ho hg_l5).2.1 88 l1 (by unfold mr_lg; omega))) ((mr_ok_putI (a := 72) (k := 42) (mr_ok_putI (a := 72) (k := 46) ho hg_l5) ((mr_ok_putI (a := 72) (k := 46) ho hg_l5).2.1 88 l1 (by unfold mr_lg; omega))).2.1 89 l2 (by unfold mr_lg; omega))) (by decide +kernel)) ?_
  refine en_iload_n mc180_162 rfl ?_
  refine en_iald mc180_163 (⟨rfl, by decide, by decide⟩ : mt_kd[88]? = some (.inr (.int, 801)) ∧ 88 < 99 ∧ 801 < 2147483648) g5 g6 ?_
  refine en_putI mv180 mc180_164 (lk_f7_282) (⟨rfl, by decide⟩ : mt_kd[72]? = some (.inl 7) ∧ 72 < 99) rfl rfl ((mr_ok_putI (a := 72) (k := 43) (mr_ok_putI (a := 72) (k := 42) (mr_ok_putI (a := 72) (k := 46) ho hg_l5) ((mr_ok_putI (a := 72) (k := 46) ho hg_l5).2.1 88 l1 (by unfold mr_lg; omega))) ((mr_ok_putI (a := 72) (k := 42) (mr_ok_putI (a := 72) (k := 46) ho hg_l5) ((mr_ok_putI (a := 72) (k := 46) ho hg_l5).2.1 88 l1 (by unfold mr_lg; omega))).2.1 89 l2 (by unfold mr_lg; omega))).2.1 88 l3 (by unfold mr_lg; omega)) ?_
  refine en_aload_n mc180_167 rfl ?_
  refine en_aload_n mc180_168 rfl ?_
  refine en_getR (b := 89) mv180 mc180_169 (lk_f7_58) (⟨rfl, by decide⟩ : mt_kd[72]? = some (.inl 7) ∧ 72 < 99) rfl (mk_fc (mr_ok_putI (a := 72) (k := 44) (mr_ok_putI (a := 72) (k := 43) (mr_ok_putI (a := 72) (k := 42) (mr_ok_putI (a := 72) (k := 46) ho hg_l5) ((mr_ok_putI (a := 72) (k := 46) ho hg_l5).2.1 88 l1 (by unfold mr_lg; omega))) ((mr_ok_putI (a := 72) (k := 42) (mr_ok_putI (a := 72) (k := 46) ho hg_l5) ((mr_ok_putI (a := 72) (k := 46) ho hg_l5).2.1 88 l1 (by unfold mr_lg; omega))).2.1 89 l2 (by unfold mr_lg; omega))) ((mr_ok_putI (a := 72) (k := 43) (mr_ok_putI (a := 72) (k := 42) (mr_ok_putI (a := 72) (k := 46) ho hg_l5) ((mr_ok_putI (a := 72) (k := 46) ho hg_l5).2.1 88 l1 (by unfold mr_lg; omega))) ((mr_ok_putI (a := 72) (k := 42) (mr_ok_putI (a := 72) (k := 46) ho hg_l5) ((mr_ok_putI (a := 72) (k := 46) ho hg_l5).2.1 88 l1 (by unfold mr_lg; omega))).2.1 89 l2 (by unfold mr_lg; omega))).2.1 88 l3 (by unfold mr_lg; omega))) (by decide +kernel)) ?_
  refine en_iload mc180_172 rfl ?_
  refine en_iald mc180_174 (⟨rfl, by decide, by decide⟩ : mt_kd[89]? = some (.inr (.int, 202)) ∧ 89 < 99 ∧ 202 < 2147483648) g7 g8 ?_
  refine en_putI mv180 mc180_175 (lk_f7_288) (⟨rfl, by decide⟩ : mt_kd[72]? = some (.inl 7) ∧ 72 < 99) rfl rfl ((mr_ok_putI (a := 72) (k := 44) (mr_ok_putI (a := 72) (k := 43) (mr_ok_putI (a := 72) (k := 42) (mr_ok_putI (a := 72) (k := 46) ho hg_l5) ((mr_ok_putI (a := 72) (k := 46) ho hg_l5).2.1 88 l1 (by unfold mr_lg; omega))) ((mr_ok_putI (a := 72) (k := 42) (mr_ok_putI (a := 72) (k := 46) ho hg_l5) ((mr_ok_putI (a := 72) (k := 46) ho hg_l5).2.1 88 l1 (by unfold mr_lg; omega))).2.1 89 l2 (by unfold mr_lg; omega))) ((mr_ok_putI (a := 72) (k := 43) (mr_ok_putI (a := 72) (k := 42) (mr_ok_putI (a := 72) (k := 46) ho hg_l5) ((mr_ok_putI (a := 72) (k := 46) ho hg_l5).2.1 88 l1 (by unfold mr_lg; omega))) ((mr_ok_putI (a := 72) (k := 42) (mr_ok_putI (a := 72) (k := 46) ho hg_l5) ((mr_ok_putI (a := 72) (k := 46) ho hg_l5).2.1 88 l1 (by unfold mr_lg; omega))).2.1 89 l2 (by unfold mr_lg; omega))).2.1 88 l3 (by unfold mr_lg; omega))).2.1 89 l4 (by unfold mr_lg; omega)) ?_
  exact en_vret mv180 mc180_178 rfl h
/-! 181: CellAreasModel.boxesFrom(I)V -/
theorem mc181_0 : mr_C 181 0 = some (.iconst 0, 1) := by decide +kernel
theorem mc181_1 : mr_C 181 1 = some (.istore_n 2, 1) := by decide +kernel
theorem mc181_2 : mr_C 181 2 = some (.iload_n 2, 1) := by decide +kernel
theorem mc181_3 : mr_C 181 3 = some (.aload_n 0, 1) := by decide +kernel
theorem mc181_4 : mr_C 181 4 = some (.getfield 199, 3) := by decide +kernel
theorem mc181_7 : mr_C 181 7 = some (.if_icmp .ge (16), 3) := by decide +kernel
theorem mc181_10 : mr_C 181 10 = some (.aload_n 0, 1) := by decide +kernel
theorem mc181_11 : mr_C 181 11 = some (.getfield 86, 3) := by decide +kernel
theorem mc181_14 : mr_C 181 14 = some (.iload_n 2, 1) := by decide +kernel
theorem mc181_15 : mr_C 181 15 = some (.iconst 1, 1) := by decide +kernel
theorem mc181_16 : mr_C 181 16 = some (.bastore, 1) := by decide +kernel
theorem mc181_17 : mr_C 181 17 = some (.iinc 2 (1), 3) := by decide +kernel
theorem mc181_20 : mr_C 181 20 = some (.goto (-18), 3) := by decide +kernel
theorem mc181_23 : mr_C 181 23 = some (.iload_n 1, 1) := by decide +kernel
theorem mc181_24 : mr_C 181 24 = some (.istore_n 2, 1) := by decide +kernel
theorem mc181_25 : mr_C 181 25 = some (.iload_n 2, 1) := by decide +kernel
theorem mc181_26 : mr_C 181 26 = some (.aload_n 0, 1) := by decide +kernel
theorem mc181_27 : mr_C 181 27 = some (.getfield 202, 3) := by decide +kernel
theorem mc181_30 : mr_C 181 30 = some (.if_icmp .ge (105), 3) := by decide +kernel
theorem mc181_33 : mr_C 181 33 = some (.iconst 0, 1) := by decide +kernel
theorem mc181_34 : mr_C 181 34 = some (.istore_n 3, 1) := by decide +kernel
theorem mc181_35 : mr_C 181 35 = some (.iconst 0, 1) := by decide +kernel
theorem mc181_36 : mr_C 181 36 = some (.istore 4, 2) := by decide +kernel
theorem mc181_38 : mr_C 181 38 = some (.iload 4, 2) := by decide +kernel
theorem mc181_40 : mr_C 181 40 = some (.aload_n 0, 1) := by decide +kernel
theorem mc181_41 : mr_C 181 41 = some (.getfield 199, 3) := by decide +kernel
theorem mc181_44 : mr_C 181 44 = some (.if_icmp .gt (85), 3) := by decide +kernel
theorem mc181_47 : mr_C 181 47 = some (.iload 4, 2) := by decide +kernel
theorem mc181_49 : mr_C 181 49 = some (.aload_n 0, 1) := by decide +kernel
theorem mc181_50 : mr_C 181 50 = some (.getfield 199, 3) := by decide +kernel
theorem mc181_53 : mr_C 181 53 = some (.if_icmp .ge (35), 3) := by decide +kernel
theorem mc181_56 : mr_C 181 56 = some (.aload_n 0, 1) := by decide +kernel
theorem mc181_57 : mr_C 181 57 = some (.getfield 86, 3) := by decide +kernel
theorem mc181_60 : mr_C 181 60 = some (.iload 4, 2) := by decide +kernel
theorem mc181_62 : mr_C 181 62 = some (.aload_n 0, 1) := by decide +kernel
theorem mc181_63 : mr_C 181 63 = some (.getfield 86, 3) := by decide +kernel
theorem mc181_66 : mr_C 181 66 = some (.iload 4, 2) := by decide +kernel
theorem mc181_68 : mr_C 181 68 = some (.baload, 1) := by decide +kernel
theorem mc181_69 : mr_C 181 69 = some (.ifCond .eq (17), 3) := by decide +kernel
theorem mc181_72 : mr_C 181 72 = some (.aload_n 0, 1) := by decide +kernel
theorem mc181_73 : mr_C 181 73 = some (.iload 4, 2) := by decide +kernel
theorem mc181_75 : mr_C 181 75 = some (.iload_n 2, 1) := by decide +kernel
theorem mc181_76 : mr_C 181 76 = some (.invokevirtual 205, 3) := by decide +kernel
theorem mc181_79 : mr_C 181 79 = some (.ifCond .eq (7), 3) := by decide +kernel
theorem mc181_82 : mr_C 181 82 = some (.iconst 1, 1) := by decide +kernel
theorem mc181_83 : mr_C 181 83 = some (.goto 4, 3) := by decide +kernel
theorem mc181_86 : mr_C 181 86 = some (.iconst 0, 1) := by decide +kernel
theorem mc181_87 : mr_C 181 87 = some (.bastore, 1) := by decide +kernel
theorem mc181_88 : mr_C 181 88 = some (.iload 4, 2) := by decide +kernel
theorem mc181_90 : mr_C 181 90 = some (.aload_n 0, 1) := by decide +kernel
theorem mc181_91 : mr_C 181 91 = some (.getfield 199, 3) := by decide +kernel
theorem mc181_94 : mr_C 181 94 = some (.if_icmp .eq (13), 3) := by decide +kernel
theorem mc181_97 : mr_C 181 97 = some (.aload_n 0, 1) := by decide +kernel
theorem mc181_98 : mr_C 181 98 = some (.getfield 86, 3) := by decide +kernel
theorem mc181_101 : mr_C 181 101 = some (.iload 4, 2) := by decide +kernel
theorem mc181_103 : mr_C 181 103 = some (.baload, 1) := by decide +kernel
theorem mc181_104 : mr_C 181 104 = some (.ifCond .ne (19), 3) := by decide +kernel
theorem mc181_107 : mr_C 181 107 = some (.aload_n 0, 1) := by decide +kernel
theorem mc181_108 : mr_C 181 108 = some (.iload_n 3, 1) := by decide +kernel
theorem mc181_109 : mr_C 181 109 = some (.iload_n 1, 1) := by decide +kernel
theorem mc181_110 : mr_C 181 110 = some (.iload 4, 2) := by decide +kernel
theorem mc181_112 : mr_C 181 112 = some (.iload_n 2, 1) := by decide +kernel
theorem mc181_113 : mr_C 181 113 = some (.iconst 1, 1) := by decide +kernel
theorem mc181_114 : mr_C 181 114 = some (.iadd, 1) := by decide +kernel
theorem mc181_115 : mr_C 181 115 = some (.invokevirtual 272, 3) := by decide +kernel
theorem mc181_118 : mr_C 181 118 = some (.iload 4, 2) := by decide +kernel
theorem mc181_120 : mr_C 181 120 = some (.iconst 1, 1) := by decide +kernel
theorem mc181_121 : mr_C 181 121 = some (.iadd, 1) := by decide +kernel
theorem mc181_122 : mr_C 181 122 = some (.istore_n 3, 1) := by decide +kernel
theorem mc181_123 : mr_C 181 123 = some (.iinc 4 (1), 3) := by decide +kernel
theorem mc181_126 : mr_C 181 126 = some (.goto (-88), 3) := by decide +kernel
theorem mc181_129 : mr_C 181 129 = some (.iinc 2 (1), 3) := by decide +kernel
theorem mc181_132 : mr_C 181 132 = some (.goto (-107), 3) := by decide +kernel
theorem mc181_135 : mr_C 181 135 = some (.return_, 1) := by decide +kernel
theorem vc181_0 {sc : Nat × (Int → Int)} {Q : mm_R → mm_M → Prop} {M : mm_M} {l1 : Int} (ho : mr_ok M)
    (h : en_R sc 181 2 [mm_r 72, mm_i l1, mm_i 0, mm_u, mm_u] [] M Q) : en_R sc 181 0 [mm_r 72, mm_i l1, mm_u, mm_u, mm_u] [] M Q := by
  refine en_iconst mc181_0 ?_
  refine en_istore_n (ls' := [mm_r 72, mm_i l1, mm_i 0, mm_u, mm_u]) mc181_1 (Nat.le_of_ble_eq_true rfl) rfl ?_
  exact h
theorem vc181_2 {sc : Nat × (Int → Int)} {Q : mm_R → mm_M → Prop} {M : mm_M} {l1 : Int} {l2 : Int} (ho : mr_ok M) (hg_l2 : mr_rg l2)
    (h : ((M.1 72 23) ≤ l2 → en_R sc 181 25 [mm_r 72, mm_i l1, mm_i l1, mm_u, mm_u] [] M Q) ∧ (¬ (M.1 72 23) ≤ l2 → 0 ≤ l2 ∧ (l2 < 801 ∧ (en_R sc 181 2 [mm_r 72, mm_i l1, mm_i (l2 + 1), mm_u, mm_u] [] (mm_putN M 97 l2 1) Q)))) : en_R sc 181 2 [mm_r 72, mm_i l1, mm_i l2, mm_u, mm_u] [] M Q := by
  refine en_iload_n mc181_2 rfl ?_
  refine en_aload_n mc181_3 rfl ?_
  refine en_getI mv181 mc181_4 (lk_f7_199) (⟨rfl, by decide⟩ : mt_kd[72]? = some (.inl 7) ∧ 72 < 99) (Or.inl rfl) ?_
  refine en_icmp_ge 23 mc181_7 (by decide) hg_l2 (ho.2.1 72 23 (by unfold mr_lg; omega)) (fun q => ?_) (fun q => ?_)
  · replace h := h.1 q
    refine en_iload_n mc181_23 rfl ?_
    refine en_istore_n (ls' := [mm_r 72, mm_i l1, mm_i l1, mm_u, mm_u]) mc181_24 (Nat.le_of_ble_eq_true rfl) rfl ?_
    exact h
  · replace h := h.2 q
    obtain ⟨g1, h⟩ := h
    obtain ⟨g2, h⟩ := h
    refine en_aload_n mc181_10 rfl ?_
    refine en_getR (b := 97) mv181 mc181_11 (lk_f7_86) (⟨rfl, by decide⟩ : mt_kd[72]? = some (.inl 7) ∧ 72 < 99) rfl (mk_fc ho (by decide +kernel)) ?_
    refine en_iload_n mc181_14 rfl ?_
    refine en_iconst mc181_15 ?_
    refine en_bast mc181_16 (⟨rfl, by decide, by decide⟩ : mt_kd[97]? = some (.inr (.boolean, 801)) ∧ 97 < 99 ∧ 801 < 2147483648) g1 g2 (by decide) ?_
    refine en_iinc (ls' := [mm_r 72, mm_i l1, mm_i (l2 + 1), mm_u, mm_u]) mc181_17 rfl rfl ?_
    refine en_goto 2 mc181_20 (by decide) ?_
    exact h
theorem vc181_25 {sc : Nat × (Int → Int)} {Q : mm_R → mm_M → Prop} {M : mm_M} {l1 : Int} {l2 : Int} {l3 : mm_V} {l4 : mm_V} (ho : mr_ok M) (hg_l2 : mr_rg l2)
    (h : ((M.1 72 24) ≤ l2 → Q (.inl none) M) ∧ (¬ (M.1 72 24) ≤ l2 → en_R sc 181 38 [mm_r 72, mm_i l1, mm_i l2, mm_i 0, mm_i 0] [] M Q)) : en_R sc 181 25 [mm_r 72, mm_i l1, mm_i l2, l3, l4] [] M Q := by
  refine en_iload_n mc181_25 rfl ?_
  refine en_aload_n mc181_26 rfl ?_
  refine en_getI mv181 mc181_27 (lk_f7_202) (⟨rfl, by decide⟩ : mt_kd[72]? = some (.inl 7) ∧ 72 < 99) (Or.inl rfl) ?_
  refine en_icmp_ge 135 mc181_30 (by decide) hg_l2 (ho.2.1 72 24 (by unfold mr_lg; omega)) (fun q => ?_) (fun q => ?_)
  · replace h := h.1 q
    exact en_vret mv181 mc181_135 rfl h
  · replace h := h.2 q
    refine en_iconst mc181_33 ?_
    refine en_istore_n (ls' := [mm_r 72, mm_i l1, mm_i l2, mm_i 0, l4]) mc181_34 (Nat.le_of_ble_eq_true rfl) rfl ?_
    refine en_iconst mc181_35 ?_
    refine en_istore (ls' := [mm_r 72, mm_i l1, mm_i l2, mm_i 0, mm_i 0]) mc181_36 (Nat.le_of_ble_eq_true rfl) rfl ?_
    exact h
theorem vc181_38 {sc : Nat × (Int → Int)} {Q : mm_R → mm_M → Prop} {M : mm_M} {l1 : Int} {l2 : Int} {l3 : Int} {l4 : Int} (ho : mr_ok M) (hg_l4 : mr_rg l4)
    (h : ((M.1 72 23) < l4 → en_R sc 181 25 [mm_r 72, mm_i l1, mm_i (l2 + 1), mm_i l3, mm_i l4] [] M Q) ∧ (¬ (M.1 72 23) < l4 → ((M.1 72 23) ≤ l4 → en_R sc 181 88 [mm_r 72, mm_i l1, mm_i l2, mm_i l3, mm_i l4] [] M Q) ∧ (¬ (M.1 72 23) ≤ l4 → 0 ≤ l4 ∧ (l4 < 801 ∧ (((M.1 97 l4) = 0 → en_R sc 181 86 [mm_r 72, mm_i l1, mm_i l2, mm_i l3, mm_i l4] [mm_i l4, mm_r 97] M Q) ∧ (¬ (M.1 97 l4) = 0 → en_CI sc 146 [mm_r 72, mm_i l4, mm_i l2] M (fun x3 M4 => mr_ok M4 → mr_rg x3 ∧ ((x3 = 0 → en_R sc 181 86 [mm_r 72, mm_i l1, mm_i l2, mm_i l3, mm_i l4] [mm_i l4, mm_r 97] M4 Q) ∧ (¬ x3 = 0 → en_R sc 181 87 [mm_r 72, mm_i l1, mm_i l2, mm_i l3, mm_i l4] [mm_i 1, mm_i l4, mm_r 97] M4 Q))) (fun e M9 => Q (.inr e) M9))))))) : en_R sc 181 38 [mm_r 72, mm_i l1, mm_i l2, mm_i l3, mm_i l4] [] M Q := by
  refine en_iload mc181_38 rfl ?_
  refine en_aload_n mc181_40 rfl ?_
  refine en_getI mv181 mc181_41 (lk_f7_199) (⟨rfl, by decide⟩ : mt_kd[72]? = some (.inl 7) ∧ 72 < 99) (Or.inl rfl) ?_
  refine en_icmp_gt 129 mc181_44 (by decide) hg_l4 (ho.2.1 72 23 (by unfold mr_lg; omega)) (fun q => ?_) (fun q => ?_)
  · replace h := h.1 q
    refine en_iinc (ls' := [mm_r 72, mm_i l1, mm_i (l2 + 1), mm_i l3, mm_i l4]) mc181_129 rfl rfl ?_
    refine en_goto 25 mc181_132 (by decide) ?_
    exact h
  · replace h := h.2 q
    refine en_iload mc181_47 rfl ?_
    refine en_aload_n mc181_49 rfl ?_
    refine en_getI mv181 mc181_50 (lk_f7_199) (⟨rfl, by decide⟩ : mt_kd[72]? = some (.inl 7) ∧ 72 < 99) (Or.inl rfl) ?_
    refine en_icmp_ge 88 mc181_53 (by decide) hg_l4 (ho.2.1 72 23 (by unfold mr_lg; omega)) (fun q => ?_) (fun q => ?_)
    · replace h := h.1 q
      exact h
    · replace h := h.2 q
      obtain ⟨g1, h⟩ := h
      obtain ⟨g2, h⟩ := h
      refine en_aload_n mc181_56 rfl ?_
      refine en_getR (b := 97) mv181 mc181_57 (lk_f7_86) (⟨rfl, by decide⟩ : mt_kd[72]? = some (.inl 7) ∧ 72 < 99) rfl (mk_fc ho (by decide +kernel)) ?_
      refine en_iload mc181_60 rfl ?_
      refine en_aload_n mc181_62 rfl ?_
      refine en_getR (b := 97) mv181 mc181_63 (lk_f7_86) (⟨rfl, by decide⟩ : mt_kd[72]? = some (.inl 7) ∧ 72 < 99) rfl (mk_fc ho (by decide +kernel)) ?_
      refine en_iload mc181_66 rfl ?_
      refine en_bald mc181_68 (⟨rfl, by decide, by decide⟩ : mt_kd[97]? = some (.inr (.boolean, 801)) ∧ 97 < 99 ∧ 801 < 2147483648) g1 g2 ?_
      refine en_if_eq 86 mc181_69 (by decide) (ho.2.1 97 l4 (by unfold mr_lg; omega)) (fun q => ?_) (fun q => ?_)
      · replace h := h.1 q
        exact h
      · replace h := h.2 q
        refine en_aload_n mc181_72 rfl ?_
        refine en_iload mc181_73 rfl ?_
        refine en_iload_n mc181_75 rfl ?_
        refine en_callI (lz := [mm_r 72, mm_i l4, mm_i l2]) mv181 mc181_76 rfl rfl (lk_m7_205) mv146 rfl (by decide) rfl (mk_cokV rfl (⟨rfl, by decide⟩ : mt_kd[72]? = some (.inl 7) ∧ 72 < 99)) rfl (mk_nh rfl _) ho ?_
        refine en_CI_mono h (fun x3 M4 h => ?_) (fun _ _ h => h)
        intro ho5
        replace h := h ho5
        obtain ⟨g6, h⟩ := h
        refine en_if_eq 86 mc181_79 (by decide) g6 (fun q => ?_) (fun q => ?_)
        · replace h := h.1 q
          exact h
        · replace h := h.2 q
          refine en_iconst mc181_82 ?_
          refine en_goto 87 mc181_83 (by decide) ?_
          exact h
theorem vc181_86 {sc : Nat × (Int → Int)} {Q : mm_R → mm_M → Prop} {M : mm_M} {l1 : Int} {l2 : Int} {l3 : Int} {l4 : Int} {s1 : Int} (ho : mr_ok M)
    (h : en_R sc 181 87 [mm_r 72, mm_i l1, mm_i l2, mm_i l3, mm_i l4] [mm_i 0, mm_i s1, mm_r 97] M Q) : en_R sc 181 86 [mm_r 72, mm_i l1, mm_i l2, mm_i l3, mm_i l4] [mm_i s1, mm_r 97] M Q := by
  refine en_iconst mc181_86 ?_
  exact h
theorem vc181_87 {sc : Nat × (Int → Int)} {Q : mm_R → mm_M → Prop} {M : mm_M} {l1 : Int} {l2 : Int} {l3 : Int} {l4 : Int} {s1 : Int} {s2 : Int} (ho : mr_ok M)
    (h : 0 ≤ s1 ∧ (s1 < 801 ∧ ((s2 = 0 ∨ s2 = 1) ∧ (en_R sc 181 88 [mm_r 72, mm_i l1, mm_i l2, mm_i l3, mm_i l4] [] (mm_putN M 97 s1 s2) Q)))) : en_R sc 181 87 [mm_r 72, mm_i l1, mm_i l2, mm_i l3, mm_i l4] [mm_i s2, mm_i s1, mm_r 97] M Q := by
  obtain ⟨g1, h⟩ := h
  obtain ⟨g2, h⟩ := h
  obtain ⟨g3, h⟩ := h
  refine en_bast mc181_87 (⟨rfl, by decide, by decide⟩ : mt_kd[97]? = some (.inr (.boolean, 801)) ∧ 97 < 99 ∧ 801 < 2147483648) g1 g2 g3 ?_
  exact h
theorem vc181_88 {sc : Nat × (Int → Int)} {Q : mm_R → mm_M → Prop} {M : mm_M} {l1 : Int} {l2 : Int} {l3 : Int} {l4 : Int} (ho : mr_ok M) (hg_l4 : mr_rg l4)
    (h : (l4 = (M.1 72 23) → en_R sc 181 107 [mm_r 72, mm_i l1, mm_i l2, mm_i l3, mm_i l4] [] M Q) ∧ (¬ l4 = (M.1 72 23) → 0 ≤ l4 ∧ (l4 < 801 ∧ (((M.1 97 l4) ≠ 0 → en_R sc 181 38 [mm_r 72, mm_i l1, mm_i l2, mm_i l3, mm_i (l4 + 1)] [] M Q) ∧ (¬ ((M.1 97 l4) ≠ 0) → en_R sc 181 107 [mm_r 72, mm_i l1, mm_i l2, mm_i l3, mm_i l4] [] M Q))))) : en_R sc 181 88 [mm_r 72, mm_i l1, mm_i l2, mm_i l3, mm_i l4] [] M Q := by
  refine en_iload mc181_88 rfl ?_
  refine en_aload_n mc181_90 rfl ?_
  refine en_getI mv181 mc181_91 (lk_f7_199) (⟨rfl, by decide⟩ : mt_kd[72]? = some (.inl 7) ∧ 72 < 99) (Or.inl rfl) ?_
  refine en_icmp_eq 107 mc181_94 (by decide) hg_l4 (ho.2.1 72 23 (by unfold mr_lg; omega)) (fun q => ?_) (fun q => ?_)
  · replace h := h.1 q
    exact h
  · replace h := h.2 q
    obtain ⟨g1, h⟩ := h
    obtain ⟨g2, h⟩ := h
    refine en_aload_n mc181_97 rfl ?_
    refine en_getR (b := 97) mv181 mc181_98 (lk_f7_86) (⟨rfl, by decide⟩ : mt_kd[72]? = some (.inl 7) ∧ 72 < 99) rfl (mk_fc ho (by decide +kernel)) ?_
    refine en_iload mc181_101 rfl ?_
    refine en_bald mc181_103 (⟨rfl, by decide, by decide⟩ : mt_kd[97]? = some (.inr (.boolean, 801)) ∧ 97 < 99 ∧ 801 < 2147483648) g1 g2 ?_
    refine en_if_ne 123 mc181_104 (by decide) (ho.2.1 97 l4 (by unfold mr_lg; omega)) (fun q => ?_) (fun q => ?_)
    · replace h := h.1 q
      refine en_iinc (ls' := [mm_r 72, mm_i l1, mm_i l2, mm_i l3, mm_i (l4 + 1)]) mc181_123 rfl rfl ?_
      refine en_goto 38 mc181_126 (by decide) ?_
      exact h
    · replace h := h.2 q
      exact h
theorem vc181_107 {sc : Nat × (Int → Int)} {Q : mm_R → mm_M → Prop} {M : mm_M} {l1 : Int} {l2 : Int} {l3 : Int} {l4 : Int} (ho : mr_ok M)
    (h : en_CV sc 180 [mm_r 72, mm_i l3, mm_i l1, mm_i l4, mm_i (l2 + 1), mm_u, mm_u] M (fun M2 => mr_ok M2 → en_R sc 181 38 [mm_r 72, mm_i l1, mm_i l2, mm_i (l4 + 1), mm_i (l4 + 1)] [] M2 Q) (fun e M9 => Q (.inr e) M9)) : en_R sc 181 107 [mm_r 72, mm_i l1, mm_i l2, mm_i l3, mm_i l4] [] M Q := by
  refine en_aload_n mc181_107 rfl ?_
  refine en_iload_n mc181_108 rfl ?_
  refine en_iload_n mc181_109 rfl ?_
  refine en_iload mc181_110 rfl ?_
  refine en_iload_n mc181_112 rfl ?_
  refine en_iconst mc181_113 ?_
  refine en_iadd mc181_114 ?_
  refine en_callV (lz := [mm_r 72, mm_i l3, mm_i l1, mm_i l4, mm_i (l2 + 1), mm_u, mm_u]) mv181 mc181_115 rfl rfl (lk_m7_272) mv180 rfl (by decide) rfl (mk_cokV rfl (⟨rfl, by decide⟩ : mt_kd[72]? = some (.inl 7) ∧ 72 < 99)) rfl (mk_nh rfl _) ho ?_
  refine en_CV_mono h (fun M2 h => ?_) (fun _ _ h => h)
  intro ho3
  replace h := h ho3
  refine en_iload mc181_118 rfl ?_
  refine en_iconst mc181_120 ?_
  refine en_iadd mc181_121 ?_
  refine en_istore_n (ls' := [mm_r 72, mm_i l1, mm_i l2, mm_i (l4 + 1), mm_i l4]) mc181_122 (Nat.le_of_ble_eq_true rfl) rfl ?_
  refine en_iinc (ls' := [mm_r 72, mm_i l1, mm_i l2, mm_i (l4 + 1), mm_i (l4 + 1)]) mc181_123 rfl rfl ?_
  refine en_goto 38 mc181_126 (by decide) ?_
  exact h
/-! 182: CellAreasModel.largest(II)I -/
theorem mc182_0 : mr_C 182 0 = some (.aload_n 0, 1) := by decide +kernel
theorem mc182_1 : mr_C 182 1 = some (.aload_n 0, 1) := by decide +kernel
theorem mc182_2 : mr_C 182 2 = some (.iload_n 1, 1) := by decide +kernel
theorem mc182_3 : mr_C 182 3 = some (.invokevirtual 131, 3) := by decide +kernel
theorem mc182_6 : mr_C 182 6 = some (.ifCond .eq (7), 3) := by decide +kernel
theorem mc182_9 : mr_C 182 9 = some (.iconst 0, 1) := by decide +kernel
theorem mc182_10 : mr_C 182 10 = some (.goto 4, 3) := by decide +kernel
theorem mc182_13 : mr_C 182 13 = some (.iconst 1, 1) := by decide +kernel
theorem mc182_14 : mr_C 182 14 = some (.putfield 89, 3) := by decide +kernel
theorem mc182_17 : mr_C 182 17 = some (.aload_n 0, 1) := by decide +kernel
theorem mc182_18 : mr_C 182 18 = some (.getfield 89, 3) := by decide +kernel
theorem mc182_21 : mr_C 182 21 = some (.ifCond .gt (21), 3) := by decide +kernel
theorem mc182_24 : mr_C 182 24 = some (.aload_n 0, 1) := by decide +kernel
theorem mc182_25 : mr_C 182 25 = some (.getfield 22, 3) := by decide +kernel
theorem mc182_28 : mr_C 182 28 = some (.iload_n 1, 1) := by decide +kernel
theorem mc182_29 : mr_C 182 29 = some (.iaload, 1) := by decide +kernel
theorem mc182_30 : mr_C 182 30 = some (.ifCond .eq (12), 3) := by decide +kernel
theorem mc182_33 : mr_C 182 33 = some (.iload_n 2, 1) := by decide +kernel
theorem mc182_34 : mr_C 182 34 = some (.iconst 0, 1) := by decide +kernel
theorem mc182_35 : mr_C 182 35 = some (.iconst 4, 1) := by decide +kernel
theorem mc182_36 : mr_C 182 36 = some (.invokestatic 135, 3) := by decide +kernel
theorem mc182_39 : mr_C 182 39 = some (.ifCond .ne (18), 3) := by decide +kernel
theorem mc182_42 : mr_C 182 42 = some (.aload_n 0, 1) := by decide +kernel
theorem mc182_43 : mr_C 182 43 = some (.getfield 89, 3) := by decide +kernel
theorem mc182_46 : mr_C 182 46 = some (.ifCond .le (7), 3) := by decide +kernel
theorem mc182_49 : mr_C 182 49 = some (.iconst 0, 1) := by decide +kernel
theorem mc182_50 : mr_C 182 50 = some (.goto 6, 3) := by decide +kernel
theorem mc182_53 : mr_C 182 53 = some (.sipush (-2001), 3) := by decide +kernel
theorem mc182_56 : mr_C 182 56 = some (.ireturn, 1) := by decide +kernel
theorem mc182_57 : mr_C 182 57 = some (.aload_n 0, 1) := by decide +kernel
theorem mc182_58 : mr_C 182 58 = some (.iload_n 1, 1) := by decide +kernel
theorem mc182_59 : mr_C 182 59 = some (.invokevirtual 220, 3) := by decide +kernel
theorem mc182_62 : mr_C 182 62 = some (.aload_n 0, 1) := by decide +kernel
theorem mc182_63 : mr_C 182 63 = some (.iconst 0, 1) := by decide +kernel
theorem mc182_64 : mr_C 182 64 = some (.putfield 285, 3) := by decide +kernel
theorem mc182_67 : mr_C 182 67 = some (.iconst 0, 1) := by decide +kernel
theorem mc182_68 : mr_C 182 68 = some (.istore_n 3, 1) := by decide +kernel
theorem mc182_69 : mr_C 182 69 = some (.iload_n 3, 1) := by decide +kernel
theorem mc182_70 : mr_C 182 70 = some (.aload_n 0, 1) := by decide +kernel
theorem mc182_71 : mr_C 182 71 = some (.getfield 202, 3) := by decide +kernel
theorem mc182_74 : mr_C 182 74 = some (.if_icmp .ge (14), 3) := by decide +kernel
theorem mc182_77 : mr_C 182 77 = some (.aload_n 0, 1) := by decide +kernel
theorem mc182_78 : mr_C 182 78 = some (.iload_n 3, 1) := by decide +kernel
theorem mc182_79 : mr_C 182 79 = some (.invokevirtual 291, 3) := by decide +kernel
theorem mc182_82 : mr_C 182 82 = some (.iinc 3 (1), 3) := by decide +kernel
theorem mc182_85 : mr_C 182 85 = some (.goto (-16), 3) := by decide +kernel
theorem mc182_88 : mr_C 182 88 = some (.iload_n 2, 1) := by decide +kernel
theorem mc182_89 : mr_C 182 89 = some (.ifCond .ne (10), 3) := by decide +kernel
theorem mc182_92 : mr_C 182 92 = some (.aload_n 0, 1) := by decide +kernel
theorem mc182_93 : mr_C 182 93 = some (.getfield 279, 3) := by decide +kernel
theorem mc182_96 : mr_C 182 96 = some (.goto 43, 3) := by decide +kernel
theorem mc182_99 : mr_C 182 99 = some (.iload_n 2, 1) := by decide +kernel
theorem mc182_100 : mr_C 182 100 = some (.iconst 1, 1) := by decide +kernel
theorem mc182_101 : mr_C 182 101 = some (.if_icmp .ne (10), 3) := by decide +kernel
theorem mc182_104 : mr_C 182 104 = some (.aload_n 0, 1) := by decide +kernel
theorem mc182_105 : mr_C 182 105 = some (.getfield 276, 3) := by decide +kernel
theorem mc182_108 : mr_C 182 108 = some (.goto 31, 3) := by decide +kernel
theorem mc182_111 : mr_C 182 111 = some (.iload_n 2, 1) := by decide +kernel
theorem mc182_112 : mr_C 182 112 = some (.iconst 2, 1) := by decide +kernel
theorem mc182_113 : mr_C 182 113 = some (.if_icmp .ne (10), 3) := by decide +kernel
theorem mc182_116 : mr_C 182 116 = some (.aload_n 0, 1) := by decide +kernel
theorem mc182_117 : mr_C 182 117 = some (.getfield 282, 3) := by decide +kernel
theorem mc182_120 : mr_C 182 120 = some (.goto 19, 3) := by decide +kernel
theorem mc182_123 : mr_C 182 123 = some (.iload_n 2, 1) := by decide +kernel
theorem mc182_124 : mr_C 182 124 = some (.iconst 3, 1) := by decide +kernel
theorem mc182_125 : mr_C 182 125 = some (.if_icmp .ne (10), 3) := by decide +kernel
theorem mc182_128 : mr_C 182 128 = some (.aload_n 0, 1) := by decide +kernel
theorem mc182_129 : mr_C 182 129 = some (.getfield 288, 3) := by decide +kernel
theorem mc182_132 : mr_C 182 132 = some (.goto 7, 3) := by decide +kernel
theorem mc182_135 : mr_C 182 135 = some (.aload_n 0, 1) := by decide +kernel
theorem mc182_136 : mr_C 182 136 = some (.getfield 285, 3) := by decide +kernel
theorem mc182_139 : mr_C 182 139 = some (.ireturn, 1) := by decide +kernel
theorem vc182_0 {sc : Nat × (Int → Int)} {Q : mm_R → mm_M → Prop} {M : mm_M} {l1 : Int} {l2 : Int} (ho : mr_ok M)
    (h : en_CI sc 34 [mm_r 72, mm_i l1] M (fun x1 M2 => mr_ok M2 → mr_rg x1 ∧ ((x1 = 0 → en_R sc 182 14 [mm_r 72, mm_i l1, mm_i l2, mm_u] [mm_i 1, mm_r 72] M2 Q) ∧ (¬ x1 = 0 → en_R sc 182 14 [mm_r 72, mm_i l1, mm_i l2, mm_u] [mm_i 0, mm_r 72] M2 Q))) (fun e M9 => Q (.inr e) M9)) : en_R sc 182 0 [mm_r 72, mm_i l1, mm_i l2, mm_u] [] M Q := by
  refine en_aload_n mc182_0 rfl ?_
  refine en_aload_n mc182_1 rfl ?_
  refine en_iload_n mc182_2 rfl ?_
  refine en_callI (lz := [mm_r 72, mm_i l1]) mv182 mc182_3 rfl rfl (lk_m7_131) mv34 rfl (by decide) rfl (mk_cokV rfl (⟨rfl, by decide⟩ : mt_kd[72]? = some (.inl 7) ∧ 72 < 99)) rfl (mk_nh rfl _) ho ?_
  refine en_CI_mono h (fun x1 M2 h => ?_) (fun _ _ h => h)
  intro ho3
  replace h := h ho3
  obtain ⟨g4, h⟩ := h
  refine en_if_eq 13 mc182_6 (by decide) g4 (fun q => ?_) (fun q => ?_)
  · replace h := h.1 q
    refine en_iconst mc182_13 ?_
    exact h
  · replace h := h.2 q
    refine en_iconst mc182_9 ?_
    refine en_goto 14 mc182_10 (by decide) ?_
    exact h
theorem vc182_14 {sc : Nat × (Int → Int)} {Q : mm_R → mm_M → Prop} {M : mm_M} {l1 : Int} {l2 : Int} {s1 : Int} (ho : mr_ok M) (hg_s1 : mr_rg s1)
    (h : (0 < ((mm_putN M 72 0 s1).1 72 0) → en_R sc 182 42 [mm_r 72, mm_i l1, mm_i l2, mm_u] [] (mm_putN M 72 0 s1) Q) ∧ (¬ 0 < ((mm_putN M 72 0 s1).1 72 0) → 0 ≤ l1 ∧ (l1 < 9 ∧ ((((mm_putN M 72 0 s1).1 77 l1) = 0 → en_R sc 182 42 [mm_r 72, mm_i l1, mm_i l2, mm_u] [] (mm_putN M 72 0 s1) Q) ∧ (¬ ((mm_putN M 72 0 s1).1 77 l1) = 0 → en_CI sc 33 [mm_i l2, mm_i 0, mm_i 4] (mm_putN M 72 0 s1) (fun x3 M4 => mr_ok M4 → mr_rg x3 ∧ ((x3 ≠ 0 → en_CV sc 145 [mm_r 72, mm_i l1, mm_u, mm_u, mm_u] M4 (fun M8 => mr_ok M8 → en_R sc 182 69 [mm_r 72, mm_i l1, mm_i l2, mm_i 0] [] (mm_putN M8 72 46 0) Q) (fun e M9 => Q (.inr e) M9)) ∧ (¬ (x3 ≠ 0) → en_R sc 182 42 [mm_r 72, mm_i l1, mm_i l2, mm_u] [] M4 Q))) (fun e M9 => Q (.inr e) M9)))))) : en_R sc 182 14 [mm_r 72, mm_i l1, mm_i l2, mm_u] [mm_i s1, mm_r 72] M Q := by
  refine en_putI mv182 mc182_14 (lk_f7_89) (⟨rfl, by decide⟩ : mt_kd[72]? = some (.inl 7) ∧ 72 < 99) rfl rfl hg_s1 ?_
  refine en_aload_n mc182_17 rfl ?_
  refine en_getI mv182 mc182_18 (lk_f7_89) (⟨rfl, by decide⟩ : mt_kd[72]? = some (.inl 7) ∧ 72 < 99) (Or.inl rfl) ?_
  refine en_if_gt 42 mc182_21 (by decide) ((mr_ok_putI (a := 72) (k := 0) ho hg_s1).2.1 72 0 (by unfold mr_lg; omega)) (fun q => ?_) (fun q => ?_)
  · replace h := h.1 q
    exact h
  · replace h := h.2 q
    obtain ⟨g1, h⟩ := h
    obtain ⟨g2, h⟩ := h
    refine en_aload_n mc182_24 rfl ?_
    refine en_getR (b := 77) mv182 mc182_25 (lk_f7_22) (⟨rfl, by decide⟩ : mt_kd[72]? = some (.inl 7) ∧ 72 < 99) rfl (mk_fc (mr_ok_putI (a := 72) (k := 0) ho hg_s1) (by decide +kernel)) ?_
    refine en_iload_n mc182_28 rfl ?_
    refine en_iald mc182_29 (⟨rfl, by decide, by decide⟩ : mt_kd[77]? = some (.inr (.int, 9)) ∧ 77 < 99 ∧ 9 < 2147483648) g1 g2 ?_
    refine en_if_eq 42 mc182_30 (by decide) ((mr_ok_putI (a := 72) (k := 0) ho hg_s1).2.1 77 l1 (by unfold mr_lg; omega)) (fun q => ?_) (fun q => ?_)
    · replace h := h.1 q
      exact h
    · replace h := h.2 q
      refine en_iload_n mc182_33 rfl ?_
      refine en_iconst mc182_34 ?_
      refine en_iconst mc182_35 ?_
      refine en_callI (lz := [mm_i l2, mm_i 0, mm_i 4]) mv182 mc182_36 rfl rfl (lk_m7_135) mv33 rfl (by decide) rfl (mk_cokS rfl) rfl (mk_nh rfl _) (mr_ok_putI (a := 72) (k := 0) ho hg_s1) ?_
      refine en_CI_mono h (fun x3 M4 h => ?_) (fun _ _ h => h)
      intro ho5
      replace h := h ho5
      obtain ⟨g6, h⟩ := h
      refine en_if_ne 57 mc182_39 (by decide) g6 (fun q => ?_) (fun q => ?_)
      · replace h := h.1 q
        refine en_aload_n mc182_57 rfl ?_
        refine en_iload_n mc182_58 rfl ?_
        refine en_callV (lz := [mm_r 72, mm_i l1, mm_u, mm_u, mm_u]) mv182 mc182_59 rfl rfl (lk_m7_220) mv145 rfl (by decide) rfl (mk_cokV rfl (⟨rfl, by decide⟩ : mt_kd[72]? = some (.inl 7) ∧ 72 < 99)) rfl (mk_nh rfl _) ho5 ?_
        refine en_CV_mono h (fun M8 h => ?_) (fun _ _ h => h)
        intro ho9
        replace h := h ho9
        refine en_aload_n mc182_62 rfl ?_
        refine en_iconst mc182_63 ?_
        refine en_putI mv182 mc182_64 (lk_f7_285) (⟨rfl, by decide⟩ : mt_kd[72]? = some (.inl 7) ∧ 72 < 99) rfl rfl (⟨by decide, by decide⟩ : mr_rg 0) ?_
        refine en_iconst mc182_67 ?_
        refine en_istore_n (ls' := [mm_r 72, mm_i l1, mm_i l2, mm_i 0]) mc182_68 (Nat.le_of_ble_eq_true rfl) rfl ?_
        exact h
      · replace h := h.2 q
        exact h
theorem vc182_42 {sc : Nat × (Int → Int)} {Q : mm_R → mm_M → Prop} {M : mm_M} {l1 : Int} {l2 : Int} (ho : mr_ok M)
    (h : ((M.1 72 0) ≤ 0 → Q (.inl (some (mm_i (-2001)))) M) ∧ (¬ (M.1 72 0) ≤ 0 → Q (.inl (some (mm_i 0))) M)) : en_R sc 182 42 [mm_r 72, mm_i l1, mm_i l2, mm_u] [] M Q := by
  refine en_aload_n mc182_42 rfl ?_
  refine en_getI mv182 mc182_43 (lk_f7_89) (⟨rfl, by decide⟩ : mt_kd[72]? = some (.inl 7) ∧ 72 < 99) (Or.inl rfl) ?_
  refine en_if_le 53 mc182_46 (by decide) (ho.2.1 72 0 (by unfold mr_lg; omega)) (fun q => ?_) (fun q => ?_)
  · replace h := h.1 q
    refine en_sipush mc182_53 (by decide) ?_
    exact en_iret mv182 mc182_56 rfl h
  · replace h := h.2 q
    refine en_iconst mc182_49 ?_
    refine en_goto 56 mc182_50 (by decide) ?_
    exact en_iret mv182 mc182_56 rfl h
theorem vc182_69 {sc : Nat × (Int → Int)} {Q : mm_R → mm_M → Prop} {M : mm_M} {l1 : Int} {l2 : Int} {l3 : Int} (ho : mr_ok M) (hg_l3 : mr_rg l3) (hg_l2 : mr_rg l2)
    (h : ((M.1 72 24) ≤ l3 → (l2 ≠ 0 → (l2 ≠ 1 → (l2 ≠ 2 → (l2 ≠ 3 → Q (.inl (some (mm_i (M.1 72 46)))) M) ∧ (¬ (l2 ≠ 3) → Q (.inl (some (mm_i (M.1 72 45)))) M)) ∧ (¬ (l2 ≠ 2) → Q (.inl (some (mm_i (M.1 72 44)))) M)) ∧ (¬ (l2 ≠ 1) → Q (.inl (some (mm_i (M.1 72 43)))) M)) ∧ (¬ (l2 ≠ 0) → Q (.inl (some (mm_i (M.1 72 42)))) M)) ∧ (¬ (M.1 72 24) ≤ l3 → en_CV sc 181 [mm_r 72, mm_i l3, mm_u, mm_u, mm_u] M (fun M2 => mr_ok M2 → en_R sc 182 69 [mm_r 72, mm_i l1, mm_i l2, mm_i (l3 + 1)] [] M2 Q) (fun e M9 => Q (.inr e) M9))) : en_R sc 182 69 [mm_r 72, mm_i l1, mm_i l2, mm_i l3] [] M Q := by
  refine en_iload_n mc182_69 rfl ?_
  refine en_aload_n mc182_70 rfl ?_
  refine en_getI mv182 mc182_71 (lk_f7_202) (⟨rfl, by decide⟩ : mt_kd[72]? = some (.inl 7) ∧ 72 < 99) (Or.inl rfl) ?_
  refine en_icmp_ge 88 mc182_74 (by decide) hg_l3 (ho.2.1 72 24 (by unfold mr_lg; omega)) (fun q => ?_) (fun q => ?_)
  · replace h := h.1 q
    refine en_iload_n mc182_88 rfl ?_
    refine en_if_ne 99 mc182_89 (by decide) hg_l2 (fun q => ?_) (fun q => ?_)
    · replace h := h.1 q
      refine en_iload_n mc182_99 rfl ?_
      refine en_iconst mc182_100 ?_
      refine en_icmp_ne 111 mc182_101 (by decide) hg_l2 (⟨by decide, by decide⟩ : mr_rg 1) (fun q => ?_) (fun q => ?_)
      · replace h := h.1 q
        refine en_iload_n mc182_111 rfl ?_
        refine en_iconst mc182_112 ?_
        refine en_icmp_ne 123 mc182_113 (by decide) hg_l2 (⟨by decide, by decide⟩ : mr_rg 2) (fun q => ?_) (fun q => ?_)
        · replace h := h.1 q
          refine en_iload_n mc182_123 rfl ?_
          refine en_iconst mc182_124 ?_
          refine en_icmp_ne 135 mc182_125 (by decide) hg_l2 (⟨by decide, by decide⟩ : mr_rg 3) (fun q => ?_) (fun q => ?_)
          · replace h := h.1 q
            refine en_aload_n mc182_135 rfl ?_
            refine en_getI mv182 mc182_136 (lk_f7_285) (⟨rfl, by decide⟩ : mt_kd[72]? = some (.inl 7) ∧ 72 < 99) (Or.inl rfl) ?_
            exact en_iret mv182 mc182_139 rfl h
          · replace h := h.2 q
            refine en_aload_n mc182_128 rfl ?_
            refine en_getI mv182 mc182_129 (lk_f7_288) (⟨rfl, by decide⟩ : mt_kd[72]? = some (.inl 7) ∧ 72 < 99) (Or.inl rfl) ?_
            refine en_goto 139 mc182_132 (by decide) ?_
            exact en_iret mv182 mc182_139 rfl h
        · replace h := h.2 q
          refine en_aload_n mc182_116 rfl ?_
          refine en_getI mv182 mc182_117 (lk_f7_282) (⟨rfl, by decide⟩ : mt_kd[72]? = some (.inl 7) ∧ 72 < 99) (Or.inl rfl) ?_
          refine en_goto 139 mc182_120 (by decide) ?_
          exact en_iret mv182 mc182_139 rfl h
      · replace h := h.2 q
        refine en_aload_n mc182_104 rfl ?_
        refine en_getI mv182 mc182_105 (lk_f7_276) (⟨rfl, by decide⟩ : mt_kd[72]? = some (.inl 7) ∧ 72 < 99) (Or.inl rfl) ?_
        refine en_goto 139 mc182_108 (by decide) ?_
        exact en_iret mv182 mc182_139 rfl h
    · replace h := h.2 q
      refine en_aload_n mc182_92 rfl ?_
      refine en_getI mv182 mc182_93 (lk_f7_279) (⟨rfl, by decide⟩ : mt_kd[72]? = some (.inl 7) ∧ 72 < 99) (Or.inl rfl) ?_
      refine en_goto 139 mc182_96 (by decide) ?_
      exact en_iret mv182 mc182_139 rfl h
  · replace h := h.2 q
    refine en_aload_n mc182_77 rfl ?_
    refine en_iload_n mc182_78 rfl ?_
    refine en_callV (lz := [mm_r 72, mm_i l3, mm_u, mm_u, mm_u]) mv182 mc182_79 rfl rfl (lk_m7_291) mv181 rfl (by decide) rfl (mk_cokV rfl (⟨rfl, by decide⟩ : mt_kd[72]? = some (.inl 7) ∧ 72 < 99)) rfl (mk_nh rfl _) ho ?_
    refine en_CV_mono h (fun M2 h => ?_) (fun _ _ h => h)
    intro ho3
    replace h := h ho3
    refine en_iinc (ls' := [mm_r 72, mm_i l1, mm_i l2, mm_i (l3 + 1)]) mc182_82 rfl rfl ?_
    refine en_goto 69 mc182_85 (by decide) ?_
    exact h
/-! 183: CellAreas.within(II)Z -/
theorem mc183_0 : mr_C 183 0 = some (.iload_n 1, 1) := by decide +kernel
theorem mc183_1 : mr_C 183 1 = some (.invokestatic 61, 3) := by decide +kernel
theorem mc183_4 : mr_C 183 4 = some (.iload_n 2, 1) := by decide +kernel
theorem mc183_5 : mr_C 183 5 = some (.invokestatic 61, 3) := by decide +kernel
theorem mc183_8 : mr_C 183 8 = some (.aload_n 0, 1) := by decide +kernel
theorem mc183_9 : mr_C 183 9 = some (.getfield 11, 3) := by decide +kernel
theorem mc183_12 : mr_C 183 12 = some (.iload_n 1, 1) := by decide +kernel
theorem mc183_13 : mr_C 183 13 = some (.aaload, 1) := by decide +kernel
theorem mc183_14 : mr_C 183 14 = some (.astore_n 3, 1) := by decide +kernel
theorem mc183_15 : mr_C 183 15 = some (.aload_n 0, 1) := by decide +kernel
theorem mc183_16 : mr_C 183 16 = some (.getfield 32, 3) := by decide +kernel
theorem mc183_19 : mr_C 183 19 = some (.invokevirtual 69, 3) := by decide +kernel
theorem mc183_22 : mr_C 183 22 = some (.aload_n 3, 1) := by decide +kernel
theorem mc183_23 : mr_C 183 23 = some (.aload_n 0, 1) := by decide +kernel
theorem mc183_24 : mr_C 183 24 = some (.getfield 32, 3) := by decide +kernel
theorem mc183_27 : mr_C 183 27 = some (.iconst 0, 1) := by decide +kernel
theorem mc183_28 : mr_C 183 28 = some (.invokevirtual 91, 3) := by decide +kernel
theorem mc183_31 : mr_C 183 31 = some (.aload_n 0, 1) := by decide +kernel
theorem mc183_32 : mr_C 183 32 = some (.getfield 11, 3) := by decide +kernel
theorem mc183_35 : mr_C 183 35 = some (.iload_n 2, 1) := by decide +kernel
theorem mc183_36 : mr_C 183 36 = some (.aaload, 1) := by decide +kernel
theorem mc183_37 : mr_C 183 37 = some (.aload_n 0, 1) := by decide +kernel
theorem mc183_38 : mr_C 183 38 = some (.getfield 32, 3) := by decide +kernel
theorem mc183_41 : mr_C 183 41 = some (.iconst 0, 1) := by decide +kernel
theorem mc183_42 : mr_C 183 42 = some (.invokevirtual 91, 3) := by decide +kernel
theorem mc183_45 : mr_C 183 45 = some (.sipush (-1000), 3) := by decide +kernel
theorem mc183_48 : mr_C 183 48 = some (.istore 5, 2) := by decide +kernel
theorem mc183_50 : mr_C 183 50 = some (.iload 5, 2) := by decide +kernel
theorem mc183_52 : mr_C 183 52 = some (.sipush 1000, 3) := by decide +kernel
theorem mc183_55 : mr_C 183 55 = some (.if_icmp .ge (79), 3) := by decide +kernel
theorem mc183_58 : mr_C 183 58 = some (.iload 5, 2) := by decide +kernel
theorem mc183_60 : mr_C 183 60 = some (.iconst 1, 1) := by decide +kernel
theorem mc183_61 : mr_C 183 61 = some (.iadd, 1) := by decide +kernel
theorem mc183_62 : mr_C 183 62 = some (.aload_n 0, 1) := by decide +kernel
theorem mc183_63 : mr_C 183 63 = some (.getfield 32, 3) := by decide +kernel
theorem mc183_66 : mr_C 183 66 = some (.iload 5, 2) := by decide +kernel
theorem mc183_68 : mr_C 183 68 = some (.iconst 1, 1) := by decide +kernel
theorem mc183_69 : mr_C 183 69 = some (.iadd, 1) := by decide +kernel
theorem mc183_70 : mr_C 183 70 = some (.invokevirtual 99, 3) := by decide +kernel
theorem mc183_73 : mr_C 183 73 = some (.invokestatic 102, 3) := by decide +kernel
theorem mc183_76 : mr_C 183 76 = some (.istore 4, 2) := by decide +kernel
theorem mc183_78 : mr_C 183 78 = some (.aload_n 3, 1) := by decide +kernel
theorem mc183_79 : mr_C 183 79 = some (.iload 5, 2) := by decide +kernel
theorem mc183_81 : mr_C 183 81 = some (.aload_n 0, 1) := by decide +kernel
theorem mc183_82 : mr_C 183 82 = some (.getfield 25, 3) := by decide +kernel
theorem mc183_85 : mr_C 183 85 = some (.invokestatic 108, 3) := by decide +kernel
theorem mc183_88 : mr_C 183 88 = some (.aload_n 0, 1) := by decide +kernel
theorem mc183_89 : mr_C 183 89 = some (.getfield 11, 3) := by decide +kernel
theorem mc183_92 : mr_C 183 92 = some (.iload_n 2, 1) := by decide +kernel
theorem mc183_93 : mr_C 183 93 = some (.aaload, 1) := by decide +kernel
theorem mc183_94 : mr_C 183 94 = some (.iload 5, 2) := by decide +kernel
theorem mc183_96 : mr_C 183 96 = some (.aload_n 0, 1) := by decide +kernel
theorem mc183_97 : mr_C 183 97 = some (.getfield 29, 3) := by decide +kernel
theorem mc183_100 : mr_C 183 100 = some (.invokestatic 108, 3) := by decide +kernel
theorem mc183_103 : mr_C 183 103 = some (.aload_n 0, 1) := by decide +kernel
theorem mc183_104 : mr_C 183 104 = some (.getfield 25, 3) := by decide +kernel
theorem mc183_107 : mr_C 183 107 = some (.aload_n 0, 1) := by decide +kernel
theorem mc183_108 : mr_C 183 108 = some (.getfield 29, 3) := by decide +kernel
theorem mc183_111 : mr_C 183 111 = some (.iconst 2, 1) := by decide +kernel
theorem mc183_112 : mr_C 183 112 = some (.invokevirtual 112, 3) := by decide +kernel
theorem mc183_115 : mr_C 183 115 = some (.aload_n 0, 1) := by decide +kernel
theorem mc183_116 : mr_C 183 116 = some (.getfield 25, 3) := by decide +kernel
theorem mc183_119 : mr_C 183 119 = some (.invokevirtual 229, 3) := by decide +kernel
theorem mc183_122 : mr_C 183 122 = some (.ifCond .ne (5), 3) := by decide +kernel
theorem mc183_125 : mr_C 183 125 = some (.iconst 0, 1) := by decide +kernel
theorem mc183_126 : mr_C 183 126 = some (.ireturn, 1) := by decide +kernel
theorem mc183_127 : mr_C 183 127 = some (.iload 4, 2) := by decide +kernel
theorem mc183_129 : mr_C 183 129 = some (.istore 5, 2) := by decide +kernel
theorem mc183_131 : mr_C 183 131 = some (.goto (-81), 3) := by decide +kernel
theorem mc183_134 : mr_C 183 134 = some (.iconst 1, 1) := by decide +kernel
theorem mc183_135 : mr_C 183 135 = some (.ireturn, 1) := by decide +kernel
theorem vc183_0 {sc : Nat × (Int → Int)} {Q : mm_R → mm_M → Prop} {M : mm_M} {l1 : Int} {l2 : Int} (ho : mr_ok M)
    (h : en_CV sc 9 [mm_i l1] M (fun M2 => mr_ok M2 → en_CV sc 9 [mm_i l2] M2 (fun M5 => mr_ok M5 → 0 ≤ l1 ∧ (l1 < 8 ∧ (∃ b9, M5.2.1 1 l1 = some b9 ∧ mr_A b9 ∧ (en_CV sc 12 [mm_r 15] M5 (fun M12 => mr_ok M12 → en_CV sc 48 [mm_r b9, mm_r 15, mm_i 0, mm_u] M12 (fun M15 => mr_ok M15 → 0 ≤ l2 ∧ (l2 < 8 ∧ (∃ b19, M15.2.1 1 l2 = some b19 ∧ mr_A b19 ∧ (en_CV sc 48 [mm_r b19, mm_r 15, mm_i 0, mm_u] M15 (fun M22 => mr_ok M22 → en_R sc 183 50 [mm_r 0, mm_i l1, mm_i l2, mm_r b9, mm_u, mm_i (-1000)] [] M22 Q) (fun e M9 => Q (.inr e) M9))))) (fun e M9 => Q (.inr e) M9)) (fun e M9 => Q (.inr e) M9))))) (fun e M9 => Q (.inr e) M9)) (fun e M9 => Q (.inr e) M9)) : en_R sc 183 0 [mm_r 0, mm_i l1, mm_i l2, mm_u, mm_u, mm_u] [] M Q := by
  refine en_iload_n mc183_0 rfl ?_
  refine en_callV (lz := [mm_i l1]) mv183 mc183_1 rfl rfl (lk_m6_61) mv9 rfl (by decide) rfl (mk_cokS rfl) rfl (mk_nh rfl _) ho ?_
  refine en_CV_mono h (fun M2 h => ?_) (fun _ _ h => h)
  intro ho3
  replace h := h ho3
  refine en_iload_n mc183_4 rfl ?_
  refine en_callV (lz := [mm_i l2]) mv183 mc183_5 rfl rfl (lk_m6_61) mv9 rfl (by decide) rfl (mk_cokS rfl) rfl (mk_nh rfl _) ho3 ?_
  refine en_CV_mono h (fun M5 h => ?_) (fun _ _ h => h)
  intro ho6
  replace h := h ho6
  obtain ⟨g7, h⟩ := h
  obtain ⟨g8, h⟩ := h
  refine en_aload_n mc183_8 rfl ?_
  refine en_getR (b := 1) mv183 mc183_9 (lk_f6_11) (⟨rfl, by decide⟩ : mt_kd[0]? = some (.inl 6) ∧ 0 < 99) rfl (mk_fc ho6 (by decide +kernel)) ?_
  refine en_iload_n mc183_12 rfl ?_
  obtain ⟨b9, g10, hA_b9_, h⟩ := h
  refine en_aald mc183_13 g7 g8 g10 ?_
  refine en_astore_n (ls' := [mm_r 0, mm_i l1, mm_i l2, mm_r b9, mm_u, mm_u]) mc183_14 (Nat.le_of_ble_eq_true rfl) rfl ?_
  refine en_aload_n mc183_15 rfl ?_
  refine en_getR (b := 15) mv183 mc183_16 (lk_f6_32) (⟨rfl, by decide⟩ : mt_kd[0]? = some (.inl 6) ∧ 0 < 99) rfl (mk_fc ho6 (by decide +kernel)) ?_
  refine en_callV (lz := [mm_r 15]) mv183 mc183_19 rfl rfl (lk_m6_69) mv12 rfl (by decide) rfl (mk_cokV rfl (mk_R0 (by unfold mr_Rw; decide : mr_Rw 15))) rfl (mk_nh rfl _) ho6 ?_
  refine en_CV_mono h (fun M12 h => ?_) (fun _ _ h => h)
  intro ho13
  replace h := h ho13
  refine en_aload_n mc183_22 rfl ?_
  refine en_aload_n mc183_23 rfl ?_
  refine en_getR (b := 15) mv183 mc183_24 (lk_f6_32) (⟨rfl, by decide⟩ : mt_kd[0]? = some (.inl 6) ∧ 0 < 99) rfl (mk_fc ho13 (by decide +kernel)) ?_
  refine en_iconst mc183_27 ?_
  refine en_callV (lz := [mm_r b9, mm_r 15, mm_i 0, mm_u]) mv183 mc183_28 rfl rfl (lk_m6_91) mv48 rfl (by decide) rfl (mk_cokV rfl (mk_A0 hA_b9_)) rfl (mk_nh rfl _) ho13 ?_
  refine en_CV_mono h (fun M15 h => ?_) (fun _ _ h => h)
  intro ho16
  replace h := h ho16
  obtain ⟨g17, h⟩ := h
  obtain ⟨g18, h⟩ := h
  refine en_aload_n mc183_31 rfl ?_
  refine en_getR (b := 1) mv183 mc183_32 (lk_f6_11) (⟨rfl, by decide⟩ : mt_kd[0]? = some (.inl 6) ∧ 0 < 99) rfl (mk_fc ho16 (by decide +kernel)) ?_
  refine en_iload_n mc183_35 rfl ?_
  obtain ⟨b19, g20, hA_b19_, h⟩ := h
  refine en_aald mc183_36 g17 g18 g20 ?_
  refine en_aload_n mc183_37 rfl ?_
  refine en_getR (b := 15) mv183 mc183_38 (lk_f6_32) (⟨rfl, by decide⟩ : mt_kd[0]? = some (.inl 6) ∧ 0 < 99) rfl (mk_fc ho16 (by decide +kernel)) ?_
  refine en_iconst mc183_41 ?_
  refine en_callV (lz := [mm_r b19, mm_r 15, mm_i 0, mm_u]) mv183 mc183_42 rfl rfl (lk_m6_91) mv48 rfl (by decide) rfl (mk_cokV rfl (mk_A0 hA_b19_)) rfl (mk_nh rfl _) ho16 ?_
  refine en_CV_mono h (fun M22 h => ?_) (fun _ _ h => h)
  intro ho23
  replace h := h ho23
  refine en_sipush mc183_45 (by decide) ?_
  refine en_istore (ls' := [mm_r 0, mm_i l1, mm_i l2, mm_r b9, mm_u, mm_i (-1000)]) mc183_48 (Nat.le_of_ble_eq_true rfl) rfl ?_
  exact h
theorem vc183_50 {sc : Nat × (Int → Int)} {Q : mm_R → mm_M → Prop} {M : mm_M} {l1 : Int} {l2 : Int} {l3 : Nat} {l4 : mm_V} {l5 : Int} (ho : mr_ok M) (hg_l5 : mr_rg l5)
    (h : (1000 ≤ l5 → Q (.inl (some (mm_i 1))) M) ∧ (¬ 1000 ≤ l5 → en_CI sc 22 [mm_r 15, mm_i (l5 + 1)] M (fun x1 M2 => mr_ok M2 → mr_rg (l5 + 1) ∧ (mr_rg x1 ∧ (en_CV sc 53 [mm_r l3, mm_i l5, mm_r 11] M2 (fun M7 => mr_ok M7 → 0 ≤ l2 ∧ (l2 < 8 ∧ (∃ b11, M7.2.1 1 l2 = some b11 ∧ mr_A b11 ∧ (en_CV sc 53 [mm_r b11, mm_i l5, mm_r 13] M7 (fun M14 => mr_ok M14 → en_CV sc 55 [mm_r 11, mm_r 13, mm_i 2, mm_u] M14 (fun M17 => mr_ok M17 → en_CI sc 23 [mm_r 11] M17 (fun x19 M20 => mr_ok M20 → mr_rg x19 ∧ ((x19 ≠ 0 → en_R sc 183 50 [mm_r 0, mm_i l1, mm_i l2, mm_r l3, mm_i (max (l5 + 1) x1), mm_i (max (l5 + 1) x1)] [] M20 Q) ∧ (¬ (x19 ≠ 0) → Q (.inl (some (mm_i 0))) M20))) (fun e M9 => Q (.inr e) M9)) (fun e M9 => Q (.inr e) M9)) (fun e M9 => Q (.inr e) M9))))) (fun e M9 => Q (.inr e) M9)))) (fun e M9 => Q (.inr e) M9))) : en_R sc 183 50 [mm_r 0, mm_i l1, mm_i l2, mm_r l3, l4, mm_i l5] [] M Q := by
  refine en_iload mc183_50 rfl ?_
  refine en_sipush mc183_52 (by decide) ?_
  refine en_icmp_ge 134 mc183_55 (by decide) hg_l5 (⟨by decide, by decide⟩ : mr_rg 1000) (fun q => ?_) (fun q => ?_)
  · replace h := h.1 q
    refine en_iconst mc183_134 ?_
    exact en_zret mv183 mc183_135 rfl (by decide) h
  · replace h := h.2 q
    refine en_iload mc183_58 rfl ?_
    refine en_iconst mc183_60 ?_
    refine en_iadd mc183_61 ?_
    refine en_aload_n mc183_62 rfl ?_
    refine en_getR (b := 15) mv183 mc183_63 (lk_f6_32) (⟨rfl, by decide⟩ : mt_kd[0]? = some (.inl 6) ∧ 0 < 99) rfl (mk_fc ho (by decide +kernel)) ?_
    refine en_iload mc183_66 rfl ?_
    refine en_iconst mc183_68 ?_
    refine en_iadd mc183_69 ?_
    refine en_callI (lz := [mm_r 15, mm_i (l5 + 1)]) mv183 mc183_70 rfl rfl (lk_m6_99) mv22 rfl (by decide) rfl (mk_cokV rfl (mk_R0 (by unfold mr_Rw; decide : mr_Rw 15))) rfl (mk_nh rfl _) ho ?_
    refine en_CI_mono h (fun x1 M2 h => ?_) (fun _ _ h => h)
    intro ho3
    replace h := h ho3
    obtain ⟨g4, h⟩ := h
    obtain ⟨g5, h⟩ := h
    refine en_max mv183 mc183_73 (lk_m6_102) mv13 rfl ⟨Nat.le_of_ble_eq_true rfl, Nat.le_of_ble_eq_true rfl⟩ g4 g5 ?_
    refine en_istore (ls' := [mm_r 0, mm_i l1, mm_i l2, mm_r l3, mm_i (max (l5 + 1) x1), mm_i l5]) mc183_76 (Nat.le_of_ble_eq_true rfl) rfl ?_
    refine en_aload_n mc183_78 rfl ?_
    refine en_iload mc183_79 rfl ?_
    refine en_aload_n mc183_81 rfl ?_
    refine en_getR (b := 11) mv183 mc183_82 (lk_f6_25) (⟨rfl, by decide⟩ : mt_kd[0]? = some (.inl 6) ∧ 0 < 99) rfl (mk_fc ho3 (by decide +kernel)) ?_
    refine en_callV (lz := [mm_r l3, mm_i l5, mm_r 11]) mv183 mc183_85 rfl rfl (lk_m6_108) mv53 rfl (by decide) rfl (mk_cokS rfl) rfl (mk_nh rfl _) ho3 ?_
    refine en_CV_mono h (fun M7 h => ?_) (fun _ _ h => h)
    intro ho8
    replace h := h ho8
    obtain ⟨g9, h⟩ := h
    obtain ⟨g10, h⟩ := h
    refine en_aload_n mc183_88 rfl ?_
    refine en_getR (b := 1) mv183 mc183_89 (lk_f6_11) (⟨rfl, by decide⟩ : mt_kd[0]? = some (.inl 6) ∧ 0 < 99) rfl (mk_fc ho8 (by decide +kernel)) ?_
    refine en_iload_n mc183_92 rfl ?_
    obtain ⟨b11, g12, hA_b11_, h⟩ := h
    refine en_aald mc183_93 g9 g10 g12 ?_
    refine en_iload mc183_94 rfl ?_
    refine en_aload_n mc183_96 rfl ?_
    refine en_getR (b := 13) mv183 mc183_97 (lk_f6_29) (⟨rfl, by decide⟩ : mt_kd[0]? = some (.inl 6) ∧ 0 < 99) rfl (mk_fc ho8 (by decide +kernel)) ?_
    refine en_callV (lz := [mm_r b11, mm_i l5, mm_r 13]) mv183 mc183_100 rfl rfl (lk_m6_108) mv53 rfl (by decide) rfl (mk_cokS rfl) rfl (mk_nh rfl _) ho8 ?_
    refine en_CV_mono h (fun M14 h => ?_) (fun _ _ h => h)
    intro ho15
    replace h := h ho15
    refine en_aload_n mc183_103 rfl ?_
    refine en_getR (b := 11) mv183 mc183_104 (lk_f6_25) (⟨rfl, by decide⟩ : mt_kd[0]? = some (.inl 6) ∧ 0 < 99) rfl (mk_fc ho15 (by decide +kernel)) ?_
    refine en_aload_n mc183_107 rfl ?_
    refine en_getR (b := 13) mv183 mc183_108 (lk_f6_29) (⟨rfl, by decide⟩ : mt_kd[0]? = some (.inl 6) ∧ 0 < 99) rfl (mk_fc ho15 (by decide +kernel)) ?_
    refine en_iconst mc183_111 ?_
    refine en_callV (lz := [mm_r 11, mm_r 13, mm_i 2, mm_u]) mv183 mc183_112 rfl rfl (lk_m6_112) mv55 rfl (by decide) rfl (mk_cokV rfl (mk_R0 (by unfold mr_Rw; decide : mr_Rw 11))) rfl (mk_nh rfl _) ho15 ?_
    refine en_CV_mono h (fun M17 h => ?_) (fun _ _ h => h)
    intro ho18
    replace h := h ho18
    refine en_aload_n mc183_115 rfl ?_
    refine en_getR (b := 11) mv183 mc183_116 (lk_f6_25) (⟨rfl, by decide⟩ : mt_kd[0]? = some (.inl 6) ∧ 0 < 99) rfl (mk_fc ho18 (by decide +kernel)) ?_
    refine en_callI (lz := [mm_r 11]) mv183 mc183_119 rfl rfl (lk_m6_229) mv23 rfl (by decide) rfl (mk_cokV rfl (mk_R0 (by unfold mr_Rw; decide : mr_Rw 11))) rfl (mk_nh rfl _) ho18 ?_
    refine en_CI_mono h (fun x19 M20 h => ?_) (fun _ _ h => h)
    intro ho21
    replace h := h ho21
    obtain ⟨g22, h⟩ := h
    refine en_if_ne 127 mc183_122 (by decide) g22 (fun q => ?_) (fun q => ?_)
    · replace h := h.1 q
      refine en_iload mc183_127 rfl ?_
      refine en_istore (ls' := [mm_r 0, mm_i l1, mm_i l2, mm_r l3, mm_i (max (l5 + 1) x1), mm_i (max (l5 + 1) x1)]) mc183_129 (Nat.le_of_ble_eq_true rfl) rfl ?_
      refine en_goto 50 mc183_131 (by decide) ?_
      exact h
    · replace h := h.2 q
      refine en_iconst mc183_125 ?_
      exact en_zret mv183 mc183_126 rfl (by decide) h
/-! 185: CellAreasModel.within(II)Z -/
theorem mc185_0 : mr_C 185 0 = some (.aload_n 0, 1) := by decide +kernel
theorem mc185_1 : mr_C 185 1 = some (.iload_n 1, 1) := by decide +kernel
theorem mc185_2 : mr_C 185 2 = some (.iload_n 2, 1) := by decide +kernel
theorem mc185_3 : mr_C 185 3 = some (.invokevirtual 167, 3) := by decide +kernel
theorem mc185_6 : mr_C 185 6 = some (.ifCond .ne (5), 3) := by decide +kernel
theorem mc185_9 : mr_C 185 9 = some (.iconst 0, 1) := by decide +kernel
theorem mc185_10 : mr_C 185 10 = some (.ireturn, 1) := by decide +kernel
theorem mc185_11 : mr_C 185 11 = some (.aload_n 0, 1) := by decide +kernel
theorem mc185_12 : mr_C 185 12 = some (.invokevirtual 139, 3) := by decide +kernel
theorem mc185_15 : mr_C 185 15 = some (.aload_n 0, 1) := by decide +kernel
theorem mc185_16 : mr_C 185 16 = some (.iload_n 1, 1) := by decide +kernel
theorem mc185_17 : mr_C 185 17 = some (.invokevirtual 155, 3) := by decide +kernel
theorem mc185_20 : mr_C 185 20 = some (.aload_n 0, 1) := by decide +kernel
theorem mc185_21 : mr_C 185 21 = some (.iload_n 2, 1) := by decide +kernel
theorem mc185_22 : mr_C 185 22 = some (.invokevirtual 155, 3) := by decide +kernel
theorem mc185_25 : mr_C 185 25 = some (.iconst 1, 1) := by decide +kernel
theorem mc185_26 : mr_C 185 26 = some (.istore_n 3, 1) := by decide +kernel
theorem mc185_27 : mr_C 185 27 = some (.iconst 0, 1) := by decide +kernel
theorem mc185_28 : mr_C 185 28 = some (.istore 4, 2) := by decide +kernel
theorem mc185_30 : mr_C 185 30 = some (.iload 4, 2) := by decide +kernel
theorem mc185_32 : mr_C 185 32 = some (.iconst 1, 1) := by decide +kernel
theorem mc185_33 : mr_C 185 33 = some (.iadd, 1) := by decide +kernel
theorem mc185_34 : mr_C 185 34 = some (.aload_n 0, 1) := by decide +kernel
theorem mc185_35 : mr_C 185 35 = some (.getfield 97, 3) := by decide +kernel
theorem mc185_38 : mr_C 185 38 = some (.if_icmp .ge (55), 3) := by decide +kernel
theorem mc185_41 : mr_C 185 41 = some (.aload_n 0, 1) := by decide +kernel
theorem mc185_42 : mr_C 185 42 = some (.iload_n 1, 1) := by decide +kernel
theorem mc185_43 : mr_C 185 43 = some (.aload_n 0, 1) := by decide +kernel
theorem mc185_44 : mr_C 185 44 = some (.getfield 52, 3) := by decide +kernel
theorem mc185_47 : mr_C 185 47 = some (.iload 4, 2) := by decide +kernel
theorem mc185_49 : mr_C 185 49 = some (.iaload, 1) := by decide +kernel
theorem mc185_50 : mr_C 185 50 = some (.invokevirtual 158, 3) := by decide +kernel
theorem mc185_53 : mr_C 185 53 = some (.aload_n 0, 1) := by decide +kernel
theorem mc185_54 : mr_C 185 54 = some (.iload_n 2, 1) := by decide +kernel
theorem mc185_55 : mr_C 185 55 = some (.aload_n 0, 1) := by decide +kernel
theorem mc185_56 : mr_C 185 56 = some (.getfield 52, 3) := by decide +kernel
theorem mc185_59 : mr_C 185 59 = some (.iload 4, 2) := by decide +kernel
theorem mc185_61 : mr_C 185 61 = some (.iaload, 1) := by decide +kernel
theorem mc185_62 : mr_C 185 62 = some (.invokevirtual 161, 3) := by decide +kernel
theorem mc185_65 : mr_C 185 65 = some (.aload_n 0, 1) := by decide +kernel
theorem mc185_66 : mr_C 185 66 = some (.iconst 2, 1) := by decide +kernel
theorem mc185_67 : mr_C 185 67 = some (.invokevirtual 164, 3) := by decide +kernel
theorem mc185_70 : mr_C 185 70 = some (.iload_n 3, 1) := by decide +kernel
theorem mc185_71 : mr_C 185 71 = some (.ifCond .eq (14), 3) := by decide +kernel
theorem mc185_74 : mr_C 185 74 = some (.aload_n 0, 1) := by decide +kernel
theorem mc185_75 : mr_C 185 75 = some (.getfield 100, 3) := by decide +kernel
theorem mc185_78 : mr_C 185 78 = some (.ifCond .ne (7), 3) := by decide +kernel
theorem mc185_81 : mr_C 185 81 = some (.iconst 1, 1) := by decide +kernel
theorem mc185_82 : mr_C 185 82 = some (.goto 4, 3) := by decide +kernel
theorem mc185_85 : mr_C 185 85 = some (.iconst 0, 1) := by decide +kernel
theorem mc185_86 : mr_C 185 86 = some (.istore_n 3, 1) := by decide +kernel
theorem mc185_87 : mr_C 185 87 = some (.iinc 4 (1), 3) := by decide +kernel
theorem mc185_90 : mr_C 185 90 = some (.goto (-60), 3) := by decide +kernel
theorem mc185_93 : mr_C 185 93 = some (.iload_n 3, 1) := by decide +kernel
theorem mc185_94 : mr_C 185 94 = some (.ireturn, 1) := by decide +kernel
theorem vc185_0 {sc : Nat × (Int → Int)} {Q : mm_R → mm_M → Prop} {M : mm_M} {l1 : Int} {l2 : Int} (ho : mr_ok M)
    (h : en_CI sc 70 [mm_r 72, mm_i l1, mm_i l2] M (fun x1 M2 => mr_ok M2 → mr_rg x1 ∧ ((x1 ≠ 0 → en_CV sc 35 [mm_r 72] M2 (fun M6 => mr_ok M6 → en_CV sc 59 [mm_r 72, mm_i l1, mm_u] M6 (fun M9 => mr_ok M9 → en_CV sc 59 [mm_r 72, mm_i l2, mm_u] M9 (fun M12 => mr_ok M12 → en_R sc 185 30 [mm_r 72, mm_i l1, mm_i l2, mm_i 1, mm_i 0] [] M12 Q) (fun e M9 => Q (.inr e) M9)) (fun e M9 => Q (.inr e) M9)) (fun e M9 => Q (.inr e) M9)) ∧ (¬ (x1 ≠ 0) → Q (.inl (some (mm_i 0))) M2))) (fun e M9 => Q (.inr e) M9)) : en_R sc 185 0 [mm_r 72, mm_i l1, mm_i l2, mm_u, mm_u] [] M Q := by
  refine en_aload_n mc185_0 rfl ?_
  refine en_iload_n mc185_1 rfl ?_
  refine en_iload_n mc185_2 rfl ?_
  refine en_callI (lz := [mm_r 72, mm_i l1, mm_i l2]) mv185 mc185_3 rfl rfl (lk_m7_167) mv70 rfl (by decide) rfl (mk_cokV rfl (⟨rfl, by decide⟩ : mt_kd[72]? = some (.inl 7) ∧ 72 < 99)) rfl (mk_nh rfl _) ho ?_
  refine en_CI_mono h (fun x1 M2 h => ?_) (fun _ _ h => h)
  intro ho3
  replace h := h ho3
  obtain ⟨g4, h⟩ := h
  refine en_if_ne 11 mc185_6 (by decide) g4 (fun q => ?_) (fun q => ?_)
  · replace h := h.1 q
    refine en_aload_n mc185_11 rfl ?_
    refine en_callV (lz := [mm_r 72]) mv185 mc185_12 rfl rfl (lk_m7_139) mv35 rfl (by decide) rfl (mk_cokV rfl (⟨rfl, by decide⟩ : mt_kd[72]? = some (.inl 7) ∧ 72 < 99)) rfl (mk_nh rfl _) ho3 ?_
    refine en_CV_mono h (fun M6 h => ?_) (fun _ _ h => h)
    intro ho7
    replace h := h ho7
    refine en_aload_n mc185_15 rfl ?_
    refine en_iload_n mc185_16 rfl ?_
    refine en_callV (lz := [mm_r 72, mm_i l1, mm_u]) mv185 mc185_17 rfl rfl (lk_m7_155) mv59 rfl (by decide) rfl (mk_cokV rfl (⟨rfl, by decide⟩ : mt_kd[72]? = some (.inl 7) ∧ 72 < 99)) rfl (mk_nh rfl _) ho7 ?_
    refine en_CV_mono h (fun M9 h => ?_) (fun _ _ h => h)
    intro ho10
    replace h := h ho10
    refine en_aload_n mc185_20 rfl ?_
    refine en_iload_n mc185_21 rfl ?_
    refine en_callV (lz := [mm_r 72, mm_i l2, mm_u]) mv185 mc185_22 rfl rfl (lk_m7_155) mv59 rfl (by decide) rfl (mk_cokV rfl (⟨rfl, by decide⟩ : mt_kd[72]? = some (.inl 7) ∧ 72 < 99)) rfl (mk_nh rfl _) ho10 ?_
    refine en_CV_mono h (fun M12 h => ?_) (fun _ _ h => h)
    intro ho13
    replace h := h ho13
    refine en_iconst mc185_25 ?_
    refine en_istore_n (ls' := [mm_r 72, mm_i l1, mm_i l2, mm_i 1, mm_u]) mc185_26 (Nat.le_of_ble_eq_true rfl) rfl ?_
    refine en_iconst mc185_27 ?_
    refine en_istore (ls' := [mm_r 72, mm_i l1, mm_i l2, mm_i 1, mm_i 0]) mc185_28 (Nat.le_of_ble_eq_true rfl) rfl ?_
    exact h
  · replace h := h.2 q
    refine en_iconst mc185_9 ?_
    exact en_zret mv185 mc185_10 rfl (by decide) h
theorem vc185_30 {sc : Nat × (Int → Int)} {Q : mm_R → mm_M → Prop} {M : mm_M} {l1 : Int} {l2 : Int} {l3 : Int} {l4 : Int} (ho : mr_ok M) (hg_l3 : mr_rg l3)
    (h : mr_rg (l4 + 1) ∧ (((M.1 72 19) ≤ (l4 + 1) → (l3 = 0 ∨ l3 = 1) ∧ (Q (.inl (some (mm_i l3))) M)) ∧ (¬ (M.1 72 19) ≤ (l4 + 1) → 0 ≤ l4 ∧ (l4 < 1700 ∧ (en_CV sc 61 [mm_r 72, mm_i l1, mm_i (M.1 87 l4), mm_u, mm_u] M (fun M6 => mr_ok M6 → 0 ≤ l4 ∧ (l4 < 1700 ∧ (en_CV sc 62 [mm_r 72, mm_i l2, mm_i (M6.1 87 l4), mm_u, mm_u] M6 (fun M11 => mr_ok M11 → en_CV sc 65 [mm_r 72, mm_i 2, mm_u, mm_u, mm_u, mm_u, mm_u, mm_u, mm_u, mm_u] M11 (fun M14 => mr_ok M14 → (l3 = 0 → en_R sc 185 30 [mm_r 72, mm_i l1, mm_i l2, mm_i 0, mm_i (l4 + 1)] [] M14 Q) ∧ (¬ l3 = 0 → ((M14.1 72 17) ≠ 0 → en_R sc 185 30 [mm_r 72, mm_i l1, mm_i l2, mm_i 0, mm_i (l4 + 1)] [] M14 Q) ∧ (¬ ((M14.1 72 17) ≠ 0) → en_R sc 185 30 [mm_r 72, mm_i l1, mm_i l2, mm_i 1, mm_i (l4 + 1)] [] M14 Q))) (fun e M9 => Q (.inr e) M9)) (fun e M9 => Q (.inr e) M9)))) (fun e M9 => Q (.inr e) M9)))))) : en_R sc 185 30 [mm_r 72, mm_i l1, mm_i l2, mm_i l3, mm_i l4] [] M Q := by
  obtain ⟨g1, h⟩ := h
  refine en_iload mc185_30 rfl ?_
  refine en_iconst mc185_32 ?_
  refine en_iadd mc185_33 ?_
  refine en_aload_n mc185_34 rfl ?_
  refine en_getI mv185 mc185_35 (lk_f7_97) (⟨rfl, by decide⟩ : mt_kd[72]? = some (.inl 7) ∧ 72 < 99) (Or.inl rfl) ?_
  refine en_icmp_ge 93 mc185_38 (by decide) g1 (ho.2.1 72 19 (by unfold mr_lg; omega)) (fun q => ?_) (fun q => ?_)
  · replace h := h.1 q
    obtain ⟨g2, h⟩ := h
    refine en_iload_n mc185_93 rfl ?_
    exact en_zret mv185 mc185_94 rfl g2 h
  · replace h := h.2 q
    obtain ⟨g3, h⟩ := h
    obtain ⟨g4, h⟩ := h
    refine en_aload_n mc185_41 rfl ?_
    refine en_iload_n mc185_42 rfl ?_
    refine en_aload_n mc185_43 rfl ?_
    refine en_getR (b := 87) mv185 mc185_44 (lk_f7_52) (⟨rfl, by decide⟩ : mt_kd[72]? = some (.inl 7) ∧ 72 < 99) rfl (mk_fc ho (by decide +kernel)) ?_
    refine en_iload mc185_47 rfl ?_
    refine en_iald mc185_49 (⟨rfl, by decide, by decide⟩ : mt_kd[87]? = some (.inr (.int, 1700)) ∧ 87 < 99 ∧ 1700 < 2147483648) g3 g4 ?_
    refine en_callV (lz := [mm_r 72, mm_i l1, mm_i (M.1 87 l4), mm_u, mm_u]) mv185 mc185_50 rfl rfl (lk_m7_158) mv61 rfl (by decide) rfl (mk_cokV rfl (⟨rfl, by decide⟩ : mt_kd[72]? = some (.inl 7) ∧ 72 < 99)) rfl (mk_nh rfl _) ho ?_
    refine en_CV_mono h (fun M6 h => ?_) (fun _ _ h => h)
    intro ho7
    replace h := h ho7
    obtain ⟨g8, h⟩ := h
    obtain ⟨g9, h⟩ := h
    refine en_aload_n mc185_53 rfl ?_
    refine en_iload_n mc185_54 rfl ?_
    refine en_aload_n mc185_55 rfl ?_
    refine en_getR (b := 87) mv185 mc185_56 (lk_f7_52) (⟨rfl, by decide⟩ : mt_kd[72]? = some (.inl 7) ∧ 72 < 99) rfl (mk_fc ho7 (by decide +kernel)) ?_
    refine en_iload mc185_59 rfl ?_
    refine en_iald mc185_61 (⟨rfl, by decide, by decide⟩ : mt_kd[87]? = some (.inr (.int, 1700)) ∧ 87 < 99 ∧ 1700 < 2147483648) g8 g9 ?_
    refine en_callV (lz := [mm_r 72, mm_i l2, mm_i (M6.1 87 l4), mm_u, mm_u]) mv185 mc185_62 rfl rfl (lk_m7_161) mv62 rfl (by decide) rfl (mk_cokV rfl (⟨rfl, by decide⟩ : mt_kd[72]? = some (.inl 7) ∧ 72 < 99)) rfl (mk_nh rfl _) ho7 ?_
    refine en_CV_mono h (fun M11 h => ?_) (fun _ _ h => h)
    intro ho12
    replace h := h ho12
    refine en_aload_n mc185_65 rfl ?_
    refine en_iconst mc185_66 ?_
    refine en_callV (lz := [mm_r 72, mm_i 2, mm_u, mm_u, mm_u, mm_u, mm_u, mm_u, mm_u, mm_u]) mv185 mc185_67 rfl rfl (lk_m7_164) mv65 rfl (by decide) rfl (mk_cokV rfl (⟨rfl, by decide⟩ : mt_kd[72]? = some (.inl 7) ∧ 72 < 99)) rfl (mk_nh rfl _) ho12 ?_
    refine en_CV_mono h (fun M14 h => ?_) (fun _ _ h => h)
    intro ho15
    replace h := h ho15
    refine en_iload_n mc185_70 rfl ?_
    refine en_if_eq 85 mc185_71 (by decide) hg_l3 (fun q => ?_) (fun q => ?_)
    · replace h := h.1 q
      refine en_iconst mc185_85 ?_
      refine en_istore_n (ls' := [mm_r 72, mm_i l1, mm_i l2, mm_i 0, mm_i l4]) mc185_86 (Nat.le_of_ble_eq_true rfl) rfl ?_
      refine en_iinc (ls' := [mm_r 72, mm_i l1, mm_i l2, mm_i 0, mm_i (l4 + 1)]) mc185_87 rfl rfl ?_
      refine en_goto 30 mc185_90 (by decide) ?_
      exact h
    · replace h := h.2 q
      refine en_aload_n mc185_74 rfl ?_
      refine en_getI mv185 mc185_75 (lk_f7_100) (⟨rfl, by decide⟩ : mt_kd[72]? = some (.inl 7) ∧ 72 < 99) (Or.inl rfl) ?_
      refine en_if_ne 85 mc185_78 (by decide) (ho15.2.1 72 17 (by unfold mr_lg; omega)) (fun q => ?_) (fun q => ?_)
      · replace h := h.1 q
        refine en_iconst mc185_85 ?_
        refine en_istore_n (ls' := [mm_r 72, mm_i l1, mm_i l2, mm_i 0, mm_i l4]) mc185_86 (Nat.le_of_ble_eq_true rfl) rfl ?_
        refine en_iinc (ls' := [mm_r 72, mm_i l1, mm_i l2, mm_i 0, mm_i (l4 + 1)]) mc185_87 rfl rfl ?_
        refine en_goto 30 mc185_90 (by decide) ?_
        exact h
      · replace h := h.2 q
        refine en_iconst mc185_81 ?_
        refine en_goto 86 mc185_82 (by decide) ?_
        refine en_istore_n (ls' := [mm_r 72, mm_i l1, mm_i l2, mm_i 1, mm_i l4]) mc185_86 (Nat.le_of_ble_eq_true rfl) rfl ?_
        refine en_iinc (ls' := [mm_r 72, mm_i l1, mm_i l2, mm_i 1, mm_i (l4 + 1)]) mc185_87 rfl rfl ?_
        refine en_goto 30 mc185_90 (by decide) ?_
        exact h
/-! 186: CellAreas.gap(IIII)I -/
theorem mc186_0 : mr_C 186 0 = some (.iconst 0, 1) := by decide +kernel
theorem mc186_1 : mr_C 186 1 = some (.iload_n 2, 1) := by decide +kernel
theorem mc186_2 : mr_C 186 2 = some (.iload_n 1, 1) := by decide +kernel
theorem mc186_3 : mr_C 186 3 = some (.isub, 1) := by decide +kernel
theorem mc186_4 : mr_C 186 4 = some (.iload_n 0, 1) := by decide +kernel
theorem mc186_5 : mr_C 186 5 = some (.iload_n 3, 1) := by decide +kernel
theorem mc186_6 : mr_C 186 6 = some (.isub, 1) := by decide +kernel
theorem mc186_7 : mr_C 186 7 = some (.invokestatic 102, 3) := by decide +kernel
theorem mc186_10 : mr_C 186 10 = some (.iconst 1, 1) := by decide +kernel
theorem mc186_11 : mr_C 186 11 = some (.iadd, 1) := by decide +kernel
theorem mc186_12 : mr_C 186 12 = some (.invokestatic 102, 3) := by decide +kernel
theorem mc186_15 : mr_C 186 15 = some (.ireturn, 1) := by decide +kernel
theorem vc186_0 {sc : Nat × (Int → Int)} {Q : mm_R → mm_M → Prop} {M : mm_M} {l0 : Int} {l1 : Int} {l2 : Int} {l3 : Int} (ho : mr_ok M)
    (h : mr_rg (l2 - l1) ∧ (mr_rg (l0 - l3) ∧ (mr_rg ((max (l2 - l1) (l0 - l3)) + 1) ∧ (Q (.inl (some (mm_i (max 0 ((max (l2 - l1) (l0 - l3)) + 1))))) M)))) : en_R sc 186 0 [mm_i l0, mm_i l1, mm_i l2, mm_i l3] [] M Q := by
  obtain ⟨g1, h⟩ := h
  obtain ⟨g2, h⟩ := h
  obtain ⟨g3, h⟩ := h
  refine en_iconst mc186_0 ?_
  refine en_iload_n mc186_1 rfl ?_
  refine en_iload_n mc186_2 rfl ?_
  refine en_isub mc186_3 ?_
  refine en_iload_n mc186_4 rfl ?_
  refine en_iload_n mc186_5 rfl ?_
  refine en_isub mc186_6 ?_
  refine en_max mv186 mc186_7 (lk_m6_102) mv13 rfl ⟨Nat.le_of_ble_eq_true rfl, Nat.le_of_ble_eq_true rfl⟩ g1 g2 ?_
  refine en_iconst mc186_10 ?_
  refine en_iadd mc186_11 ?_
  refine en_max mv186 mc186_12 (lk_m6_102) mv13 rfl ⟨Nat.le_of_ble_eq_true rfl, Nat.le_of_ble_eq_true rfl⟩ (⟨by decide, by decide⟩ : mr_rg 0) g3 ?_
  exact en_iret mv186 mc186_15 rfl h
/-! 187: CellAreas.gapBetweenBands(LCellAreas$Area;ILCellAreas$Area;I)I -/
theorem mc187_0 : mr_C 187 0 = some (.sipush 2000, 3) := by decide +kernel
theorem mc187_3 : mr_C 187 3 = some (.istore 4, 2) := by decide +kernel
theorem mc187_5 : mr_C 187 5 = some (.aload_n 0, 1) := by decide +kernel
theorem mc187_6 : mr_C 187 6 = some (.iload_n 1, 1) := by decide +kernel
theorem mc187_7 : mr_C 187 7 = some (.invokevirtual 156, 3) := by decide +kernel
theorem mc187_10 : mr_C 187 10 = some (.istore 5, 2) := by decide +kernel
theorem mc187_12 : mr_C 187 12 = some (.aload_n 2, 1) := by decide +kernel
theorem mc187_13 : mr_C 187 13 = some (.iload_n 3, 1) := by decide +kernel
theorem mc187_14 : mr_C 187 14 = some (.invokevirtual 156, 3) := by decide +kernel
theorem mc187_17 : mr_C 187 17 = some (.istore 6, 2) := by decide +kernel
theorem mc187_19 : mr_C 187 19 = some (.iload 5, 2) := by decide +kernel
theorem mc187_21 : mr_C 187 21 = some (.aload_n 0, 1) := by decide +kernel
theorem mc187_22 : mr_C 187 22 = some (.iload_n 1, 1) := by decide +kernel
theorem mc187_23 : mr_C 187 23 = some (.invokevirtual 153, 3) := by decide +kernel
theorem mc187_26 : mr_C 187 26 = some (.if_icmp .ge (80), 3) := by decide +kernel
theorem mc187_29 : mr_C 187 29 = some (.iload 6, 2) := by decide +kernel
theorem mc187_31 : mr_C 187 31 = some (.aload_n 2, 1) := by decide +kernel
theorem mc187_32 : mr_C 187 32 = some (.iload_n 3, 1) := by decide +kernel
theorem mc187_33 : mr_C 187 33 = some (.invokevirtual 153, 3) := by decide +kernel
theorem mc187_36 : mr_C 187 36 = some (.if_icmp .ge (70), 3) := by decide +kernel
theorem mc187_39 : mr_C 187 39 = some (.iload 4, 2) := by decide +kernel
theorem mc187_41 : mr_C 187 41 = some (.aload_n 0, 1) := by decide +kernel
theorem mc187_42 : mr_C 187 42 = some (.getfield 159, 3) := by decide +kernel
theorem mc187_45 : mr_C 187 45 = some (.iload 5, 2) := by decide +kernel
theorem mc187_47 : mr_C 187 47 = some (.iaload, 1) := by decide +kernel
theorem mc187_48 : mr_C 187 48 = some (.aload_n 0, 1) := by decide +kernel
theorem mc187_49 : mr_C 187 49 = some (.getfield 162, 3) := by decide +kernel
theorem mc187_52 : mr_C 187 52 = some (.iload 5, 2) := by decide +kernel
theorem mc187_54 : mr_C 187 54 = some (.iaload, 1) := by decide +kernel
theorem mc187_55 : mr_C 187 55 = some (.aload_n 2, 1) := by decide +kernel
theorem mc187_56 : mr_C 187 56 = some (.getfield 159, 3) := by decide +kernel
theorem mc187_59 : mr_C 187 59 = some (.iload 6, 2) := by decide +kernel
theorem mc187_61 : mr_C 187 61 = some (.iaload, 1) := by decide +kernel
theorem mc187_62 : mr_C 187 62 = some (.aload_n 2, 1) := by decide +kernel
theorem mc187_63 : mr_C 187 63 = some (.getfield 162, 3) := by decide +kernel
theorem mc187_66 : mr_C 187 66 = some (.iload 6, 2) := by decide +kernel
theorem mc187_68 : mr_C 187 68 = some (.iaload, 1) := by decide +kernel
theorem mc187_69 : mr_C 187 69 = some (.invokestatic 233, 3) := by decide +kernel
theorem mc187_72 : mr_C 187 72 = some (.invokestatic 132, 3) := by decide +kernel
theorem mc187_75 : mr_C 187 75 = some (.istore 4, 2) := by decide +kernel
theorem mc187_77 : mr_C 187 77 = some (.aload_n 0, 1) := by decide +kernel
theorem mc187_78 : mr_C 187 78 = some (.getfield 162, 3) := by decide +kernel
theorem mc187_81 : mr_C 187 81 = some (.iload 5, 2) := by decide +kernel
theorem mc187_83 : mr_C 187 83 = some (.iaload, 1) := by decide +kernel
theorem mc187_84 : mr_C 187 84 = some (.aload_n 2, 1) := by decide +kernel
theorem mc187_85 : mr_C 187 85 = some (.getfield 162, 3) := by decide +kernel
theorem mc187_88 : mr_C 187 88 = some (.iload 6, 2) := by decide +kernel
theorem mc187_90 : mr_C 187 90 = some (.iaload, 1) := by decide +kernel
theorem mc187_91 : mr_C 187 91 = some (.if_icmp .ge (9), 3) := by decide +kernel
theorem mc187_94 : mr_C 187 94 = some (.iinc 5 (1), 3) := by decide +kernel
theorem mc187_97 : mr_C 187 97 = some (.goto (-78), 3) := by decide +kernel
theorem mc187_100 : mr_C 187 100 = some (.iinc 6 (1), 3) := by decide +kernel
theorem mc187_103 : mr_C 187 103 = some (.goto (-84), 3) := by decide +kernel
theorem mc187_106 : mr_C 187 106 = some (.iload 4, 2) := by decide +kernel
theorem mc187_108 : mr_C 187 108 = some (.ireturn, 1) := by decide +kernel
theorem vc187_0 {sc : Nat × (Int → Int)} {Q : mm_R → mm_M → Prop} {M : mm_M} {l0 : Nat} {l1 : Int} {l2 : Nat} {l3 : Int} (ho : mr_ok M) (hA_l0 : mr_A l0) (hA_l2 : mr_A l2)
    (h : en_CI sc 50 [mm_r l0, mm_i l1] M (fun x1 M2 => mr_ok M2 → en_CI sc 50 [mm_r l2, mm_i l3] M2 (fun x4 M5 => mr_ok M5 → en_R sc 187 19 [mm_r l0, mm_i l1, mm_r l2, mm_i l3, mm_i 2000, mm_i x1, mm_i x4] [] M5 Q) (fun e M9 => Q (.inr e) M9)) (fun e M9 => Q (.inr e) M9)) : en_R sc 187 0 [mm_r l0, mm_i l1, mm_r l2, mm_i l3, mm_u, mm_u, mm_u] [] M Q := by
  refine en_sipush mc187_0 (by decide) ?_
  refine en_istore (ls' := [mm_r l0, mm_i l1, mm_r l2, mm_i l3, mm_i 2000, mm_u, mm_u]) mc187_3 (Nat.le_of_ble_eq_true rfl) rfl ?_
  refine en_aload_n mc187_5 rfl ?_
  refine en_iload_n mc187_6 rfl ?_
  refine en_callI (lz := [mm_r l0, mm_i l1]) mv187 mc187_7 rfl rfl (lk_m6_156) mv50 rfl (by decide) rfl (mk_cokV rfl (mk_A0 hA_l0)) rfl (mk_nh rfl _) ho ?_
  refine en_CI_mono h (fun x1 M2 h => ?_) (fun _ _ h => h)
  intro ho3
  replace h := h ho3
  refine en_istore (ls' := [mm_r l0, mm_i l1, mm_r l2, mm_i l3, mm_i 2000, mm_i x1, mm_u]) mc187_10 (Nat.le_of_ble_eq_true rfl) rfl ?_
  refine en_aload_n mc187_12 rfl ?_
  refine en_iload_n mc187_13 rfl ?_
  refine en_callI (lz := [mm_r l2, mm_i l3]) mv187 mc187_14 rfl rfl (lk_m6_156) mv50 rfl (by decide) rfl (mk_cokV rfl (mk_A0 hA_l2)) rfl (mk_nh rfl _) ho3 ?_
  refine en_CI_mono h (fun x4 M5 h => ?_) (fun _ _ h => h)
  intro ho6
  replace h := h ho6
  refine en_istore (ls' := [mm_r l0, mm_i l1, mm_r l2, mm_i l3, mm_i 2000, mm_i x1, mm_i x4]) mc187_17 (Nat.le_of_ble_eq_true rfl) rfl ?_
  exact h
theorem vc187_19 {sc : Nat × (Int → Int)} {Q : mm_R → mm_M → Prop} {M : mm_M} {l0 : Nat} {l1 : Int} {l2 : Nat} {l3 : Int} {l4 : Int} {l5 : Int} {l6 : Int} (ho : mr_ok M) (hA_l0 : mr_A l0) (hg_l5 : mr_rg l5) (hA_l2 : mr_A l2) (hg_l6 : mr_rg l6) (hg_l4 : mr_rg l4)
    (h : en_CI sc 51 [mm_r l0, mm_i l1] M (fun x1 M2 => mr_ok M2 → mr_rg x1 ∧ ((x1 ≤ l5 → Q (.inl (some (mm_i l4))) M2) ∧ (¬ x1 ≤ l5 → en_CI sc 51 [mm_r l2, mm_i l3] M2 (fun x5 M6 => mr_ok M6 → mr_rg x5 ∧ ((x5 ≤ l6 → Q (.inl (some (mm_i l4))) M6) ∧ (¬ x5 ≤ l6 → 0 ≤ l5 ∧ (l5 < 400 ∧ (0 ≤ l5 ∧ (l5 < 400 ∧ (0 ≤ l6 ∧ (l6 < 400 ∧ (0 ≤ l6 ∧ (l6 < 400 ∧ (en_CI sc 186 [mm_i (M6.1 (l0 + 4) l5), mm_i (M6.1 (l0 + 5) l5), mm_i (M6.1 (l2 + 4) l6), mm_i (M6.1 (l2 + 5) l6)] M6 (fun x17 M18 => mr_ok M18 → mr_rg x17 ∧ (0 ≤ l5 ∧ (l5 < 400 ∧ (0 ≤ l6 ∧ (l6 < 400 ∧ (((M18.1 (l2 + 5) l6) ≤ (M18.1 (l0 + 5) l5) → en_R sc 187 19 [mm_r l0, mm_i l1, mm_r l2, mm_i l3, mm_i (min l4 x17), mm_i l5, mm_i (l6 + 1)] [] M18 Q) ∧ (¬ (M18.1 (l2 + 5) l6) ≤ (M18.1 (l0 + 5) l5) → en_R sc 187 19 [mm_r l0, mm_i l1, mm_r l2, mm_i l3, mm_i (min l4 x17), mm_i (l5 + 1), mm_i l6] [] M18 Q))))))) (fun e M9 => Q (.inr e) M9)))))))))))) (fun e M9 => Q (.inr e) M9)))) (fun e M9 => Q (.inr e) M9)) : en_R sc 187 19 [mm_r l0, mm_i l1, mm_r l2, mm_i l3, mm_i l4, mm_i l5, mm_i l6] [] M Q := by
  refine en_iload mc187_19 rfl ?_
  refine en_aload_n mc187_21 rfl ?_
  refine en_iload_n mc187_22 rfl ?_
  refine en_callI (lz := [mm_r l0, mm_i l1]) mv187 mc187_23 rfl rfl (lk_m6_153) mv51 rfl (by decide) rfl (mk_cokV rfl (mk_A0 hA_l0)) rfl (mk_nh rfl _) ho ?_
  refine en_CI_mono h (fun x1 M2 h => ?_) (fun _ _ h => h)
  intro ho3
  replace h := h ho3
  obtain ⟨g4, h⟩ := h
  refine en_icmp_ge 106 mc187_26 (by decide) hg_l5 g4 (fun q => ?_) (fun q => ?_)
  · replace h := h.1 q
    refine en_iload mc187_106 rfl ?_
    exact en_iret mv187 mc187_108 rfl h
  · replace h := h.2 q
    refine en_iload mc187_29 rfl ?_
    refine en_aload_n mc187_31 rfl ?_
    refine en_iload_n mc187_32 rfl ?_
    refine en_callI (lz := [mm_r l2, mm_i l3]) mv187 mc187_33 rfl rfl (lk_m6_153) mv51 rfl (by decide) rfl (mk_cokV rfl (mk_A0 hA_l2)) rfl (mk_nh rfl _) ho3 ?_
    refine en_CI_mono h (fun x5 M6 h => ?_) (fun _ _ h => h)
    intro ho7
    replace h := h ho7
    obtain ⟨g8, h⟩ := h
    refine en_icmp_ge 106 mc187_36 (by decide) hg_l6 g8 (fun q => ?_) (fun q => ?_)
    · replace h := h.1 q
      refine en_iload mc187_106 rfl ?_
      exact en_iret mv187 mc187_108 rfl h
    · replace h := h.2 q
      obtain ⟨g9, h⟩ := h
      obtain ⟨g10, h⟩ := h
      obtain ⟨g11, h⟩ := h
      obtain ⟨g12, h⟩ := h
      obtain ⟨g13, h⟩ := h
      obtain ⟨g14, h⟩ := h
      obtain ⟨g15, h⟩ := h
      obtain ⟨g16, h⟩ := h
      refine en_iload mc187_39 rfl ?_
      refine en_aload_n mc187_41 rfl ?_
      refine en_getR (b := (l0 + 4)) mv187 mc187_42 (lk_f6_159) (mk_A0 hA_l0) rfl (mk_fA4 hA_l0 ho7) ?_
      refine en_iload mc187_45 rfl ?_
      refine en_iald mc187_47 (mk_A4 hA_l0) g9 g10 ?_
      refine en_aload_n mc187_48 rfl ?_
      refine en_getR (b := (l0 + 5)) mv187 mc187_49 (lk_f6_162) (mk_A0 hA_l0) rfl (mk_fA5 hA_l0 ho7) ?_
      refine en_iload mc187_52 rfl ?_
      refine en_iald mc187_54 (mk_A5 hA_l0) g11 g12 ?_
      refine en_aload_n mc187_55 rfl ?_
      refine en_getR (b := (l2 + 4)) mv187 mc187_56 (lk_f6_159) (mk_A0 hA_l2) rfl (mk_fA4 hA_l2 ho7) ?_
      refine en_iload mc187_59 rfl ?_
      refine en_iald mc187_61 (mk_A4 hA_l2) g13 g14 ?_
      refine en_aload_n mc187_62 rfl ?_
      refine en_getR (b := (l2 + 5)) mv187 mc187_63 (lk_f6_162) (mk_A0 hA_l2) rfl (mk_fA5 hA_l2 ho7) ?_
      refine en_iload mc187_66 rfl ?_
      refine en_iald mc187_68 (mk_A5 hA_l2) g15 g16 ?_
      refine en_callI (lz := [mm_i (M6.1 (l0 + 4) l5), mm_i (M6.1 (l0 + 5) l5), mm_i (M6.1 (l2 + 4) l6), mm_i (M6.1 (l2 + 5) l6)]) mv187 mc187_69 rfl rfl (lk_m6_233) mv186 rfl (by decide) rfl (mk_cokS rfl) rfl (mk_nh rfl _) ho7 ?_
      refine en_CI_mono h (fun x17 M18 h => ?_) (fun _ _ h => h)
      intro ho19
      replace h := h ho19
      obtain ⟨g20, h⟩ := h
      obtain ⟨g21, h⟩ := h
      obtain ⟨g22, h⟩ := h
      obtain ⟨g23, h⟩ := h
      obtain ⟨g24, h⟩ := h
      refine en_min mv187 mc187_72 (lk_m6_132) mv14 rfl ⟨Nat.le_of_ble_eq_true rfl, Nat.le_of_ble_eq_true rfl⟩ hg_l4 g20 ?_
      refine en_istore (ls' := [mm_r l0, mm_i l1, mm_r l2, mm_i l3, mm_i (min l4 x17), mm_i l5, mm_i l6]) mc187_75 (Nat.le_of_ble_eq_true rfl) rfl ?_
      refine en_aload_n mc187_77 rfl ?_
      refine en_getR (b := (l0 + 5)) mv187 mc187_78 (lk_f6_162) (mk_A0 hA_l0) rfl (mk_fA5 hA_l0 ho19) ?_
      refine en_iload mc187_81 rfl ?_
      refine en_iald mc187_83 (mk_A5 hA_l0) g21 g22 ?_
      refine en_aload_n mc187_84 rfl ?_
      refine en_getR (b := (l2 + 5)) mv187 mc187_85 (lk_f6_162) (mk_A0 hA_l2) rfl (mk_fA5 hA_l2 ho19) ?_
      refine en_iload mc187_88 rfl ?_
      refine en_iald mc187_90 (mk_A5 hA_l2) g23 g24 ?_
      refine en_icmp_ge 100 mc187_91 (by decide) (ho19.2.1 (l0 + 5) l5 ((mk_nA5 hA_l0) _)) (ho19.2.1 (l2 + 5) l6 ((mk_nA5 hA_l2) _)) (fun q => ?_) (fun q => ?_)
      · replace h := h.1 q
        refine en_iinc (ls' := [mm_r l0, mm_i l1, mm_r l2, mm_i l3, mm_i (min l4 x17), mm_i l5, mm_i (l6 + 1)]) mc187_100 rfl rfl ?_
        refine en_goto 19 mc187_103 (by decide) ?_
        exact h
      · replace h := h.2 q
        refine en_iinc (ls' := [mm_r l0, mm_i l1, mm_r l2, mm_i l3, mm_i (min l4 x17), mm_i (l5 + 1), mm_i l6]) mc187_94 rfl rfl ?_
        refine en_goto 19 mc187_97 (by decide) ?_
        exact h
/-! 188: CellAreas.distance(II)I -/
theorem mc188_0 : mr_C 188 0 = some (.iload_n 1, 1) := by decide +kernel
theorem mc188_1 : mr_C 188 1 = some (.invokestatic 61, 3) := by decide +kernel
theorem mc188_4 : mr_C 188 4 = some (.iload_n 2, 1) := by decide +kernel
theorem mc188_5 : mr_C 188 5 = some (.invokestatic 61, 3) := by decide +kernel
theorem mc188_8 : mr_C 188 8 = some (.aload_n 0, 1) := by decide +kernel
theorem mc188_9 : mr_C 188 9 = some (.getfield 11, 3) := by decide +kernel
theorem mc188_12 : mr_C 188 12 = some (.iload_n 1, 1) := by decide +kernel
theorem mc188_13 : mr_C 188 13 = some (.aaload, 1) := by decide +kernel
theorem mc188_14 : mr_C 188 14 = some (.astore_n 3, 1) := by decide +kernel
theorem mc188_15 : mr_C 188 15 = some (.aload_n 0, 1) := by decide +kernel
theorem mc188_16 : mr_C 188 16 = some (.getfield 11, 3) := by decide +kernel
theorem mc188_19 : mr_C 188 19 = some (.iload_n 2, 1) := by decide +kernel
theorem mc188_20 : mr_C 188 20 = some (.aaload, 1) := by decide +kernel
theorem mc188_21 : mr_C 188 21 = some (.astore 4, 2) := by decide +kernel
theorem mc188_23 : mr_C 188 23 = some (.aload_n 3, 1) := by decide +kernel
theorem mc188_24 : mr_C 188 24 = some (.getfield 118, 3) := by decide +kernel
theorem mc188_27 : mr_C 188 27 = some (.ifCond .eq (11), 3) := by decide +kernel
theorem mc188_30 : mr_C 188 30 = some (.aload 4, 2) := by decide +kernel
theorem mc188_32 : mr_C 188 32 = some (.getfield 118, 3) := by decide +kernel
theorem mc188_35 : mr_C 188 35 = some (.ifCond .ne (5), 3) := by decide +kernel
theorem mc188_38 : mr_C 188 38 = some (.iconst (-1), 1) := by decide +kernel
theorem mc188_39 : mr_C 188 39 = some (.ireturn, 1) := by decide +kernel
theorem mc188_40 : mr_C 188 40 = some (.sipush 2000, 3) := by decide +kernel
theorem mc188_43 : mr_C 188 43 = some (.istore 5, 2) := by decide +kernel
theorem mc188_45 : mr_C 188 45 = some (.iconst 0, 1) := by decide +kernel
theorem mc188_46 : mr_C 188 46 = some (.istore 6, 2) := by decide +kernel
theorem mc188_48 : mr_C 188 48 = some (.iload 6, 2) := by decide +kernel
theorem mc188_50 : mr_C 188 50 = some (.aload_n 3, 1) := by decide +kernel
theorem mc188_51 : mr_C 188 51 = some (.getfield 118, 3) := by decide +kernel
theorem mc188_54 : mr_C 188 54 = some (.if_icmp .ge (92), 3) := by decide +kernel
theorem mc188_57 : mr_C 188 57 = some (.iconst 0, 1) := by decide +kernel
theorem mc188_58 : mr_C 188 58 = some (.istore 7, 2) := by decide +kernel
theorem mc188_60 : mr_C 188 60 = some (.iload 7, 2) := by decide +kernel
theorem mc188_62 : mr_C 188 62 = some (.aload 4, 2) := by decide +kernel
theorem mc188_64 : mr_C 188 64 = some (.getfield 118, 3) := by decide +kernel
theorem mc188_67 : mr_C 188 67 = some (.if_icmp .ge (73), 3) := by decide +kernel
theorem mc188_70 : mr_C 188 70 = some (.aload_n 3, 1) := by decide +kernel
theorem mc188_71 : mr_C 188 71 = some (.getfield 125, 3) := by decide +kernel
theorem mc188_74 : mr_C 188 74 = some (.iload 6, 2) := by decide +kernel
theorem mc188_76 : mr_C 188 76 = some (.iaload, 1) := by decide +kernel
theorem mc188_77 : mr_C 188 77 = some (.aload_n 3, 1) := by decide +kernel
theorem mc188_78 : mr_C 188 78 = some (.getfield 129, 3) := by decide +kernel
theorem mc188_81 : mr_C 188 81 = some (.iload 6, 2) := by decide +kernel
theorem mc188_83 : mr_C 188 83 = some (.iaload, 1) := by decide +kernel
theorem mc188_84 : mr_C 188 84 = some (.aload 4, 2) := by decide +kernel
theorem mc188_86 : mr_C 188 86 = some (.getfield 125, 3) := by decide +kernel
theorem mc188_89 : mr_C 188 89 = some (.iload 7, 2) := by decide +kernel
theorem mc188_91 : mr_C 188 91 = some (.iaload, 1) := by decide +kernel
theorem mc188_92 : mr_C 188 92 = some (.aload 4, 2) := by decide +kernel
theorem mc188_94 : mr_C 188 94 = some (.getfield 129, 3) := by decide +kernel
theorem mc188_97 : mr_C 188 97 = some (.iload 7, 2) := by decide +kernel
theorem mc188_99 : mr_C 188 99 = some (.iaload, 1) := by decide +kernel
theorem mc188_100 : mr_C 188 100 = some (.invokestatic 233, 3) := by decide +kernel
theorem mc188_103 : mr_C 188 103 = some (.istore 8, 2) := by decide +kernel
theorem mc188_105 : mr_C 188 105 = some (.iload 8, 2) := by decide +kernel
theorem mc188_107 : mr_C 188 107 = some (.iload 5, 2) := by decide +kernel
theorem mc188_109 : mr_C 188 109 = some (.if_icmp .ge (25), 3) := by decide +kernel
theorem mc188_112 : mr_C 188 112 = some (.iload 5, 2) := by decide +kernel
theorem mc188_114 : mr_C 188 114 = some (.iload 8, 2) := by decide +kernel
theorem mc188_116 : mr_C 188 116 = some (.aload_n 3, 1) := by decide +kernel
theorem mc188_117 : mr_C 188 117 = some (.iload 6, 2) := by decide +kernel
theorem mc188_119 : mr_C 188 119 = some (.aload 4, 2) := by decide +kernel
theorem mc188_121 : mr_C 188 121 = some (.iload 7, 2) := by decide +kernel
theorem mc188_123 : mr_C 188 123 = some (.invokestatic 237, 3) := by decide +kernel
theorem mc188_126 : mr_C 188 126 = some (.invokestatic 102, 3) := by decide +kernel
theorem mc188_129 : mr_C 188 129 = some (.invokestatic 132, 3) := by decide +kernel
theorem mc188_132 : mr_C 188 132 = some (.istore 5, 2) := by decide +kernel
theorem mc188_134 : mr_C 188 134 = some (.iinc 7 (1), 3) := by decide +kernel
theorem mc188_137 : mr_C 188 137 = some (.goto (-77), 3) := by decide +kernel
theorem mc188_140 : mr_C 188 140 = some (.iinc 6 (1), 3) := by decide +kernel
theorem mc188_143 : mr_C 188 143 = some (.goto (-95), 3) := by decide +kernel
theorem mc188_146 : mr_C 188 146 = some (.iload 5, 2) := by decide +kernel
theorem mc188_148 : mr_C 188 148 = some (.ireturn, 1) := by decide +kernel
theorem vc188_0 {sc : Nat × (Int → Int)} {Q : mm_R → mm_M → Prop} {M : mm_M} {l1 : Int} {l2 : Int} (ho : mr_ok M)
    (h : en_CV sc 9 [mm_i l1] M (fun M2 => mr_ok M2 → en_CV sc 9 [mm_i l2] M2 (fun M5 => mr_ok M5 → 0 ≤ l1 ∧ (l1 < 8 ∧ (∃ b9, M5.2.1 1 l1 = some b9 ∧ mr_A b9 ∧ (0 ≤ l2 ∧ (l2 < 8 ∧ (∃ b13, M5.2.1 1 l2 = some b13 ∧ mr_A b13 ∧ (((M5.1 b9 0) = 0 → Q (.inl (some (mm_i (-1)))) M5) ∧ (¬ (M5.1 b9 0) = 0 → ((M5.1 b13 0) ≠ 0 → en_R sc 188 48 [mm_r 0, mm_i l1, mm_i l2, mm_r b9, mm_r b13, mm_i 2000, mm_i 0, mm_u, mm_u] [] M5 Q) ∧ (¬ ((M5.1 b13 0) ≠ 0) → Q (.inl (some (mm_i (-1)))) M5))))))))) (fun e M9 => Q (.inr e) M9)) (fun e M9 => Q (.inr e) M9)) : en_R sc 188 0 [mm_r 0, mm_i l1, mm_i l2, mm_u, mm_u, mm_u, mm_u, mm_u, mm_u] [] M Q := by
  refine en_iload_n mc188_0 rfl ?_
  refine en_callV (lz := [mm_i l1]) mv188 mc188_1 rfl rfl (lk_m6_61) mv9 rfl (by decide) rfl (mk_cokS rfl) rfl (mk_nh rfl _) ho ?_
  refine en_CV_mono h (fun M2 h => ?_) (fun _ _ h => h)
  intro ho3
  replace h := h ho3
  refine en_iload_n mc188_4 rfl ?_
  refine en_callV (lz := [mm_i l2]) mv188 mc188_5 rfl rfl (lk_m6_61) mv9 rfl (by decide) rfl (mk_cokS rfl) rfl (mk_nh rfl _) ho3 ?_
  refine en_CV_mono h (fun M5 h => ?_) (fun _ _ h => h)
  intro ho6
  replace h := h ho6
  obtain ⟨g7, h⟩ := h
  obtain ⟨g8, h⟩ := h
  refine en_aload_n mc188_8 rfl ?_
  refine en_getR (b := 1) mv188 mc188_9 (lk_f6_11) (⟨rfl, by decide⟩ : mt_kd[0]? = some (.inl 6) ∧ 0 < 99) rfl (mk_fc ho6 (by decide +kernel)) ?_
  refine en_iload_n mc188_12 rfl ?_
  obtain ⟨b9, g10, hA_b9_, h⟩ := h
  refine en_aald mc188_13 g7 g8 g10 ?_
  obtain ⟨g11, h⟩ := h
  obtain ⟨g12, h⟩ := h
  refine en_astore_n (ls' := [mm_r 0, mm_i l1, mm_i l2, mm_r b9, mm_u, mm_u, mm_u, mm_u, mm_u]) mc188_14 (Nat.le_of_ble_eq_true rfl) rfl ?_
  refine en_aload_n mc188_15 rfl ?_
  refine en_getR (b := 1) mv188 mc188_16 (lk_f6_11) (⟨rfl, by decide⟩ : mt_kd[0]? = some (.inl 6) ∧ 0 < 99) rfl (mk_fc ho6 (by decide +kernel)) ?_
  refine en_iload_n mc188_19 rfl ?_
  obtain ⟨b13, g14, hA_b13_, h⟩ := h
  refine en_aald mc188_20 g11 g12 g14 ?_
  refine en_astore (ls' := [mm_r 0, mm_i l1, mm_i l2, mm_r b9, mm_r b13, mm_u, mm_u, mm_u, mm_u]) mc188_21 (Nat.le_of_ble_eq_true rfl) rfl ?_
  refine en_aload_n mc188_23 rfl ?_
  refine en_getI mv188 mc188_24 (lk_f6_118) (mk_A0 hA_b9_) (Or.inl rfl) ?_
  refine en_if_eq 38 mc188_27 (by decide) (ho6.2.1 b9 0 (mk_nA0 hA_b9_ _)) (fun q => ?_) (fun q => ?_)
  · replace h := h.1 q
    refine en_iconst mc188_38 ?_
    exact en_iret mv188 mc188_39 rfl h
  · replace h := h.2 q
    refine en_aload mc188_30 rfl ?_
    refine en_getI mv188 mc188_32 (lk_f6_118) (mk_A0 hA_b13_) (Or.inl rfl) ?_
    refine en_if_ne 40 mc188_35 (by decide) (ho6.2.1 b13 0 (mk_nA0 hA_b13_ _)) (fun q => ?_) (fun q => ?_)
    · replace h := h.1 q
      refine en_sipush mc188_40 (by decide) ?_
      refine en_istore (ls' := [mm_r 0, mm_i l1, mm_i l2, mm_r b9, mm_r b13, mm_i 2000, mm_u, mm_u, mm_u]) mc188_43 (Nat.le_of_ble_eq_true rfl) rfl ?_
      refine en_iconst mc188_45 ?_
      refine en_istore (ls' := [mm_r 0, mm_i l1, mm_i l2, mm_r b9, mm_r b13, mm_i 2000, mm_i 0, mm_u, mm_u]) mc188_46 (Nat.le_of_ble_eq_true rfl) rfl ?_
      exact h
    · replace h := h.2 q
      refine en_iconst mc188_38 ?_
      exact en_iret mv188 mc188_39 rfl h
theorem vc188_48 {sc : Nat × (Int → Int)} {Q : mm_R → mm_M → Prop} {M : mm_M} {l1 : Int} {l2 : Int} {l3 : Nat} {l4 : Nat} {l5 : Int} {l6 : Int} {l7 : mm_V} {l8 : mm_V} (ho : mr_ok M) (hA_l3 : mr_A l3) (hg_l6 : mr_rg l6)
    (h : ((M.1 l3 0) ≤ l6 → Q (.inl (some (mm_i l5))) M) ∧ (¬ (M.1 l3 0) ≤ l6 → en_R sc 188 60 [mm_r 0, mm_i l1, mm_i l2, mm_r l3, mm_r l4, mm_i l5, mm_i l6, mm_i 0, l8] [] M Q)) : en_R sc 188 48 [mm_r 0, mm_i l1, mm_i l2, mm_r l3, mm_r l4, mm_i l5, mm_i l6, l7, l8] [] M Q := by
  refine en_iload mc188_48 rfl ?_
  refine en_aload_n mc188_50 rfl ?_
  refine en_getI mv188 mc188_51 (lk_f6_118) (mk_A0 hA_l3) (Or.inl rfl) ?_
  refine en_icmp_ge 146 mc188_54 (by decide) hg_l6 (ho.2.1 l3 0 (mk_nA0 hA_l3 _)) (fun q => ?_) (fun q => ?_)
  · replace h := h.1 q
    refine en_iload mc188_146 rfl ?_
    exact en_iret mv188 mc188_148 rfl h
  · replace h := h.2 q
    refine en_iconst mc188_57 ?_
    refine en_istore (ls' := [mm_r 0, mm_i l1, mm_i l2, mm_r l3, mm_r l4, mm_i l5, mm_i l6, mm_i 0, l8]) mc188_58 (Nat.le_of_ble_eq_true rfl) rfl ?_
    exact h
theorem vc188_60 {sc : Nat × (Int → Int)} {Q : mm_R → mm_M → Prop} {M : mm_M} {l1 : Int} {l2 : Int} {l3 : Nat} {l4 : Nat} {l5 : Int} {l6 : Int} {l7 : Int} {l8 : mm_V} (ho : mr_ok M) (hA_l4 : mr_A l4) (hg_l7 : mr_rg l7) (hA_l3 : mr_A l3) (hg_l5 : mr_rg l5)
    (h : ((M.1 l4 0) ≤ l7 → en_R sc 188 48 [mm_r 0, mm_i l1, mm_i l2, mm_r l3, mm_r l4, mm_i l5, mm_i (l6 + 1), mm_i l7, l8] [] M Q) ∧ (¬ (M.1 l4 0) ≤ l7 → 0 ≤ l6 ∧ (l6 < 100 ∧ (0 ≤ l6 ∧ (l6 < 100 ∧ (0 ≤ l7 ∧ (l7 < 100 ∧ (0 ≤ l7 ∧ (l7 < 100 ∧ (en_CI sc 186 [mm_i (M.1 (l3 + 1) l6), mm_i (M.1 (l3 + 2) l6), mm_i (M.1 (l4 + 1) l7), mm_i (M.1 (l4 + 2) l7)] M (fun x9 M10 => mr_ok M10 → mr_rg x9 ∧ ((l5 ≤ x9 → en_R sc 188 60 [mm_r 0, mm_i l1, mm_i l2, mm_r l3, mm_r l4, mm_i l5, mm_i l6, mm_i (l7 + 1), mm_i x9] [] M10 Q) ∧ (¬ l5 ≤ x9 → en_CI sc 187 [mm_r l3, mm_i l6, mm_r l4, mm_i l7, mm_u, mm_u, mm_u] M10 (fun x13 M14 => mr_ok M14 → mr_rg x13 ∧ (mr_rg (max x9 x13) ∧ (en_R sc 188 60 [mm_r 0, mm_i l1, mm_i l2, mm_r l3, mm_r l4, mm_i (min l5 (max x9 x13)), mm_i l6, mm_i (l7 + 1), mm_i x9] [] M14 Q))) (fun e M9 => Q (.inr e) M9)))) (fun e M9 => Q (.inr e) M9))))))))))) : en_R sc 188 60 [mm_r 0, mm_i l1, mm_i l2, mm_r l3, mm_r l4, mm_i l5, mm_i l6, mm_i l7, l8] [] M Q := by
  refine en_iload mc188_60 rfl ?_
  refine en_aload mc188_62 rfl ?_
  refine en_getI mv188 mc188_64 (lk_f6_118) (mk_A0 hA_l4) (Or.inl rfl) ?_
  refine en_icmp_ge 140 mc188_67 (by decide) hg_l7 (ho.2.1 l4 0 (mk_nA0 hA_l4 _)) (fun q => ?_) (fun q => ?_)
  · replace h := h.1 q
    refine en_iinc (ls' := [mm_r 0, mm_i l1, mm_i l2, mm_r l3, mm_r l4, mm_i l5, mm_i (l6 + 1), mm_i l7, l8]) mc188_140 rfl rfl ?_
    refine en_goto 48 mc188_143 (by decide) ?_
    exact h
  · replace h := h.2 q
    obtain ⟨g1, h⟩ := h
    obtain ⟨g2, h⟩ := h
    obtain ⟨g3, h⟩ := h
    obtain ⟨g4, h⟩ := h
    obtain ⟨g5, h⟩ := h
    obtain ⟨g6, h⟩ := h
    obtain ⟨g7, h⟩ := h
    obtain ⟨g8, h⟩ := h
    refine en_aload_n mc188_70 rfl ?_
    refine en_getR (b := (l3 + 1)) mv188 mc188_71 (lk_f6_125) (mk_A0 hA_l3) rfl (mk_fA1 hA_l3 ho) ?_
    refine en_iload mc188_74 rfl ?_
    refine en_iald mc188_76 (mk_A1 hA_l3) g1 g2 ?_
    refine en_aload_n mc188_77 rfl ?_
    refine en_getR (b := (l3 + 2)) mv188 mc188_78 (lk_f6_129) (mk_A0 hA_l3) rfl (mk_fA2 hA_l3 ho) ?_
    refine en_iload mc188_81 rfl ?_
    refine en_iald mc188_83 (mk_A2 hA_l3) g3 g4 ?_
    refine en_aload mc188_84 rfl ?_
    refine en_getR (b := (l4 + 1)) mv188 mc188_86 (lk_f6_125) (mk_A0 hA_l4) rfl (mk_fA1 hA_l4 ho) ?_
    refine en_iload mc188_89 rfl ?_
    refine en_iald mc188_91 (mk_A1 hA_l4) g5 g6 ?_
    refine en_aload mc188_92 rfl ?_
    refine en_getR (b := (l4 + 2)) mv188 mc188_94 (lk_f6_129) (mk_A0 hA_l4) rfl (mk_fA2 hA_l4 ho) ?_
    refine en_iload mc188_97 rfl ?_
    refine en_iald mc188_99 (mk_A2 hA_l4) g7 g8 ?_
    refine en_callI (lz := [mm_i (M.1 (l3 + 1) l6), mm_i (M.1 (l3 + 2) l6), mm_i (M.1 (l4 + 1) l7), mm_i (M.1 (l4 + 2) l7)]) mv188 mc188_100 rfl rfl (lk_m6_233) mv186 rfl (by decide) rfl (mk_cokS rfl) rfl (mk_nh rfl _) ho ?_
    refine en_CI_mono h (fun x9 M10 h => ?_) (fun _ _ h => h)
    intro ho11
    replace h := h ho11
    obtain ⟨g12, h⟩ := h
    refine en_istore (ls' := [mm_r 0, mm_i l1, mm_i l2, mm_r l3, mm_r l4, mm_i l5, mm_i l6, mm_i l7, mm_i x9]) mc188_103 (Nat.le_of_ble_eq_true rfl) rfl ?_
    refine en_iload mc188_105 rfl ?_
    refine en_iload mc188_107 rfl ?_
    refine en_icmp_ge 134 mc188_109 (by decide) g12 hg_l5 (fun q => ?_) (fun q => ?_)
    · replace h := h.1 q
      refine en_iinc (ls' := [mm_r 0, mm_i l1, mm_i l2, mm_r l3, mm_r l4, mm_i l5, mm_i l6, mm_i (l7 + 1), mm_i x9]) mc188_134 rfl rfl ?_
      refine en_goto 60 mc188_137 (by decide) ?_
      exact h
    · replace h := h.2 q
      refine en_iload mc188_112 rfl ?_
      refine en_iload mc188_114 rfl ?_
      refine en_aload_n mc188_116 rfl ?_
      refine en_iload mc188_117 rfl ?_
      refine en_aload mc188_119 rfl ?_
      refine en_iload mc188_121 rfl ?_
      refine en_callI (lz := [mm_r l3, mm_i l6, mm_r l4, mm_i l7, mm_u, mm_u, mm_u]) mv188 mc188_123 rfl rfl (lk_m6_237) mv187 rfl (by decide) rfl (mk_cokS rfl) rfl (mk_nh rfl _) ho11 ?_
      refine en_CI_mono h (fun x13 M14 h => ?_) (fun _ _ h => h)
      intro ho15
      replace h := h ho15
      obtain ⟨g16, h⟩ := h
      obtain ⟨g17, h⟩ := h
      refine en_max mv188 mc188_126 (lk_m6_102) mv13 rfl ⟨Nat.le_of_ble_eq_true rfl, Nat.le_of_ble_eq_true rfl⟩ g12 g16 ?_
      refine en_min mv188 mc188_129 (lk_m6_132) mv14 rfl ⟨Nat.le_of_ble_eq_true rfl, Nat.le_of_ble_eq_true rfl⟩ hg_l5 g17 ?_
      refine en_istore (ls' := [mm_r 0, mm_i l1, mm_i l2, mm_r l3, mm_r l4, mm_i (min l5 (max x9 x13)), mm_i l6, mm_i l7, mm_i x9]) mc188_132 (Nat.le_of_ble_eq_true rfl) rfl ?_
      refine en_iinc (ls' := [mm_r 0, mm_i l1, mm_i l2, mm_r l3, mm_r l4, mm_i (min l5 (max x9 x13)), mm_i l6, mm_i (l7 + 1), mm_i x9]) mc188_134 rfl rfl ?_
      refine en_goto 60 mc188_137 (by decide) ?_
      exact h
