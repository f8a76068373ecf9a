/-! 153: CellAreasModel.findLoops(I)V -/
theorem mc153_0 : mr_C 153 0 = some (.aload_n 0, 1) := by decide +kernel
theorem mc153_1 : mr_C 153 1 = some (.iload_n 1, 1) := by decide +kernel
theorem mc153_2 : mr_C 153 2 = some (.invokevirtual 220, 3) := by decide +kernel
theorem mc153_5 : mr_C 153 5 = some (.aload_n 0, 1) := by decide +kernel
theorem mc153_6 : mr_C 153 6 = some (.iconst 0, 1) := by decide +kernel
theorem mc153_7 : mr_C 153 7 = some (.putfield 223, 3) := by decide +kernel
theorem mc153_10 : mr_C 153 10 = some (.iconst 0, 1) := by decide +kernel
theorem mc153_11 : mr_C 153 11 = some (.istore_n 2, 1) := by decide +kernel
theorem mc153_12 : mr_C 153 12 = some (.iload_n 2, 1) := by decide +kernel
theorem mc153_13 : mr_C 153 13 = some (.iconst 4, 1) := by decide +kernel
theorem mc153_14 : mr_C 153 14 = some (.aload_n 0, 1) := by decide +kernel
theorem mc153_15 : mr_C 153 15 = some (.getfield 199, 3) := by decide +kernel
theorem mc153_18 : mr_C 153 18 = some (.iconst 1, 1) := by decide +kernel
theorem mc153_19 : mr_C 153 19 = some (.iadd, 1) := by decide +kernel
theorem mc153_20 : mr_C 153 20 = some (.imul, 1) := by decide +kernel
theorem mc153_21 : mr_C 153 21 = some (.aload_n 0, 1) := by decide +kernel
theorem mc153_22 : mr_C 153 22 = some (.getfield 202, 3) := by decide +kernel
theorem mc153_25 : mr_C 153 25 = some (.iconst 1, 1) := by decide +kernel
theorem mc153_26 : mr_C 153 26 = some (.iadd, 1) := by decide +kernel
theorem mc153_27 : mr_C 153 27 = some (.imul, 1) := by decide +kernel
theorem mc153_28 : mr_C 153 28 = some (.if_icmp .ge (16), 3) := by decide +kernel
theorem mc153_31 : mr_C 153 31 = some (.aload_n 0, 1) := by decide +kernel
theorem mc153_32 : mr_C 153 32 = some (.getfield 76, 3) := by decide +kernel
theorem mc153_35 : mr_C 153 35 = some (.iload_n 2, 1) := by decide +kernel
theorem mc153_36 : mr_C 153 36 = some (.iconst 0, 1) := by decide +kernel
theorem mc153_37 : mr_C 153 37 = some (.bastore, 1) := by decide +kernel
theorem mc153_38 : mr_C 153 38 = some (.iinc 2 (1), 3) := by decide +kernel
theorem mc153_41 : mr_C 153 41 = some (.goto (-29), 3) := by decide +kernel
theorem mc153_44 : mr_C 153 44 = some (.iconst 0, 1) := by decide +kernel
theorem mc153_45 : mr_C 153 45 = some (.istore_n 2, 1) := by decide +kernel
theorem mc153_46 : mr_C 153 46 = some (.iload_n 2, 1) := by decide +kernel
theorem mc153_47 : mr_C 153 47 = some (.aload_n 0, 1) := by decide +kernel
theorem mc153_48 : mr_C 153 48 = some (.getfield 202, 3) := by decide +kernel
theorem mc153_51 : mr_C 153 51 = some (.if_icmp .gt (75), 3) := by decide +kernel
theorem mc153_54 : mr_C 153 54 = some (.iconst 0, 1) := by decide +kernel
theorem mc153_55 : mr_C 153 55 = some (.istore_n 3, 1) := by decide +kernel
theorem mc153_56 : mr_C 153 56 = some (.iload_n 3, 1) := by decide +kernel
theorem mc153_57 : mr_C 153 57 = some (.aload_n 0, 1) := by decide +kernel
theorem mc153_58 : mr_C 153 58 = some (.getfield 199, 3) := by decide +kernel
theorem mc153_61 : mr_C 153 61 = some (.if_icmp .gt (59), 3) := by decide +kernel
theorem mc153_64 : mr_C 153 64 = some (.iconst 0, 1) := by decide +kernel
theorem mc153_65 : mr_C 153 65 = some (.istore 4, 2) := by decide +kernel
theorem mc153_67 : mr_C 153 67 = some (.iload 4, 2) := by decide +kernel
theorem mc153_69 : mr_C 153 69 = some (.iconst 4, 1) := by decide +kernel
theorem mc153_70 : mr_C 153 70 = some (.if_icmp .ge (44), 3) := by decide +kernel
theorem mc153_73 : mr_C 153 73 = some (.aload_n 0, 1) := by decide +kernel
theorem mc153_74 : mr_C 153 74 = some (.iload_n 3, 1) := by decide +kernel
theorem mc153_75 : mr_C 153 75 = some (.iload_n 2, 1) := by decide +kernel
theorem mc153_76 : mr_C 153 76 = some (.iload 4, 2) := by decide +kernel
theorem mc153_78 : mr_C 153 78 = some (.invokevirtual 217, 3) := by decide +kernel
theorem mc153_81 : mr_C 153 81 = some (.ifCond .eq (27), 3) := by decide +kernel
theorem mc153_84 : mr_C 153 84 = some (.aload_n 0, 1) := by decide +kernel
theorem mc153_85 : mr_C 153 85 = some (.getfield 76, 3) := by decide +kernel
theorem mc153_88 : mr_C 153 88 = some (.aload_n 0, 1) := by decide +kernel
theorem mc153_89 : mr_C 153 89 = some (.iload_n 3, 1) := by decide +kernel
theorem mc153_90 : mr_C 153 90 = some (.iload_n 2, 1) := by decide +kernel
theorem mc153_91 : mr_C 153 91 = some (.iload 4, 2) := by decide +kernel
theorem mc153_93 : mr_C 153 93 = some (.invokevirtual 226, 3) := by decide +kernel
theorem mc153_96 : mr_C 153 96 = some (.baload, 1) := by decide +kernel
theorem mc153_97 : mr_C 153 97 = some (.ifCond .ne (11), 3) := by decide +kernel
theorem mc153_100 : mr_C 153 100 = some (.aload_n 0, 1) := by decide +kernel
theorem mc153_101 : mr_C 153 101 = some (.iload_n 3, 1) := by decide +kernel
theorem mc153_102 : mr_C 153 102 = some (.iload_n 2, 1) := by decide +kernel
theorem mc153_103 : mr_C 153 103 = some (.iload 4, 2) := by decide +kernel
theorem mc153_105 : mr_C 153 105 = some (.invokevirtual 229, 3) := by decide +kernel
theorem mc153_108 : mr_C 153 108 = some (.iinc 4 (1), 3) := by decide +kernel
theorem mc153_111 : mr_C 153 111 = some (.goto (-44), 3) := by decide +kernel
theorem mc153_114 : mr_C 153 114 = some (.iinc 3 (1), 3) := by decide +kernel
theorem mc153_117 : mr_C 153 117 = some (.goto (-61), 3) := by decide +kernel
theorem mc153_120 : mr_C 153 120 = some (.iinc 2 (1), 3) := by decide +kernel
theorem mc153_123 : mr_C 153 123 = some (.goto (-77), 3) := by decide +kernel
theorem mc153_126 : mr_C 153 126 = some (.return_, 1) := by decide +kernel
theorem vc153_0 {sc : Nat × (Int → Int)} {Q : mm_R → mm_M → Prop} {M : mm_M} {l1 : Int} (ho : mr_ok M)
    (h : en_CV sc 145 [mm_r 72, mm_i l1, mm_u, mm_u, mm_u] M (fun M2 => mr_ok M2 → en_R sc 153 12 [mm_r 72, mm_i l1, mm_i 0, mm_u, mm_u] [] (mm_putN M2 72 29 0) Q) (fun e M9 => Q (.inr e) M9)) : en_R sc 153 0 [mm_r 72, mm_i l1, mm_u, mm_u, mm_u] [] M Q := by
  refine en_aload_n mc153_0 rfl ?_
  refine en_iload_n mc153_1 rfl ?_
  refine en_callV (lz := [mm_r 72, mm_i l1, mm_u, mm_u, mm_u]) mv153 mc153_2 rfl rfl (lk_m7_220) mv145 rfl (by decide) rfl (mk_cokV rfl (⟨rfl, by decide⟩ : mt_kd[72]? = some (.inl 7) ∧ 72 < 99)) rfl (mk_nh rfl _) ho ?_
  refine en_CV_mono h (fun M2 h => ?_) (fun _ _ h => h)
  intro ho3
  replace h := h ho3
  refine en_aload_n mc153_5 rfl ?_
  refine en_iconst mc153_6 ?_
  refine en_putI mv153 mc153_7 (lk_f7_223) (⟨rfl, by decide⟩ : mt_kd[72]? = some (.inl 7) ∧ 72 < 99) rfl rfl (⟨by decide, by decide⟩ : mr_rg 0) ?_
  refine en_iconst mc153_10 ?_
  refine en_istore_n (ls' := [mm_r 72, mm_i l1, mm_i 0, mm_u, mm_u]) mc153_11 (Nat.le_of_ble_eq_true rfl) rfl ?_
  exact h
theorem vc153_12 {sc : Nat × (Int → Int)} {Q : mm_R → mm_M → Prop} {M : mm_M} {l1 : Int} {l2 : Int} (ho : mr_ok M) (hg_l2 : mr_rg l2)
    (h : mr_rg ((4 * ((M.1 72 23) + 1)) * ((M.1 72 24) + 1)) ∧ ((((4 * ((M.1 72 23) + 1)) * ((M.1 72 24) + 1)) ≤ l2 → en_R sc 153 46 [mm_r 72, mm_i l1, mm_i 0, mm_u, mm_u] [] M Q) ∧ (¬ ((4 * ((M.1 72 23) + 1)) * ((M.1 72 24) + 1)) ≤ l2 → 0 ≤ l2 ∧ (l2 < 648000 ∧ (en_R sc 153 12 [mm_r 72, mm_i l1, mm_i (l2 + 1), mm_u, mm_u] [] (mm_putN M 94 l2 0) Q))))) : en_R sc 153 12 [mm_r 72, mm_i l1, mm_i l2, mm_u, mm_u] [] M Q := by
  obtain ⟨g1, h⟩ := h
  refine en_iload_n mc153_12 rfl ?_
  refine en_iconst mc153_13 ?_
  refine en_aload_n mc153_14 rfl ?_
  refine en_getI mv153 mc153_15 (lk_f7_199) (⟨rfl, by decide⟩ : mt_kd[72]? = some (.inl 7) ∧ 72 < 99) (Or.inl rfl) ?_
  refine en_iconst mc153_18 ?_
  refine en_iadd mc153_19 ?_
  refine en_imul mc153_20 ?_
  refine en_aload_n mc153_21 rfl ?_
  refine en_getI mv153 mc153_22 (lk_f7_202) (⟨rfl, by decide⟩ : mt_kd[72]? = some (.inl 7) ∧ 72 < 99) (Or.inl rfl) ?_
  refine en_iconst mc153_25 ?_
  refine en_iadd mc153_26 ?_
  refine en_imul mc153_27 ?_
  refine en_icmp_ge 44 mc153_28 (by decide) hg_l2 g1 (fun q => ?_) (fun q => ?_)
  · replace h := h.1 q
    refine en_iconst mc153_44 ?_
    refine en_istore_n (ls' := [mm_r 72, mm_i l1, mm_i 0, mm_u, mm_u]) mc153_45 (Nat.le_of_ble_eq_true rfl) rfl ?_
    exact h
  · replace h := h.2 q
    obtain ⟨g2, h⟩ := h
    obtain ⟨g3, h⟩ := h
    refine en_aload_n mc153_31 rfl ?_
    refine en_getR (b := 94) mv153 mc153_32 (lk_f7_76) (⟨rfl, by decide⟩ : mt_kd[72]? = some (.inl 7) ∧ 72 < 99) rfl (mk_fc ho (by decide +kernel)) ?_
    refine en_iload_n mc153_35 rfl ?_
    refine en_iconst mc153_36 ?_
    refine en_bast mc153_37 (⟨rfl, by decide, by decide⟩ : mt_kd[94]? = some (.inr (.boolean, 648000)) ∧ 94 < 99 ∧ 648000 < 2147483648) g2 g3 (by decide) ?_
    refine en_iinc (ls' := [mm_r 72, mm_i l1, mm_i (l2 + 1), mm_u, mm_u]) mc153_38 rfl rfl ?_
    refine en_goto 12 mc153_41 (by decide) ?_
    exact h
theorem vc153_46 {sc : Nat × (Int → Int)} {Q : mm_R → mm_M → Prop} {M : mm_M} {l1 : Int} {l2 : Int} {l3 : mm_V} {l4 : mm_V} (ho : mr_ok M) (hg_l2 : mr_rg l2)
    (h : ((M.1 72 24) < l2 → Q (.inl none) M) ∧ (¬ (M.1 72 24) < l2 → en_R sc 153 56 [mm_r 72, mm_i l1, mm_i l2, mm_i 0, l4] [] M Q)) : en_R sc 153 46 [mm_r 72, mm_i l1, mm_i l2, l3, l4] [] M Q := by
  refine en_iload_n mc153_46 rfl ?_
  refine en_aload_n mc153_47 rfl ?_
  refine en_getI mv153 mc153_48 (lk_f7_202) (⟨rfl, by decide⟩ : mt_kd[72]? = some (.inl 7) ∧ 72 < 99) (Or.inl rfl) ?_
  refine en_icmp_gt 126 mc153_51 (by decide) hg_l2 (ho.2.1 72 24 (by unfold mr_lg; omega)) (fun q => ?_) (fun q => ?_)
  · replace h := h.1 q
    exact en_vret mv153 mc153_126 rfl h
  · replace h := h.2 q
    refine en_iconst mc153_54 ?_
    refine en_istore_n (ls' := [mm_r 72, mm_i l1, mm_i l2, mm_i 0, l4]) mc153_55 (Nat.le_of_ble_eq_true rfl) rfl ?_
    exact h
theorem vc153_56 {sc : Nat × (Int → Int)} {Q : mm_R → mm_M → Prop} {M : mm_M} {l1 : Int} {l2 : Int} {l3 : Int} {l4 : mm_V} (ho : mr_ok M) (hg_l3 : mr_rg l3)
    (h : ((M.1 72 23) < l3 → en_R sc 153 46 [mm_r 72, mm_i l1, mm_i (l2 + 1), mm_i l3, l4] [] M Q) ∧ (¬ (M.1 72 23) < l3 → en_R sc 153 67 [mm_r 72, mm_i l1, mm_i l2, mm_i l3, mm_i 0] [] M Q)) : en_R sc 153 56 [mm_r 72, mm_i l1, mm_i l2, mm_i l3, l4] [] M Q := by
  refine en_iload_n mc153_56 rfl ?_
  refine en_aload_n mc153_57 rfl ?_
  refine en_getI mv153 mc153_58 (lk_f7_199) (⟨rfl, by decide⟩ : mt_kd[72]? = some (.inl 7) ∧ 72 < 99) (Or.inl rfl) ?_
  refine en_icmp_gt 120 mc153_61 (by decide) hg_l3 (ho.2.1 72 23 (by unfold mr_lg; omega)) (fun q => ?_) (fun q => ?_)
  · replace h := h.1 q
    refine en_iinc (ls' := [mm_r 72, mm_i l1, mm_i (l2 + 1), mm_i l3, l4]) mc153_120 rfl rfl ?_
    refine en_goto 46 mc153_123 (by decide) ?_
    exact h
  · replace h := h.2 q
    refine en_iconst mc153_64 ?_
    refine en_istore (ls' := [mm_r 72, mm_i l1, mm_i l2, mm_i l3, mm_i 0]) mc153_65 (Nat.le_of_ble_eq_true rfl) rfl ?_
    exact h
theorem vc153_67 {sc : Nat × (Int → Int)} {Q : mm_R → mm_M → Prop} {M : mm_M} {l1 : Int} {l2 : Int} {l3 : Int} {l4 : Int} (ho : mr_ok M) (hg_l4 : mr_rg l4)
    (h : (4 ≤ l4 → en_R sc 153 56 [mm_r 72, mm_i l1, mm_i l2, mm_i (l3 + 1), mm_i l4] [] M Q) ∧ (¬ 4 ≤ l4 → en_CI sc 149 [mm_r 72, mm_i l3, mm_i l2, mm_i l4, mm_u, mm_u, mm_u, mm_u] M (fun x1 M2 => mr_ok M2 → mr_rg x1 ∧ ((x1 = 0 → en_R sc 153 67 [mm_r 72, mm_i l1, mm_i l2, mm_i l3, mm_i (l4 + 1)] [] M2 Q) ∧ (¬ x1 = 0 → en_CI sc 150 [mm_r 72, mm_i l3, mm_i l2, mm_i l4] M2 (fun x5 M6 => mr_ok M6 → 0 ≤ x5 ∧ (x5 < 648000 ∧ (((M6.1 94 x5) ≠ 0 → en_R sc 153 67 [mm_r 72, mm_i l1, mm_i l2, mm_i l3, mm_i (l4 + 1)] [] M6 Q) ∧ (¬ ((M6.1 94 x5) ≠ 0) → en_CV sc 152 [mm_r 72, mm_i l3, mm_i l2, mm_i l4] M6 (fun M11 => mr_ok M11 → en_R sc 153 67 [mm_r 72, mm_i l1, mm_i l2, mm_i l3, mm_i (l4 + 1)] [] M11 Q) (fun e M9 => Q (.inr e) M9))))) (fun e M9 => Q (.inr e) M9)))) (fun e M9 => Q (.inr e) M9))) : en_R sc 153 67 [mm_r 72, mm_i l1, mm_i l2, mm_i l3, mm_i l4] [] M Q := by
  refine en_iload mc153_67 rfl ?_
  refine en_iconst mc153_69 ?_
  refine en_icmp_ge 114 mc153_70 (by decide) hg_l4 (⟨by decide, by decide⟩ : mr_rg 4) (fun q => ?_) (fun q => ?_)
  · replace h := h.1 q
    refine en_iinc (ls' := [mm_r 72, mm_i l1, mm_i l2, mm_i (l3 + 1), mm_i l4]) mc153_114 rfl rfl ?_
    refine en_goto 56 mc153_117 (by decide) ?_
    exact h
  · replace h := h.2 q
    refine en_aload_n mc153_73 rfl ?_
    refine en_iload_n mc153_74 rfl ?_
    refine en_iload_n mc153_75 rfl ?_
    refine en_iload mc153_76 rfl ?_
    refine en_callI (lz := [mm_r 72, mm_i l3, mm_i l2, mm_i l4, mm_u, mm_u, mm_u, mm_u]) mv153 mc153_78 rfl rfl (lk_m7_217) mv149 rfl (by decide) rfl (mk_cokV rfl (⟨rfl, by decide⟩ : mt_kd[72]? = some (.inl 7) ∧ 72 < 99)) rfl (mk_nh rfl _) ho ?_
    refine en_CI_mono h (fun x1 M2 h => ?_) (fun _ _ h => h)
    intro ho3
    replace h := h ho3
    obtain ⟨g4, h⟩ := h
    refine en_if_eq 108 mc153_81 (by decide) g4 (fun q => ?_) (fun q => ?_)
    · replace h := h.1 q
      refine en_iinc (ls' := [mm_r 72, mm_i l1, mm_i l2, mm_i l3, mm_i (l4 + 1)]) mc153_108 rfl rfl ?_
      refine en_goto 67 mc153_111 (by decide) ?_
      exact h
    · replace h := h.2 q
      refine en_aload_n mc153_84 rfl ?_
      refine en_getR (b := 94) mv153 mc153_85 (lk_f7_76) (⟨rfl, by decide⟩ : mt_kd[72]? = some (.inl 7) ∧ 72 < 99) rfl (mk_fc ho3 (by decide +kernel)) ?_
      refine en_aload_n mc153_88 rfl ?_
      refine en_iload_n mc153_89 rfl ?_
      refine en_iload_n mc153_90 rfl ?_
      refine en_iload mc153_91 rfl ?_
      refine en_callI (lz := [mm_r 72, mm_i l3, mm_i l2, mm_i l4]) mv153 mc153_93 rfl rfl (lk_m7_226) mv150 rfl (by decide) rfl (mk_cokV rfl (⟨rfl, by decide⟩ : mt_kd[72]? = some (.inl 7) ∧ 72 < 99)) rfl (mk_nh rfl _) ho3 ?_
      refine en_CI_mono h (fun x5 M6 h => ?_) (fun _ _ h => h)
      intro ho7
      replace h := h ho7
      obtain ⟨g8, h⟩ := h
      obtain ⟨g9, h⟩ := h
      refine en_bald mc153_96 (⟨rfl, by decide, by decide⟩ : mt_kd[94]? = some (.inr (.boolean, 648000)) ∧ 94 < 99 ∧ 648000 < 2147483648) g8 g9 ?_
      refine en_if_ne 108 mc153_97 (by decide) (ho7.2.1 94 x5 (by unfold mr_lg; omega)) (fun q => ?_) (fun q => ?_)
      · replace h := h.1 q
        refine en_iinc (ls' := [mm_r 72, mm_i l1, mm_i l2, mm_i l3, mm_i (l4 + 1)]) mc153_108 rfl rfl ?_
        refine en_goto 67 mc153_111 (by decide) ?_
        exact h
      · replace h := h.2 q
        refine en_aload_n mc153_100 rfl ?_
        refine en_iload_n mc153_101 rfl ?_
        refine en_iload_n mc153_102 rfl ?_
        refine en_iload mc153_103 rfl ?_
        refine en_callV (lz := [mm_r 72, mm_i l3, mm_i l2, mm_i l4]) mv153 mc153_105 rfl rfl (lk_m7_229) mv152 rfl (by decide) rfl (mk_cokV rfl (⟨rfl, by decide⟩ : mt_kd[72]? = some (.inl 7) ∧ 72 < 99)) rfl (mk_nh rfl _) ho7 ?_
        refine en_CV_mono h (fun M11 h => ?_) (fun _ _ h => h)
        intro ho12
        replace h := h ho12
        refine en_iinc (ls' := [mm_r 72, mm_i l1, mm_i l2, mm_i l3, mm_i (l4 + 1)]) mc153_108 rfl rfl ?_
        refine en_goto 67 mc153_111 (by decide) ?_
        exact h
/-! 154: CellAreasModel.measure(II)V -/
theorem mc154_0 : mr_C 154 0 = some (.aload_n 0, 1) := by decide +kernel
theorem mc154_1 : mr_C 154 1 = some (.aload_n 0, 1) := by decide +kernel
theorem mc154_2 : mr_C 154 2 = some (.getfield 66, 3) := by decide +kernel
theorem mc154_5 : mr_C 154 5 = some (.iload_n 1, 1) := by decide +kernel
theorem mc154_6 : mr_C 154 6 = some (.iaload, 1) := by decide +kernel
theorem mc154_7 : mr_C 154 7 = some (.putfield 211, 3) := by decide +kernel
theorem mc154_10 : mr_C 154 10 = some (.aload_n 0, 1) := by decide +kernel
theorem mc154_11 : mr_C 154 11 = some (.aload_n 0, 1) := by decide +kernel
theorem mc154_12 : mr_C 154 12 = some (.getfield 69, 3) := by decide +kernel
theorem mc154_15 : mr_C 154 15 = some (.iload_n 1, 1) := by decide +kernel
theorem mc154_16 : mr_C 154 16 = some (.iaload, 1) := by decide +kernel
theorem mc154_17 : mr_C 154 17 = some (.putfield 214, 3) := by decide +kernel
theorem mc154_20 : mr_C 154 20 = some (.aload_n 0, 1) := by decide +kernel
theorem mc154_21 : mr_C 154 21 = some (.aload_n 0, 1) := by decide +kernel
theorem mc154_22 : mr_C 154 22 = some (.getfield 72, 3) := by decide +kernel
theorem mc154_25 : mr_C 154 25 = some (.iload_n 1, 1) := by decide +kernel
theorem mc154_26 : mr_C 154 26 = some (.iaload, 1) := by decide +kernel
theorem mc154_27 : mr_C 154 27 = some (.putfield 208, 3) := by decide +kernel
theorem mc154_30 : mr_C 154 30 = some (.aload_n 0, 1) := by decide +kernel
theorem mc154_31 : mr_C 154 31 = some (.iconst 0, 1) := by decide +kernel
theorem mc154_32 : mr_C 154 32 = some (.putfield 236, 3) := by decide +kernel
theorem mc154_35 : mr_C 154 35 = some (.aload_n 0, 1) := by decide +kernel
theorem mc154_36 : mr_C 154 36 = some (.iconst 0, 1) := by decide +kernel
theorem mc154_37 : mr_C 154 37 = some (.putfield 239, 3) := by decide +kernel
theorem mc154_40 : mr_C 154 40 = some (.aload_n 0, 1) := by decide +kernel
theorem mc154_41 : mr_C 154 41 = some (.lconst 0, 1) := by decide +kernel
theorem mc154_42 : mr_C 154 42 = some (.putfield 242, 3) := by decide +kernel
theorem mc154_45 : mr_C 154 45 = some (.aload_n 0, 1) := by decide +kernel
theorem mc154_46 : mr_C 154 46 = some (.aload_n 0, 1) := by decide +kernel
theorem mc154_47 : mr_C 154 47 = some (.getfield 55, 3) := by decide +kernel
theorem mc154_50 : mr_C 154 50 = some (.aload_n 0, 1) := by decide +kernel
theorem mc154_51 : mr_C 154 51 = some (.getfield 211, 3) := by decide +kernel
theorem mc154_54 : mr_C 154 54 = some (.iaload, 1) := by decide +kernel
theorem mc154_55 : mr_C 154 55 = some (.putfield 246, 3) := by decide +kernel
theorem mc154_58 : mr_C 154 58 = some (.aload_n 0, 1) := by decide +kernel
theorem mc154_59 : mr_C 154 59 = some (.aload_n 0, 1) := by decide +kernel
theorem mc154_60 : mr_C 154 60 = some (.getfield 58, 3) := by decide +kernel
theorem mc154_63 : mr_C 154 63 = some (.aload_n 0, 1) := by decide +kernel
theorem mc154_64 : mr_C 154 64 = some (.getfield 214, 3) := by decide +kernel
theorem mc154_67 : mr_C 154 67 = some (.iaload, 1) := by decide +kernel
theorem mc154_68 : mr_C 154 68 = some (.putfield 249, 3) := by decide +kernel
theorem mc154_71 : mr_C 154 71 = some (.iconst 1, 1) := by decide +kernel
theorem mc154_72 : mr_C 154 72 = some (.istore_n 3, 1) := by decide +kernel
theorem mc154_73 : mr_C 154 73 = some (.iload_n 3, 1) := by decide +kernel
theorem mc154_74 : mr_C 154 74 = some (.ifCond .eq (264), 3) := by decide +kernel
theorem mc154_77 : mr_C 154 77 = some (.aload_n 0, 1) := by decide +kernel
theorem mc154_78 : mr_C 154 78 = some (.getfield 55, 3) := by decide +kernel
theorem mc154_81 : mr_C 154 81 = some (.aload_n 0, 1) := by decide +kernel
theorem mc154_82 : mr_C 154 82 = some (.getfield 211, 3) := by decide +kernel
theorem mc154_85 : mr_C 154 85 = some (.iaload, 1) := by decide +kernel
theorem mc154_86 : mr_C 154 86 = some (.istore 4, 2) := by decide +kernel
theorem mc154_88 : mr_C 154 88 = some (.aload_n 0, 1) := by decide +kernel
theorem mc154_89 : mr_C 154 89 = some (.getfield 58, 3) := by decide +kernel
theorem mc154_92 : mr_C 154 92 = some (.aload_n 0, 1) := by decide +kernel
theorem mc154_93 : mr_C 154 93 = some (.getfield 214, 3) := by decide +kernel
theorem mc154_96 : mr_C 154 96 = some (.iaload, 1) := by decide +kernel
theorem mc154_97 : mr_C 154 97 = some (.istore 5, 2) := by decide +kernel
theorem mc154_99 : mr_C 154 99 = some (.aload_n 0, 1) := by decide +kernel
theorem mc154_100 : mr_C 154 100 = some (.getfield 208, 3) := by decide +kernel
theorem mc154_103 : mr_C 154 103 = some (.istore 6, 2) := by decide +kernel
theorem mc154_105 : mr_C 154 105 = some (.aload_n 0, 1) := by decide +kernel
theorem mc154_106 : mr_C 154 106 = some (.invokevirtual 233, 3) := by decide +kernel
theorem mc154_109 : mr_C 154 109 = some (.aload_n 0, 1) := by decide +kernel
theorem mc154_110 : mr_C 154 110 = some (.aload_n 0, 1) := by decide +kernel
theorem mc154_111 : mr_C 154 111 = some (.getfield 239, 3) := by decide +kernel
theorem mc154_114 : mr_C 154 114 = some (.iload 6, 2) := by decide +kernel
theorem mc154_116 : mr_C 154 116 = some (.iconst 2, 1) := by decide +kernel
theorem mc154_117 : mr_C 154 117 = some (.irem, 1) := by decide +kernel
theorem mc154_118 : mr_C 154 118 = some (.ifCond .ne (18), 3) := by decide +kernel
theorem mc154_121 : mr_C 154 121 = some (.aload_n 0, 1) := by decide +kernel
theorem mc154_122 : mr_C 154 122 = some (.getfield 55, 3) := by decide +kernel
theorem mc154_125 : mr_C 154 125 = some (.aload_n 0, 1) := by decide +kernel
theorem mc154_126 : mr_C 154 126 = some (.getfield 211, 3) := by decide +kernel
theorem mc154_129 : mr_C 154 129 = some (.iaload, 1) := by decide +kernel
theorem mc154_130 : mr_C 154 130 = some (.iload 4, 2) := by decide +kernel
theorem mc154_132 : mr_C 154 132 = some (.isub, 1) := by decide +kernel
theorem mc154_133 : mr_C 154 133 = some (.goto 15, 3) := by decide +kernel
theorem mc154_136 : mr_C 154 136 = some (.aload_n 0, 1) := by decide +kernel
theorem mc154_137 : mr_C 154 137 = some (.getfield 58, 3) := by decide +kernel
theorem mc154_140 : mr_C 154 140 = some (.aload_n 0, 1) := by decide +kernel
theorem mc154_141 : mr_C 154 141 = some (.getfield 214, 3) := by decide +kernel
theorem mc154_144 : mr_C 154 144 = some (.iaload, 1) := by decide +kernel
theorem mc154_145 : mr_C 154 145 = some (.iload 5, 2) := by decide +kernel
theorem mc154_147 : mr_C 154 147 = some (.isub, 1) := by decide +kernel
theorem mc154_148 : mr_C 154 148 = some (.iload 6, 2) := by decide +kernel
theorem mc154_150 : mr_C 154 150 = some (.iconst 2, 1) := by decide +kernel
theorem mc154_151 : mr_C 154 151 = some (.if_icmp .ge (7), 3) := by decide +kernel
theorem mc154_154 : mr_C 154 154 = some (.iconst 1, 1) := by decide +kernel
theorem mc154_155 : mr_C 154 155 = some (.goto 4, 3) := by decide +kernel
theorem mc154_158 : mr_C 154 158 = some (.iconst (-1), 1) := by decide +kernel
theorem mc154_159 : mr_C 154 159 = some (.imul, 1) := by decide +kernel
theorem mc154_160 : mr_C 154 160 = some (.iadd, 1) := by decide +kernel
theorem mc154_161 : mr_C 154 161 = some (.putfield 239, 3) := by decide +kernel
theorem mc154_164 : mr_C 154 164 = some (.aload_n 0, 1) := by decide +kernel
theorem mc154_165 : mr_C 154 165 = some (.aload_n 0, 1) := by decide +kernel
theorem mc154_166 : mr_C 154 166 = some (.getfield 242, 3) := by decide +kernel
theorem mc154_169 : mr_C 154 169 = some (.iload 4, 2) := by decide +kernel
theorem mc154_171 : mr_C 154 171 = some (.i2l, 1) := by decide +kernel
theorem mc154_172 : mr_C 154 172 = some (.aload_n 0, 1) := by decide +kernel
theorem mc154_173 : mr_C 154 173 = some (.getfield 58, 3) := by decide +kernel
theorem mc154_176 : mr_C 154 176 = some (.aload_n 0, 1) := by decide +kernel
theorem mc154_177 : mr_C 154 177 = some (.getfield 214, 3) := by decide +kernel
theorem mc154_180 : mr_C 154 180 = some (.iaload, 1) := by decide +kernel
theorem mc154_181 : mr_C 154 181 = some (.i2l, 1) := by decide +kernel
theorem mc154_182 : mr_C 154 182 = some (.lmul, 1) := by decide +kernel
theorem mc154_183 : mr_C 154 183 = some (.ladd, 1) := by decide +kernel
theorem mc154_184 : mr_C 154 184 = some (.aload_n 0, 1) := by decide +kernel
theorem mc154_185 : mr_C 154 185 = some (.getfield 55, 3) := by decide +kernel
theorem mc154_188 : mr_C 154 188 = some (.aload_n 0, 1) := by decide +kernel
theorem mc154_189 : mr_C 154 189 = some (.getfield 211, 3) := by decide +kernel
theorem mc154_192 : mr_C 154 192 = some (.iaload, 1) := by decide +kernel
theorem mc154_193 : mr_C 154 193 = some (.i2l, 1) := by decide +kernel
theorem mc154_194 : mr_C 154 194 = some (.iload 5, 2) := by decide +kernel
theorem mc154_196 : mr_C 154 196 = some (.i2l, 1) := by decide +kernel
theorem mc154_197 : mr_C 154 197 = some (.lmul, 1) := by decide +kernel
theorem mc154_198 : mr_C 154 198 = some (.lsub, 1) := by decide +kernel
theorem mc154_199 : mr_C 154 199 = some (.putfield 242, 3) := by decide +kernel
theorem mc154_202 : mr_C 154 202 = some (.aload_n 0, 1) := by decide +kernel
theorem mc154_203 : mr_C 154 203 = some (.getfield 211, 3) := by decide +kernel
theorem mc154_206 : mr_C 154 206 = some (.aload_n 0, 1) := by decide +kernel
theorem mc154_207 : mr_C 154 207 = some (.getfield 66, 3) := by decide +kernel
theorem mc154_210 : mr_C 154 210 = some (.iload_n 1, 1) := by decide +kernel
theorem mc154_211 : mr_C 154 211 = some (.iaload, 1) := by decide +kernel
theorem mc154_212 : mr_C 154 212 = some (.if_icmp .ne (29), 3) := by decide +kernel
theorem mc154_215 : mr_C 154 215 = some (.aload_n 0, 1) := by decide +kernel
theorem mc154_216 : mr_C 154 216 = some (.getfield 214, 3) := by decide +kernel
theorem mc154_219 : mr_C 154 219 = some (.aload_n 0, 1) := by decide +kernel
theorem mc154_220 : mr_C 154 220 = some (.getfield 69, 3) := by decide +kernel
theorem mc154_223 : mr_C 154 223 = some (.iload_n 1, 1) := by decide +kernel
theorem mc154_224 : mr_C 154 224 = some (.iaload, 1) := by decide +kernel
theorem mc154_225 : mr_C 154 225 = some (.if_icmp .ne (16), 3) := by decide +kernel
theorem mc154_228 : mr_C 154 228 = some (.aload_n 0, 1) := by decide +kernel
theorem mc154_229 : mr_C 154 229 = some (.getfield 208, 3) := by decide +kernel
theorem mc154_232 : mr_C 154 232 = some (.aload_n 0, 1) := by decide +kernel
theorem mc154_233 : mr_C 154 233 = some (.getfield 72, 3) := by decide +kernel
theorem mc154_236 : mr_C 154 236 = some (.iload_n 1, 1) := by decide +kernel
theorem mc154_237 : mr_C 154 237 = some (.iaload, 1) := by decide +kernel
theorem mc154_238 : mr_C 154 238 = some (.if_icmp .eq (7), 3) := by decide +kernel
theorem mc154_241 : mr_C 154 241 = some (.iconst 1, 1) := by decide +kernel
theorem mc154_242 : mr_C 154 242 = some (.goto 4, 3) := by decide +kernel
theorem mc154_245 : mr_C 154 245 = some (.iconst 0, 1) := by decide +kernel
theorem mc154_246 : mr_C 154 246 = some (.istore_n 3, 1) := by decide +kernel
theorem mc154_247 : mr_C 154 247 = some (.iload 6, 2) := by decide +kernel
theorem mc154_249 : mr_C 154 249 = some (.aload_n 0, 1) := by decide +kernel
theorem mc154_250 : mr_C 154 250 = some (.getfield 208, 3) := by decide +kernel
theorem mc154_253 : mr_C 154 253 = some (.if_icmp .eq (82), 3) := by decide +kernel
theorem mc154_256 : mr_C 154 256 = some (.aload_n 0, 1) := by decide +kernel
theorem mc154_257 : mr_C 154 257 = some (.dup, 1) := by decide +kernel
theorem mc154_258 : mr_C 154 258 = some (.getfield 236, 3) := by decide +kernel
theorem mc154_261 : mr_C 154 261 = some (.iconst 1, 1) := by decide +kernel
theorem mc154_262 : mr_C 154 262 = some (.iadd, 1) := by decide +kernel
theorem mc154_263 : mr_C 154 263 = some (.putfield 236, 3) := by decide +kernel
theorem mc154_266 : mr_C 154 266 = some (.iload_n 3, 1) := by decide +kernel
theorem mc154_267 : mr_C 154 267 = some (.ifCond .eq (15), 3) := by decide +kernel
theorem mc154_270 : mr_C 154 270 = some (.aload_n 0, 1) := by decide +kernel
theorem mc154_271 : mr_C 154 271 = some (.getfield 236, 3) := by decide +kernel
theorem mc154_274 : mr_C 154 274 = some (.iload_n 2, 1) := by decide +kernel
theorem mc154_275 : mr_C 154 275 = some (.if_icmp .ne (7), 3) := by decide +kernel
theorem mc154_278 : mr_C 154 278 = some (.iconst 1, 1) := by decide +kernel
theorem mc154_279 : mr_C 154 279 = some (.goto 4, 3) := by decide +kernel
theorem mc154_282 : mr_C 154 282 = some (.iconst 0, 1) := by decide +kernel
theorem mc154_283 : mr_C 154 283 = some (.istore 7, 2) := by decide +kernel
theorem mc154_285 : mr_C 154 285 = some (.aload_n 0, 1) := by decide +kernel
theorem mc154_286 : mr_C 154 286 = some (.iload 7, 2) := by decide +kernel
theorem mc154_288 : mr_C 154 288 = some (.ifCond .eq (15), 3) := by decide +kernel
theorem mc154_291 : mr_C 154 291 = some (.aload_n 0, 1) := by decide +kernel
theorem mc154_292 : mr_C 154 292 = some (.getfield 55, 3) := by decide +kernel
theorem mc154_295 : mr_C 154 295 = some (.aload_n 0, 1) := by decide +kernel
theorem mc154_296 : mr_C 154 296 = some (.getfield 211, 3) := by decide +kernel
theorem mc154_299 : mr_C 154 299 = some (.iaload, 1) := by decide +kernel
theorem mc154_300 : mr_C 154 300 = some (.goto 7, 3) := by decide +kernel
theorem mc154_303 : mr_C 154 303 = some (.aload_n 0, 1) := by decide +kernel
theorem mc154_304 : mr_C 154 304 = some (.getfield 246, 3) := by decide +kernel
theorem mc154_307 : mr_C 154 307 = some (.putfield 246, 3) := by decide +kernel
theorem mc154_310 : mr_C 154 310 = some (.aload_n 0, 1) := by decide +kernel
theorem mc154_311 : mr_C 154 311 = some (.iload 7, 2) := by decide +kernel
theorem mc154_313 : mr_C 154 313 = some (.ifCond .eq (15), 3) := by decide +kernel
theorem mc154_316 : mr_C 154 316 = some (.aload_n 0, 1) := by decide +kernel
theorem mc154_317 : mr_C 154 317 = some (.getfield 58, 3) := by decide +kernel
theorem mc154_320 : mr_C 154 320 = some (.aload_n 0, 1) := by decide +kernel
theorem mc154_321 : mr_C 154 321 = some (.getfield 214, 3) := by decide +kernel
theorem mc154_324 : mr_C 154 324 = some (.iaload, 1) := by decide +kernel
theorem mc154_325 : mr_C 154 325 = some (.goto 7, 3) := by decide +kernel
theorem mc154_328 : mr_C 154 328 = some (.aload_n 0, 1) := by decide +kernel
theorem mc154_329 : mr_C 154 329 = some (.getfield 249, 3) := by decide +kernel
theorem mc154_332 : mr_C 154 332 = some (.putfield 249, 3) := by decide +kernel
theorem mc154_335 : mr_C 154 335 = some (.goto (-262), 3) := by decide +kernel
theorem mc154_338 : mr_C 154 338 = some (.return_, 1) := by decide +kernel
theorem vc154_0 {sc : Nat × (Int → Int)} {Q : mm_R → mm_M → Prop} {M : mm_M} {l1 : Int} {l2 : Int} (ho : mr_ok M)
    (h : 0 ≤ l1 ∧ (l1 < 900 ∧ (0 ≤ l1 ∧ (l1 < 900 ∧ (0 ≤ l1 ∧ (l1 < 900 ∧ (0 ≤ ((mm_putN (mm_putN (mm_putN (mm_putN (mm_putN (mm_putN M 72 31 (M.1 91 l1)) 72 32 ((mm_putN M 72 31 (M.1 91 l1)).1 92 l1)) 72 33 ((mm_putN (mm_putN M 72 31 (M.1 91 l1)) 72 32 ((mm_putN M 72 31 (M.1 91 l1)).1 92 l1)).1 93 l1)) 72 34 0) 72 35 0) 72 36 0).1 72 31) ∧ (((mm_putN (mm_putN (mm_putN (mm_putN (mm_putN (mm_putN M 72 31 (M.1 91 l1)) 72 32 ((mm_putN M 72 31 (M.1 91 l1)).1 92 l1)) 72 33 ((mm_putN (mm_putN M 72 31 (M.1 91 l1)) 72 32 ((mm_putN M 72 31 (M.1 91 l1)).1 92 l1)).1 93 l1)) 72 34 0) 72 35 0) 72 36 0).1 72 31) < 801 ∧ (0 ≤ ((mm_putN (mm_putN (mm_putN (mm_putN (mm_putN (mm_putN (mm_putN M 72 31 (M.1 91 l1)) 72 32 ((mm_putN M 72 31 (M.1 91 l1)).1 92 l1)) 72 33 ((mm_putN (mm_putN M 72 31 (M.1 91 l1)) 72 32 ((mm_putN M 72 31 (M.1 91 l1)).1 92 l1)).1 93 l1)) 72 34 0) 72 35 0) 72 36 0) 72 37 ((mm_putN (mm_putN (mm_putN (mm_putN (mm_putN (mm_putN M 72 31 (M.1 91 l1)) 72 32 ((mm_putN M 72 31 (M.1 91 l1)).1 92 l1)) 72 33 ((mm_putN (mm_putN M 72 31 (M.1 91 l1)) 72 32 ((mm_putN M 72 31 (M.1 91 l1)).1 92 l1)).1 93 l1)) 72 34 0) 72 35 0) 72 36 0).1 88 ((mm_putN (mm_putN (mm_putN (mm_putN (mm_putN (mm_putN M 72 31 (M.1 91 l1)) 72 32 ((mm_putN M 72 31 (M.1 91 l1)).1 92 l1)) 72 33 ((mm_putN (mm_putN M 72 31 (M.1 91 l1)) 72 32 ((mm_putN M 72 31 (M.1 91 l1)).1 92 l1)).1 93 l1)) 72 34 0) 72 35 0) 72 36 0).1 72 31))).1 72 32) ∧ (((mm_putN (mm_putN (mm_putN (mm_putN (mm_putN (mm_putN (mm_putN M 72 31 (M.1 91 l1)) 72 32 ((mm_putN M 72 31 (M.1 91 l1)).1 92 l1)) 72 33 ((mm_putN (mm_putN M 72 31 (M.1 91 l1)) 72 32 ((mm_putN M 72 31 (M.1 91 l1)).1 92 l1)).1 93 l1)) 72 34 0) 72 35 0) 72 36 0) 72 37 ((mm_putN (mm_putN (mm_putN (mm_putN (mm_putN (mm_putN M 72 31 (M.1 91 l1)) 72 32 ((mm_putN M 72 31 (M.1 91 l1)).1 92 l1)) 72 33 ((mm_putN (mm_putN M 72 31 (M.1 91 l1)) 72 32 ((mm_putN M 72 31 (M.1 91 l1)).1 92 l1)).1 93 l1)) 72 34 0) 72 35 0) 72 36 0).1 88 ((mm_putN (mm_putN (mm_putN (mm_putN (mm_putN (mm_putN M 72 31 (M.1 91 l1)) 72 32 ((mm_putN M 72 31 (M.1 91 l1)).1 92 l1)) 72 33 ((mm_putN (mm_putN M 72 31 (M.1 91 l1)) 72 32 ((mm_putN M 72 31 (M.1 91 l1)).1 92 l1)).1 93 l1)) 72 34 0) 72 35 0) 72 36 0).1 72 31))).1 72 32) < 202 ∧ (en_R sc 154 73 [mm_r 72, mm_i l1, mm_i l2, mm_i 1, mm_u, mm_u, mm_u, mm_u] [] (mm_putN (mm_putN (mm_putN (mm_putN (mm_putN (mm_putN (mm_putN (mm_putN M 72 31 (M.1 91 l1)) 72 32 ((mm_putN M 72 31 (M.1 91 l1)).1 92 l1)) 72 33 ((mm_putN (mm_putN M 72 31 (M.1 91 l1)) 72 32 ((mm_putN M 72 31 (M.1 91 l1)).1 92 l1)).1 93 l1)) 72 34 0) 72 35 0) 72 36 0) 72 37 ((mm_putN (mm_putN (mm_putN (mm_putN (mm_putN (mm_putN M 72 31 (M.1 91 l1)) 72 32 ((mm_putN M 72 31 (M.1 91 l1)).1 92 l1)) 72 33 ((mm_putN (mm_putN M 72 31 (M.1 91 l1)) 72 32 ((mm_putN M 72 31 (M.1 91 l1)).1 92 l1)).1 93 l1)) 72 34 0) 72 35 0) 72 36 0).1 88 ((mm_putN (mm_putN (mm_putN (mm_putN (mm_putN (mm_putN M 72 31 (M.1 91 l1)) 72 32 ((mm_putN M 72 31 (M.1 91 l1)).1 92 l1)) 72 33 ((mm_putN (mm_putN M 72 31 (M.1 91 l1)) 72 32 ((mm_putN M 72 31 (M.1 91 l1)).1 92 l1)).1 93 l1)) 72 34 0) 72 35 0) 72 36 0).1 72 31))) 72 38 ((mm_putN (mm_putN (mm_putN (mm_putN (mm_putN (mm_putN (mm_putN M 72 31 (M.1 91 l1)) 72 32 ((mm_putN M 72 31 (M.1 91 l1)).1 92 l1)) 72 33 ((mm_putN (mm_putN M 72 31 (M.1 91 l1)) 72 32 ((mm_putN M 72 31 (M.1 91 l1)).1 92 l1)).1 93 l1)) 72 34 0) 72 35 0) 72 36 0) 72 37 ((mm_putN (mm_putN (mm_putN (mm_putN (mm_putN (mm_putN M 72 31 (M.1 91 l1)) 72 32 ((mm_putN M 72 31 (M.1 91 l1)).1 92 l1)) 72 33 ((mm_putN (mm_putN M 72 31 (M.1 91 l1)) 72 32 ((mm_putN M 72 31 (M.1 91 l1)).1 92 l1)).1 93 l1)) 72 34 0) 72 35 0) 72 36 0).1 88 ((mm_putN (mm_putN (mm_putN (mm_putN (mm_putN (mm_putN M 72 31 (M.1 91 l1)) 72 32 ((mm_putN M 72 31 (M.1 91 l1)).1 92 l1)) 72 33 ((mm_putN (mm_putN M 72 31 (M.1 91 l1)) 72 32 ((mm_putN M 72 31 (M.1 91 l1)).1 92 l1)).1 93 l1)) 72 34 0) 72 35 0) 72 36 0).1 72 31))).1 89 ((mm_putN (mm_putN (mm_putN (mm_putN (mm_putN (mm_putN (mm_putN M 72 31 (M.1 91 l1)) 72 32 ((mm_putN M 72 31 (M.1 91 l1)).1 92 l1)) 72 33 ((mm_putN (mm_putN M 72 31 (M.1 91 l1)) 72 32 ((mm_putN M 72 31 (M.1 91 l1)).1 92 l1)).1 93 l1)) 72 34 0) 72 35 0) 72 36 0) 72 37 ((mm_putN (mm_putN (mm_putN (mm_putN (mm_putN (mm_putN M 72 31 (M.1 91 l1)) 72 32 ((mm_putN M 72 31 (M.1 91 l1)).1 92 l1)) 72 33 ((mm_putN (mm_putN M 72 31 (M.1 91 l1)) 72 32 ((mm_putN M 72 31 (M.1 91 l1)).1 92 l1)).1 93 l1)) 72 34 0) 72 35 0) 72 36 0).1 88 ((mm_putN (mm_putN (mm_putN (mm_putN (mm_putN (mm_putN M 72 31 (M.1 91 l1)) 72 32 ((mm_putN M 72 31 (M.1 91 l1)).1 92 l1)) 72 33 ((mm_putN (mm_putN M 72 31 (M.1 91 l1)) 72 32 ((mm_putN M 72 31 (M.1 91 l1)).1 92 l1)).1 93 l1)) 72 34 0) 72 35 0) 72 36 0).1 72 31))).1 72 32))) Q))))))))))) : en_R sc 154 0 [mm_r 72, mm_i l1, mm_i l2, mm_u, mm_u, mm_u, mm_u, mm_u] [] M Q := by
  obtain ⟨g1, h⟩ := h
  obtain ⟨g2, h⟩ := h
  obtain ⟨g3, h⟩ := h
  obtain ⟨g4, h⟩ := h
  obtain ⟨g5, h⟩ := h
  obtain ⟨g6, h⟩ := h
  obtain ⟨g7, h⟩ := h
  obtain ⟨g8, h⟩ := h
  obtain ⟨g9, h⟩ := h
  obtain ⟨g10, h⟩ := h
  refine en_aload_n mc154_0 rfl ?_
  refine en_aload_n mc154_1 rfl ?_
  refine en_getR (b := 91) mv154 mc154_2 (lk_f7_66) (⟨rfl, by decide⟩ : mt_kd[72]? = some (.inl 7) ∧ 72 < 99) rfl (mk_fc ho (by decide +kernel)) ?_
  refine en_iload_n mc154_5 rfl ?_
  refine en_iald mc154_6 (⟨rfl, by decide, by decide⟩ : mt_kd[91]? = some (.inr (.int, 900)) ∧ 91 < 99 ∧ 900 < 2147483648) g1 g2 ?_
  refine en_putI mv154 mc154_7 (lk_f7_211) (⟨rfl, by decide⟩ : mt_kd[72]? = some (.inl 7) ∧ 72 < 99) rfl rfl (ho.2.1 91 l1 (by unfold mr_lg; omega)) ?_
  refine en_aload_n mc154_10 rfl ?_
  refine en_aload_n mc154_11 rfl ?_
  refine en_getR (b := 92) mv154 mc154_12 (lk_f7_69) (⟨rfl, by decide⟩ : mt_kd[72]? = some (.inl 7) ∧ 72 < 99) rfl (mk_fc (mr_ok_putI (a := 72) (k := 31) ho (ho.2.1 91 l1 (by unfold mr_lg; omega))) (by decide +kernel)) ?_
  refine en_iload_n mc154_15 rfl ?_
  refine en_iald mc154_16 (⟨rfl, by decide, by decide⟩ : mt_kd[92]? = some (.inr (.int, 900)) ∧ 92 < 99 ∧ 900 < 2147483648) g3 g4 ?_
  refine en_putI mv154 mc154_17 (lk_f7_214) (⟨rfl, by decide⟩ : mt_kd[72]? = some (.inl 7) ∧ 72 < 99) rfl rfl ((mr_ok_putI (a := 72) (k := 31) ho (ho.2.1 91 l1 (by unfold mr_lg; omega))).2.1 92 l1 (by unfold mr_lg; omega)) ?_
  refine en_aload_n mc154_20 rfl ?_
  refine en_aload_n mc154_21 rfl ?_
  refine en_getR (b := 93) mv154 mc154_22 (lk_f7_72) (⟨rfl, by decide⟩ : mt_kd[72]? = some (.inl 7) ∧ 72 < 99) rfl (mk_fc (mr_ok_putI (a := 72) (k := 32) (mr_ok_putI (a := 72) (k := 31) ho (ho.2.1 91 l1 (by unfold mr_lg; omega))) ((mr_ok_putI (a := 72) (k := 31) ho (ho.2.1 91 l1 (by unfold mr_lg; omega))).2.1 92 l1 (by unfold mr_lg; omega))) (by decide +kernel)) ?_
  refine en_iload_n mc154_25 rfl ?_
  refine en_iald mc154_26 (⟨rfl, by decide, by decide⟩ : mt_kd[93]? = some (.inr (.int, 900)) ∧ 93 < 99 ∧ 900 < 2147483648) g5 g6 ?_
  refine en_putI mv154 mc154_27 (lk_f7_208) (⟨rfl, by decide⟩ : mt_kd[72]? = some (.inl 7) ∧ 72 < 99) rfl rfl ((mr_ok_putI (a := 72) (k := 32) (mr_ok_putI (a := 72) (k := 31) ho (ho.2.1 91 l1 (by unfold mr_lg; omega))) ((mr_ok_putI (a := 72) (k := 31) ho (ho.2.1 91 l1 (by unfold mr_lg; omega))).2.1 92 l1 (by unfold mr_lg; omega))).2.1 93 l1 (by unfold mr_lg; omega)) ?_
  refine en_aload_n mc154_30 rfl ?_
  refine en_iconst mc154_31 ?_
  refine en_putI mv154 mc154_32 (lk_f7_236) (⟨rfl, by decide⟩ : mt_kd[72]? = some (.inl 7) ∧ 72 < 99) rfl rfl (⟨by decide, by decide⟩ : mr_rg 0) ?_
  refine en_aload_n mc154_35 rfl ?_
  refine en_iconst mc154_36 ?_
  refine en_putI mv154 mc154_37 (lk_f7_239) (⟨rfl, by decide⟩ : mt_kd[72]? = some (.inl 7) ∧ 72 < 99) rfl rfl (⟨by decide, by decide⟩ : mr_rg 0) ?_
  refine en_aload_n mc154_40 rfl ?_
  refine en_lconst mc154_41 ?_
  refine en_putJ mv154 mc154_42 (lk_f7_242) (⟨rfl, by decide⟩ : mt_kd[72]? = some (.inl 7) ∧ 72 < 99) rfl rfl (⟨by decide, by decide⟩ : mr_rj 0) ?_
  refine en_aload_n mc154_45 rfl ?_
  refine en_aload_n mc154_46 rfl ?_
  refine en_getR (b := 88) mv154 mc154_47 (lk_f7_55) (⟨rfl, by decide⟩ : mt_kd[72]? = some (.inl 7) ∧ 72 < 99) rfl (mk_fc (mr_ok_putL (a := 72) (k := 36) (mr_ok_putI (a := 72) (k := 35) (mr_ok_putI (a := 72) (k := 34) (mr_ok_putI (a := 72) (k := 33) (mr_ok_putI (a := 72) (k := 32) (mr_ok_putI (a := 72) (k := 31) ho (ho.2.1 91 l1 (by unfold mr_lg; omega))) ((mr_ok_putI (a := 72) (k := 31) ho (ho.2.1 91 l1 (by unfold mr_lg; omega))).2.1 92 l1 (by unfold mr_lg; omega))) ((mr_ok_putI (a := 72) (k := 32) (mr_ok_putI (a := 72) (k := 31) ho (ho.2.1 91 l1 (by unfold mr_lg; omega))) ((mr_ok_putI (a := 72) (k := 31) ho (ho.2.1 91 l1 (by unfold mr_lg; omega))).2.1 92 l1 (by unfold mr_lg; omega))).2.1 93 l1 (by unfold mr_lg; omega))) (⟨by decide, by decide⟩ : mr_rg 0)) (⟨by decide, by decide⟩ : mr_rg 0)) (by unfold mr_lg; omega) (⟨by decide, by decide⟩ : mr_rj 0)) (by decide +kernel)) ?_
  refine en_aload_n mc154_50 rfl ?_
  refine en_getI mv154 mc154_51 (lk_f7_211) (⟨rfl, by decide⟩ : mt_kd[72]? = some (.inl 7) ∧ 72 < 99) (Or.inl rfl) ?_
  refine en_iald mc154_54 (⟨rfl, by decide, by decide⟩ : mt_kd[88]? = some (.inr (.int, 801)) ∧ 88 < 99 ∧ 801 < 2147483648) g7 g8 ?_
  refine en_putI mv154 mc154_55 (lk_f7_246) (⟨rfl, by decide⟩ : mt_kd[72]? = some (.inl 7) ∧ 72 < 99) rfl rfl ((mr_ok_putL (a := 72) (k := 36) (mr_ok_putI (a := 72) (k := 35) (mr_ok_putI (a := 72) (k := 34) (mr_ok_putI (a := 72) (k := 33) (mr_ok_putI (a := 72) (k := 32) (mr_ok_putI (a := 72) (k := 31) ho (ho.2.1 91 l1 (by unfold mr_lg; omega))) ((mr_ok_putI (a := 72) (k := 31) ho (ho.2.1 91 l1 (by unfold mr_lg; omega))).2.1 92 l1 (by unfold mr_lg; omega))) ((mr_ok_putI (a := 72) (k := 32) (mr_ok_putI (a := 72) (k := 31) ho (ho.2.1 91 l1 (by unfold mr_lg; omega))) ((mr_ok_putI (a := 72) (k := 31) ho (ho.2.1 91 l1 (by unfold mr_lg; omega))).2.1 92 l1 (by unfold mr_lg; omega))).2.1 93 l1 (by unfold mr_lg; omega))) (⟨by decide, by decide⟩ : mr_rg 0)) (⟨by decide, by decide⟩ : mr_rg 0)) (by unfold mr_lg; omega) (⟨by decide, by decide⟩ : mr_rj 0)).2.1 88 ((mm_putN (mm_putN (mm_putN (mm_putN (mm_putN (mm_putN M 72 31 (M.1 91 l1)) 72 32 ((mm_putN M 72 31 (M.1 91 l1)).1 92 l1)) 72 33 ((mm_putN (mm_putN M 72 31 (M.1 91 l1)) 72 32 ((mm_putN M 72 31 (M.1 91 l1)).1 92 l1)).1 93 l1)) 72 34 0) 72 35 0) 72 36 0).1 72 31) (by unfold mr_lg; omega)) ?_
  refine en_aload_n mc154_58 rfl ?_
  refine en_aload_n mc154_59 rfl ?_
  refine en_getR (b := 89) mv154 mc154_60 (lk_f7_58) (⟨rfl, by decide⟩ : mt_kd[72]? = some (.inl 7) ∧ 72 < 99) rfl (mk_fc (mr_ok_putI (a := 72) (k := 37) (mr_ok_putL (a := 72) (k := 36) (mr_ok_putI (a := 72) (k := 35) (mr_ok_putI (a := 72) (k := 34) (mr_ok_putI (a := 72) (k := 33) (mr_ok_putI (a := 72) (k := 32) (mr_ok_putI (a := 72) (k := 31) ho (ho.2.1 91 l1 (by unfold mr_lg; omega))) ((mr_ok_putI (a := 72) (k := 31) ho (ho.2.1 91 l1 (by unfold mr_lg; omega))).2.1 92 l1 (by unfold mr_lg; omega))) ((mr_ok_putI (a := 72) (k := 32) (mr_ok_putI (a := 72) (k := 31) ho (ho.2.1 91 l1 (by unfold mr_lg; omega))) ((mr_ok_putI (a := 72) (k := 31) ho (ho.2.1 91 l1 (by unfold mr_lg; omega))).2.1 92 l1 (by unfold mr_lg; omega))).2.1 93 l1 (by unfold mr_lg; omega))) (⟨by decide, by decide⟩ : mr_rg 0)) (⟨by decide, by decide⟩ : mr_rg 0)) (by unfold mr_lg; omega) (⟨by decide, by decide⟩ : mr_rj 0)) ((mr_ok_putL (a := 72) (k := 36) (mr_ok_putI (a := 72) (k := 35) (mr_ok_putI (a := 72) (k := 34) (mr_ok_putI (a := 72) (k := 33) (mr_ok_putI (a := 72) (k := 32) (mr_ok_putI (a := 72) (k := 31) ho (ho.2.1 91 l1 (by unfold mr_lg; omega))) ((mr_ok_putI (a := 72) (k := 31) ho (ho.2.1 91 l1 (by unfold mr_lg; omega))).2.1 92 l1 (by unfold mr_lg; omega))) ((mr_ok_putI (a := 72) (k := 32) (mr_ok_putI (a := 72) (k := 31) ho (ho.2.1 91 l1 (by unfold mr_lg; omega))) ((mr_ok_putI (a := 72) (k := 31) ho (ho.2.1 91 l1 (by unfold mr_lg; omega))).2.1 92 l1 (by unfold mr_lg; omega))).2.1 93 l1 (by unfold mr_lg; omega))) (⟨by decide, by decide⟩ : mr_rg 0)) (⟨by decide, by decide⟩ : mr_rg 0)) (by unfold mr_lg; omega) (⟨by decide, by decide⟩ : mr_rj 0)).2.1 88 ((mm_putN (mm_putN (mm_putN (mm_putN (mm_putN (mm_putN M 72 31 (M.1 91 l1)) 72 32 ((mm_putN M 72 31 (M.1 91 l1)).1 92 l1)) 72 33 ((mm_putN (mm_putN M 72 31 (M.1 91 l1)) 72 32 ((mm_putN M 72 31 (M.1 91 l1)).1 92 l1)).1 93 l1)) 72 34 0) 72 35 0) 72 36 0).1 72 31) (by unfold mr_lg; omega))) (by decide +kernel)) ?_
  refine en_aload_n mc154_63 rfl ?_
  refine en_getI mv154 mc154_64 (lk_f7_214) (⟨rfl, by decide⟩ : mt_kd[72]? = some (.inl 7) ∧ 72 < 99) (Or.inl rfl) ?_
  refine en_iald mc154_67 (⟨rfl, by decide, by decide⟩ : mt_kd[89]? = some (.inr (.int, 202)) ∧ 89 < 99 ∧ 202 < 2147483648) g9 g10 ?_
  refine en_putI mv154 mc154_68 (lk_f7_249) (⟨rfl, by decide⟩ : mt_kd[72]? = some (.inl 7) ∧ 72 < 99) rfl rfl ((mr_ok_putI (a := 72) (k := 37) (mr_ok_putL (a := 72) (k := 36) (mr_ok_putI (a := 72) (k := 35) (mr_ok_putI (a := 72) (k := 34) (mr_ok_putI (a := 72) (k := 33) (mr_ok_putI (a := 72) (k := 32) (mr_ok_putI (a := 72) (k := 31) ho (ho.2.1 91 l1 (by unfold mr_lg; omega))) ((mr_ok_putI (a := 72) (k := 31) ho (ho.2.1 91 l1 (by unfold mr_lg; omega))).2.1 92 l1 (by unfold mr_lg; omega))) ((mr_ok_putI (a := 72) (k := 32) (mr_ok_putI (a := 72) (k := 31) ho (ho.2.1 91 l1 (by unfold mr_lg; omega))) ((mr_ok_putI (a := 72) (k := 31) ho (ho.2.1 91 l1 (by unfold mr_lg; omega))).2.1 92 l1 (by unfold mr_lg; omega))).2.1 93 l1 (by unfold mr_lg; omega))) (⟨by decide, by decide⟩ : mr_rg 0)) (⟨by decide, by decide⟩ : mr_rg 0)) (by unfold mr_lg; omega) (⟨by decide, by decide⟩ : mr_rj 0)) ((mr_ok_putL (a := 72) (k := 36) (mr_ok_putI (a := 72) (k := 35) (mr_ok_putI (a := 72) (k := 34) (mr_ok_putI (a := 72) (k := 33) (mr_ok_putI (a := 72) (k := 32) (mr_ok_putI (a := 72) (k := 31) ho (ho.2.1 91 l1 (by unfold mr_lg; omega))) ((mr_ok_putI (a := 72) (k := 31) ho (ho.2.1 91 l1 (by unfold mr_lg; omega))).2.1 92 l1 (by unfold mr_lg; omega))) ((mr_ok_putI (a := 72) (k := 32) (mr_ok_putI (a := 72) (k := 31) ho (ho.2.1 91 l1 (by unfold mr_lg; omega))) ((mr_ok_putI (a := 72) (k := 31) ho (ho.2.1 91 l1 (by unfold mr_lg; omega))).2.1 92 l1 (by unfold mr_lg; omega))).2.1 93 l1 (by unfold mr_lg; omega))) (⟨by decide, by decide⟩ : mr_rg 0)) (⟨by decide, by decide⟩ : mr_rg 0)) (by unfold mr_lg; omega) (⟨by decide, by decide⟩ : mr_rj 0)).2.1 88 ((mm_putN (mm_putN (mm_putN (mm_putN (mm_putN (mm_putN M 72 31 (M.1 91 l1)) 72 32 ((mm_putN M 72 31 (M.1 91 l1)).1 92 l1)) 72 33 ((mm_putN (mm_putN M 72 31 (M.1 91 l1)) 72 32 ((mm_putN M 72 31 (M.1 91 l1)).1 92 l1)).1 93 l1)) 72 34 0) 72 35 0) 72 36 0).1 72 31) (by unfold mr_lg; omega))).2.1 89 ((mm_putN (mm_putN (mm_putN (mm_putN (mm_putN (mm_putN (mm_putN M 72 31 (M.1 91 l1)) 72 32 ((mm_putN M 72 31 (M.1 91 l1)).1 92 l1)) 72 33 ((mm_putN (mm_putN M 72 31 (M.1 91 l1)) 72 32 ((mm_putN M 72 31 (M.1 91 l1)).1 92 l1)).1 93 l1)) 72 34 0) 72 35 0) 72 36 0) 72 37 ((mm_putN (mm_putN (mm_putN (mm_putN (mm_putN (mm_putN M 72 31 (M.1 91 l1)) 72 32 ((mm_putN M 72 31 (M.1 91 l1)).1 92 l1)) 72 33 ((mm_putN (mm_putN M 72 31 (M.1 91 l1)) 72 32 ((mm_putN M 72 31 (M.1 91 l1)).1 92 l1)).1 93 l1)) 72 34 0) 72 35 0) 72 36 0).1 88 ((mm_putN (mm_putN (mm_putN (mm_putN (mm_putN (mm_putN M 72 31 (M.1 91 l1)) 72 32 ((mm_putN M 72 31 (M.1 91 l1)).1 92 l1)) 72 33 ((mm_putN (mm_putN M 72 31 (M.1 91 l1)) 72 32 ((mm_putN M 72 31 (M.1 91 l1)).1 92 l1)).1 93 l1)) 72 34 0) 72 35 0) 72 36 0).1 72 31))).1 72 32) (by unfold mr_lg; omega)) ?_
  refine en_iconst mc154_71 ?_
  refine en_istore_n (ls' := [mm_r 72, mm_i l1, mm_i l2, mm_i 1, mm_u, mm_u, mm_u, mm_u]) mc154_72 (Nat.le_of_ble_eq_true rfl) rfl ?_
  exact h
theorem vc154_73 {sc : Nat × (Int → Int)} {Q : mm_R → mm_M → Prop} {M : mm_M} {l1 : Int} {l2 : Int} {l3 : Int} {l4 : mm_V} {l5 : mm_V} {l6 : mm_V} {l7 : mm_V} (ho : mr_ok M) (hg_l3 : mr_rg l3)
    (h : (l3 = 0 → Q (.inl none) M) ∧ (¬ l3 = 0 → 0 ≤ (M.1 72 31) ∧ ((M.1 72 31) < 801 ∧ (0 ≤ (M.1 72 32) ∧ ((M.1 72 32) < 202 ∧ (en_CV sc 151 [mm_r 72, mm_u, mm_u] M (fun M6 => mr_ok M6 → 0 ≤ (M.1 72 33) ∧ (mr_rg ((M.1 72 33) % 2) ∧ ((((M.1 72 33) % 2) ≠ 0 → 0 ≤ (M6.1 72 32) ∧ ((M6.1 72 32) < 202 ∧ (en_R sc 154 148 [mm_r 72, mm_i l1, mm_i l2, mm_i l3, mm_i (M.1 88 (M.1 72 31)), mm_i (M.1 89 (M.1 72 32)), mm_i (M.1 72 33), l7] [mm_i ((M6.1 89 (M6.1 72 32)) - (M.1 89 (M.1 72 32))), mm_i (M6.1 72 35), mm_r 72] M6 Q))) ∧ (¬ (((M.1 72 33) % 2) ≠ 0) → 0 ≤ (M6.1 72 31) ∧ ((M6.1 72 31) < 801 ∧ (en_R sc 154 148 [mm_r 72, mm_i l1, mm_i l2, mm_i l3, mm_i (M.1 88 (M.1 72 31)), mm_i (M.1 89 (M.1 72 32)), mm_i (M.1 72 33), l7] [mm_i ((M6.1 88 (M6.1 72 31)) - (M.1 88 (M.1 72 31))), mm_i (M6.1 72 35), mm_r 72] M6 Q)))))) (fun e M9 => Q (.inr e) M9))))))) : en_R sc 154 73 [mm_r 72, mm_i l1, mm_i l2, mm_i l3, l4, l5, l6, l7] [] M Q := by
  refine en_iload_n mc154_73 rfl ?_
  refine en_if_eq 338 mc154_74 (by decide) hg_l3 (fun q => ?_) (fun q => ?_)
  · replace h := h.1 q
    exact en_vret mv154 mc154_338 rfl h
  · replace h := h.2 q
    obtain ⟨g1, h⟩ := h
    obtain ⟨g2, h⟩ := h
    obtain ⟨g3, h⟩ := h
    obtain ⟨g4, h⟩ := h
    refine en_aload_n mc154_77 rfl ?_
    refine en_getR (b := 88) mv154 mc154_78 (lk_f7_55) (⟨rfl, by decide⟩ : mt_kd[72]? = some (.inl 7) ∧ 72 < 99) rfl (mk_fc ho (by decide +kernel)) ?_
    refine en_aload_n mc154_81 rfl ?_
    refine en_getI mv154 mc154_82 (lk_f7_211) (⟨rfl, by decide⟩ : mt_kd[72]? = some (.inl 7) ∧ 72 < 99) (Or.inl rfl) ?_
    refine en_iald mc154_85 (⟨rfl, by decide, by decide⟩ : mt_kd[88]? = some (.inr (.int, 801)) ∧ 88 < 99 ∧ 801 < 2147483648) g1 g2 ?_
    refine en_istore (ls' := [mm_r 72, mm_i l1, mm_i l2, mm_i l3, mm_i (M.1 88 (M.1 72 31)), l5, l6, l7]) mc154_86 (Nat.le_of_ble_eq_true rfl) rfl ?_
    refine en_aload_n mc154_88 rfl ?_
    refine en_getR (b := 89) mv154 mc154_89 (lk_f7_58) (⟨rfl, by decide⟩ : mt_kd[72]? = some (.inl 7) ∧ 72 < 99) rfl (mk_fc ho (by decide +kernel)) ?_
    refine en_aload_n mc154_92 rfl ?_
    refine en_getI mv154 mc154_93 (lk_f7_214) (⟨rfl, by decide⟩ : mt_kd[72]? = some (.inl 7) ∧ 72 < 99) (Or.inl rfl) ?_
    refine en_iald mc154_96 (⟨rfl, by decide, by decide⟩ : mt_kd[89]? = some (.inr (.int, 202)) ∧ 89 < 99 ∧ 202 < 2147483648) g3 g4 ?_
    refine en_istore (ls' := [mm_r 72, mm_i l1, mm_i l2, mm_i l3, mm_i (M.1 88 (M.1 72 31)), mm_i (M.1 89 (M.1 72 32)), l6, l7]) mc154_97 (Nat.le_of_ble_eq_true rfl) rfl ?_
    refine en_aload_n mc154_99 rfl ?_
    refine en_getI mv154 mc154_100 (lk_f7_208) (⟨rfl, by decide⟩ : mt_kd[72]? = some (.inl 7) ∧ 72 < 99) (Or.inl rfl) ?_
    refine en_istore (ls' := [mm_r 72, mm_i l1, mm_i l2, mm_i l3, mm_i (M.1 88 (M.1 72 31)), mm_i (M.1 89 (M.1 72 32)), mm_i (M.1 72 33), l7]) mc154_103 (Nat.le_of_ble_eq_true rfl) rfl ?_
    refine en_aload_n mc154_105 rfl ?_
    refine en_callV (lz := [mm_r 72, mm_u, mm_u]) mv154 mc154_106 rfl rfl (lk_m7_233) mv151 rfl (by decide) rfl (mk_cokV rfl (⟨rfl, by decide⟩ : mt_kd[72]? = some (.inl 7) ∧ 72 < 99)) rfl (mk_nh rfl _) ho ?_
    refine en_CV_mono h (fun M6 h => ?_) (fun _ _ h => h)
    intro ho7
    replace h := h ho7
    obtain ⟨g8, h⟩ := h
    obtain ⟨g9, h⟩ := h
    refine en_aload_n mc154_109 rfl ?_
    refine en_aload_n mc154_110 rfl ?_
    refine en_getI mv154 mc154_111 (lk_f7_239) (⟨rfl, by decide⟩ : mt_kd[72]? = some (.inl 7) ∧ 72 < 99) (Or.inl rfl) ?_
    refine en_iload mc154_114 rfl ?_
    refine en_iconst mc154_116 ?_
    refine en_irem mc154_117 (ho.2.1 72 33 (by unfold mr_lg; omega)) (⟨by decide, by decide⟩ : mr_rg 2) g8 (by decide) ?_
    refine en_if_ne 136 mc154_118 (by decide) g9 (fun q => ?_) (fun q => ?_)
    · replace h := h.1 q
      obtain ⟨g10, h⟩ := h
      obtain ⟨g11, h⟩ := h
      refine en_aload_n mc154_136 rfl ?_
      refine en_getR (b := 89) mv154 mc154_137 (lk_f7_58) (⟨rfl, by decide⟩ : mt_kd[72]? = some (.inl 7) ∧ 72 < 99) rfl (mk_fc ho7 (by decide +kernel)) ?_
      refine en_aload_n mc154_140 rfl ?_
      refine en_getI mv154 mc154_141 (lk_f7_214) (⟨rfl, by decide⟩ : mt_kd[72]? = some (.inl 7) ∧ 72 < 99) (Or.inl rfl) ?_
      refine en_iald mc154_144 (⟨rfl, by decide, by decide⟩ : mt_kd[89]? = some (.inr (.int, 202)) ∧ 89 < 99 ∧ 202 < 2147483648) g10 g11 ?_
      refine en_iload mc154_145 rfl ?_
      refine en_isub mc154_147 ?_
      exact h
    · replace h := h.2 q
      obtain ⟨g12, h⟩ := h
      obtain ⟨g13, h⟩ := h
      refine en_aload_n mc154_121 rfl ?_
      refine en_getR (b := 88) mv154 mc154_122 (lk_f7_55) (⟨rfl, by decide⟩ : mt_kd[72]? = some (.inl 7) ∧ 72 < 99) rfl (mk_fc ho7 (by decide +kernel)) ?_
      refine en_aload_n mc154_125 rfl ?_
      refine en_getI mv154 mc154_126 (lk_f7_211) (⟨rfl, by decide⟩ : mt_kd[72]? = some (.inl 7) ∧ 72 < 99) (Or.inl rfl) ?_
      refine en_iald mc154_129 (⟨rfl, by decide, by decide⟩ : mt_kd[88]? = some (.inr (.int, 801)) ∧ 88 < 99 ∧ 801 < 2147483648) g12 g13 ?_
      refine en_iload mc154_130 rfl ?_
      refine en_isub mc154_132 ?_
      refine en_goto 148 mc154_133 (by decide) ?_
      exact h
theorem vc154_148 {sc : Nat × (Int → Int)} {Q : mm_R → mm_M → Prop} {M : mm_M} {l1 : Int} {l2 : Int} {l3 : Int} {l4 : Int} {l5 : Int} {l6 : Int} {l7 : mm_V} {s1 : Int} {s2 : Int} (ho : mr_ok M) (hg_l6 : mr_rg l6)
    (h : (2 ≤ l6 → en_R sc 154 159 [mm_r 72, mm_i l1, mm_i l2, mm_i l3, mm_i l4, mm_i l5, mm_i l6, l7] [mm_i (-1), mm_i s2, mm_i s1, mm_r 72] M Q) ∧ (¬ 2 ≤ l6 → en_R sc 154 159 [mm_r 72, mm_i l1, mm_i l2, mm_i l3, mm_i l4, mm_i l5, mm_i l6, l7] [mm_i 1, mm_i s2, mm_i s1, mm_r 72] M Q)) : en_R sc 154 148 [mm_r 72, mm_i l1, mm_i l2, mm_i l3, mm_i l4, mm_i l5, mm_i l6, l7] [mm_i s2, mm_i s1, mm_r 72] M Q := by
  refine en_iload mc154_148 rfl ?_
  refine en_iconst mc154_150 ?_
  refine en_icmp_ge 158 mc154_151 (by decide) hg_l6 (⟨by decide, by decide⟩ : mr_rg 2) (fun q => ?_) (fun q => ?_)
  · replace h := h.1 q
    refine en_iconst mc154_158 ?_
    exact h
  · replace h := h.2 q
    refine en_iconst mc154_154 ?_
    refine en_goto 159 mc154_155 (by decide) ?_
    exact h
theorem vc154_159 {sc : Nat × (Int → Int)} {Q : mm_R → mm_M → Prop} {M : mm_M} {l1 : Int} {l2 : Int} {l3 : Int} {l4 : Int} {l5 : Int} {l6 : Int} {l7 : mm_V} {s1 : Int} {s2 : Int} {s3 : Int} (ho : mr_ok M) (hg_l4 : mr_rg l4) (hg_l5 : mr_rg l5)
    (h : mr_rg (s1 + (s2 * s3)) ∧ (0 ≤ ((mm_putN M 72 35 (s1 + (s2 * s3))).1 72 32) ∧ (((mm_putN M 72 35 (s1 + (s2 * s3))).1 72 32) < 202 ∧ (0 ≤ ((mm_putN M 72 35 (s1 + (s2 * s3))).1 72 31) ∧ (((mm_putN M 72 35 (s1 + (s2 * s3))).1 72 31) < 801 ∧ (mr_rj ((((mm_putN M 72 35 (s1 + (s2 * s3))).1 72 36) + (l4 * ((mm_putN M 72 35 (s1 + (s2 * s3))).1 89 ((mm_putN M 72 35 (s1 + (s2 * s3))).1 72 32)))) - (((mm_putN M 72 35 (s1 + (s2 * s3))).1 88 ((mm_putN M 72 35 (s1 + (s2 * s3))).1 72 31)) * l5)) ∧ (0 ≤ l1 ∧ (l1 < 900 ∧ ((((mm_putN (mm_putN M 72 35 (s1 + (s2 * s3))) 72 36 ((((mm_putN M 72 35 (s1 + (s2 * s3))).1 72 36) + (l4 * ((mm_putN M 72 35 (s1 + (s2 * s3))).1 89 ((mm_putN M 72 35 (s1 + (s2 * s3))).1 72 32)))) - (((mm_putN M 72 35 (s1 + (s2 * s3))).1 88 ((mm_putN M 72 35 (s1 + (s2 * s3))).1 72 31)) * l5))).1 72 31) ≠ ((mm_putN (mm_putN M 72 35 (s1 + (s2 * s3))) 72 36 ((((mm_putN M 72 35 (s1 + (s2 * s3))).1 72 36) + (l4 * ((mm_putN M 72 35 (s1 + (s2 * s3))).1 89 ((mm_putN M 72 35 (s1 + (s2 * s3))).1 72 32)))) - (((mm_putN M 72 35 (s1 + (s2 * s3))).1 88 ((mm_putN M 72 35 (s1 + (s2 * s3))).1 72 31)) * l5))).1 91 l1) → en_R sc 154 241 [mm_r 72, mm_i l1, mm_i l2, mm_i l3, mm_i l4, mm_i l5, mm_i l6, l7] [] (mm_putN (mm_putN M 72 35 (s1 + (s2 * s3))) 72 36 ((((mm_putN M 72 35 (s1 + (s2 * s3))).1 72 36) + (l4 * ((mm_putN M 72 35 (s1 + (s2 * s3))).1 89 ((mm_putN M 72 35 (s1 + (s2 * s3))).1 72 32)))) - (((mm_putN M 72 35 (s1 + (s2 * s3))).1 88 ((mm_putN M 72 35 (s1 + (s2 * s3))).1 72 31)) * l5))) Q) ∧ (¬ (((mm_putN (mm_putN M 72 35 (s1 + (s2 * s3))) 72 36 ((((mm_putN M 72 35 (s1 + (s2 * s3))).1 72 36) + (l4 * ((mm_putN M 72 35 (s1 + (s2 * s3))).1 89 ((mm_putN M 72 35 (s1 + (s2 * s3))).1 72 32)))) - (((mm_putN M 72 35 (s1 + (s2 * s3))).1 88 ((mm_putN M 72 35 (s1 + (s2 * s3))).1 72 31)) * l5))).1 72 31) ≠ ((mm_putN (mm_putN M 72 35 (s1 + (s2 * s3))) 72 36 ((((mm_putN M 72 35 (s1 + (s2 * s3))).1 72 36) + (l4 * ((mm_putN M 72 35 (s1 + (s2 * s3))).1 89 ((mm_putN M 72 35 (s1 + (s2 * s3))).1 72 32)))) - (((mm_putN M 72 35 (s1 + (s2 * s3))).1 88 ((mm_putN M 72 35 (s1 + (s2 * s3))).1 72 31)) * l5))).1 91 l1)) → 0 ≤ l1 ∧ (l1 < 900 ∧ ((((mm_putN (mm_putN M 72 35 (s1 + (s2 * s3))) 72 36 ((((mm_putN M 72 35 (s1 + (s2 * s3))).1 72 36) + (l4 * ((mm_putN M 72 35 (s1 + (s2 * s3))).1 89 ((mm_putN M 72 35 (s1 + (s2 * s3))).1 72 32)))) - (((mm_putN M 72 35 (s1 + (s2 * s3))).1 88 ((mm_putN M 72 35 (s1 + (s2 * s3))).1 72 31)) * l5))).1 72 32) ≠ ((mm_putN (mm_putN M 72 35 (s1 + (s2 * s3))) 72 36 ((((mm_putN M 72 35 (s1 + (s2 * s3))).1 72 36) + (l4 * ((mm_putN M 72 35 (s1 + (s2 * s3))).1 89 ((mm_putN M 72 35 (s1 + (s2 * s3))).1 72 32)))) - (((mm_putN M 72 35 (s1 + (s2 * s3))).1 88 ((mm_putN M 72 35 (s1 + (s2 * s3))).1 72 31)) * l5))).1 92 l1) → en_R sc 154 241 [mm_r 72, mm_i l1, mm_i l2, mm_i l3, mm_i l4, mm_i l5, mm_i l6, l7] [] (mm_putN (mm_putN M 72 35 (s1 + (s2 * s3))) 72 36 ((((mm_putN M 72 35 (s1 + (s2 * s3))).1 72 36) + (l4 * ((mm_putN M 72 35 (s1 + (s2 * s3))).1 89 ((mm_putN M 72 35 (s1 + (s2 * s3))).1 72 32)))) - (((mm_putN M 72 35 (s1 + (s2 * s3))).1 88 ((mm_putN M 72 35 (s1 + (s2 * s3))).1 72 31)) * l5))) Q) ∧ (¬ (((mm_putN (mm_putN M 72 35 (s1 + (s2 * s3))) 72 36 ((((mm_putN M 72 35 (s1 + (s2 * s3))).1 72 36) + (l4 * ((mm_putN M 72 35 (s1 + (s2 * s3))).1 89 ((mm_putN M 72 35 (s1 + (s2 * s3))).1 72 32)))) - (((mm_putN M 72 35 (s1 + (s2 * s3))).1 88 ((mm_putN M 72 35 (s1 + (s2 * s3))).1 72 31)) * l5))).1 72 32) ≠ ((mm_putN (mm_putN M 72 35 (s1 + (s2 * s3))) 72 36 ((((mm_putN M 72 35 (s1 + (s2 * s3))).1 72 36) + (l4 * ((mm_putN M 72 35 (s1 + (s2 * s3))).1 89 ((mm_putN M 72 35 (s1 + (s2 * s3))).1 72 32)))) - (((mm_putN M 72 35 (s1 + (s2 * s3))).1 88 ((mm_putN M 72 35 (s1 + (s2 * s3))).1 72 31)) * l5))).1 92 l1)) → 0 ≤ l1 ∧ (l1 < 900 ∧ ((((mm_putN (mm_putN M 72 35 (s1 + (s2 * s3))) 72 36 ((((mm_putN M 72 35 (s1 + (s2 * s3))).1 72 36) + (l4 * ((mm_putN M 72 35 (s1 + (s2 * s3))).1 89 ((mm_putN M 72 35 (s1 + (s2 * s3))).1 72 32)))) - (((mm_putN M 72 35 (s1 + (s2 * s3))).1 88 ((mm_putN M 72 35 (s1 + (s2 * s3))).1 72 31)) * l5))).1 72 33) = ((mm_putN (mm_putN M 72 35 (s1 + (s2 * s3))) 72 36 ((((mm_putN M 72 35 (s1 + (s2 * s3))).1 72 36) + (l4 * ((mm_putN M 72 35 (s1 + (s2 * s3))).1 89 ((mm_putN M 72 35 (s1 + (s2 * s3))).1 72 32)))) - (((mm_putN M 72 35 (s1 + (s2 * s3))).1 88 ((mm_putN M 72 35 (s1 + (s2 * s3))).1 72 31)) * l5))).1 93 l1) → en_R sc 154 246 [mm_r 72, mm_i l1, mm_i l2, mm_i l3, mm_i l4, mm_i l5, mm_i l6, l7] [mm_i 0] (mm_putN (mm_putN M 72 35 (s1 + (s2 * s3))) 72 36 ((((mm_putN M 72 35 (s1 + (s2 * s3))).1 72 36) + (l4 * ((mm_putN M 72 35 (s1 + (s2 * s3))).1 89 ((mm_putN M 72 35 (s1 + (s2 * s3))).1 72 32)))) - (((mm_putN M 72 35 (s1 + (s2 * s3))).1 88 ((mm_putN M 72 35 (s1 + (s2 * s3))).1 72 31)) * l5))) Q) ∧ (¬ ((mm_putN (mm_putN M 72 35 (s1 + (s2 * s3))) 72 36 ((((mm_putN M 72 35 (s1 + (s2 * s3))).1 72 36) + (l4 * ((mm_putN M 72 35 (s1 + (s2 * s3))).1 89 ((mm_putN M 72 35 (s1 + (s2 * s3))).1 72 32)))) - (((mm_putN M 72 35 (s1 + (s2 * s3))).1 88 ((mm_putN M 72 35 (s1 + (s2 * s3))).1 72 31)) * l5))).1 72 33) = ((mm_putN (mm_putN M 72 35 (s1 + (s2 * s3))) 72 36 ((((mm_putN M 72 35 (s1 + (s2 * s3))).1 72 36) + (l4 * ((mm_putN M 72 35 (s1 + (s2 * s3))).1 89 ((mm_putN M 72 35 (s1 + (s2 * s3))).1 72 32)))) - (((mm_putN M 72 35 (s1 + (s2 * s3))).1 88 ((mm_putN M 72 35 (s1 + (s2 * s3))).1 72 31)) * l5))).1 93 l1) → en_R sc 154 241 [mm_r 72, mm_i l1, mm_i l2, mm_i l3, mm_i l4, mm_i l5, mm_i l6, l7] [] (mm_putN (mm_putN M 72 35 (s1 + (s2 * s3))) 72 36 ((((mm_putN M 72 35 (s1 + (s2 * s3))).1 72 36) + (l4 * ((mm_putN M 72 35 (s1 + (s2 * s3))).1 89 ((mm_putN M 72 35 (s1 + (s2 * s3))).1 72 32)))) - (((mm_putN M 72 35 (s1 + (s2 * s3))).1 88 ((mm_putN M 72 35 (s1 + (s2 * s3))).1 72 31)) * l5))) Q)))))))))))))))) : en_R sc 154 159 [mm_r 72, mm_i l1, mm_i l2, mm_i l3, mm_i l4, mm_i l5, mm_i l6, l7] [mm_i s3, mm_i s2, mm_i s1, mm_r 72] M Q := by
  obtain ⟨g1, h⟩ := h
  obtain ⟨g2, h⟩ := h
  obtain ⟨g3, h⟩ := h
  obtain ⟨g4, h⟩ := h
  obtain ⟨g5, h⟩ := h
  obtain ⟨g6, h⟩ := h
  obtain ⟨g7, h⟩ := h
  obtain ⟨g8, h⟩ := h
  refine en_imul mc154_159 ?_
  refine en_iadd mc154_160 ?_
  refine en_putI mv154 mc154_161 (lk_f7_239) (⟨rfl, by decide⟩ : mt_kd[72]? = some (.inl 7) ∧ 72 < 99) rfl rfl g1 ?_
  refine en_aload_n mc154_164 rfl ?_
  refine en_aload_n mc154_165 rfl ?_
  refine en_getJ mv154 mc154_166 (lk_f7_242) (⟨rfl, by decide⟩ : mt_kd[72]? = some (.inl 7) ∧ 72 < 99) rfl ?_
  refine en_iload mc154_169 rfl ?_
  refine en_i2l mc154_171 hg_l4 ?_
  refine en_aload_n mc154_172 rfl ?_
  refine en_getR (b := 89) mv154 mc154_173 (lk_f7_58) (⟨rfl, by decide⟩ : mt_kd[72]? = some (.inl 7) ∧ 72 < 99) rfl (mk_fc (mr_ok_putI (a := 72) (k := 35) ho g1) (by decide +kernel)) ?_
  refine en_aload_n mc154_176 rfl ?_
  refine en_getI mv154 mc154_177 (lk_f7_214) (⟨rfl, by decide⟩ : mt_kd[72]? = some (.inl 7) ∧ 72 < 99) (Or.inl rfl) ?_
  refine en_iald mc154_180 (⟨rfl, by decide, by decide⟩ : mt_kd[89]? = some (.inr (.int, 202)) ∧ 89 < 99 ∧ 202 < 2147483648) g2 g3 ?_
  refine en_i2l mc154_181 ((mr_ok_putI (a := 72) (k := 35) ho g1).2.1 89 ((mm_putN M 72 35 (s1 + (s2 * s3))).1 72 32) (by unfold mr_lg; omega)) ?_
  refine en_lmul mc154_182 ?_
  refine en_ladd mc154_183 ?_
  refine en_aload_n mc154_184 rfl ?_
  refine en_getR (b := 88) mv154 mc154_185 (lk_f7_55) (⟨rfl, by decide⟩ : mt_kd[72]? = some (.inl 7) ∧ 72 < 99) rfl (mk_fc (mr_ok_putI (a := 72) (k := 35) ho g1) (by decide +kernel)) ?_
  refine en_aload_n mc154_188 rfl ?_
  refine en_getI mv154 mc154_189 (lk_f7_211) (⟨rfl, by decide⟩ : mt_kd[72]? = some (.inl 7) ∧ 72 < 99) (Or.inl rfl) ?_
  refine en_iald mc154_192 (⟨rfl, by decide, by decide⟩ : mt_kd[88]? = some (.inr (.int, 801)) ∧ 88 < 99 ∧ 801 < 2147483648) g4 g5 ?_
  refine en_i2l mc154_193 ((mr_ok_putI (a := 72) (k := 35) ho g1).2.1 88 ((mm_putN M 72 35 (s1 + (s2 * s3))).1 72 31) (by unfold mr_lg; omega)) ?_
  refine en_iload mc154_194 rfl ?_
  refine en_i2l mc154_196 hg_l5 ?_
  refine en_lmul mc154_197 ?_
  refine en_lsub mc154_198 ?_
  refine en_putJ mv154 mc154_199 (lk_f7_242) (⟨rfl, by decide⟩ : mt_kd[72]? = some (.inl 7) ∧ 72 < 99) rfl rfl g6 ?_
  refine en_aload_n mc154_202 rfl ?_
  refine en_getI mv154 mc154_203 (lk_f7_211) (⟨rfl, by decide⟩ : mt_kd[72]? = some (.inl 7) ∧ 72 < 99) (Or.inl rfl) ?_
  refine en_aload_n mc154_206 rfl ?_
  refine en_getR (b := 91) mv154 mc154_207 (lk_f7_66) (⟨rfl, by decide⟩ : mt_kd[72]? = some (.inl 7) ∧ 72 < 99) rfl (mk_fc (mr_ok_putL (a := 72) (k := 36) (mr_ok_putI (a := 72) (k := 35) ho g1) (by unfold mr_lg; omega) g6) (by decide +kernel)) ?_
  refine en_iload_n mc154_210 rfl ?_
  refine en_iald mc154_211 (⟨rfl, by decide, by decide⟩ : mt_kd[91]? = some (.inr (.int, 900)) ∧ 91 < 99 ∧ 900 < 2147483648) g7 g8 ?_
  refine en_icmp_ne 241 mc154_212 (by decide) ((mr_ok_putL (a := 72) (k := 36) (mr_ok_putI (a := 72) (k := 35) ho g1) (by unfold mr_lg; omega) g6).2.1 72 31 (by unfold mr_lg; omega)) ((mr_ok_putL (a := 72) (k := 36) (mr_ok_putI (a := 72) (k := 35) ho g1) (by unfold mr_lg; omega) g6).2.1 91 l1 (by unfold mr_lg; omega)) (fun q => ?_) (fun q => ?_)
  · replace h := h.1 q
    exact h
  · replace h := h.2 q
    obtain ⟨g9, h⟩ := h
    obtain ⟨g10, h⟩ := h
    refine en_aload_n mc154_215 rfl ?_
    refine en_getI mv154 mc154_216 (lk_f7_214) (⟨rfl, by decide⟩ : mt_kd[72]? = some (.inl 7) ∧ 72 < 99) (Or.inl rfl) ?_
    refine en_aload_n mc154_219 rfl ?_
    refine en_getR (b := 92) mv154 mc154_220 (lk_f7_69) (⟨rfl, by decide⟩ : mt_kd[72]? = some (.inl 7) ∧ 72 < 99) rfl (mk_fc (mr_ok_putL (a := 72) (k := 36) (mr_ok_putI (a := 72) (k := 35) ho g1) (by unfold mr_lg; omega) g6) (by decide +kernel)) ?_
    refine en_iload_n mc154_223 rfl ?_
    refine en_iald mc154_224 (⟨rfl, by decide, by decide⟩ : mt_kd[92]? = some (.inr (.int, 900)) ∧ 92 < 99 ∧ 900 < 2147483648) g9 g10 ?_
    refine en_icmp_ne 241 mc154_225 (by decide) ((mr_ok_putL (a := 72) (k := 36) (mr_ok_putI (a := 72) (k := 35) ho g1) (by unfold mr_lg; omega) g6).2.1 72 32 (by unfold mr_lg; omega)) ((mr_ok_putL (a := 72) (k := 36) (mr_ok_putI (a := 72) (k := 35) ho g1) (by unfold mr_lg; omega) g6).2.1 92 l1 (by unfold mr_lg; omega)) (fun q => ?_) (fun q => ?_)
    · replace h := h.1 q
      exact h
    · replace h := h.2 q
      obtain ⟨g11, h⟩ := h
      obtain ⟨g12, h⟩ := h
      refine en_aload_n mc154_228 rfl ?_
      refine en_getI mv154 mc154_229 (lk_f7_208) (⟨rfl, by decide⟩ : mt_kd[72]? = some (.inl 7) ∧ 72 < 99) (Or.inl rfl) ?_
      refine en_aload_n mc154_232 rfl ?_
      refine en_getR (b := 93) mv154 mc154_233 (lk_f7_72) (⟨rfl, by decide⟩ : mt_kd[72]? = some (.inl 7) ∧ 72 < 99) rfl (mk_fc (mr_ok_putL (a := 72) (k := 36) (mr_ok_putI (a := 72) (k := 35) ho g1) (by unfold mr_lg; omega) g6) (by decide +kernel)) ?_
      refine en_iload_n mc154_236 rfl ?_
      refine en_iald mc154_237 (⟨rfl, by decide, by decide⟩ : mt_kd[93]? = some (.inr (.int, 900)) ∧ 93 < 99 ∧ 900 < 2147483648) g11 g12 ?_
      refine en_icmp_eq 245 mc154_238 (by decide) ((mr_ok_putL (a := 72) (k := 36) (mr_ok_putI (a := 72) (k := 35) ho g1) (by unfold mr_lg; omega) g6).2.1 72 33 (by unfold mr_lg; omega)) ((mr_ok_putL (a := 72) (k := 36) (mr_ok_putI (a := 72) (k := 35) ho g1) (by unfold mr_lg; omega) g6).2.1 93 l1 (by unfold mr_lg; omega)) (fun q => ?_) (fun q => ?_)
      · replace h := h.1 q
        refine en_iconst mc154_245 ?_
        exact h
      · replace h := h.2 q
        exact h
theorem vc154_241 {sc : Nat × (Int → Int)} {Q : mm_R → mm_M → Prop} {M : mm_M} {l1 : Int} {l2 : Int} {l3 : Int} {l4 : Int} {l5 : Int} {l6 : Int} {l7 : mm_V} (ho : mr_ok M)
    (h : en_R sc 154 246 [mm_r 72, mm_i l1, mm_i l2, mm_i l3, mm_i l4, mm_i l5, mm_i l6, l7] [mm_i 1] M Q) : en_R sc 154 241 [mm_r 72, mm_i l1, mm_i l2, mm_i l3, mm_i l4, mm_i l5, mm_i l6, l7] [] M Q := by
  refine en_iconst mc154_241 ?_
  refine en_goto 246 mc154_242 (by decide) ?_
  exact h
theorem vc154_246 {sc : Nat × (Int → Int)} {Q : mm_R → mm_M → Prop} {M : mm_M} {l1 : Int} {l2 : Int} {l3 : Int} {l4 : Int} {l5 : Int} {l6 : Int} {l7 : mm_V} {s0 : Int} (ho : mr_ok M) (hg_l6 : mr_rg l6) (hg_s0 : mr_rg s0) (hg_l2 : mr_rg l2)
    (h : (l6 = (M.1 72 33) → en_R sc 154 73 [mm_r 72, mm_i l1, mm_i l2, mm_i s0, mm_i l4, mm_i l5, mm_i l6, l7] [] M Q) ∧ (¬ l6 = (M.1 72 33) → mr_rg ((M.1 72 34) + 1) ∧ ((s0 = 0 → en_R sc 154 282 [mm_r 72, mm_i l1, mm_i l2, mm_i s0, mm_i l4, mm_i l5, mm_i l6, l7] [] (mm_putN M 72 34 ((M.1 72 34) + 1)) Q) ∧ (¬ s0 = 0 → (((mm_putN M 72 34 ((M.1 72 34) + 1)).1 72 34) ≠ l2 → en_R sc 154 282 [mm_r 72, mm_i l1, mm_i l2, mm_i s0, mm_i l4, mm_i l5, mm_i l6, l7] [] (mm_putN M 72 34 ((M.1 72 34) + 1)) Q) ∧ (¬ (((mm_putN M 72 34 ((M.1 72 34) + 1)).1 72 34) ≠ l2) → en_R sc 154 283 [mm_r 72, mm_i l1, mm_i l2, mm_i s0, mm_i l4, mm_i l5, mm_i l6, l7] [mm_i 1] (mm_putN M 72 34 ((M.1 72 34) + 1)) Q))))) : en_R sc 154 246 [mm_r 72, mm_i l1, mm_i l2, mm_i l3, mm_i l4, mm_i l5, mm_i l6, l7] [mm_i s0] M Q := by
  refine en_istore_n (ls' := [mm_r 72, mm_i l1, mm_i l2, mm_i s0, mm_i l4, mm_i l5, mm_i l6, l7]) mc154_246 (Nat.le_of_ble_eq_true rfl) rfl ?_
  refine en_iload mc154_247 rfl ?_
  refine en_aload_n mc154_249 rfl ?_
  refine en_getI mv154 mc154_250 (lk_f7_208) (⟨rfl, by decide⟩ : mt_kd[72]? = some (.inl 7) ∧ 72 < 99) (Or.inl rfl) ?_
  refine en_icmp_eq 335 mc154_253 (by decide) hg_l6 (ho.2.1 72 33 (by unfold mr_lg; omega)) (fun q => ?_) (fun q => ?_)
  · replace h := h.1 q
    refine en_goto 73 mc154_335 (by decide) ?_
    exact h
  · replace h := h.2 q
    obtain ⟨g1, h⟩ := h
    refine en_aload_n mc154_256 rfl ?_
    refine en_dup mc154_257 rfl ?_
    refine en_getI mv154 mc154_258 (lk_f7_236) (⟨rfl, by decide⟩ : mt_kd[72]? = some (.inl 7) ∧ 72 < 99) (Or.inl rfl) ?_
    refine en_iconst mc154_261 ?_
    refine en_iadd mc154_262 ?_
    refine en_putI mv154 mc154_263 (lk_f7_236) (⟨rfl, by decide⟩ : mt_kd[72]? = some (.inl 7) ∧ 72 < 99) rfl rfl g1 ?_
    refine en_iload_n mc154_266 rfl ?_
    refine en_if_eq 282 mc154_267 (by decide) hg_s0 (fun q => ?_) (fun q => ?_)
    · replace h := h.1 q
      exact h
    · replace h := h.2 q
      refine en_aload_n mc154_270 rfl ?_
      refine en_getI mv154 mc154_271 (lk_f7_236) (⟨rfl, by decide⟩ : mt_kd[72]? = some (.inl 7) ∧ 72 < 99) (Or.inl rfl) ?_
      refine en_iload_n mc154_274 rfl ?_
      refine en_icmp_ne 282 mc154_275 (by decide) ((mr_ok_putI (a := 72) (k := 34) ho g1).2.1 72 34 (by unfold mr_lg; omega)) hg_l2 (fun q => ?_) (fun q => ?_)
      · replace h := h.1 q
        exact h
      · replace h := h.2 q
        refine en_iconst mc154_278 ?_
        refine en_goto 283 mc154_279 (by decide) ?_
        exact h
theorem vc154_282 {sc : Nat × (Int → Int)} {Q : mm_R → mm_M → Prop} {M : mm_M} {l1 : Int} {l2 : Int} {l3 : Int} {l4 : Int} {l5 : Int} {l6 : Int} {l7 : mm_V} (ho : mr_ok M)
    (h : en_R sc 154 283 [mm_r 72, mm_i l1, mm_i l2, mm_i l3, mm_i l4, mm_i l5, mm_i l6, l7] [mm_i 0] M Q) : en_R sc 154 282 [mm_r 72, mm_i l1, mm_i l2, mm_i l3, mm_i l4, mm_i l5, mm_i l6, l7] [] M Q := by
  refine en_iconst mc154_282 ?_
  exact h
theorem vc154_283 {sc : Nat × (Int → Int)} {Q : mm_R → mm_M → Prop} {M : mm_M} {l1 : Int} {l2 : Int} {l3 : Int} {l4 : Int} {l5 : Int} {l6 : Int} {l7 : mm_V} {s0 : Int} (ho : mr_ok M) (hg_s0 : mr_rg s0)
    (h : (s0 = 0 → en_R sc 154 307 [mm_r 72, mm_i l1, mm_i l2, mm_i l3, mm_i l4, mm_i l5, mm_i l6, mm_i s0] [mm_i (M.1 72 37), mm_r 72] M Q) ∧ (¬ s0 = 0 → 0 ≤ (M.1 72 31) ∧ ((M.1 72 31) < 801 ∧ (en_R sc 154 307 [mm_r 72, mm_i l1, mm_i l2, mm_i l3, mm_i l4, mm_i l5, mm_i l6, mm_i s0] [mm_i (M.1 88 (M.1 72 31)), mm_r 72] M Q)))) : en_R sc 154 283 [mm_r 72, mm_i l1, mm_i l2, mm_i l3, mm_i l4, mm_i l5, mm_i l6, l7] [mm_i s0] M Q := by
  refine en_istore (ls' := [mm_r 72, mm_i l1, mm_i l2, mm_i l3, mm_i l4, mm_i l5, mm_i l6, mm_i s0]) mc154_283 (Nat.le_of_ble_eq_true rfl) rfl ?_
  refine en_aload_n mc154_285 rfl ?_
  refine en_iload mc154_286 rfl ?_
  refine en_if_eq 303 mc154_288 (by decide) hg_s0 (fun q => ?_) (fun q => ?_)
  · replace h := h.1 q
    refine en_aload_n mc154_303 rfl ?_
    refine en_getI mv154 mc154_304 (lk_f7_246) (⟨rfl, by decide⟩ : mt_kd[72]? = some (.inl 7) ∧ 72 < 99) (Or.inl rfl) ?_
    exact h
  · replace h := h.2 q
    obtain ⟨g1, h⟩ := h
    obtain ⟨g2, h⟩ := h
    refine en_aload_n mc154_291 rfl ?_
    refine en_getR (b := 88) mv154 mc154_292 (lk_f7_55) (⟨rfl, by decide⟩ : mt_kd[72]? = some (.inl 7) ∧ 72 < 99) rfl (mk_fc ho (by decide +kernel)) ?_
    refine en_aload_n mc154_295 rfl ?_
    refine en_getI mv154 mc154_296 (lk_f7_211) (⟨rfl, by decide⟩ : mt_kd[72]? = some (.inl 7) ∧ 72 < 99) (Or.inl rfl) ?_
    refine en_iald mc154_299 (⟨rfl, by decide, by decide⟩ : mt_kd[88]? = some (.inr (.int, 801)) ∧ 88 < 99 ∧ 801 < 2147483648) g1 g2 ?_
    refine en_goto 307 mc154_300 (by decide) ?_
    exact h
theorem vc154_307 {sc : Nat × (Int → Int)} {Q : mm_R → mm_M → Prop} {M : mm_M} {l1 : Int} {l2 : Int} {l3 : Int} {l4 : Int} {l5 : Int} {l6 : Int} {l7 : Int} {s1 : Int} (ho : mr_ok M) (hg_s1 : mr_rg s1) (hg_l7 : mr_rg l7)
    (h : (l7 = 0 → en_R sc 154 73 [mm_r 72, mm_i l1, mm_i l2, mm_i l3, mm_i l4, mm_i l5, mm_i l6, mm_i l7] [] (mm_putN (mm_putN M 72 37 s1) 72 38 ((mm_putN M 72 37 s1).1 72 38)) Q) ∧ (¬ l7 = 0 → 0 ≤ ((mm_putN M 72 37 s1).1 72 32) ∧ (((mm_putN M 72 37 s1).1 72 32) < 202 ∧ (en_R sc 154 73 [mm_r 72, mm_i l1, mm_i l2, mm_i l3, mm_i l4, mm_i l5, mm_i l6, mm_i l7] [] (mm_putN (mm_putN M 72 37 s1) 72 38 ((mm_putN M 72 37 s1).1 89 ((mm_putN M 72 37 s1).1 72 32))) Q)))) : en_R sc 154 307 [mm_r 72, mm_i l1, mm_i l2, mm_i l3, mm_i l4, mm_i l5, mm_i l6, mm_i l7] [mm_i s1, mm_r 72] M Q := by
  refine en_putI mv154 mc154_307 (lk_f7_246) (⟨rfl, by decide⟩ : mt_kd[72]? = some (.inl 7) ∧ 72 < 99) rfl rfl hg_s1 ?_
  refine en_aload_n mc154_310 rfl ?_
  refine en_iload mc154_311 rfl ?_
  refine en_if_eq 328 mc154_313 (by decide) hg_l7 (fun q => ?_) (fun q => ?_)
  · replace h := h.1 q
    refine en_aload_n mc154_328 rfl ?_
    refine en_getI mv154 mc154_329 (lk_f7_249) (⟨rfl, by decide⟩ : mt_kd[72]? = some (.inl 7) ∧ 72 < 99) (Or.inl rfl) ?_
    refine en_putI mv154 mc154_332 (lk_f7_249) (⟨rfl, by decide⟩ : mt_kd[72]? = some (.inl 7) ∧ 72 < 99) rfl rfl ((mr_ok_putI (a := 72) (k := 37) ho hg_s1).2.1 72 38 (by unfold mr_lg; omega)) ?_
    refine en_goto 73 mc154_335 (by decide) ?_
    exact h
  · replace h := h.2 q
    obtain ⟨g1, h⟩ := h
    obtain ⟨g2, h⟩ := h
    refine en_aload_n mc154_316 rfl ?_
    refine en_getR (b := 89) mv154 mc154_317 (lk_f7_58) (⟨rfl, by decide⟩ : mt_kd[72]? = some (.inl 7) ∧ 72 < 99) rfl (mk_fc (mr_ok_putI (a := 72) (k := 37) ho hg_s1) (by decide +kernel)) ?_
    refine en_aload_n mc154_320 rfl ?_
    refine en_getI mv154 mc154_321 (lk_f7_214) (⟨rfl, by decide⟩ : mt_kd[72]? = some (.inl 7) ∧ 72 < 99) (Or.inl rfl) ?_
    refine en_iald mc154_324 (⟨rfl, by decide, by decide⟩ : mt_kd[89]? = some (.inr (.int, 202)) ∧ 89 < 99 ∧ 202 < 2147483648) g1 g2 ?_
    refine en_goto 332 mc154_325 (by decide) ?_
    refine en_putI mv154 mc154_332 (lk_f7_249) (⟨rfl, by decide⟩ : mt_kd[72]? = some (.inl 7) ∧ 72 < 99) rfl rfl ((mr_ok_putI (a := 72) (k := 37) ho hg_s1).2.1 89 ((mm_putN M 72 37 s1).1 72 32) (by unfold mr_lg; omega)) ?_
    refine en_goto 73 mc154_335 (by decide) ?_
    exact h
/-! 155: CellAreasModel.count(II)I -/
theorem mc155_0 : mr_C 155 0 = some (.aload_n 0, 1) := by decide +kernel
theorem mc155_1 : mr_C 155 1 = some (.aload_n 0, 1) := by decide +kernel
theorem mc155_2 : mr_C 155 2 = some (.iload_n 1, 1) := by decide +kernel
theorem mc155_3 : mr_C 155 3 = some (.invokevirtual 131, 3) := by decide +kernel
theorem mc155_6 : mr_C 155 6 = some (.ifCond .ne (7), 3) := by decide +kernel
theorem mc155_9 : mr_C 155 9 = some (.iconst 1, 1) := by decide +kernel
theorem mc155_10 : mr_C 155 10 = some (.goto 17, 3) := by decide +kernel
theorem mc155_13 : mr_C 155 13 = some (.iload_n 2, 1) := by decide +kernel
theorem mc155_14 : mr_C 155 14 = some (.iconst 0, 1) := by decide +kernel
theorem mc155_15 : mr_C 155 15 = some (.iconst 5, 1) := by decide +kernel
theorem mc155_16 : mr_C 155 16 = some (.invokestatic 135, 3) := by decide +kernel
theorem mc155_19 : mr_C 155 19 = some (.ifCond .ne (7), 3) := by decide +kernel
theorem mc155_22 : mr_C 155 22 = some (.iconst 2, 1) := by decide +kernel
theorem mc155_23 : mr_C 155 23 = some (.goto 4, 3) := by decide +kernel
theorem mc155_26 : mr_C 155 26 = some (.iconst 0, 1) := by decide +kernel
theorem mc155_27 : mr_C 155 27 = some (.putfield 89, 3) := by decide +kernel
theorem mc155_30 : mr_C 155 30 = some (.aload_n 0, 1) := by decide +kernel
theorem mc155_31 : mr_C 155 31 = some (.getfield 89, 3) := by decide +kernel
theorem mc155_34 : mr_C 155 34 = some (.ifCond .le (5), 3) := by decide +kernel
theorem mc155_37 : mr_C 155 37 = some (.iconst 0, 1) := by decide +kernel
theorem mc155_38 : mr_C 155 38 = some (.ireturn, 1) := by decide +kernel
theorem mc155_39 : mr_C 155 39 = some (.iload_n 2, 1) := by decide +kernel
theorem mc155_40 : mr_C 155 40 = some (.iconst 2, 1) := by decide +kernel
theorem mc155_41 : mr_C 155 41 = some (.if_icmp .ge (21), 3) := by decide +kernel
theorem mc155_44 : mr_C 155 44 = some (.iload_n 2, 1) := by decide +kernel
theorem mc155_45 : mr_C 155 45 = some (.ifCond .ne (11), 3) := by decide +kernel
theorem mc155_48 : mr_C 155 48 = some (.aload_n 0, 1) := by decide +kernel
theorem mc155_49 : mr_C 155 49 = some (.iload_n 1, 1) := by decide +kernel
theorem mc155_50 : mr_C 155 50 = some (.invokevirtual 148, 3) := by decide +kernel
theorem mc155_53 : mr_C 155 53 = some (.goto 8, 3) := by decide +kernel
theorem mc155_56 : mr_C 155 56 = some (.aload_n 0, 1) := by decide +kernel
theorem mc155_57 : mr_C 155 57 = some (.iload_n 1, 1) := by decide +kernel
theorem mc155_58 : mr_C 155 58 = some (.invokevirtual 255, 3) := by decide +kernel
theorem mc155_61 : mr_C 155 61 = some (.ireturn, 1) := by decide +kernel
theorem mc155_62 : mr_C 155 62 = some (.iload_n 2, 1) := by decide +kernel
theorem mc155_63 : mr_C 155 63 = some (.iconst 3, 1) := by decide +kernel
theorem mc155_64 : mr_C 155 64 = some (.if_icmp .le (22), 3) := by decide +kernel
theorem mc155_67 : mr_C 155 67 = some (.iload_n 2, 1) := by decide +kernel
theorem mc155_68 : mr_C 155 68 = some (.iconst 4, 1) := by decide +kernel
theorem mc155_69 : mr_C 155 69 = some (.if_icmp .ne (11), 3) := by decide +kernel
theorem mc155_72 : mr_C 155 72 = some (.aload_n 0, 1) := by decide +kernel
theorem mc155_73 : mr_C 155 73 = some (.iload_n 1, 1) := by decide +kernel
theorem mc155_74 : mr_C 155 74 = some (.invokevirtual 258, 3) := by decide +kernel
theorem mc155_77 : mr_C 155 77 = some (.goto 8, 3) := by decide +kernel
theorem mc155_80 : mr_C 155 80 = some (.aload_n 0, 1) := by decide +kernel
theorem mc155_81 : mr_C 155 81 = some (.iload_n 1, 1) := by decide +kernel
theorem mc155_82 : mr_C 155 82 = some (.invokevirtual 261, 3) := by decide +kernel
theorem mc155_85 : mr_C 155 85 = some (.ireturn, 1) := by decide +kernel
theorem mc155_86 : mr_C 155 86 = some (.aload_n 0, 1) := by decide +kernel
theorem mc155_87 : mr_C 155 87 = some (.iload_n 1, 1) := by decide +kernel
theorem mc155_88 : mr_C 155 88 = some (.invokevirtual 264, 3) := by decide +kernel
theorem mc155_91 : mr_C 155 91 = some (.iconst 0, 1) := by decide +kernel
theorem mc155_92 : mr_C 155 92 = some (.istore_n 3, 1) := by decide +kernel
theorem mc155_93 : mr_C 155 93 = some (.iconst 0, 1) := by decide +kernel
theorem mc155_94 : mr_C 155 94 = some (.istore 4, 2) := by decide +kernel
theorem mc155_96 : mr_C 155 96 = some (.iload 4, 2) := by decide +kernel
theorem mc155_98 : mr_C 155 98 = some (.aload_n 0, 1) := by decide +kernel
theorem mc155_99 : mr_C 155 99 = some (.getfield 223, 3) := by decide +kernel
theorem mc155_102 : mr_C 155 102 = some (.if_icmp .ge (23), 3) := by decide +kernel
theorem mc155_105 : mr_C 155 105 = some (.aload_n 0, 1) := by decide +kernel
theorem mc155_106 : mr_C 155 106 = some (.iload 4, 2) := by decide +kernel
theorem mc155_108 : mr_C 155 108 = some (.iconst 0, 1) := by decide +kernel
theorem mc155_109 : mr_C 155 109 = some (.invokevirtual 267, 3) := by decide +kernel
theorem mc155_112 : mr_C 155 112 = some (.iload_n 3, 1) := by decide +kernel
theorem mc155_113 : mr_C 155 113 = some (.aload_n 0, 1) := by decide +kernel
theorem mc155_114 : mr_C 155 114 = some (.getfield 236, 3) := by decide +kernel
theorem mc155_117 : mr_C 155 117 = some (.iadd, 1) := by decide +kernel
theorem mc155_118 : mr_C 155 118 = some (.istore_n 3, 1) := by decide +kernel
theorem mc155_119 : mr_C 155 119 = some (.iinc 4 (1), 3) := by decide +kernel
theorem mc155_122 : mr_C 155 122 = some (.goto (-26), 3) := by decide +kernel
theorem mc155_125 : mr_C 155 125 = some (.iload_n 2, 1) := by decide +kernel
theorem mc155_126 : mr_C 155 126 = some (.iconst 2, 1) := by decide +kernel
theorem mc155_127 : mr_C 155 127 = some (.if_icmp .ne (10), 3) := by decide +kernel
theorem mc155_130 : mr_C 155 130 = some (.aload_n 0, 1) := by decide +kernel
theorem mc155_131 : mr_C 155 131 = some (.getfield 223, 3) := by decide +kernel
theorem mc155_134 : mr_C 155 134 = some (.goto 4, 3) := by decide +kernel
theorem mc155_137 : mr_C 155 137 = some (.iload_n 3, 1) := by decide +kernel
theorem mc155_138 : mr_C 155 138 = some (.ireturn, 1) := by decide +kernel
theorem vc155_0 {sc : Nat × (Int → Int)} {Q : mm_R → mm_M → Prop} {M : mm_M} {l1 : Int} {l2 : Int} (ho : mr_ok M)
    (h : en_CI sc 34 [mm_r 72, mm_i l1] M (fun x1 M2 => mr_ok M2 → mr_rg x1 ∧ ((x1 ≠ 0 → en_CI sc 33 [mm_i l2, mm_i 0, mm_i 5] M2 (fun x5 M6 => mr_ok M6 → mr_rg x5 ∧ ((x5 ≠ 0 → en_R sc 155 27 [mm_r 72, mm_i l1, mm_i l2, mm_u, mm_u] [mm_i 0, mm_r 72] M6 Q) ∧ (¬ (x5 ≠ 0) → en_R sc 155 27 [mm_r 72, mm_i l1, mm_i l2, mm_u, mm_u] [mm_i 2, mm_r 72] M6 Q))) (fun e M9 => Q (.inr e) M9)) ∧ (¬ (x1 ≠ 0) → en_R sc 155 27 [mm_r 72, mm_i l1, mm_i l2, mm_u, mm_u] [mm_i 1, mm_r 72] M2 Q))) (fun e M9 => Q (.inr e) M9)) : en_R sc 155 0 [mm_r 72, mm_i l1, mm_i l2, mm_u, mm_u] [] M Q := by
  refine en_aload_n mc155_0 rfl ?_
  refine en_aload_n mc155_1 rfl ?_
  refine en_iload_n mc155_2 rfl ?_
  refine en_callI (lz := [mm_r 72, mm_i l1]) mv155 mc155_3 rfl rfl (lk_m7_131) mv34 rfl (by decide) rfl (mk_cokV rfl (⟨rfl, by decide⟩ : mt_kd[72]? = some (.inl 7) ∧ 72 < 99)) rfl (mk_nh rfl _) ho ?_
  refine en_CI_mono h (fun x1 M2 h => ?_) (fun _ _ h => h)
  intro ho3
  replace h := h ho3
  obtain ⟨g4, h⟩ := h
  refine en_if_ne 13 mc155_6 (by decide) g4 (fun q => ?_) (fun q => ?_)
  · replace h := h.1 q
    refine en_iload_n mc155_13 rfl ?_
    refine en_iconst mc155_14 ?_
    refine en_iconst mc155_15 ?_
    refine en_callI (lz := [mm_i l2, mm_i 0, mm_i 5]) mv155 mc155_16 rfl rfl (lk_m7_135) mv33 rfl (by decide) rfl (mk_cokS rfl) rfl (mk_nh rfl _) ho3 ?_
    refine en_CI_mono h (fun x5 M6 h => ?_) (fun _ _ h => h)
    intro ho7
    replace h := h ho7
    obtain ⟨g8, h⟩ := h
    refine en_if_ne 26 mc155_19 (by decide) g8 (fun q => ?_) (fun q => ?_)
    · replace h := h.1 q
      refine en_iconst mc155_26 ?_
      exact h
    · replace h := h.2 q
      refine en_iconst mc155_22 ?_
      refine en_goto 27 mc155_23 (by decide) ?_
      exact h
  · replace h := h.2 q
    refine en_iconst mc155_9 ?_
    refine en_goto 27 mc155_10 (by decide) ?_
    exact h
theorem vc155_27 {sc : Nat × (Int → Int)} {Q : mm_R → mm_M → Prop} {M : mm_M} {l1 : Int} {l2 : Int} {s1 : Int} (ho : mr_ok M) (hg_s1 : mr_rg s1) (hg_l2 : mr_rg l2)
    (h : (((mm_putN M 72 0 s1).1 72 0) ≤ 0 → (2 ≤ l2 → (l2 ≤ 3 → en_CV sc 153 [mm_r 72, mm_i l1, mm_u, mm_u, mm_u] (mm_putN M 72 0 s1) (fun M2 => mr_ok M2 → en_R sc 155 96 [mm_r 72, mm_i l1, mm_i l2, mm_i 0, mm_i 0] [] M2 Q) (fun e M9 => Q (.inr e) M9)) ∧ (¬ l2 ≤ 3 → (l2 ≠ 4 → en_CI sc 148 [mm_r 72, mm_i l1, mm_u, mm_u, mm_u] (mm_putN M 72 0 s1) (fun x4 M5 => mr_ok M5 → Q (.inl (some (mm_i x4))) M5) (fun e M9 => Q (.inr e) M9)) ∧ (¬ (l2 ≠ 4) → en_CI sc 144 [mm_r 72, mm_i l1, mm_u, mm_u, mm_u, mm_u, mm_u, mm_u] (mm_putN M 72 0 s1) (fun x7 M8 => mr_ok M8 → Q (.inl (some (mm_i x7))) M8) (fun e M9 => Q (.inr e) M9)))) ∧ (¬ 2 ≤ l2 → (l2 ≠ 0 → en_CI sc 143 [mm_r 72, mm_i l1, mm_u, mm_u, mm_u, mm_u] (mm_putN M 72 0 s1) (fun x10 M11 => mr_ok M11 → Q (.inl (some (mm_i x10))) M11) (fun e M9 => Q (.inr e) M9)) ∧ (¬ (l2 ≠ 0) → en_CI sc 46 [mm_r 72, mm_i l1, mm_u, mm_u, mm_u] (mm_putN M 72 0 s1) (fun x13 M14 => mr_ok M14 → Q (.inl (some (mm_i x13))) M14) (fun e M9 => Q (.inr e) M9)))) ∧ (¬ ((mm_putN M 72 0 s1).1 72 0) ≤ 0 → Q (.inl (some (mm_i 0))) (mm_putN M 72 0 s1))) : en_R sc 155 27 [mm_r 72, mm_i l1, mm_i l2, mm_u, mm_u] [mm_i s1, mm_r 72] M Q := by
  refine en_putI mv155 mc155_27 (lk_f7_89) (⟨rfl, by decide⟩ : mt_kd[72]? = some (.inl 7) ∧ 72 < 99) rfl rfl hg_s1 ?_
  refine en_aload_n mc155_30 rfl ?_
  refine en_getI mv155 mc155_31 (lk_f7_89) (⟨rfl, by decide⟩ : mt_kd[72]? = some (.inl 7) ∧ 72 < 99) (Or.inl rfl) ?_
  refine en_if_le 39 mc155_34 (by decide) ((mr_ok_putI (a := 72) (k := 0) ho hg_s1).2.1 72 0 (by unfold mr_lg; omega)) (fun q => ?_) (fun q => ?_)
  · replace h := h.1 q
    refine en_iload_n mc155_39 rfl ?_
    refine en_iconst mc155_40 ?_
    refine en_icmp_ge 62 mc155_41 (by decide) hg_l2 (⟨by decide, by decide⟩ : mr_rg 2) (fun q => ?_) (fun q => ?_)
    · replace h := h.1 q
      refine en_iload_n mc155_62 rfl ?_
      refine en_iconst mc155_63 ?_
      refine en_icmp_le 86 mc155_64 (by decide) hg_l2 (⟨by decide, by decide⟩ : mr_rg 3) (fun q => ?_) (fun q => ?_)
      · replace h := h.1 q
        refine en_aload_n mc155_86 rfl ?_
        refine en_iload_n mc155_87 rfl ?_
        refine en_callV (lz := [mm_r 72, mm_i l1, mm_u, mm_u, mm_u]) mv155 mc155_88 rfl rfl (lk_m7_264) mv153 rfl (by decide) rfl (mk_cokV rfl (⟨rfl, by decide⟩ : mt_kd[72]? = some (.inl 7) ∧ 72 < 99)) rfl (mk_nh rfl _) (mr_ok_putI (a := 72) (k := 0) ho hg_s1) ?_
        refine en_CV_mono h (fun M2 h => ?_) (fun _ _ h => h)
        intro ho3
        replace h := h ho3
        refine en_iconst mc155_91 ?_
        refine en_istore_n (ls' := [mm_r 72, mm_i l1, mm_i l2, mm_i 0, mm_u]) mc155_92 (Nat.le_of_ble_eq_true rfl) rfl ?_
        refine en_iconst mc155_93 ?_
        refine en_istore (ls' := [mm_r 72, mm_i l1, mm_i l2, mm_i 0, mm_i 0]) mc155_94 (Nat.le_of_ble_eq_true rfl) rfl ?_
        exact h
      · replace h := h.2 q
        refine en_iload_n mc155_67 rfl ?_
        refine en_iconst mc155_68 ?_
        refine en_icmp_ne 80 mc155_69 (by decide) hg_l2 (⟨by decide, by decide⟩ : mr_rg 4) (fun q => ?_) (fun q => ?_)
        · replace h := h.1 q
          refine en_aload_n mc155_80 rfl ?_
          refine en_iload_n mc155_81 rfl ?_
          refine en_callI (lz := [mm_r 72, mm_i l1, mm_u, mm_u, mm_u]) mv155 mc155_82 rfl rfl (lk_m7_261) mv148 rfl (by decide) rfl (mk_cokV rfl (⟨rfl, by decide⟩ : mt_kd[72]? = some (.inl 7) ∧ 72 < 99)) rfl (mk_nh rfl _) (mr_ok_putI (a := 72) (k := 0) ho hg_s1) ?_
          refine en_CI_mono h (fun x4 M5 h => ?_) (fun _ _ h => h)
          intro ho6
          replace h := h ho6
          exact en_iret mv155 mc155_85 rfl h
        · replace h := h.2 q
          refine en_aload_n mc155_72 rfl ?_
          refine en_iload_n mc155_73 rfl ?_
          refine en_callI (lz := [mm_r 72, mm_i l1, mm_u, mm_u, mm_u, mm_u, mm_u, mm_u]) mv155 mc155_74 rfl rfl (lk_m7_258) mv144 rfl (by decide) rfl (mk_cokV rfl (⟨rfl, by decide⟩ : mt_kd[72]? = some (.inl 7) ∧ 72 < 99)) rfl (mk_nh rfl _) (mr_ok_putI (a := 72) (k := 0) ho hg_s1) ?_
          refine en_CI_mono h (fun x7 M8 h => ?_) (fun _ _ h => h)
          intro ho9
          replace h := h ho9
          refine en_goto 85 mc155_77 (by decide) ?_
          exact en_iret mv155 mc155_85 rfl h
    · replace h := h.2 q
      refine en_iload_n mc155_44 rfl ?_
      refine en_if_ne 56 mc155_45 (by decide) hg_l2 (fun q => ?_) (fun q => ?_)
      · replace h := h.1 q
        refine en_aload_n mc155_56 rfl ?_
        refine en_iload_n mc155_57 rfl ?_
        refine en_callI (lz := [mm_r 72, mm_i l1, mm_u, mm_u, mm_u, mm_u]) mv155 mc155_58 rfl rfl (lk_m7_255) mv143 rfl (by decide) rfl (mk_cokV rfl (⟨rfl, by decide⟩ : mt_kd[72]? = some (.inl 7) ∧ 72 < 99)) rfl (mk_nh rfl _) (mr_ok_putI (a := 72) (k := 0) ho hg_s1) ?_
        refine en_CI_mono h (fun x10 M11 h => ?_) (fun _ _ h => h)
        intro ho12
        replace h := h ho12
        exact en_iret mv155 mc155_61 rfl h
      · replace h := h.2 q
        refine en_aload_n mc155_48 rfl ?_
        refine en_iload_n mc155_49 rfl ?_
        refine en_callI (lz := [mm_r 72, mm_i l1, mm_u, mm_u, mm_u]) mv155 mc155_50 rfl rfl (lk_m7_148) mv46 rfl (by decide) rfl (mk_cokV rfl (⟨rfl, by decide⟩ : mt_kd[72]? = some (.inl 7) ∧ 72 < 99)) rfl (mk_nh rfl _) (mr_ok_putI (a := 72) (k := 0) ho hg_s1) ?_
        refine en_CI_mono h (fun x13 M14 h => ?_) (fun _ _ h => h)
        intro ho15
        replace h := h ho15
        refine en_goto 61 mc155_53 (by decide) ?_
        exact en_iret mv155 mc155_61 rfl h
  · replace h := h.2 q
    refine en_iconst mc155_37 ?_
    exact en_iret mv155 mc155_38 rfl h
theorem vc155_96 {sc : Nat × (Int → Int)} {Q : mm_R → mm_M → Prop} {M : mm_M} {l1 : Int} {l2 : Int} {l3 : Int} {l4 : Int} (ho : mr_ok M) (hg_l4 : mr_rg l4) (hg_l2 : mr_rg l2)
    (h : ((M.1 72 29) ≤ l4 → (l2 ≠ 2 → Q (.inl (some (mm_i l3))) M) ∧ (¬ (l2 ≠ 2) → Q (.inl (some (mm_i (M.1 72 29)))) M)) ∧ (¬ (M.1 72 29) ≤ l4 → en_CV sc 154 [mm_r 72, mm_i l4, mm_i 0, mm_u, mm_u, mm_u, mm_u, mm_u] M (fun M2 => mr_ok M2 → en_R sc 155 96 [mm_r 72, mm_i l1, mm_i l2, mm_i (l3 + (M2.1 72 34)), mm_i (l4 + 1)] [] M2 Q) (fun e M9 => Q (.inr e) M9))) : en_R sc 155 96 [mm_r 72, mm_i l1, mm_i l2, mm_i l3, mm_i l4] [] M Q := by
  refine en_iload mc155_96 rfl ?_
  refine en_aload_n mc155_98 rfl ?_
  refine en_getI mv155 mc155_99 (lk_f7_223) (⟨rfl, by decide⟩ : mt_kd[72]? = some (.inl 7) ∧ 72 < 99) (Or.inl rfl) ?_
  refine en_icmp_ge 125 mc155_102 (by decide) hg_l4 (ho.2.1 72 29 (by unfold mr_lg; omega)) (fun q => ?_) (fun q => ?_)
  · replace h := h.1 q
    refine en_iload_n mc155_125 rfl ?_
    refine en_iconst mc155_126 ?_
    refine en_icmp_ne 137 mc155_127 (by decide) hg_l2 (⟨by decide, by decide⟩ : mr_rg 2) (fun q => ?_) (fun q => ?_)
    · replace h := h.1 q
      refine en_iload_n mc155_137 rfl ?_
      exact en_iret mv155 mc155_138 rfl h
    · replace h := h.2 q
      refine en_aload_n mc155_130 rfl ?_
      refine en_getI mv155 mc155_131 (lk_f7_223) (⟨rfl, by decide⟩ : mt_kd[72]? = some (.inl 7) ∧ 72 < 99) (Or.inl rfl) ?_
      refine en_goto 138 mc155_134 (by decide) ?_
      exact en_iret mv155 mc155_138 rfl h
  · replace h := h.2 q
    refine en_aload_n mc155_105 rfl ?_
    refine en_iload mc155_106 rfl ?_
    refine en_iconst mc155_108 ?_
    refine en_callV (lz := [mm_r 72, mm_i l4, mm_i 0, mm_u, mm_u, mm_u, mm_u, mm_u]) mv155 mc155_109 rfl rfl (lk_m7_267) mv154 rfl (by decide) rfl (mk_cokV rfl (⟨rfl, by decide⟩ : mt_kd[72]? = some (.inl 7) ∧ 72 < 99)) rfl (mk_nh rfl _) ho ?_
    refine en_CV_mono h (fun M2 h => ?_) (fun _ _ h => h)
    intro ho3
    replace h := h ho3
    refine en_iload_n mc155_112 rfl ?_
    refine en_aload_n mc155_113 rfl ?_
    refine en_getI mv155 mc155_114 (lk_f7_236) (⟨rfl, by decide⟩ : mt_kd[72]? = some (.inl 7) ∧ 72 < 99) (Or.inl rfl) ?_
    refine en_iadd mc155_117 ?_
    refine en_istore_n (ls' := [mm_r 72, mm_i l1, mm_i l2, mm_i (l3 + (M2.1 72 34)), mm_i l4]) mc155_118 (Nat.le_of_ble_eq_true rfl) rfl ?_
    refine en_iinc (ls' := [mm_r 72, mm_i l1, mm_i l2, mm_i (l3 + (M2.1 72 34)), mm_i (l4 + 1)]) mc155_119 rfl rfl ?_
    refine en_goto 96 mc155_122 (by decide) ?_
    exact h
/-! 156: CellAreas$Loops.cornersOf(I)I -/
theorem mc156_0 : mr_C 156 0 = some (.aload_n 0, 1) := by decide +kernel
theorem mc156_1 : mr_C 156 1 = some (.getfield 22, 3) := by decide +kernel
theorem mc156_4 : mr_C 156 4 = some (.iload_n 1, 1) := by decide +kernel
theorem mc156_5 : mr_C 156 5 = some (.iconst 1, 1) := by decide +kernel
theorem mc156_6 : mr_C 156 6 = some (.iadd, 1) := by decide +kernel
theorem mc156_7 : mr_C 156 7 = some (.iaload, 1) := by decide +kernel
theorem mc156_8 : mr_C 156 8 = some (.aload_n 0, 1) := by decide +kernel
theorem mc156_9 : mr_C 156 9 = some (.getfield 22, 3) := by decide +kernel
theorem mc156_12 : mr_C 156 12 = some (.iload_n 1, 1) := by decide +kernel
theorem mc156_13 : mr_C 156 13 = some (.iaload, 1) := by decide +kernel
theorem mc156_14 : mr_C 156 14 = some (.isub, 1) := by decide +kernel
theorem mc156_15 : mr_C 156 15 = some (.ireturn, 1) := by decide +kernel
theorem vc156_0 {sc : Nat × (Int → Int)} {Q : mm_R → mm_M → Prop} {M : mm_M} {l1 : Int} (ho : mr_ok M)
    (h : 0 ≤ (l1 + 1) ∧ ((l1 + 1) < 401 ∧ (0 ≤ l1 ∧ (l1 < 401 ∧ (Q (.inl (some (mm_i ((M.1 19 (l1 + 1)) - (M.1 19 l1))))) M))))) : en_R sc 156 0 [mm_r 17, mm_i l1] [] M Q := by
  obtain ⟨g1, h⟩ := h
  obtain ⟨g2, h⟩ := h
  obtain ⟨g3, h⟩ := h
  obtain ⟨g4, h⟩ := h
  refine en_aload_n mc156_0 rfl ?_
  refine en_getR (b := 19) mv156 mc156_1 (lk_f3_22) (⟨rfl, by decide⟩ : mt_kd[17]? = some (.inl 3) ∧ 17 < 99) rfl (mk_fc ho (by decide +kernel)) ?_
  refine en_iload_n mc156_4 rfl ?_
  refine en_iconst mc156_5 ?_
  refine en_iadd mc156_6 ?_
  refine en_iald mc156_7 (⟨rfl, by decide, by decide⟩ : mt_kd[19]? = some (.inr (.int, 401)) ∧ 19 < 99 ∧ 401 < 2147483648) g1 g2 ?_
  refine en_aload_n mc156_8 rfl ?_
  refine en_getR (b := 19) mv156 mc156_9 (lk_f3_22) (⟨rfl, by decide⟩ : mt_kd[17]? = some (.inl 3) ∧ 17 < 99) rfl (mk_fc ho (by decide +kernel)) ?_
  refine en_iload_n mc156_12 rfl ?_
  refine en_iald mc156_13 (⟨rfl, by decide, by decide⟩ : mt_kd[19]? = some (.inr (.int, 401)) ∧ 19 < 99 ∧ 401 < 2147483648) g3 g4 ?_
  refine en_isub mc156_14 ?_
  exact en_iret mv156 mc156_15 rfl h
/-! 157: CellAreas.loop(III)I -/
theorem mc157_0 : mr_C 157 0 = some (.iload_n 1, 1) := by decide +kernel
theorem mc157_1 : mr_C 157 1 = some (.invokestatic 61, 3) := by decide +kernel
theorem mc157_4 : mr_C 157 4 = some (.iload_n 3, 1) := by decide +kernel
theorem mc157_5 : mr_C 157 5 = some (.iconst 0, 1) := by decide +kernel
theorem mc157_6 : mr_C 157 6 = some (.iconst 2, 1) := by decide +kernel
theorem mc157_7 : mr_C 157 7 = some (.invokestatic 65, 3) := by decide +kernel
theorem mc157_10 : mr_C 157 10 = some (.aload_n 0, 1) := by decide +kernel
theorem mc157_11 : mr_C 157 11 = some (.iload_n 1, 1) := by decide +kernel
theorem mc157_12 : mr_C 157 12 = some (.invokevirtual 171, 3) := by decide +kernel
theorem mc157_15 : mr_C 157 15 = some (.astore 4, 2) := by decide +kernel
theorem mc157_17 : mr_C 157 17 = some (.iload_n 2, 1) := by decide +kernel
theorem mc157_18 : mr_C 157 18 = some (.iconst 0, 1) := by decide +kernel
theorem mc157_19 : mr_C 157 19 = some (.aload 4, 2) := by decide +kernel
theorem mc157_21 : mr_C 157 21 = some (.getfield 178, 3) := by decide +kernel
theorem mc157_24 : mr_C 157 24 = some (.iconst 1, 1) := by decide +kernel
theorem mc157_25 : mr_C 157 25 = some (.isub, 1) := by decide +kernel
theorem mc157_26 : mr_C 157 26 = some (.invokestatic 65, 3) := by decide +kernel
theorem mc157_29 : mr_C 157 29 = some (.iload_n 3, 1) := by decide +kernel
theorem mc157_30 : mr_C 157 30 = some (.lookupswitch (40) #[(0, 26), (1, 33)], 26) := by decide +kernel
theorem mc157_56 : mr_C 157 56 = some (.aload 4, 2) := by decide +kernel
theorem mc157_58 : mr_C 157 58 = some (.iload_n 2, 1) := by decide +kernel
theorem mc157_59 : mr_C 157 59 = some (.invokevirtual 192, 3) := by decide +kernel
theorem mc157_62 : mr_C 157 62 = some (.ireturn, 1) := by decide +kernel
theorem mc157_63 : mr_C 157 63 = some (.aload 4, 2) := by decide +kernel
theorem mc157_65 : mr_C 157 65 = some (.iload_n 2, 1) := by decide +kernel
theorem mc157_66 : mr_C 157 66 = some (.invokevirtual 195, 3) := by decide +kernel
theorem mc157_69 : mr_C 157 69 = some (.ireturn, 1) := by decide +kernel
theorem mc157_70 : mr_C 157 70 = some (.aload 4, 2) := by decide +kernel
theorem mc157_72 : mr_C 157 72 = some (.iload_n 2, 1) := by decide +kernel
theorem mc157_73 : mr_C 157 73 = some (.invokevirtual 198, 3) := by decide +kernel
theorem mc157_76 : mr_C 157 76 = some (.ireturn, 1) := by decide +kernel
theorem vc157_0 {sc : Nat × (Int → Int)} {Q : mm_R → mm_M → Prop} {M : mm_M} {l1 : Int} {l2 : Int} {l3 : Int} (ho : mr_ok M) (hg_l3 : mr_rg l3)
    (h : en_CV sc 9 [mm_i l1] M (fun M2 => mr_ok M2 → en_CV sc 10 [mm_i l3, mm_i 0, mm_i 2] M2 (fun M5 => mr_ok M5 → en_CR sc 126 [mm_r 0, mm_i l1] M5 (fun x7 M8 => x7 = 17 ∧ (mr_ok M8 → en_CV sc 10 [mm_i l2, mm_i 0, mm_i ((M8.1 17 0) - 1)] M8 (fun M11 => mr_ok M11 → (l3 = 0 → en_CI sc 156 [mm_r 17, mm_i l2] M11 (fun x13 M14 => mr_ok M14 → Q (.inl (some (mm_i x13))) M14) (fun e M9 => Q (.inr e) M9)) ∧ (l3 = 1 → en_CI sc 131 [mm_r 17, mm_i l2, mm_u, mm_u, mm_u] M11 (fun x16 M17 => mr_ok M17 → Q (.inl (some (mm_i x16))) M17) (fun e M9 => Q (.inr e) M9)) ∧ (l3 ≠ 0 → l3 ≠ 1 → en_CI sc 138 [mm_r 17, mm_i l2, mm_u, mm_u, mm_u, mm_u] M11 (fun x19 M20 => mr_ok M20 → Q (.inl (some (mm_i x19))) M20) (fun e M9 => Q (.inr e) M9))) (fun e M9 => Q (.inr e) M9))) (fun e M9 => Q (.inr e) M9)) (fun e M9 => Q (.inr e) M9)) (fun e M9 => Q (.inr e) M9)) : en_R sc 157 0 [mm_r 0, mm_i l1, mm_i l2, mm_i l3, mm_u] [] M Q := by
  refine en_iload_n mc157_0 rfl ?_
  refine en_callV (lz := [mm_i l1]) mv157 mc157_1 rfl rfl (lk_m6_61) mv9 rfl (by decide) rfl (mk_cokS rfl) rfl (mk_nh rfl _) ho ?_
  refine en_CV_mono h (fun M2 h => ?_) (fun _ _ h => h)
  intro ho3
  replace h := h ho3
  refine en_iload_n mc157_4 rfl ?_
  refine en_iconst mc157_5 ?_
  refine en_iconst mc157_6 ?_
  refine en_callV (lz := [mm_i l3, mm_i 0, mm_i 2]) mv157 mc157_7 rfl rfl (lk_m6_65) mv10 rfl (by decide) rfl (mk_cokS rfl) rfl (mk_nh rfl _) ho3 ?_
  refine en_CV_mono h (fun M5 h => ?_) (fun _ _ h => h)
  intro ho6
  replace h := h ho6
  refine en_aload_n mc157_10 rfl ?_
  refine en_iload_n mc157_11 rfl ?_
  refine en_callR (lz := [mm_r 0, mm_i l1]) mv157 mc157_12 rfl rfl (lk_m6_171) mv126 rfl (by decide) rfl (mk_cokV rfl (⟨rfl, by decide⟩ : mt_kd[0]? = some (.inl 6) ∧ 0 < 99)) rfl (mk_nh rfl _) ho6 ?_
  refine en_CR_mono h (fun x7 M8 h => ?_) (fun _ _ h => h)
  obtain ⟨rfl, h⟩ := h
  intro ho9
  replace h := h ho9
  refine en_astore (ls' := [mm_r 0, mm_i l1, mm_i l2, mm_i l3, mm_r 17]) mc157_15 (Nat.le_of_ble_eq_true rfl) rfl ?_
  refine en_iload_n mc157_17 rfl ?_
  refine en_iconst mc157_18 ?_
  refine en_aload mc157_19 rfl ?_
  refine en_getI mv157 mc157_21 (lk_f6_178) (⟨rfl, by decide⟩ : mt_kd[17]? = some (.inl 3) ∧ 17 < 99) (Or.inl rfl) ?_
  refine en_iconst mc157_24 ?_
  refine en_isub mc157_25 ?_
  refine en_callV (lz := [mm_i l2, mm_i 0, mm_i ((M8.1 17 0) - 1)]) mv157 mc157_26 rfl rfl (lk_m6_65) mv10 rfl (by decide) rfl (mk_cokS rfl) rfl (mk_nh rfl _) ho9 ?_
  refine en_CV_mono h (fun M11 h => ?_) (fun _ _ h => h)
  intro ho12
  replace h := h ho12
  refine en_iload_n mc157_29 rfl ?_
  by_cases q0 : l3 = 0
  · replace h := h.1 q0
    refine en_lsw 56 mc157_30 hg_l3 (by decide) (by first | (rw [q0]; done) | (rw [q0]; rfl)) (by decide) ?_
    refine en_aload mc157_56 rfl ?_
    refine en_iload_n mc157_58 rfl ?_
    refine en_callI (lz := [mm_r 17, mm_i l2]) mv157 mc157_59 rfl rfl (lk_m6_192) mv156 rfl (by decide) rfl (mk_cokV rfl (⟨rfl, by decide⟩ : mt_kd[17]? = some (.inl 3) ∧ 17 < 99)) rfl (mk_nh rfl _) ho12 ?_
    refine en_CI_mono h (fun x13 M14 h => ?_) (fun _ _ h => h)
    intro ho15
    replace h := h ho15
    exact en_iret mv157 mc157_62 rfl h
  by_cases q1 : l3 = 1
  · replace h := h.2.1 q1
    refine en_lsw 63 mc157_30 hg_l3 (by decide) (by first | (rw [q1]; done) | (rw [q1]; rfl)) (by decide) ?_
    refine en_aload mc157_63 rfl ?_
    refine en_iload_n mc157_65 rfl ?_
    refine en_callI (lz := [mm_r 17, mm_i l2, mm_u, mm_u, mm_u]) mv157 mc157_66 rfl rfl (lk_m6_195) mv131 rfl (by decide) rfl (mk_cokV rfl (⟨rfl, by decide⟩ : mt_kd[17]? = some (.inl 3) ∧ 17 < 99)) rfl (mk_nh rfl _) ho12 ?_
    refine en_CI_mono h (fun x16 M17 h => ?_) (fun _ _ h => h)
    intro ho18
    replace h := h ho18
    exact en_iret mv157 mc157_69 rfl h
  replace h := h.2.2 q0 q1
  refine en_lsw 70 mc157_30 hg_l3 (by decide) (mk_lsw2 q0 q1) (by decide) ?_
  refine en_aload mc157_70 rfl ?_
  refine en_iload_n mc157_72 rfl ?_
  refine en_callI (lz := [mm_r 17, mm_i l2, mm_u, mm_u, mm_u, mm_u]) mv157 mc157_73 rfl rfl (lk_m6_198) mv138 rfl (by decide) rfl (mk_cokV rfl (⟨rfl, by decide⟩ : mt_kd[17]? = some (.inl 3) ∧ 17 < 99)) rfl (mk_nh rfl _) ho12 ?_
  refine en_CI_mono h (fun x19 M20 h => ?_) (fun _ _ h => h)
  intro ho21
  replace h := h ho21
  exact en_iret mv157 mc157_76 rfl h
/-! 159: CellAreasModel.loop(III)I -/
theorem mc159_0 : mr_C 159 0 = some (.aload_n 0, 1) := by decide +kernel
theorem mc159_1 : mr_C 159 1 = some (.aload_n 0, 1) := by decide +kernel
theorem mc159_2 : mr_C 159 2 = some (.iload_n 1, 1) := by decide +kernel
theorem mc159_3 : mr_C 159 3 = some (.invokevirtual 131, 3) := by decide +kernel
theorem mc159_6 : mr_C 159 6 = some (.ifCond .eq (7), 3) := by decide +kernel
theorem mc159_9 : mr_C 159 9 = some (.iconst 0, 1) := by decide +kernel
theorem mc159_10 : mr_C 159 10 = some (.goto 4, 3) := by decide +kernel
theorem mc159_13 : mr_C 159 13 = some (.iconst 1, 1) := by decide +kernel
theorem mc159_14 : mr_C 159 14 = some (.putfield 89, 3) := by decide +kernel
theorem mc159_17 : mr_C 159 17 = some (.aload_n 0, 1) := by decide +kernel
theorem mc159_18 : mr_C 159 18 = some (.getfield 89, 3) := by decide +kernel
theorem mc159_21 : mr_C 159 21 = some (.ifCond .le (5), 3) := by decide +kernel
theorem mc159_24 : mr_C 159 24 = some (.iconst 0, 1) := by decide +kernel
theorem mc159_25 : mr_C 159 25 = some (.ireturn, 1) := by decide +kernel
theorem mc159_26 : mr_C 159 26 = some (.aload_n 0, 1) := by decide +kernel
theorem mc159_27 : mr_C 159 27 = some (.iload_n 1, 1) := by decide +kernel
theorem mc159_28 : mr_C 159 28 = some (.invokevirtual 264, 3) := by decide +kernel
theorem mc159_31 : mr_C 159 31 = some (.aload_n 0, 1) := by decide +kernel
theorem mc159_32 : mr_C 159 32 = some (.iload_n 2, 1) := by decide +kernel
theorem mc159_33 : mr_C 159 33 = some (.iconst 0, 1) := by decide +kernel
theorem mc159_34 : mr_C 159 34 = some (.aload_n 0, 1) := by decide +kernel
theorem mc159_35 : mr_C 159 35 = some (.getfield 223, 3) := by decide +kernel
theorem mc159_38 : mr_C 159 38 = some (.iconst 1, 1) := by decide +kernel
theorem mc159_39 : mr_C 159 39 = some (.isub, 1) := by decide +kernel
theorem mc159_40 : mr_C 159 40 = some (.invokestatic 135, 3) := by decide +kernel
theorem mc159_43 : mr_C 159 43 = some (.ifCond .eq (16), 3) := by decide +kernel
theorem mc159_46 : mr_C 159 46 = some (.iload_n 3, 1) := by decide +kernel
theorem mc159_47 : mr_C 159 47 = some (.iconst 0, 1) := by decide +kernel
theorem mc159_48 : mr_C 159 48 = some (.iconst 2, 1) := by decide +kernel
theorem mc159_49 : mr_C 159 49 = some (.invokestatic 135, 3) := by decide +kernel
theorem mc159_52 : mr_C 159 52 = some (.ifCond .eq (7), 3) := by decide +kernel
theorem mc159_55 : mr_C 159 55 = some (.iconst 0, 1) := by decide +kernel
theorem mc159_56 : mr_C 159 56 = some (.goto 4, 3) := by decide +kernel
theorem mc159_59 : mr_C 159 59 = some (.iconst 2, 1) := by decide +kernel
theorem mc159_60 : mr_C 159 60 = some (.putfield 89, 3) := by decide +kernel
theorem mc159_63 : mr_C 159 63 = some (.aload_n 0, 1) := by decide +kernel
theorem mc159_64 : mr_C 159 64 = some (.getfield 89, 3) := by decide +kernel
theorem mc159_67 : mr_C 159 67 = some (.ifCond .le (5), 3) := by decide +kernel
theorem mc159_70 : mr_C 159 70 = some (.iconst 0, 1) := by decide +kernel
theorem mc159_71 : mr_C 159 71 = some (.ireturn, 1) := by decide +kernel
theorem mc159_72 : mr_C 159 72 = some (.aload_n 0, 1) := by decide +kernel
theorem mc159_73 : mr_C 159 73 = some (.iload_n 2, 1) := by decide +kernel
theorem mc159_74 : mr_C 159 74 = some (.iconst 0, 1) := by decide +kernel
theorem mc159_75 : mr_C 159 75 = some (.invokevirtual 267, 3) := by decide +kernel
theorem mc159_78 : mr_C 159 78 = some (.iload_n 3, 1) := by decide +kernel
theorem mc159_79 : mr_C 159 79 = some (.ifCond .ne (10), 3) := by decide +kernel
theorem mc159_82 : mr_C 159 82 = some (.aload_n 0, 1) := by decide +kernel
theorem mc159_83 : mr_C 159 83 = some (.getfield 236, 3) := by decide +kernel
theorem mc159_86 : mr_C 159 86 = some (.goto 24, 3) := by decide +kernel
theorem mc159_89 : mr_C 159 89 = some (.iload_n 3, 1) := by decide +kernel
theorem mc159_90 : mr_C 159 90 = some (.iconst 1, 1) := by decide +kernel
theorem mc159_91 : mr_C 159 91 = some (.if_icmp .ne (10), 3) := by decide +kernel
theorem mc159_94 : mr_C 159 94 = some (.aload_n 0, 1) := by decide +kernel
theorem mc159_95 : mr_C 159 95 = some (.getfield 239, 3) := by decide +kernel
theorem mc159_98 : mr_C 159 98 = some (.goto 12, 3) := by decide +kernel
theorem mc159_101 : mr_C 159 101 = some (.aload_n 0, 1) := by decide +kernel
theorem mc159_102 : mr_C 159 102 = some (.getfield 242, 3) := by decide +kernel
theorem mc159_105 : mr_C 159 105 = some (.ldc2_w 270, 3) := by decide +kernel
theorem mc159_108 : mr_C 159 108 = some (.ldiv, 1) := by decide +kernel
theorem mc159_109 : mr_C 159 109 = some (.l2i, 1) := by decide +kernel
theorem mc159_110 : mr_C 159 110 = some (.ireturn, 1) := by decide +kernel
theorem vc159_0 {sc : Nat × (Int → Int)} {Q : mm_R → mm_M → Prop} {M : mm_M} {l1 : Int} {l2 : Int} {l3 : Int} (ho : mr_ok M)
    (h : en_CI sc 34 [mm_r 72, mm_i l1] M (fun x1 M2 => mr_ok M2 → mr_rg x1 ∧ ((x1 = 0 → en_R sc 159 14 [mm_r 72, mm_i l1, mm_i l2, mm_i l3] [mm_i 1, mm_r 72] M2 Q) ∧ (¬ x1 = 0 → en_R sc 159 14 [mm_r 72, mm_i l1, mm_i l2, mm_i l3] [mm_i 0, mm_r 72] M2 Q))) (fun e M9 => Q (.inr e) M9)) : en_R sc 159 0 [mm_r 72, mm_i l1, mm_i l2, mm_i l3] [] M Q := by
  refine en_aload_n mc159_0 rfl ?_
  refine en_aload_n mc159_1 rfl ?_
  refine en_iload_n mc159_2 rfl ?_
  refine en_callI (lz := [mm_r 72, mm_i l1]) mv159 mc159_3 rfl rfl (lk_m7_131) mv34 rfl (by decide) rfl (mk_cokV rfl (⟨rfl, by decide⟩ : mt_kd[72]? = some (.inl 7) ∧ 72 < 99)) rfl (mk_nh rfl _) ho ?_
  refine en_CI_mono h (fun x1 M2 h => ?_) (fun _ _ h => h)
  intro ho3
  replace h := h ho3
  obtain ⟨g4, h⟩ := h
  refine en_if_eq 13 mc159_6 (by decide) g4 (fun q => ?_) (fun q => ?_)
  · replace h := h.1 q
    refine en_iconst mc159_13 ?_
    exact h
  · replace h := h.2 q
    refine en_iconst mc159_9 ?_
    refine en_goto 14 mc159_10 (by decide) ?_
    exact h
theorem vc159_14 {sc : Nat × (Int → Int)} {Q : mm_R → mm_M → Prop} {M : mm_M} {l1 : Int} {l2 : Int} {l3 : Int} {s1 : Int} (ho : mr_ok M) (hg_s1 : mr_rg s1)
    (h : (((mm_putN M 72 0 s1).1 72 0) ≤ 0 → en_CV sc 153 [mm_r 72, mm_i l1, mm_u, mm_u, mm_u] (mm_putN M 72 0 s1) (fun M2 => mr_ok M2 → en_CI sc 33 [mm_i l2, mm_i 0, mm_i ((M2.1 72 29) - 1)] M2 (fun x4 M5 => mr_ok M5 → mr_rg x4 ∧ ((x4 = 0 → en_R sc 159 59 [mm_r 72, mm_i l1, mm_i l2, mm_i l3] [mm_r 72] M5 Q) ∧ (¬ x4 = 0 → en_CI sc 33 [mm_i l3, mm_i 0, mm_i 2] M5 (fun x8 M9 => mr_ok M9 → mr_rg x8 ∧ ((x8 = 0 → en_R sc 159 59 [mm_r 72, mm_i l1, mm_i l2, mm_i l3] [mm_r 72] M9 Q) ∧ (¬ x8 = 0 → en_R sc 159 60 [mm_r 72, mm_i l1, mm_i l2, mm_i l3] [mm_i 0, mm_r 72] M9 Q))) (fun e M9 => Q (.inr e) M9)))) (fun e M9 => Q (.inr e) M9)) (fun e M9 => Q (.inr e) M9)) ∧ (¬ ((mm_putN M 72 0 s1).1 72 0) ≤ 0 → Q (.inl (some (mm_i 0))) (mm_putN M 72 0 s1))) : en_R sc 159 14 [mm_r 72, mm_i l1, mm_i l2, mm_i l3] [mm_i s1, mm_r 72] M Q := by
  refine en_putI mv159 mc159_14 (lk_f7_89) (⟨rfl, by decide⟩ : mt_kd[72]? = some (.inl 7) ∧ 72 < 99) rfl rfl hg_s1 ?_
  refine en_aload_n mc159_17 rfl ?_
  refine en_getI mv159 mc159_18 (lk_f7_89) (⟨rfl, by decide⟩ : mt_kd[72]? = some (.inl 7) ∧ 72 < 99) (Or.inl rfl) ?_
  refine en_if_le 26 mc159_21 (by decide) ((mr_ok_putI (a := 72) (k := 0) ho hg_s1).2.1 72 0 (by unfold mr_lg; omega)) (fun q => ?_) (fun q => ?_)
  · replace h := h.1 q
    refine en_aload_n mc159_26 rfl ?_
    refine en_iload_n mc159_27 rfl ?_
    refine en_callV (lz := [mm_r 72, mm_i l1, mm_u, mm_u, mm_u]) mv159 mc159_28 rfl rfl (lk_m7_264) mv153 rfl (by decide) rfl (mk_cokV rfl (⟨rfl, by decide⟩ : mt_kd[72]? = some (.inl 7) ∧ 72 < 99)) rfl (mk_nh rfl _) (mr_ok_putI (a := 72) (k := 0) ho hg_s1) ?_
    refine en_CV_mono h (fun M2 h => ?_) (fun _ _ h => h)
    intro ho3
    replace h := h ho3
    refine en_aload_n mc159_31 rfl ?_
    refine en_iload_n mc159_32 rfl ?_
    refine en_iconst mc159_33 ?_
    refine en_aload_n mc159_34 rfl ?_
    refine en_getI mv159 mc159_35 (lk_f7_223) (⟨rfl, by decide⟩ : mt_kd[72]? = some (.inl 7) ∧ 72 < 99) (Or.inl rfl) ?_
    refine en_iconst mc159_38 ?_
    refine en_isub mc159_39 ?_
    refine en_callI (lz := [mm_i l2, mm_i 0, mm_i ((M2.1 72 29) - 1)]) mv159 mc159_40 rfl rfl (lk_m7_135) mv33 rfl (by decide) rfl (mk_cokS rfl) rfl (mk_nh rfl _) ho3 ?_
    refine en_CI_mono h (fun x4 M5 h => ?_) (fun _ _ h => h)
    intro ho6
    replace h := h ho6
    obtain ⟨g7, h⟩ := h
    refine en_if_eq 59 mc159_43 (by decide) g7 (fun q => ?_) (fun q => ?_)
    · replace h := h.1 q
      exact h
    · replace h := h.2 q
      refine en_iload_n mc159_46 rfl ?_
      refine en_iconst mc159_47 ?_
      refine en_iconst mc159_48 ?_
      refine en_callI (lz := [mm_i l3, mm_i 0, mm_i 2]) mv159 mc159_49 rfl rfl (lk_m7_135) mv33 rfl (by decide) rfl (mk_cokS rfl) rfl (mk_nh rfl _) ho6 ?_
      refine en_CI_mono h (fun x8 M9 h => ?_) (fun _ _ h => h)
      intro ho10
      replace h := h ho10
      obtain ⟨g11, h⟩ := h
      refine en_if_eq 59 mc159_52 (by decide) g11 (fun q => ?_) (fun q => ?_)
      · replace h := h.1 q
        exact h
      · replace h := h.2 q
        refine en_iconst mc159_55 ?_
        refine en_goto 60 mc159_56 (by decide) ?_
        exact h
  · replace h := h.2 q
    refine en_iconst mc159_24 ?_
    exact en_iret mv159 mc159_25 rfl h
theorem vc159_59 {sc : Nat × (Int → Int)} {Q : mm_R → mm_M → Prop} {M : mm_M} {l1 : Int} {l2 : Int} {l3 : Int} (ho : mr_ok M)
    (h : en_R sc 159 60 [mm_r 72, mm_i l1, mm_i l2, mm_i l3] [mm_i 2, mm_r 72] M Q) : en_R sc 159 59 [mm_r 72, mm_i l1, mm_i l2, mm_i l3] [mm_r 72] M Q := by
  refine en_iconst mc159_59 ?_
  exact h
theorem vc159_60 {sc : Nat × (Int → Int)} {Q : mm_R → mm_M → Prop} {M : mm_M} {l1 : Int} {l2 : Int} {l3 : Int} {s1 : Int} (ho : mr_ok M) (hg_s1 : mr_rg s1) (hg_l3 : mr_rg l3)
    (h : (((mm_putN M 72 0 s1).1 72 0) ≤ 0 → en_CV sc 154 [mm_r 72, mm_i l2, mm_i 0, mm_u, mm_u, mm_u, mm_u, mm_u] (mm_putN M 72 0 s1) (fun M2 => mr_ok M2 → (l3 ≠ 0 → (l3 ≠ 1 → Q (.inl (some (mm_i (mr_ldiv (M2.1 72 36) 2)))) M2) ∧ (¬ (l3 ≠ 1) → Q (.inl (some (mm_i (M2.1 72 35)))) M2)) ∧ (¬ (l3 ≠ 0) → Q (.inl (some (mm_i (M2.1 72 34)))) M2)) (fun e M9 => Q (.inr e) M9)) ∧ (¬ ((mm_putN M 72 0 s1).1 72 0) ≤ 0 → Q (.inl (some (mm_i 0))) (mm_putN M 72 0 s1))) : en_R sc 159 60 [mm_r 72, mm_i l1, mm_i l2, mm_i l3] [mm_i s1, mm_r 72] M Q := by
  refine en_putI mv159 mc159_60 (lk_f7_89) (⟨rfl, by decide⟩ : mt_kd[72]? = some (.inl 7) ∧ 72 < 99) rfl rfl hg_s1 ?_
  refine en_aload_n mc159_63 rfl ?_
  refine en_getI mv159 mc159_64 (lk_f7_89) (⟨rfl, by decide⟩ : mt_kd[72]? = some (.inl 7) ∧ 72 < 99) (Or.inl rfl) ?_
  refine en_if_le 72 mc159_67 (by decide) ((mr_ok_putI (a := 72) (k := 0) ho hg_s1).2.1 72 0 (by unfold mr_lg; omega)) (fun q => ?_) (fun q => ?_)
  · replace h := h.1 q
    refine en_aload_n mc159_72 rfl ?_
    refine en_iload_n mc159_73 rfl ?_
    refine en_iconst mc159_74 ?_
    refine en_callV (lz := [mm_r 72, mm_i l2, mm_i 0, mm_u, mm_u, mm_u, mm_u, mm_u]) mv159 mc159_75 rfl rfl (lk_m7_267) mv154 rfl (by decide) rfl (mk_cokV rfl (⟨rfl, by decide⟩ : mt_kd[72]? = some (.inl 7) ∧ 72 < 99)) rfl (mk_nh rfl _) (mr_ok_putI (a := 72) (k := 0) ho hg_s1) ?_
    refine en_CV_mono h (fun M2 h => ?_) (fun _ _ h => h)
    intro ho3
    replace h := h ho3
    refine en_iload_n mc159_78 rfl ?_
    refine en_if_ne 89 mc159_79 (by decide) hg_l3 (fun q => ?_) (fun q => ?_)
    · replace h := h.1 q
      refine en_iload_n mc159_89 rfl ?_
      refine en_iconst mc159_90 ?_
      refine en_icmp_ne 101 mc159_91 (by decide) hg_l3 (⟨by decide, by decide⟩ : mr_rg 1) (fun q => ?_) (fun q => ?_)
      · replace h := h.1 q
        refine en_aload_n mc159_101 rfl ?_
        refine en_getJ mv159 mc159_102 (lk_f7_242) (⟨rfl, by decide⟩ : mt_kd[72]? = some (.inl 7) ∧ 72 < 99) rfl ?_
        refine en_ldc2 mv159 mc159_105 rfl ?_
        refine en_ldiv mc159_108 (by decide) ?_
        refine en_l2i mc159_109 ?_
        exact en_iret mv159 mc159_110 rfl h
      · replace h := h.2 q
        refine en_aload_n mc159_94 rfl ?_
        refine en_getI mv159 mc159_95 (lk_f7_239) (⟨rfl, by decide⟩ : mt_kd[72]? = some (.inl 7) ∧ 72 < 99) (Or.inl rfl) ?_
        refine en_goto 110 mc159_98 (by decide) ?_
        exact en_iret mv159 mc159_110 rfl h
    · replace h := h.2 q
      refine en_aload_n mc159_82 rfl ?_
      refine en_getI mv159 mc159_83 (lk_f7_236) (⟨rfl, by decide⟩ : mt_kd[72]? = some (.inl 7) ∧ 72 < 99) (Or.inl rfl) ?_
      refine en_goto 110 mc159_86 (by decide) ?_
      exact en_iret mv159 mc159_110 rfl h
  · replace h := h.2 q
    refine en_iconst mc159_70 ?_
    exact en_iret mv159 mc159_71 rfl h
/-! 160: CellAreas.corner(IIII)I -/
theorem mc160_0 : mr_C 160 0 = some (.iload_n 1, 1) := by decide +kernel
theorem mc160_1 : mr_C 160 1 = some (.invokestatic 61, 3) := by decide +kernel
theorem mc160_4 : mr_C 160 4 = some (.iload 4, 2) := by decide +kernel
theorem mc160_6 : mr_C 160 6 = some (.iconst 0, 1) := by decide +kernel
theorem mc160_7 : mr_C 160 7 = some (.iconst 1, 1) := by decide +kernel
theorem mc160_8 : mr_C 160 8 = some (.invokestatic 65, 3) := by decide +kernel
theorem mc160_11 : mr_C 160 11 = some (.aload_n 0, 1) := by decide +kernel
theorem mc160_12 : mr_C 160 12 = some (.iload_n 1, 1) := by decide +kernel
theorem mc160_13 : mr_C 160 13 = some (.invokevirtual 171, 3) := by decide +kernel
theorem mc160_16 : mr_C 160 16 = some (.astore 5, 2) := by decide +kernel
theorem mc160_18 : mr_C 160 18 = some (.iload_n 2, 1) := by decide +kernel
theorem mc160_19 : mr_C 160 19 = some (.iconst 0, 1) := by decide +kernel
theorem mc160_20 : mr_C 160 20 = some (.aload 5, 2) := by decide +kernel
theorem mc160_22 : mr_C 160 22 = some (.getfield 178, 3) := by decide +kernel
theorem mc160_25 : mr_C 160 25 = some (.iconst 1, 1) := by decide +kernel
theorem mc160_26 : mr_C 160 26 = some (.isub, 1) := by decide +kernel
theorem mc160_27 : mr_C 160 27 = some (.invokestatic 65, 3) := by decide +kernel
theorem mc160_30 : mr_C 160 30 = some (.iload_n 3, 1) := by decide +kernel
theorem mc160_31 : mr_C 160 31 = some (.iconst 0, 1) := by decide +kernel
theorem mc160_32 : mr_C 160 32 = some (.aload 5, 2) := by decide +kernel
theorem mc160_34 : mr_C 160 34 = some (.iload_n 2, 1) := by decide +kernel
theorem mc160_35 : mr_C 160 35 = some (.invokevirtual 192, 3) := by decide +kernel
theorem mc160_38 : mr_C 160 38 = some (.iconst 1, 1) := by decide +kernel
theorem mc160_39 : mr_C 160 39 = some (.isub, 1) := by decide +kernel
theorem mc160_40 : mr_C 160 40 = some (.invokestatic 65, 3) := by decide +kernel
theorem mc160_43 : mr_C 160 43 = some (.aload 5, 2) := by decide +kernel
theorem mc160_45 : mr_C 160 45 = some (.getfield 201, 3) := by decide +kernel
theorem mc160_48 : mr_C 160 48 = some (.iload_n 2, 1) := by decide +kernel
theorem mc160_49 : mr_C 160 49 = some (.iaload, 1) := by decide +kernel
theorem mc160_50 : mr_C 160 50 = some (.iload_n 3, 1) := by decide +kernel
theorem mc160_51 : mr_C 160 51 = some (.iadd, 1) := by decide +kernel
theorem mc160_52 : mr_C 160 52 = some (.istore 6, 2) := by decide +kernel
theorem mc160_54 : mr_C 160 54 = some (.iload 4, 2) := by decide +kernel
theorem mc160_56 : mr_C 160 56 = some (.ifCond .ne (13), 3) := by decide +kernel
theorem mc160_59 : mr_C 160 59 = some (.aload 5, 2) := by decide +kernel
theorem mc160_61 : mr_C 160 61 = some (.iload 6, 2) := by decide +kernel
theorem mc160_63 : mr_C 160 63 = some (.invokevirtual 203, 3) := by decide +kernel
theorem mc160_66 : mr_C 160 66 = some (.goto 10, 3) := by decide +kernel
theorem mc160_69 : mr_C 160 69 = some (.aload 5, 2) := by decide +kernel
theorem mc160_71 : mr_C 160 71 = some (.iload 6, 2) := by decide +kernel
theorem mc160_73 : mr_C 160 73 = some (.invokevirtual 206, 3) := by decide +kernel
theorem mc160_76 : mr_C 160 76 = some (.ireturn, 1) := by decide +kernel
theorem vc160_0 {sc : Nat × (Int → Int)} {Q : mm_R → mm_M → Prop} {M : mm_M} {l1 : Int} {l2 : Int} {l3 : Int} {l4 : Int} (ho : mr_ok M) (hg_l4 : mr_rg l4)
    (h : en_CV sc 9 [mm_i l1] M (fun M2 => mr_ok M2 → en_CV sc 10 [mm_i l4, mm_i 0, mm_i 1] M2 (fun M5 => mr_ok M5 → en_CR sc 126 [mm_r 0, mm_i l1] M5 (fun x7 M8 => x7 = 17 ∧ (mr_ok M8 → en_CV sc 10 [mm_i l2, mm_i 0, mm_i ((M8.1 17 0) - 1)] M8 (fun M11 => mr_ok M11 → en_CI sc 156 [mm_r 17, mm_i l2] M11 (fun x13 M14 => mr_ok M14 → en_CV sc 10 [mm_i l3, mm_i 0, mm_i (x13 - 1)] M14 (fun M17 => mr_ok M17 → 0 ≤ l2 ∧ (l2 < 401 ∧ ((l4 ≠ 0 → en_CI sc 130 [mm_r 17, mm_i ((M17.1 19 l2) + l3)] M17 (fun x21 M22 => mr_ok M22 → Q (.inl (some (mm_i x21))) M22) (fun e M9 => Q (.inr e) M9)) ∧ (¬ (l4 ≠ 0) → en_CI sc 128 [mm_r 17, mm_i ((M17.1 19 l2) + l3)] M17 (fun x24 M25 => mr_ok M25 → Q (.inl (some (mm_i x24))) M25) (fun e M9 => Q (.inr e) M9))))) (fun e M9 => Q (.inr e) M9)) (fun e M9 => Q (.inr e) M9)) (fun e M9 => Q (.inr e) M9))) (fun e M9 => Q (.inr e) M9)) (fun e M9 => Q (.inr e) M9)) (fun e M9 => Q (.inr e) M9)) : en_R sc 160 0 [mm_r 0, mm_i l1, mm_i l2, mm_i l3, mm_i l4, mm_u, mm_u] [] M Q := by
  refine en_iload_n mc160_0 rfl ?_
  refine en_callV (lz := [mm_i l1]) mv160 mc160_1 rfl rfl (lk_m6_61) mv9 rfl (by decide) rfl (mk_cokS rfl) rfl (mk_nh rfl _) ho ?_
  refine en_CV_mono h (fun M2 h => ?_) (fun _ _ h => h)
  intro ho3
  replace h := h ho3
  refine en_iload mc160_4 rfl ?_
  refine en_iconst mc160_6 ?_
  refine en_iconst mc160_7 ?_
  refine en_callV (lz := [mm_i l4, mm_i 0, mm_i 1]) mv160 mc160_8 rfl rfl (lk_m6_65) mv10 rfl (by decide) rfl (mk_cokS rfl) rfl (mk_nh rfl _) ho3 ?_
  refine en_CV_mono h (fun M5 h => ?_) (fun _ _ h => h)
  intro ho6
  replace h := h ho6
  refine en_aload_n mc160_11 rfl ?_
  refine en_iload_n mc160_12 rfl ?_
  refine en_callR (lz := [mm_r 0, mm_i l1]) mv160 mc160_13 rfl rfl (lk_m6_171) mv126 rfl (by decide) rfl (mk_cokV rfl (⟨rfl, by decide⟩ : mt_kd[0]? = some (.inl 6) ∧ 0 < 99)) rfl (mk_nh rfl _) ho6 ?_
  refine en_CR_mono h (fun x7 M8 h => ?_) (fun _ _ h => h)
  obtain ⟨rfl, h⟩ := h
  intro ho9
  replace h := h ho9
  refine en_astore (ls' := [mm_r 0, mm_i l1, mm_i l2, mm_i l3, mm_i l4, mm_r 17, mm_u]) mc160_16 (Nat.le_of_ble_eq_true rfl) rfl ?_
  refine en_iload_n mc160_18 rfl ?_
  refine en_iconst mc160_19 ?_
  refine en_aload mc160_20 rfl ?_
  refine en_getI mv160 mc160_22 (lk_f6_178) (⟨rfl, by decide⟩ : mt_kd[17]? = some (.inl 3) ∧ 17 < 99) (Or.inl rfl) ?_
  refine en_iconst mc160_25 ?_
  refine en_isub mc160_26 ?_
  refine en_callV (lz := [mm_i l2, mm_i 0, mm_i ((M8.1 17 0) - 1)]) mv160 mc160_27 rfl rfl (lk_m6_65) mv10 rfl (by decide) rfl (mk_cokS rfl) rfl (mk_nh rfl _) ho9 ?_
  refine en_CV_mono h (fun M11 h => ?_) (fun _ _ h => h)
  intro ho12
  replace h := h ho12
  refine en_iload_n mc160_30 rfl ?_
  refine en_iconst mc160_31 ?_
  refine en_aload mc160_32 rfl ?_
  refine en_iload_n mc160_34 rfl ?_
  refine en_callI (lz := [mm_r 17, mm_i l2]) mv160 mc160_35 rfl rfl (lk_m6_192) mv156 rfl (by decide) rfl (mk_cokV rfl (⟨rfl, by decide⟩ : mt_kd[17]? = some (.inl 3) ∧ 17 < 99)) rfl (mk_nh rfl _) ho12 ?_
  refine en_CI_mono h (fun x13 M14 h => ?_) (fun _ _ h => h)
  intro ho15
  replace h := h ho15
  refine en_iconst mc160_38 ?_
  refine en_isub mc160_39 ?_
  refine en_callV (lz := [mm_i l3, mm_i 0, mm_i (x13 - 1)]) mv160 mc160_40 rfl rfl (lk_m6_65) mv10 rfl (by decide) rfl (mk_cokS rfl) rfl (mk_nh rfl _) ho15 ?_
  refine en_CV_mono h (fun M17 h => ?_) (fun _ _ h => h)
  intro ho18
  replace h := h ho18
  obtain ⟨g19, h⟩ := h
  obtain ⟨g20, h⟩ := h
  refine en_aload mc160_43 rfl ?_
  refine en_getR (b := 19) mv160 mc160_45 (lk_f6_201) (⟨rfl, by decide⟩ : mt_kd[17]? = some (.inl 3) ∧ 17 < 99) rfl (mk_fc ho18 (by decide +kernel)) ?_
  refine en_iload_n mc160_48 rfl ?_
  refine en_iald mc160_49 (⟨rfl, by decide, by decide⟩ : mt_kd[19]? = some (.inr (.int, 401)) ∧ 19 < 99 ∧ 401 < 2147483648) g19 g20 ?_
  refine en_iload_n mc160_50 rfl ?_
  refine en_iadd mc160_51 ?_
  refine en_istore (ls' := [mm_r 0, mm_i l1, mm_i l2, mm_i l3, mm_i l4, mm_r 17, mm_i ((M17.1 19 l2) + l3)]) mc160_52 (Nat.le_of_ble_eq_true rfl) rfl ?_
  refine en_iload mc160_54 rfl ?_
  refine en_if_ne 69 mc160_56 (by decide) hg_l4 (fun q => ?_) (fun q => ?_)
  · replace h := h.1 q
    refine en_aload mc160_69 rfl ?_
    refine en_iload mc160_71 rfl ?_
    refine en_callI (lz := [mm_r 17, mm_i ((M17.1 19 l2) + l3)]) mv160 mc160_73 rfl rfl (lk_m6_206) mv130 rfl (by decide) rfl (mk_cokV rfl (⟨rfl, by decide⟩ : mt_kd[17]? = some (.inl 3) ∧ 17 < 99)) rfl (mk_nh rfl _) ho18 ?_
    refine en_CI_mono h (fun x21 M22 h => ?_) (fun _ _ h => h)
    intro ho23
    replace h := h ho23
    exact en_iret mv160 mc160_76 rfl h
  · replace h := h.2 q
    refine en_aload mc160_59 rfl ?_
    refine en_iload mc160_61 rfl ?_
    refine en_callI (lz := [mm_r 17, mm_i ((M17.1 19 l2) + l3)]) mv160 mc160_63 rfl rfl (lk_m6_203) mv128 rfl (by decide) rfl (mk_cokV rfl (⟨rfl, by decide⟩ : mt_kd[17]? = some (.inl 3) ∧ 17 < 99)) rfl (mk_nh rfl _) ho18 ?_
    refine en_CI_mono h (fun x24 M25 h => ?_) (fun _ _ h => h)
    intro ho26
    replace h := h ho26
    refine en_goto 76 mc160_66 (by decide) ?_
    exact en_iret mv160 mc160_76 rfl h
/-! 162: CellAreasModel.corner(IIII)I -/
theorem mc162_0 : mr_C 162 0 = some (.aload_n 0, 1) := by decide +kernel
theorem mc162_1 : mr_C 162 1 = some (.aload_n 0, 1) := by decide +kernel
theorem mc162_2 : mr_C 162 2 = some (.iload_n 1, 1) := by decide +kernel
theorem mc162_3 : mr_C 162 3 = some (.invokevirtual 131, 3) := by decide +kernel
theorem mc162_6 : mr_C 162 6 = some (.ifCond .eq (7), 3) := by decide +kernel
theorem mc162_9 : mr_C 162 9 = some (.iconst 0, 1) := by decide +kernel
theorem mc162_10 : mr_C 162 10 = some (.goto 4, 3) := by decide +kernel
theorem mc162_13 : mr_C 162 13 = some (.iconst 1, 1) := by decide +kernel
theorem mc162_14 : mr_C 162 14 = some (.putfield 89, 3) := by decide +kernel
theorem mc162_17 : mr_C 162 17 = some (.aload_n 0, 1) := by decide +kernel
theorem mc162_18 : mr_C 162 18 = some (.getfield 89, 3) := by decide +kernel
theorem mc162_21 : mr_C 162 21 = some (.ifCond .le (5), 3) := by decide +kernel
theorem mc162_24 : mr_C 162 24 = some (.iconst 0, 1) := by decide +kernel
theorem mc162_25 : mr_C 162 25 = some (.ireturn, 1) := by decide +kernel
theorem mc162_26 : mr_C 162 26 = some (.aload_n 0, 1) := by decide +kernel
theorem mc162_27 : mr_C 162 27 = some (.iload_n 1, 1) := by decide +kernel
theorem mc162_28 : mr_C 162 28 = some (.invokevirtual 264, 3) := by decide +kernel
theorem mc162_31 : mr_C 162 31 = some (.aload_n 0, 1) := by decide +kernel
theorem mc162_32 : mr_C 162 32 = some (.iload_n 2, 1) := by decide +kernel
theorem mc162_33 : mr_C 162 33 = some (.iconst 0, 1) := by decide +kernel
theorem mc162_34 : mr_C 162 34 = some (.aload_n 0, 1) := by decide +kernel
theorem mc162_35 : mr_C 162 35 = some (.getfield 223, 3) := by decide +kernel
theorem mc162_38 : mr_C 162 38 = some (.iconst 1, 1) := by decide +kernel
theorem mc162_39 : mr_C 162 39 = some (.isub, 1) := by decide +kernel
theorem mc162_40 : mr_C 162 40 = some (.invokestatic 135, 3) := by decide +kernel
theorem mc162_43 : mr_C 162 43 = some (.ifCond .eq (21), 3) := by decide +kernel
theorem mc162_46 : mr_C 162 46 = some (.iload_n 3, 1) := by decide +kernel
theorem mc162_47 : mr_C 162 47 = some (.ifCond .lt (17), 3) := by decide +kernel
theorem mc162_50 : mr_C 162 50 = some (.iload 4, 2) := by decide +kernel
theorem mc162_52 : mr_C 162 52 = some (.iconst 0, 1) := by decide +kernel
theorem mc162_53 : mr_C 162 53 = some (.iconst 1, 1) := by decide +kernel
theorem mc162_54 : mr_C 162 54 = some (.invokestatic 135, 3) := by decide +kernel
theorem mc162_57 : mr_C 162 57 = some (.ifCond .eq (7), 3) := by decide +kernel
theorem mc162_60 : mr_C 162 60 = some (.iconst 0, 1) := by decide +kernel
theorem mc162_61 : mr_C 162 61 = some (.goto 4, 3) := by decide +kernel
theorem mc162_64 : mr_C 162 64 = some (.iconst 2, 1) := by decide +kernel
theorem mc162_65 : mr_C 162 65 = some (.putfield 89, 3) := by decide +kernel
theorem mc162_68 : mr_C 162 68 = some (.aload_n 0, 1) := by decide +kernel
theorem mc162_69 : mr_C 162 69 = some (.getfield 89, 3) := by decide +kernel
theorem mc162_72 : mr_C 162 72 = some (.ifCond .le (5), 3) := by decide +kernel
theorem mc162_75 : mr_C 162 75 = some (.iconst 0, 1) := by decide +kernel
theorem mc162_76 : mr_C 162 76 = some (.ireturn, 1) := by decide +kernel
theorem mc162_77 : mr_C 162 77 = some (.aload_n 0, 1) := by decide +kernel
theorem mc162_78 : mr_C 162 78 = some (.iload_n 2, 1) := by decide +kernel
theorem mc162_79 : mr_C 162 79 = some (.iload_n 3, 1) := by decide +kernel
theorem mc162_80 : mr_C 162 80 = some (.invokevirtual 267, 3) := by decide +kernel
theorem mc162_83 : mr_C 162 83 = some (.aload_n 0, 1) := by decide +kernel
theorem mc162_84 : mr_C 162 84 = some (.iload_n 3, 1) := by decide +kernel
theorem mc162_85 : mr_C 162 85 = some (.aload_n 0, 1) := by decide +kernel
theorem mc162_86 : mr_C 162 86 = some (.getfield 236, 3) := by decide +kernel
theorem mc162_89 : mr_C 162 89 = some (.if_icmp .ge (7), 3) := by decide +kernel
theorem mc162_92 : mr_C 162 92 = some (.iconst 0, 1) := by decide +kernel
theorem mc162_93 : mr_C 162 93 = some (.goto 4, 3) := by decide +kernel
theorem mc162_96 : mr_C 162 96 = some (.iconst 2, 1) := by decide +kernel
theorem mc162_97 : mr_C 162 97 = some (.putfield 89, 3) := by decide +kernel
theorem mc162_100 : mr_C 162 100 = some (.aload_n 0, 1) := by decide +kernel
theorem mc162_101 : mr_C 162 101 = some (.getfield 89, 3) := by decide +kernel
theorem mc162_104 : mr_C 162 104 = some (.ifCond .le (7), 3) := by decide +kernel
theorem mc162_107 : mr_C 162 107 = some (.iconst 0, 1) := by decide +kernel
theorem mc162_108 : mr_C 162 108 = some (.goto 19, 3) := by decide +kernel
theorem mc162_111 : mr_C 162 111 = some (.iload 4, 2) := by decide +kernel
theorem mc162_113 : mr_C 162 113 = some (.ifCond .ne (10), 3) := by decide +kernel
theorem mc162_116 : mr_C 162 116 = some (.aload_n 0, 1) := by decide +kernel
theorem mc162_117 : mr_C 162 117 = some (.getfield 246, 3) := by decide +kernel
theorem mc162_120 : mr_C 162 120 = some (.goto 7, 3) := by decide +kernel
theorem mc162_123 : mr_C 162 123 = some (.aload_n 0, 1) := by decide +kernel
theorem mc162_124 : mr_C 162 124 = some (.getfield 249, 3) := by decide +kernel
theorem mc162_127 : mr_C 162 127 = some (.ireturn, 1) := by decide +kernel
theorem vc162_0 {sc : Nat × (Int → Int)} {Q : mm_R → mm_M → Prop} {M : mm_M} {l1 : Int} {l2 : Int} {l3 : Int} {l4 : Int} (ho : mr_ok M)
    (h : en_CI sc 34 [mm_r 72, mm_i l1] M (fun x1 M2 => mr_ok M2 → mr_rg x1 ∧ ((x1 = 0 → en_R sc 162 14 [mm_r 72, mm_i l1, mm_i l2, mm_i l3, mm_i l4] [mm_i 1, mm_r 72] M2 Q) ∧ (¬ x1 = 0 → en_R sc 162 14 [mm_r 72, mm_i l1, mm_i l2, mm_i l3, mm_i l4] [mm_i 0, mm_r 72] M2 Q))) (fun e M9 => Q (.inr e) M9)) : en_R sc 162 0 [mm_r 72, mm_i l1, mm_i l2, mm_i l3, mm_i l4] [] M Q := by
  refine en_aload_n mc162_0 rfl ?_
  refine en_aload_n mc162_1 rfl ?_
  refine en_iload_n mc162_2 rfl ?_
  refine en_callI (lz := [mm_r 72, mm_i l1]) mv162 mc162_3 rfl rfl (lk_m7_131) mv34 rfl (by decide) rfl (mk_cokV rfl (⟨rfl, by decide⟩ : mt_kd[72]? = some (.inl 7) ∧ 72 < 99)) rfl (mk_nh rfl _) ho ?_
  refine en_CI_mono h (fun x1 M2 h => ?_) (fun _ _ h => h)
  intro ho3
  replace h := h ho3
  obtain ⟨g4, h⟩ := h
  refine en_if_eq 13 mc162_6 (by decide) g4 (fun q => ?_) (fun q => ?_)
  · replace h := h.1 q
    refine en_iconst mc162_13 ?_
    exact h
  · replace h := h.2 q
    refine en_iconst mc162_9 ?_
    refine en_goto 14 mc162_10 (by decide) ?_
    exact h
theorem vc162_14 {sc : Nat × (Int → Int)} {Q : mm_R → mm_M → Prop} {M : mm_M} {l1 : Int} {l2 : Int} {l3 : Int} {l4 : Int} {s1 : Int} (ho : mr_ok M) (hg_s1 : mr_rg s1) (hg_l3 : mr_rg l3)
    (h : (((mm_putN M 72 0 s1).1 72 0) ≤ 0 → en_CV sc 153 [mm_r 72, mm_i l1, mm_u, mm_u, mm_u] (mm_putN M 72 0 s1) (fun M2 => mr_ok M2 → en_CI sc 33 [mm_i l2, mm_i 0, mm_i ((M2.1 72 29) - 1)] M2 (fun x4 M5 => mr_ok M5 → mr_rg x4 ∧ ((x4 = 0 → en_R sc 162 64 [mm_r 72, mm_i l1, mm_i l2, mm_i l3, mm_i l4] [mm_r 72] M5 Q) ∧ (¬ x4 = 0 → (l3 < 0 → en_R sc 162 64 [mm_r 72, mm_i l1, mm_i l2, mm_i l3, mm_i l4] [mm_r 72] M5 Q) ∧ (¬ l3 < 0 → en_CI sc 33 [mm_i l4, mm_i 0, mm_i 1] M5 (fun x8 M9 => mr_ok M9 → mr_rg x8 ∧ ((x8 = 0 → en_R sc 162 64 [mm_r 72, mm_i l1, mm_i l2, mm_i l3, mm_i l4] [mm_r 72] M9 Q) ∧ (¬ x8 = 0 → en_R sc 162 65 [mm_r 72, mm_i l1, mm_i l2, mm_i l3, mm_i l4] [mm_i 0, mm_r 72] M9 Q))) (fun e M9 => Q (.inr e) M9))))) (fun e M9 => Q (.inr e) M9)) (fun e M9 => Q (.inr e) M9)) ∧ (¬ ((mm_putN M 72 0 s1).1 72 0) ≤ 0 → Q (.inl (some (mm_i 0))) (mm_putN M 72 0 s1))) : en_R sc 162 14 [mm_r 72, mm_i l1, mm_i l2, mm_i l3, mm_i l4] [mm_i s1, mm_r 72] M Q := by
  refine en_putI mv162 mc162_14 (lk_f7_89) (⟨rfl, by decide⟩ : mt_kd[72]? = some (.inl 7) ∧ 72 < 99) rfl rfl hg_s1 ?_
  refine en_aload_n mc162_17 rfl ?_
  refine en_getI mv162 mc162_18 (lk_f7_89) (⟨rfl, by decide⟩ : mt_kd[72]? = some (.inl 7) ∧ 72 < 99) (Or.inl rfl) ?_
  refine en_if_le 26 mc162_21 (by decide) ((mr_ok_putI (a := 72) (k := 0) ho hg_s1).2.1 72 0 (by unfold mr_lg; omega)) (fun q => ?_) (fun q => ?_)
  · replace h := h.1 q
    refine en_aload_n mc162_26 rfl ?_
    refine en_iload_n mc162_27 rfl ?_
    refine en_callV (lz := [mm_r 72, mm_i l1, mm_u, mm_u, mm_u]) mv162 mc162_28 rfl rfl (lk_m7_264) mv153 rfl (by decide) rfl (mk_cokV rfl (⟨rfl, by decide⟩ : mt_kd[72]? = some (.inl 7) ∧ 72 < 99)) rfl (mk_nh rfl _) (mr_ok_putI (a := 72) (k := 0) ho hg_s1) ?_
    refine en_CV_mono h (fun M2 h => ?_) (fun _ _ h => h)
    intro ho3
    replace h := h ho3
    refine en_aload_n mc162_31 rfl ?_
    refine en_iload_n mc162_32 rfl ?_
    refine en_iconst mc162_33 ?_
    refine en_aload_n mc162_34 rfl ?_
    refine en_getI mv162 mc162_35 (lk_f7_223) (⟨rfl, by decide⟩ : mt_kd[72]? = some (.inl 7) ∧ 72 < 99) (Or.inl rfl) ?_
    refine en_iconst mc162_38 ?_
    refine en_isub mc162_39 ?_
    refine en_callI (lz := [mm_i l2, mm_i 0, mm_i ((M2.1 72 29) - 1)]) mv162 mc162_40 rfl rfl (lk_m7_135) mv33 rfl (by decide) rfl (mk_cokS rfl) rfl (mk_nh rfl _) ho3 ?_
    refine en_CI_mono h (fun x4 M5 h => ?_) (fun _ _ h => h)
    intro ho6
    replace h := h ho6
    obtain ⟨g7, h⟩ := h
    refine en_if_eq 64 mc162_43 (by decide) g7 (fun q => ?_) (fun q => ?_)
    · replace h := h.1 q
      exact h
    · replace h := h.2 q
      refine en_iload_n mc162_46 rfl ?_
      refine en_if_lt 64 mc162_47 (by decide) hg_l3 (fun q => ?_) (fun q => ?_)
      · replace h := h.1 q
        exact h
      · replace h := h.2 q
        refine en_iload mc162_50 rfl ?_
        refine en_iconst mc162_52 ?_
        refine en_iconst mc162_53 ?_
        refine en_callI (lz := [mm_i l4, mm_i 0, mm_i 1]) mv162 mc162_54 rfl rfl (lk_m7_135) mv33 rfl (by decide) rfl (mk_cokS rfl) rfl (mk_nh rfl _) ho6 ?_
        refine en_CI_mono h (fun x8 M9 h => ?_) (fun _ _ h => h)
        intro ho10
        replace h := h ho10
        obtain ⟨g11, h⟩ := h
        refine en_if_eq 64 mc162_57 (by decide) g11 (fun q => ?_) (fun q => ?_)
        · replace h := h.1 q
          exact h
        · replace h := h.2 q
          refine en_iconst mc162_60 ?_
          refine en_goto 65 mc162_61 (by decide) ?_
          exact h
  · replace h := h.2 q
    refine en_iconst mc162_24 ?_
    exact en_iret mv162 mc162_25 rfl h
theorem vc162_64 {sc : Nat × (Int → Int)} {Q : mm_R → mm_M → Prop} {M : mm_M} {l1 : Int} {l2 : Int} {l3 : Int} {l4 : Int} (ho : mr_ok M)
    (h : en_R sc 162 65 [mm_r 72, mm_i l1, mm_i l2, mm_i l3, mm_i l4] [mm_i 2, mm_r 72] M Q) : en_R sc 162 64 [mm_r 72, mm_i l1, mm_i l2, mm_i l3, mm_i l4] [mm_r 72] M Q := by
  refine en_iconst mc162_64 ?_
  exact h
theorem vc162_65 {sc : Nat × (Int → Int)} {Q : mm_R → mm_M → Prop} {M : mm_M} {l1 : Int} {l2 : Int} {l3 : Int} {l4 : Int} {s1 : Int} (ho : mr_ok M) (hg_s1 : mr_rg s1) (hg_l3 : mr_rg l3)
    (h : (((mm_putN M 72 0 s1).1 72 0) ≤ 0 → en_CV sc 154 [mm_r 72, mm_i l2, mm_i l3, mm_u, mm_u, mm_u, mm_u, mm_u] (mm_putN M 72 0 s1) (fun M2 => mr_ok M2 → ((M2.1 72 34) ≤ l3 → en_R sc 162 97 [mm_r 72, mm_i l1, mm_i l2, mm_i l3, mm_i l4] [mm_i 2, mm_r 72] M2 Q) ∧ (¬ (M2.1 72 34) ≤ l3 → en_R sc 162 97 [mm_r 72, mm_i l1, mm_i l2, mm_i l3, mm_i l4] [mm_i 0, mm_r 72] M2 Q)) (fun e M9 => Q (.inr e) M9)) ∧ (¬ ((mm_putN M 72 0 s1).1 72 0) ≤ 0 → Q (.inl (some (mm_i 0))) (mm_putN M 72 0 s1))) : en_R sc 162 65 [mm_r 72, mm_i l1, mm_i l2, mm_i l3, mm_i l4] [mm_i s1, mm_r 72] M Q := by
  refine en_putI mv162 mc162_65 (lk_f7_89) (⟨rfl, by decide⟩ : mt_kd[72]? = some (.inl 7) ∧ 72 < 99) rfl rfl hg_s1 ?_
  refine en_aload_n mc162_68 rfl ?_
  refine en_getI mv162 mc162_69 (lk_f7_89) (⟨rfl, by decide⟩ : mt_kd[72]? = some (.inl 7) ∧ 72 < 99) (Or.inl rfl) ?_
  refine en_if_le 77 mc162_72 (by decide) ((mr_ok_putI (a := 72) (k := 0) ho hg_s1).2.1 72 0 (by unfold mr_lg; omega)) (fun q => ?_) (fun q => ?_)
  · replace h := h.1 q
    refine en_aload_n mc162_77 rfl ?_
    refine en_iload_n mc162_78 rfl ?_
    refine en_iload_n mc162_79 rfl ?_
    refine en_callV (lz := [mm_r 72, mm_i l2, mm_i l3, mm_u, mm_u, mm_u, mm_u, mm_u]) mv162 mc162_80 rfl rfl (lk_m7_267) mv154 rfl (by decide) rfl (mk_cokV rfl (⟨rfl, by decide⟩ : mt_kd[72]? = some (.inl 7) ∧ 72 < 99)) rfl (mk_nh rfl _) (mr_ok_putI (a := 72) (k := 0) ho hg_s1) ?_
    refine en_CV_mono h (fun M2 h => ?_) (fun _ _ h => h)
    intro ho3
    replace h := h ho3
    refine en_aload_n mc162_83 rfl ?_
    refine en_iload_n mc162_84 rfl ?_
    refine en_aload_n mc162_85 rfl ?_
    refine en_getI mv162 mc162_86 (lk_f7_236) (⟨rfl, by decide⟩ : mt_kd[72]? = some (.inl 7) ∧ 72 < 99) (Or.inl rfl) ?_
    refine en_icmp_ge 96 mc162_89 (by decide) hg_l3 (ho3.2.1 72 34 (by unfold mr_lg; omega)) (fun q => ?_) (fun q => ?_)
    · replace h := h.1 q
      refine en_iconst mc162_96 ?_
      exact h
    · replace h := h.2 q
      refine en_iconst mc162_92 ?_
      refine en_goto 97 mc162_93 (by decide) ?_
      exact h
  · replace h := h.2 q
    refine en_iconst mc162_75 ?_
    exact en_iret mv162 mc162_76 rfl h
theorem vc162_97 {sc : Nat × (Int → Int)} {Q : mm_R → mm_M → Prop} {M : mm_M} {l1 : Int} {l2 : Int} {l3 : Int} {l4 : Int} {s1 : Int} (ho : mr_ok M) (hg_s1 : mr_rg s1) (hg_l4 : mr_rg l4)
    (h : (((mm_putN M 72 0 s1).1 72 0) ≤ 0 → (l4 ≠ 0 → Q (.inl (some (mm_i ((mm_putN M 72 0 s1).1 72 38)))) (mm_putN M 72 0 s1)) ∧ (¬ (l4 ≠ 0) → Q (.inl (some (mm_i ((mm_putN M 72 0 s1).1 72 37)))) (mm_putN M 72 0 s1))) ∧ (¬ ((mm_putN M 72 0 s1).1 72 0) ≤ 0 → Q (.inl (some (mm_i 0))) (mm_putN M 72 0 s1))) : en_R sc 162 97 [mm_r 72, mm_i l1, mm_i l2, mm_i l3, mm_i l4] [mm_i s1, mm_r 72] M Q := by
  refine en_putI mv162 mc162_97 (lk_f7_89) (⟨rfl, by decide⟩ : mt_kd[72]? = some (.inl 7) ∧ 72 < 99) rfl rfl hg_s1 ?_
  refine en_aload_n mc162_100 rfl ?_
  refine en_getI mv162 mc162_101 (lk_f7_89) (⟨rfl, by decide⟩ : mt_kd[72]? = some (.inl 7) ∧ 72 < 99) (Or.inl rfl) ?_
  refine en_if_le 111 mc162_104 (by decide) ((mr_ok_putI (a := 72) (k := 0) ho hg_s1).2.1 72 0 (by unfold mr_lg; omega)) (fun q => ?_) (fun q => ?_)
  · replace h := h.1 q
    refine en_iload mc162_111 rfl ?_
    refine en_if_ne 123 mc162_113 (by decide) hg_l4 (fun q => ?_) (fun q => ?_)
    · replace h := h.1 q
      refine en_aload_n mc162_123 rfl ?_
      refine en_getI mv162 mc162_124 (lk_f7_249) (⟨rfl, by decide⟩ : mt_kd[72]? = some (.inl 7) ∧ 72 < 99) (Or.inl rfl) ?_
      exact en_iret mv162 mc162_127 rfl h
    · replace h := h.2 q
      refine en_aload_n mc162_116 rfl ?_
      refine en_getI mv162 mc162_117 (lk_f7_246) (⟨rfl, by decide⟩ : mt_kd[72]? = some (.inl 7) ∧ 72 < 99) (Or.inl rfl) ?_
      refine en_goto 127 mc162_120 (by decide) ?_
      exact en_iret mv162 mc162_127 rfl h
  · replace h := h.2 q
    refine en_iconst mc162_107 ?_
    refine en_goto 127 mc162_108 (by decide) ?_
    exact en_iret mv162 mc162_127 rfl h
/-! 163: CellAreas$Loops.layInside(LCellAreas$Area;IILCellAreas$Row;)V -/
theorem mc163_0 : mr_C 163 0 = some (.aload_n 1, 1) := by decide +kernel
theorem mc163_1 : mr_C 163 1 = some (.iload_n 3, 1) := by decide +kernel
theorem mc163_2 : mr_C 163 2 = some (.invokevirtual 95, 3) := by decide +kernel
theorem mc163_5 : mr_C 163 5 = some (.istore 5, 2) := by decide +kernel
theorem mc163_7 : mr_C 163 7 = some (.iload 5, 2) := by decide +kernel
theorem mc163_9 : mr_C 163 9 = some (.aload_n 1, 1) := by decide +kernel
theorem mc163_10 : mr_C 163 10 = some (.iload_n 3, 1) := by decide +kernel
theorem mc163_11 : mr_C 163 11 = some (.invokevirtual 98, 3) := by decide +kernel
theorem mc163_14 : mr_C 163 14 = some (.if_icmp .ge (67), 3) := by decide +kernel
theorem mc163_17 : mr_C 163 17 = some (.aload_n 0, 1) := by decide +kernel
theorem mc163_18 : mr_C 163 18 = some (.getfield 18, 3) := by decide +kernel
theorem mc163_21 : mr_C 163 21 = some (.iconst 2, 1) := by decide +kernel
theorem mc163_22 : mr_C 163 22 = some (.iload 5, 2) := by decide +kernel
theorem mc163_24 : mr_C 163 24 = some (.imul, 1) := by decide +kernel
theorem mc163_25 : mr_C 163 25 = some (.iaload, 1) := by decide +kernel
theorem mc163_26 : mr_C 163 26 = some (.iload_n 2, 1) := by decide +kernel
theorem mc163_27 : mr_C 163 27 = some (.if_icmp .ne (18), 3) := by decide +kernel
theorem mc163_30 : mr_C 163 30 = some (.aload 4, 2) := by decide +kernel
theorem mc163_32 : mr_C 163 32 = some (.aload_n 1, 1) := by decide +kernel
theorem mc163_33 : mr_C 163 33 = some (.getfield 86, 3) := by decide +kernel
theorem mc163_36 : mr_C 163 36 = some (.iload 5, 2) := by decide +kernel
theorem mc163_38 : mr_C 163 38 = some (.iaload, 1) := by decide +kernel
theorem mc163_39 : mr_C 163 39 = some (.sipush 1000, 3) := by decide +kernel
theorem mc163_42 : mr_C 163 42 = some (.invokevirtual 123, 3) := by decide +kernel
theorem mc163_45 : mr_C 163 45 = some (.aload_n 0, 1) := by decide +kernel
theorem mc163_46 : mr_C 163 46 = some (.getfield 18, 3) := by decide +kernel
theorem mc163_49 : mr_C 163 49 = some (.iconst 2, 1) := by decide +kernel
theorem mc163_50 : mr_C 163 50 = some (.iload 5, 2) := by decide +kernel
theorem mc163_52 : mr_C 163 52 = some (.imul, 1) := by decide +kernel
theorem mc163_53 : mr_C 163 53 = some (.iconst 1, 1) := by decide +kernel
theorem mc163_54 : mr_C 163 54 = some (.iadd, 1) := by decide +kernel
theorem mc163_55 : mr_C 163 55 = some (.iaload, 1) := by decide +kernel
theorem mc163_56 : mr_C 163 56 = some (.iload_n 2, 1) := by decide +kernel
theorem mc163_57 : mr_C 163 57 = some (.if_icmp .ne (18), 3) := by decide +kernel
theorem mc163_60 : mr_C 163 60 = some (.aload 4, 2) := by decide +kernel
theorem mc163_62 : mr_C 163 62 = some (.aload_n 1, 1) := by decide +kernel
theorem mc163_63 : mr_C 163 63 = some (.getfield 48, 3) := by decide +kernel
theorem mc163_66 : mr_C 163 66 = some (.iload 5, 2) := by decide +kernel
theorem mc163_68 : mr_C 163 68 = some (.iaload, 1) := by decide +kernel
theorem mc163_69 : mr_C 163 69 = some (.sipush 1000, 3) := by decide +kernel
theorem mc163_72 : mr_C 163 72 = some (.invokevirtual 123, 3) := by decide +kernel
theorem mc163_75 : mr_C 163 75 = some (.iinc 5 (1), 3) := by decide +kernel
theorem mc163_78 : mr_C 163 78 = some (.goto (-71), 3) := by decide +kernel
theorem mc163_81 : mr_C 163 81 = some (.return_, 1) := by decide +kernel
theorem vc163_0 {sc : Nat × (Int → Int)} {Q : mm_R → mm_M → Prop} {M : mm_M} {l1 : Nat} {l2 : Int} {l3 : Int} {l4 : Nat} (ho : mr_ok M) (hA_l1 : mr_A l1)
    (h : en_CI sc 50 [mm_r l1, mm_i l3] M (fun x1 M2 => mr_ok M2 → en_R sc 163 7 [mm_r 17, mm_r l1, mm_i l2, mm_i l3, mm_r l4, mm_i x1] [] M2 Q) (fun e M9 => Q (.inr e) M9)) : en_R sc 163 0 [mm_r 17, mm_r l1, mm_i l2, mm_i l3, mm_r l4, mm_u] [] M Q := by
  refine en_aload_n mc163_0 rfl ?_
  refine en_iload_n mc163_1 rfl ?_
  refine en_callI (lz := [mm_r l1, mm_i l3]) mv163 mc163_2 rfl rfl (lk_m3_95) mv50 rfl (by decide) rfl (mk_cokV rfl (mk_A0 hA_l1)) rfl (mk_nh rfl _) ho ?_
  refine en_CI_mono h (fun x1 M2 h => ?_) (fun _ _ h => h)
  intro ho3
  replace h := h ho3
  refine en_istore (ls' := [mm_r 17, mm_r l1, mm_i l2, mm_i l3, mm_r l4, mm_i x1]) mc163_5 (Nat.le_of_ble_eq_true rfl) rfl ?_
  exact h
theorem vc163_7 {sc : Nat × (Int → Int)} {Q : mm_R → mm_M → Prop} {M : mm_M} {l1 : Nat} {l2 : Int} {l3 : Int} {l4 : Nat} {l5 : Int} (ho : mr_ok M) (hA_l1 : mr_A l1) (hg_l5 : mr_rg l5) (hg_l2 : mr_rg l2) (hR_l4 : mr_Rw l4)
    (h : en_CI sc 51 [mm_r l1, mm_i l3] M (fun x1 M2 => mr_ok M2 → mr_rg x1 ∧ ((x1 ≤ l5 → Q (.inl none) M2) ∧ (¬ x1 ≤ l5 → 0 ≤ (2 * l5) ∧ ((2 * l5) < 800 ∧ (((M2.1 18 (2 * l5)) ≠ l2 → en_R sc 163 45 [mm_r 17, mm_r l1, mm_i l2, mm_i l3, mm_r l4, mm_i l5] [] M2 Q) ∧ (¬ ((M2.1 18 (2 * l5)) ≠ l2) → 0 ≤ l5 ∧ (l5 < 400 ∧ (en_CV sc 67 [mm_r l4, mm_i (M2.1 (l1 + 4) l5), mm_i 1000] M2 (fun M10 => mr_ok M10 → en_R sc 163 45 [mm_r 17, mm_r l1, mm_i l2, mm_i l3, mm_r l4, mm_i l5] [] M10 Q) (fun e M9 => Q (.inr e) M9))))))))) (fun e M9 => Q (.inr e) M9)) : en_R sc 163 7 [mm_r 17, mm_r l1, mm_i l2, mm_i l3, mm_r l4, mm_i l5] [] M Q := by
  refine en_iload mc163_7 rfl ?_
  refine en_aload_n mc163_9 rfl ?_
  refine en_iload_n mc163_10 rfl ?_
  refine en_callI (lz := [mm_r l1, mm_i l3]) mv163 mc163_11 rfl rfl (lk_m3_98) mv51 rfl (by decide) rfl (mk_cokV rfl (mk_A0 hA_l1)) rfl (mk_nh rfl _) ho ?_
  refine en_CI_mono h (fun x1 M2 h => ?_) (fun _ _ h => h)
  intro ho3
  replace h := h ho3
  obtain ⟨g4, h⟩ := h
  refine en_icmp_ge 81 mc163_14 (by decide) hg_l5 g4 (fun q => ?_) (fun q => ?_)
  · replace h := h.1 q
    exact en_vret mv163 mc163_81 rfl h
  · replace h := h.2 q
    obtain ⟨g5, h⟩ := h
    obtain ⟨g6, h⟩ := h
    refine en_aload_n mc163_17 rfl ?_
    refine en_getR (b := 18) mv163 mc163_18 (lk_f3_18) (⟨rfl, by decide⟩ : mt_kd[17]? = some (.inl 3) ∧ 17 < 99) rfl (mk_fc ho3 (by decide +kernel)) ?_
    refine en_iconst mc163_21 ?_
    refine en_iload mc163_22 rfl ?_
    refine en_imul mc163_24 ?_
    refine en_iald mc163_25 (⟨rfl, by decide, by decide⟩ : mt_kd[18]? = some (.inr (.int, 800)) ∧ 18 < 99 ∧ 800 < 2147483648) g5 g6 ?_
    refine en_iload_n mc163_26 rfl ?_
    refine en_icmp_ne 45 mc163_27 (by decide) (ho3.2.1 18 (2 * l5) (by unfold mr_lg; omega)) hg_l2 (fun q => ?_) (fun q => ?_)
    · replace h := h.1 q
      exact h
    · replace h := h.2 q
      obtain ⟨g7, h⟩ := h
      obtain ⟨g8, h⟩ := h
      refine en_aload mc163_30 rfl ?_
      refine en_aload_n mc163_32 rfl ?_
      refine en_getR (b := (l1 + 4)) mv163 mc163_33 (lk_f3_86) (mk_A0 hA_l1) rfl (mk_fA4 hA_l1 ho3) ?_
      refine en_iload mc163_36 rfl ?_
      refine en_iald mc163_38 (mk_A4 hA_l1) g7 g8 ?_
      refine en_sipush mc163_39 (by decide) ?_
      refine en_callV (lz := [mm_r l4, mm_i (M2.1 (l1 + 4) l5), mm_i 1000]) mv163 mc163_42 rfl rfl (lk_m3_123) mv67 rfl (by decide) rfl (mk_cokV rfl (mk_R0 hR_l4)) rfl (mk_nh rfl _) ho3 ?_
      refine en_CV_mono h (fun M10 h => ?_) (fun _ _ h => h)
      intro ho11
      replace h := h ho11
      exact h
theorem vc163_45 {sc : Nat × (Int → Int)} {Q : mm_R → mm_M → Prop} {M : mm_M} {l1 : Nat} {l2 : Int} {l3 : Int} {l4 : Nat} {l5 : Int} (ho : mr_ok M) (hg_l2 : mr_rg l2) (hA_l1 : mr_A l1) (hR_l4 : mr_Rw l4)
    (h : 0 ≤ ((2 * l5) + 1) ∧ (((2 * l5) + 1) < 800 ∧ (((M.1 18 ((2 * l5) + 1)) ≠ l2 → en_R sc 163 7 [mm_r 17, mm_r l1, mm_i l2, mm_i l3, mm_r l4, mm_i (l5 + 1)] [] M Q) ∧ (¬ ((M.1 18 ((2 * l5) + 1)) ≠ l2) → 0 ≤ l5 ∧ (l5 < 400 ∧ (en_CV sc 67 [mm_r l4, mm_i (M.1 (l1 + 5) l5), mm_i 1000] M (fun M6 => mr_ok M6 → en_R sc 163 7 [mm_r 17, mm_r l1, mm_i l2, mm_i l3, mm_r l4, mm_i (l5 + 1)] [] M6 Q) (fun e M9 => Q (.inr e) M9))))))) : en_R sc 163 45 [mm_r 17, mm_r l1, mm_i l2, mm_i l3, mm_r l4, mm_i l5] [] M Q := by
  obtain ⟨g1, h⟩ := h
  obtain ⟨g2, h⟩ := h
  refine en_aload_n mc163_45 rfl ?_
  refine en_getR (b := 18) mv163 mc163_46 (lk_f3_18) (⟨rfl, by decide⟩ : mt_kd[17]? = some (.inl 3) ∧ 17 < 99) rfl (mk_fc ho (by decide +kernel)) ?_
  refine en_iconst mc163_49 ?_
  refine en_iload mc163_50 rfl ?_
  refine en_imul mc163_52 ?_
  refine en_iconst mc163_53 ?_
  refine en_iadd mc163_54 ?_
  refine en_iald mc163_55 (⟨rfl, by decide, by decide⟩ : mt_kd[18]? = some (.inr (.int, 800)) ∧ 18 < 99 ∧ 800 < 2147483648) g1 g2 ?_
  refine en_iload_n mc163_56 rfl ?_
  refine en_icmp_ne 75 mc163_57 (by decide) (ho.2.1 18 ((2 * l5) + 1) (by unfold mr_lg; omega)) hg_l2 (fun q => ?_) (fun q => ?_)
  · replace h := h.1 q
    refine en_iinc (ls' := [mm_r 17, mm_r l1, mm_i l2, mm_i l3, mm_r l4, mm_i (l5 + 1)]) mc163_75 rfl rfl ?_
    refine en_goto 7 mc163_78 (by decide) ?_
    exact h
  · replace h := h.2 q
    obtain ⟨g3, h⟩ := h
    obtain ⟨g4, h⟩ := h
    refine en_aload mc163_60 rfl ?_
    refine en_aload_n mc163_62 rfl ?_
    refine en_getR (b := (l1 + 5)) mv163 mc163_63 (lk_f3_48) (mk_A0 hA_l1) rfl (mk_fA5 hA_l1 ho) ?_
    refine en_iload mc163_66 rfl ?_
    refine en_iald mc163_68 (mk_A5 hA_l1) g3 g4 ?_
    refine en_sipush mc163_69 (by decide) ?_
    refine en_callV (lz := [mm_r l4, mm_i (M.1 (l1 + 5) l5), mm_i 1000]) mv163 mc163_72 rfl rfl (lk_m3_123) mv67 rfl (by decide) rfl (mk_cokV rfl (mk_R0 hR_l4)) rfl (mk_nh rfl _) ho ?_
    refine en_CV_mono h (fun M6 h => ?_) (fun _ _ h => h)
    intro ho7
    replace h := h ho7
    refine en_iinc (ls' := [mm_r 17, mm_r l1, mm_i l2, mm_i l3, mm_r l4, mm_i (l5 + 1)]) mc163_75 rfl rfl ?_
    refine en_goto 7 mc163_78 (by decide) ?_
    exact h
/-! 164: CellAreas.inner(III)I -/
theorem mc164_0 : mr_C 164 0 = some (.iload_n 1, 1) := by decide +kernel
theorem mc164_1 : mr_C 164 1 = some (.invokestatic 61, 3) := by decide +kernel
theorem mc164_4 : mr_C 164 4 = some (.iload_n 2, 1) := by decide +kernel
theorem mc164_5 : mr_C 164 5 = some (.invokestatic 61, 3) := by decide +kernel
theorem mc164_8 : mr_C 164 8 = some (.aload_n 0, 1) := by decide +kernel
theorem mc164_9 : mr_C 164 9 = some (.iload_n 2, 1) := by decide +kernel
theorem mc164_10 : mr_C 164 10 = some (.invokevirtual 171, 3) := by decide +kernel
theorem mc164_13 : mr_C 164 13 = some (.astore 4, 2) := by decide +kernel
theorem mc164_15 : mr_C 164 15 = some (.iload_n 3, 1) := by decide +kernel
theorem mc164_16 : mr_C 164 16 = some (.iconst 0, 1) := by decide +kernel
theorem mc164_17 : mr_C 164 17 = some (.aload 4, 2) := by decide +kernel
theorem mc164_19 : mr_C 164 19 = some (.getfield 178, 3) := by decide +kernel
theorem mc164_22 : mr_C 164 22 = some (.iconst 1, 1) := by decide +kernel
theorem mc164_23 : mr_C 164 23 = some (.isub, 1) := by decide +kernel
theorem mc164_24 : mr_C 164 24 = some (.invokestatic 65, 3) := by decide +kernel
theorem mc164_27 : mr_C 164 27 = some (.aload_n 0, 1) := by decide +kernel
theorem mc164_28 : mr_C 164 28 = some (.getfield 11, 3) := by decide +kernel
theorem mc164_31 : mr_C 164 31 = some (.iload_n 2, 1) := by decide +kernel
theorem mc164_32 : mr_C 164 32 = some (.aaload, 1) := by decide +kernel
theorem mc164_33 : mr_C 164 33 = some (.astore 5, 2) := by decide +kernel
theorem mc164_35 : mr_C 164 35 = some (.aload_n 0, 1) := by decide +kernel
theorem mc164_36 : mr_C 164 36 = some (.getfield 18, 3) := by decide +kernel
theorem mc164_39 : mr_C 164 39 = some (.invokevirtual 76, 3) := by decide +kernel
theorem mc164_42 : mr_C 164 42 = some (.iconst 0, 1) := by decide +kernel
theorem mc164_43 : mr_C 164 43 = some (.istore 6, 2) := by decide +kernel
theorem mc164_45 : mr_C 164 45 = some (.iload 6, 2) := by decide +kernel
theorem mc164_47 : mr_C 164 47 = some (.aload 5, 2) := by decide +kernel
theorem mc164_49 : mr_C 164 49 = some (.getfield 118, 3) := by decide +kernel
theorem mc164_52 : mr_C 164 52 = some (.if_icmp .ge (57), 3) := by decide +kernel
theorem mc164_55 : mr_C 164 55 = some (.aload_n 0, 1) := by decide +kernel
theorem mc164_56 : mr_C 164 56 = some (.getfield 25, 3) := by decide +kernel
theorem mc164_59 : mr_C 164 59 = some (.invokevirtual 69, 3) := by decide +kernel
theorem mc164_62 : mr_C 164 62 = some (.aload 4, 2) := by decide +kernel
theorem mc164_64 : mr_C 164 64 = some (.aload 5, 2) := by decide +kernel
theorem mc164_66 : mr_C 164 66 = some (.iload_n 3, 1) := by decide +kernel
theorem mc164_67 : mr_C 164 67 = some (.iload 6, 2) := by decide +kernel
theorem mc164_69 : mr_C 164 69 = some (.aload_n 0, 1) := by decide +kernel
theorem mc164_70 : mr_C 164 70 = some (.getfield 25, 3) := by decide +kernel
theorem mc164_73 : mr_C 164 73 = some (.invokevirtual 209, 3) := by decide +kernel
theorem mc164_76 : mr_C 164 76 = some (.aload_n 0, 1) := by decide +kernel
theorem mc164_77 : mr_C 164 77 = some (.getfield 18, 3) := by decide +kernel
theorem mc164_80 : mr_C 164 80 = some (.aload 5, 2) := by decide +kernel
theorem mc164_82 : mr_C 164 82 = some (.getfield 125, 3) := by decide +kernel
theorem mc164_85 : mr_C 164 85 = some (.iload 6, 2) := by decide +kernel
theorem mc164_87 : mr_C 164 87 = some (.iaload, 1) := by decide +kernel
theorem mc164_88 : mr_C 164 88 = some (.aload 5, 2) := by decide +kernel
theorem mc164_90 : mr_C 164 90 = some (.getfield 129, 3) := by decide +kernel
theorem mc164_93 : mr_C 164 93 = some (.iload 6, 2) := by decide +kernel
theorem mc164_95 : mr_C 164 95 = some (.iaload, 1) := by decide +kernel
theorem mc164_96 : mr_C 164 96 = some (.aload_n 0, 1) := by decide +kernel
theorem mc164_97 : mr_C 164 97 = some (.getfield 25, 3) := by decide +kernel
theorem mc164_100 : mr_C 164 100 = some (.invokevirtual 79, 3) := by decide +kernel
theorem mc164_103 : mr_C 164 103 = some (.iinc 6 (1), 3) := by decide +kernel
theorem mc164_106 : mr_C 164 106 = some (.goto (-61), 3) := by decide +kernel
theorem mc164_109 : mr_C 164 109 = some (.aload_n 0, 1) := by decide +kernel
theorem mc164_110 : mr_C 164 110 = some (.iload_n 1, 1) := by decide +kernel
theorem mc164_111 : mr_C 164 111 = some (.invokevirtual 83, 3) := by decide +kernel
theorem mc164_114 : mr_C 164 114 = some (.ireturn, 1) := by decide +kernel
theorem vc164_0 {sc : Nat × (Int → Int)} {Q : mm_R → mm_M → Prop} {M : mm_M} {l1 : Int} {l2 : Int} {l3 : Int} (ho : mr_ok M)
    (h : en_CV sc 9 [mm_i l1] M (fun M2 => mr_ok M2 → en_CV sc 9 [mm_i l2] M2 (fun M5 => mr_ok M5 → en_CR sc 126 [mm_r 0, mm_i l2] M5 (fun x7 M8 => x7 = 17 ∧ (mr_ok M8 → en_CV sc 10 [mm_i l3, mm_i 0, mm_i ((M8.1 17 0) - 1)] M8 (fun M11 => mr_ok M11 → 0 ≤ l2 ∧ (l2 < 8 ∧ (∃ b15, M11.2.1 1 l2 = some b15 ∧ mr_A b15 ∧ (en_CV sc 18 [mm_r 2] M11 (fun M18 => mr_ok M18 → en_R sc 164 45 [mm_r 0, mm_i l1, mm_i l2, mm_i l3, mm_r 17, mm_r b15, mm_i 0] [] M18 Q) (fun e M9 => Q (.inr e) M9))))) (fun e M9 => Q (.inr e) M9))) (fun e M9 => Q (.inr e) M9)) (fun e M9 => Q (.inr e) M9)) (fun e M9 => Q (.inr e) M9)) : en_R sc 164 0 [mm_r 0, mm_i l1, mm_i l2, mm_i l3, mm_u, mm_u, mm_u] [] M Q := by
  refine en_iload_n mc164_0 rfl ?_
  refine en_callV (lz := [mm_i l1]) mv164 mc164_1 rfl rfl (lk_m6_61) mv9 rfl (by decide) rfl (mk_cokS rfl) rfl (mk_nh rfl _) ho ?_
  refine en_CV_mono h (fun M2 h => ?_) (fun _ _ h => h)
  intro ho3
  replace h := h ho3
  refine en_iload_n mc164_4 rfl ?_
  refine en_callV (lz := [mm_i l2]) mv164 mc164_5 rfl rfl (lk_m6_61) mv9 rfl (by decide) rfl (mk_cokS rfl) rfl (mk_nh rfl _) ho3 ?_
  refine en_CV_mono h (fun M5 h => ?_) (fun _ _ h => h)
  intro ho6
  replace h := h ho6
  refine en_aload_n mc164_8 rfl ?_
  refine en_iload_n mc164_9 rfl ?_
  refine en_callR (lz := [mm_r 0, mm_i l2]) mv164 mc164_10 rfl rfl (lk_m6_171) mv126 rfl (by decide) rfl (mk_cokV rfl (⟨rfl, by decide⟩ : mt_kd[0]? = some (.inl 6) ∧ 0 < 99)) rfl (mk_nh rfl _) ho6 ?_
  refine en_CR_mono h (fun x7 M8 h => ?_) (fun _ _ h => h)
  obtain ⟨rfl, h⟩ := h
  intro ho9
  replace h := h ho9
  refine en_astore (ls' := [mm_r 0, mm_i l1, mm_i l2, mm_i l3, mm_r 17, mm_u, mm_u]) mc164_13 (Nat.le_of_ble_eq_true rfl) rfl ?_
  refine en_iload_n mc164_15 rfl ?_
  refine en_iconst mc164_16 ?_
  refine en_aload mc164_17 rfl ?_
  refine en_getI mv164 mc164_19 (lk_f6_178) (⟨rfl, by decide⟩ : mt_kd[17]? = some (.inl 3) ∧ 17 < 99) (Or.inl rfl) ?_
  refine en_iconst mc164_22 ?_
  refine en_isub mc164_23 ?_
  refine en_callV (lz := [mm_i l3, mm_i 0, mm_i ((M8.1 17 0) - 1)]) mv164 mc164_24 rfl rfl (lk_m6_65) mv10 rfl (by decide) rfl (mk_cokS rfl) rfl (mk_nh rfl _) ho9 ?_
  refine en_CV_mono h (fun M11 h => ?_) (fun _ _ h => h)
  intro ho12
  replace h := h ho12
  obtain ⟨g13, h⟩ := h
  obtain ⟨g14, h⟩ := h
  refine en_aload_n mc164_27 rfl ?_
  refine en_getR (b := 1) mv164 mc164_28 (lk_f6_11) (⟨rfl, by decide⟩ : mt_kd[0]? = some (.inl 6) ∧ 0 < 99) rfl (mk_fc ho12 (by decide +kernel)) ?_
  refine en_iload_n mc164_31 rfl ?_
  obtain ⟨b15, g16, hA_b15_, h⟩ := h
  refine en_aald mc164_32 g13 g14 g16 ?_
  refine en_astore (ls' := [mm_r 0, mm_i l1, mm_i l2, mm_i l3, mm_r 17, mm_r b15, mm_u]) mc164_33 (Nat.le_of_ble_eq_true rfl) rfl ?_
  refine en_aload_n mc164_35 rfl ?_
  refine en_getR (b := 2) mv164 mc164_36 (lk_f6_18) (⟨rfl, by decide⟩ : mt_kd[0]? = some (.inl 6) ∧ 0 < 99) rfl (mk_fc ho12 (by decide +kernel)) ?_
  refine en_callV (lz := [mm_r 2]) mv164 mc164_39 rfl rfl (lk_m6_76) mv18 rfl (by decide) rfl (mk_cokV rfl (⟨rfl, by decide⟩ : mt_kd[2]? = some (.inl 2) ∧ 2 < 99)) rfl (mk_nh rfl _) ho12 ?_
  refine en_CV_mono h (fun M18 h => ?_) (fun _ _ h => h)
  intro ho19
  replace h := h ho19
  refine en_iconst mc164_42 ?_
  refine en_istore (ls' := [mm_r 0, mm_i l1, mm_i l2, mm_i l3, mm_r 17, mm_r b15, mm_i 0]) mc164_43 (Nat.le_of_ble_eq_true rfl) rfl ?_
  exact h
theorem vc164_45 {sc : Nat × (Int → Int)} {Q : mm_R → mm_M → Prop} {M : mm_M} {l1 : Int} {l2 : Int} {l3 : Int} {l5 : Nat} {l6 : Int} (ho : mr_ok M) (hA_l5 : mr_A l5) (hg_l6 : mr_rg l6)
    (h : ((M.1 l5 0) ≤ l6 → en_CI sc 30 [mm_r 0, mm_i l1, mm_u] M (fun x1 M2 => mr_ok M2 → Q (.inl (some (mm_i x1))) M2) (fun e M9 => Q (.inr e) M9)) ∧ (¬ (M.1 l5 0) ≤ l6 → en_CV sc 12 [mm_r 11] M (fun M5 => mr_ok M5 → en_CV sc 163 [mm_r 17, mm_r l5, mm_i l3, mm_i l6, mm_r 11, mm_u] M5 (fun M8 => mr_ok M8 → 0 ≤ l6 ∧ (l6 < 100 ∧ (0 ≤ l6 ∧ (l6 < 100 ∧ (en_CV sc 29 [mm_r 2, mm_i (M8.1 (l5 + 1) l6), mm_i (M8.1 (l5 + 2) l6), mm_r 11, mm_u] M8 (fun M15 => mr_ok M15 → en_R sc 164 45 [mm_r 0, mm_i l1, mm_i l2, mm_i l3, mm_r 17, mm_r l5, mm_i (l6 + 1)] [] M15 Q) (fun e M9 => Q (.inr e) M9)))))) (fun e M9 => Q (.inr e) M9)) (fun e M9 => Q (.inr e) M9))) : en_R sc 164 45 [mm_r 0, mm_i l1, mm_i l2, mm_i l3, mm_r 17, mm_r l5, mm_i l6] [] M Q := by
  refine en_iload mc164_45 rfl ?_
  refine en_aload mc164_47 rfl ?_
  refine en_getI mv164 mc164_49 (lk_f6_118) (mk_A0 hA_l5) (Or.inl rfl) ?_
  refine en_icmp_ge 109 mc164_52 (by decide) hg_l6 (ho.2.1 l5 0 (mk_nA0 hA_l5 _)) (fun q => ?_) (fun q => ?_)
  · replace h := h.1 q
    refine en_aload_n mc164_109 rfl ?_
    refine en_iload_n mc164_110 rfl ?_
    refine en_callI (lz := [mm_r 0, mm_i l1, mm_u]) mv164 mc164_111 rfl rfl (lk_m6_83) mv30 rfl (by decide) rfl (mk_cokV rfl (⟨rfl, by decide⟩ : mt_kd[0]? = some (.inl 6) ∧ 0 < 99)) rfl (mk_nh rfl _) ho ?_
    refine en_CI_mono h (fun x1 M2 h => ?_) (fun _ _ h => h)
    intro ho3
    replace h := h ho3
    exact en_iret mv164 mc164_114 rfl h
  · replace h := h.2 q
    refine en_aload_n mc164_55 rfl ?_
    refine en_getR (b := 11) mv164 mc164_56 (lk_f6_25) (⟨rfl, by decide⟩ : mt_kd[0]? = some (.inl 6) ∧ 0 < 99) rfl (mk_fc ho (by decide +kernel)) ?_
    refine en_callV (lz := [mm_r 11]) mv164 mc164_59 rfl rfl (lk_m6_69) mv12 rfl (by decide) rfl (mk_cokV rfl (mk_R0 (by unfold mr_Rw; decide : mr_Rw 11))) rfl (mk_nh rfl _) ho ?_
    refine en_CV_mono h (fun M5 h => ?_) (fun _ _ h => h)
    intro ho6
    replace h := h ho6
    refine en_aload mc164_62 rfl ?_
    refine en_aload mc164_64 rfl ?_
    refine en_iload_n mc164_66 rfl ?_
    refine en_iload mc164_67 rfl ?_
    refine en_aload_n mc164_69 rfl ?_
    refine en_getR (b := 11) mv164 mc164_70 (lk_f6_25) (⟨rfl, by decide⟩ : mt_kd[0]? = some (.inl 6) ∧ 0 < 99) rfl (mk_fc ho6 (by decide +kernel)) ?_
    refine en_callV (lz := [mm_r 17, mm_r l5, mm_i l3, mm_i l6, mm_r 11, mm_u]) mv164 mc164_73 rfl rfl (lk_m6_209) mv163 rfl (by decide) rfl (mk_cokV rfl (⟨rfl, by decide⟩ : mt_kd[17]? = some (.inl 3) ∧ 17 < 99)) rfl (mk_nh rfl _) ho6 ?_
    refine en_CV_mono h (fun M8 h => ?_) (fun _ _ h => h)
    intro ho9
    replace h := h ho9
    obtain ⟨g10, h⟩ := h
    obtain ⟨g11, h⟩ := h
    obtain ⟨g12, h⟩ := h
    obtain ⟨g13, h⟩ := h
    refine en_aload_n mc164_76 rfl ?_
    refine en_getR (b := 2) mv164 mc164_77 (lk_f6_18) (⟨rfl, by decide⟩ : mt_kd[0]? = some (.inl 6) ∧ 0 < 99) rfl (mk_fc ho9 (by decide +kernel)) ?_
    refine en_aload mc164_80 rfl ?_
    refine en_getR (b := (l5 + 1)) mv164 mc164_82 (lk_f6_125) (mk_A0 hA_l5) rfl (mk_fA1 hA_l5 ho9) ?_
    refine en_iload mc164_85 rfl ?_
    refine en_iald mc164_87 (mk_A1 hA_l5) g10 g11 ?_
    refine en_aload mc164_88 rfl ?_
    refine en_getR (b := (l5 + 2)) mv164 mc164_90 (lk_f6_129) (mk_A0 hA_l5) rfl (mk_fA2 hA_l5 ho9) ?_
    refine en_iload mc164_93 rfl ?_
    refine en_iald mc164_95 (mk_A2 hA_l5) g12 g13 ?_
    refine en_aload_n mc164_96 rfl ?_
    refine en_getR (b := 11) mv164 mc164_97 (lk_f6_25) (⟨rfl, by decide⟩ : mt_kd[0]? = some (.inl 6) ∧ 0 < 99) rfl (mk_fc ho9 (by decide +kernel)) ?_
    refine en_callV (lz := [mm_r 2, mm_i (M8.1 (l5 + 1) l6), mm_i (M8.1 (l5 + 2) l6), mm_r 11, mm_u]) mv164 mc164_100 rfl rfl (lk_m6_79) mv29 rfl (by decide) rfl (mk_cokV rfl (⟨rfl, by decide⟩ : mt_kd[2]? = some (.inl 2) ∧ 2 < 99)) rfl (mk_nh rfl _) ho9 ?_
    refine en_CV_mono h (fun M15 h => ?_) (fun _ _ h => h)
    intro ho16
    replace h := h ho16
    refine en_iinc (ls' := [mm_r 0, mm_i l1, mm_i l2, mm_i l3, mm_r 17, mm_r l5, mm_i (l6 + 1)]) mc164_103 rfl rfl ?_
    refine en_goto 45 mc164_106 (by decide) ?_
    exact h
/-! 166: CellAreasModel.inner(III)I -/
theorem mc166_0 : mr_C 166 0 = some (.aload_n 0, 1) := by decide +kernel
theorem mc166_1 : mr_C 166 1 = some (.iload_n 1, 1) := by decide +kernel
theorem mc166_2 : mr_C 166 2 = some (.iload_n 2, 1) := by decide +kernel
theorem mc166_3 : mr_C 166 3 = some (.invokevirtual 167, 3) := by decide +kernel
theorem mc166_6 : mr_C 166 6 = some (.ifCond .ne (5), 3) := by decide +kernel
theorem mc166_9 : mr_C 166 9 = some (.iconst 0, 1) := by decide +kernel
theorem mc166_10 : mr_C 166 10 = some (.ireturn, 1) := by decide +kernel
theorem mc166_11 : mr_C 166 11 = some (.aload_n 0, 1) := by decide +kernel
theorem mc166_12 : mr_C 166 12 = some (.iload_n 2, 1) := by decide +kernel
theorem mc166_13 : mr_C 166 13 = some (.invokevirtual 264, 3) := by decide +kernel
theorem mc166_16 : mr_C 166 16 = some (.aload_n 0, 1) := by decide +kernel
theorem mc166_17 : mr_C 166 17 = some (.iload_n 3, 1) := by decide +kernel
theorem mc166_18 : mr_C 166 18 = some (.iconst 0, 1) := by decide +kernel
theorem mc166_19 : mr_C 166 19 = some (.aload_n 0, 1) := by decide +kernel
theorem mc166_20 : mr_C 166 20 = some (.getfield 223, 3) := by decide +kernel
theorem mc166_23 : mr_C 166 23 = some (.iconst 1, 1) := by decide +kernel
theorem mc166_24 : mr_C 166 24 = some (.isub, 1) := by decide +kernel
theorem mc166_25 : mr_C 166 25 = some (.invokestatic 135, 3) := by decide +kernel
theorem mc166_28 : mr_C 166 28 = some (.ifCond .eq (7), 3) := by decide +kernel
theorem mc166_31 : mr_C 166 31 = some (.iconst 0, 1) := by decide +kernel
theorem mc166_32 : mr_C 166 32 = some (.goto 4, 3) := by decide +kernel
theorem mc166_35 : mr_C 166 35 = some (.iconst 2, 1) := by decide +kernel
theorem mc166_36 : mr_C 166 36 = some (.putfield 89, 3) := by decide +kernel
theorem mc166_39 : mr_C 166 39 = some (.aload_n 0, 1) := by decide +kernel
theorem mc166_40 : mr_C 166 40 = some (.getfield 89, 3) := by decide +kernel
theorem mc166_43 : mr_C 166 43 = some (.ifCond .le (5), 3) := by decide +kernel
theorem mc166_46 : mr_C 166 46 = some (.iconst 0, 1) := by decide +kernel
theorem mc166_47 : mr_C 166 47 = some (.ireturn, 1) := by decide +kernel
theorem mc166_48 : mr_C 166 48 = some (.iconst 0, 1) := by decide +kernel
theorem mc166_49 : mr_C 166 49 = some (.istore 4, 2) := by decide +kernel
theorem mc166_51 : mr_C 166 51 = some (.iload 4, 2) := by decide +kernel
theorem mc166_53 : mr_C 166 53 = some (.aload_n 0, 1) := by decide +kernel
theorem mc166_54 : mr_C 166 54 = some (.getfield 199, 3) := by decide +kernel
theorem mc166_57 : mr_C 166 57 = some (.iconst 1, 1) := by decide +kernel
theorem mc166_58 : mr_C 166 58 = some (.iadd, 1) := by decide +kernel
theorem mc166_59 : mr_C 166 59 = some (.aload_n 0, 1) := by decide +kernel
theorem mc166_60 : mr_C 166 60 = some (.getfield 202, 3) := by decide +kernel
theorem mc166_63 : mr_C 166 63 = some (.iconst 1, 1) := by decide +kernel
theorem mc166_64 : mr_C 166 64 = some (.iadd, 1) := by decide +kernel
theorem mc166_65 : mr_C 166 65 = some (.imul, 1) := by decide +kernel
theorem mc166_66 : mr_C 166 66 = some (.if_icmp .ge (17), 3) := by decide +kernel
theorem mc166_69 : mr_C 166 69 = some (.aload_n 0, 1) := by decide +kernel
theorem mc166_70 : mr_C 166 70 = some (.getfield 76, 3) := by decide +kernel
theorem mc166_73 : mr_C 166 73 = some (.iload 4, 2) := by decide +kernel
theorem mc166_75 : mr_C 166 75 = some (.iconst 0, 1) := by decide +kernel
theorem mc166_76 : mr_C 166 76 = some (.bastore, 1) := by decide +kernel
theorem mc166_77 : mr_C 166 77 = some (.iinc 4 (1), 3) := by decide +kernel
theorem mc166_80 : mr_C 166 80 = some (.goto (-29), 3) := by decide +kernel
theorem mc166_83 : mr_C 166 83 = some (.aload_n 0, 1) := by decide +kernel
theorem mc166_84 : mr_C 166 84 = some (.aload_n 0, 1) := by decide +kernel
theorem mc166_85 : mr_C 166 85 = some (.getfield 66, 3) := by decide +kernel
theorem mc166_88 : mr_C 166 88 = some (.iload_n 3, 1) := by decide +kernel
theorem mc166_89 : mr_C 166 89 = some (.iaload, 1) := by decide +kernel
theorem mc166_90 : mr_C 166 90 = some (.putfield 211, 3) := by decide +kernel
theorem mc166_93 : mr_C 166 93 = some (.aload_n 0, 1) := by decide +kernel
theorem mc166_94 : mr_C 166 94 = some (.aload_n 0, 1) := by decide +kernel
theorem mc166_95 : mr_C 166 95 = some (.getfield 69, 3) := by decide +kernel
theorem mc166_98 : mr_C 166 98 = some (.iload_n 3, 1) := by decide +kernel
theorem mc166_99 : mr_C 166 99 = some (.iaload, 1) := by decide +kernel
theorem mc166_100 : mr_C 166 100 = some (.putfield 214, 3) := by decide +kernel
theorem mc166_103 : mr_C 166 103 = some (.aload_n 0, 1) := by decide +kernel
theorem mc166_104 : mr_C 166 104 = some (.aload_n 0, 1) := by decide +kernel
theorem mc166_105 : mr_C 166 105 = some (.getfield 72, 3) := by decide +kernel
theorem mc166_108 : mr_C 166 108 = some (.iload_n 3, 1) := by decide +kernel
theorem mc166_109 : mr_C 166 109 = some (.iaload, 1) := by decide +kernel
theorem mc166_110 : mr_C 166 110 = some (.putfield 208, 3) := by decide +kernel
theorem mc166_113 : mr_C 166 113 = some (.iconst 1, 1) := by decide +kernel
theorem mc166_114 : mr_C 166 114 = some (.istore 4, 2) := by decide +kernel
theorem mc166_116 : mr_C 166 116 = some (.iload 4, 2) := by decide +kernel
theorem mc166_118 : mr_C 166 118 = some (.ifCond .eq (105), 3) := by decide +kernel
theorem mc166_121 : mr_C 166 121 = some (.aload_n 0, 1) := by decide +kernel
theorem mc166_122 : mr_C 166 122 = some (.getfield 208, 3) := by decide +kernel
theorem mc166_125 : mr_C 166 125 = some (.iconst 2, 1) := by decide +kernel
theorem mc166_126 : mr_C 166 126 = some (.irem, 1) := by decide +kernel
theorem mc166_127 : mr_C 166 127 = some (.iconst 1, 1) := by decide +kernel
theorem mc166_128 : mr_C 166 128 = some (.if_icmp .ne (42), 3) := by decide +kernel
theorem mc166_131 : mr_C 166 131 = some (.aload_n 0, 1) := by decide +kernel
theorem mc166_132 : mr_C 166 132 = some (.getfield 76, 3) := by decide +kernel
theorem mc166_135 : mr_C 166 135 = some (.aload_n 0, 1) := by decide +kernel
theorem mc166_136 : mr_C 166 136 = some (.getfield 208, 3) := by decide +kernel
theorem mc166_139 : mr_C 166 139 = some (.iconst 1, 1) := by decide +kernel
theorem mc166_140 : mr_C 166 140 = some (.if_icmp .ne (10), 3) := by decide +kernel
theorem mc166_143 : mr_C 166 143 = some (.aload_n 0, 1) := by decide +kernel
theorem mc166_144 : mr_C 166 144 = some (.getfield 214, 3) := by decide +kernel
theorem mc166_147 : mr_C 166 147 = some (.goto 9, 3) := by decide +kernel
theorem mc166_150 : mr_C 166 150 = some (.aload_n 0, 1) := by decide +kernel
theorem mc166_151 : mr_C 166 151 = some (.getfield 214, 3) := by decide +kernel
theorem mc166_154 : mr_C 166 154 = some (.iconst 1, 1) := by decide +kernel
theorem mc166_155 : mr_C 166 155 = some (.isub, 1) := by decide +kernel
theorem mc166_156 : mr_C 166 156 = some (.aload_n 0, 1) := by decide +kernel
theorem mc166_157 : mr_C 166 157 = some (.getfield 199, 3) := by decide +kernel
theorem mc166_160 : mr_C 166 160 = some (.iconst 1, 1) := by decide +kernel
theorem mc166_161 : mr_C 166 161 = some (.iadd, 1) := by decide +kernel
theorem mc166_162 : mr_C 166 162 = some (.imul, 1) := by decide +kernel
theorem mc166_163 : mr_C 166 163 = some (.aload_n 0, 1) := by decide +kernel
theorem mc166_164 : mr_C 166 164 = some (.getfield 211, 3) := by decide +kernel
theorem mc166_167 : mr_C 166 167 = some (.iadd, 1) := by decide +kernel
theorem mc166_168 : mr_C 166 168 = some (.iconst 1, 1) := by decide +kernel
theorem mc166_169 : mr_C 166 169 = some (.bastore, 1) := by decide +kernel
theorem mc166_170 : mr_C 166 170 = some (.aload_n 0, 1) := by decide +kernel
theorem mc166_171 : mr_C 166 171 = some (.invokevirtual 233, 3) := by decide +kernel
theorem mc166_174 : mr_C 166 174 = some (.aload_n 0, 1) := by decide +kernel
theorem mc166_175 : mr_C 166 175 = some (.getfield 211, 3) := by decide +kernel
theorem mc166_178 : mr_C 166 178 = some (.aload_n 0, 1) := by decide +kernel
theorem mc166_179 : mr_C 166 179 = some (.getfield 66, 3) := by decide +kernel
theorem mc166_182 : mr_C 166 182 = some (.iload_n 3, 1) := by decide +kernel
theorem mc166_183 : mr_C 166 183 = some (.iaload, 1) := by decide +kernel
theorem mc166_184 : mr_C 166 184 = some (.if_icmp .ne (29), 3) := by decide +kernel
theorem mc166_187 : mr_C 166 187 = some (.aload_n 0, 1) := by decide +kernel
theorem mc166_188 : mr_C 166 188 = some (.getfield 214, 3) := by decide +kernel
theorem mc166_191 : mr_C 166 191 = some (.aload_n 0, 1) := by decide +kernel
theorem mc166_192 : mr_C 166 192 = some (.getfield 69, 3) := by decide +kernel
theorem mc166_195 : mr_C 166 195 = some (.iload_n 3, 1) := by decide +kernel
theorem mc166_196 : mr_C 166 196 = some (.iaload, 1) := by decide +kernel
theorem mc166_197 : mr_C 166 197 = some (.if_icmp .ne (16), 3) := by decide +kernel
theorem mc166_200 : mr_C 166 200 = some (.aload_n 0, 1) := by decide +kernel
theorem mc166_201 : mr_C 166 201 = some (.getfield 208, 3) := by decide +kernel
theorem mc166_204 : mr_C 166 204 = some (.aload_n 0, 1) := by decide +kernel
theorem mc166_205 : mr_C 166 205 = some (.getfield 72, 3) := by decide +kernel
theorem mc166_208 : mr_C 166 208 = some (.iload_n 3, 1) := by decide +kernel
theorem mc166_209 : mr_C 166 209 = some (.iaload, 1) := by decide +kernel
theorem mc166_210 : mr_C 166 210 = some (.if_icmp .eq (7), 3) := by decide +kernel
theorem mc166_213 : mr_C 166 213 = some (.iconst 1, 1) := by decide +kernel
theorem mc166_214 : mr_C 166 214 = some (.goto 4, 3) := by decide +kernel
theorem mc166_217 : mr_C 166 217 = some (.iconst 0, 1) := by decide +kernel
theorem mc166_218 : mr_C 166 218 = some (.istore 4, 2) := by decide +kernel
theorem mc166_220 : mr_C 166 220 = some (.goto (-104), 3) := by decide +kernel
theorem mc166_223 : mr_C 166 223 = some (.aload_n 0, 1) := by decide +kernel
theorem mc166_224 : mr_C 166 224 = some (.invokevirtual 139, 3) := by decide +kernel
theorem mc166_227 : mr_C 166 227 = some (.iconst 0, 1) := by decide +kernel
theorem mc166_228 : mr_C 166 228 = some (.istore 5, 2) := by decide +kernel
theorem mc166_230 : mr_C 166 230 = some (.iload 5, 2) := by decide +kernel
theorem mc166_232 : mr_C 166 232 = some (.aload_n 0, 1) := by decide +kernel
theorem mc166_233 : mr_C 166 233 = some (.getfield 202, 3) := by decide +kernel
theorem mc166_236 : mr_C 166 236 = some (.if_icmp .ge (117), 3) := by decide +kernel
theorem mc166_239 : mr_C 166 239 = some (.aload_n 0, 1) := by decide +kernel
theorem mc166_240 : mr_C 166 240 = some (.iconst 0, 1) := by decide +kernel
theorem mc166_241 : mr_C 166 241 = some (.putfield 100, 3) := by decide +kernel
theorem mc166_244 : mr_C 166 244 = some (.iconst 0, 1) := by decide +kernel
theorem mc166_245 : mr_C 166 245 = some (.istore 6, 2) := by decide +kernel
theorem mc166_247 : mr_C 166 247 = some (.iconst 0, 1) := by decide +kernel
theorem mc166_248 : mr_C 166 248 = some (.istore 7, 2) := by decide +kernel
theorem mc166_250 : mr_C 166 250 = some (.iconst 0, 1) := by decide +kernel
theorem mc166_251 : mr_C 166 251 = some (.istore 8, 2) := by decide +kernel
theorem mc166_253 : mr_C 166 253 = some (.iload 8, 2) := by decide +kernel
theorem mc166_255 : mr_C 166 255 = some (.aload_n 0, 1) := by decide +kernel
theorem mc166_256 : mr_C 166 256 = some (.getfield 199, 3) := by decide +kernel
theorem mc166_259 : mr_C 166 259 = some (.if_icmp .gt (68), 3) := by decide +kernel
theorem mc166_262 : mr_C 166 262 = some (.aload_n 0, 1) := by decide +kernel
theorem mc166_263 : mr_C 166 263 = some (.getfield 76, 3) := by decide +kernel
theorem mc166_266 : mr_C 166 266 = some (.iload 5, 2) := by decide +kernel
theorem mc166_268 : mr_C 166 268 = some (.aload_n 0, 1) := by decide +kernel
theorem mc166_269 : mr_C 166 269 = some (.getfield 199, 3) := by decide +kernel
theorem mc166_272 : mr_C 166 272 = some (.iconst 1, 1) := by decide +kernel
theorem mc166_273 : mr_C 166 273 = some (.iadd, 1) := by decide +kernel
theorem mc166_274 : mr_C 166 274 = some (.imul, 1) := by decide +kernel
theorem mc166_275 : mr_C 166 275 = some (.iload 8, 2) := by decide +kernel
theorem mc166_277 : mr_C 166 277 = some (.iadd, 1) := by decide +kernel
theorem mc166_278 : mr_C 166 278 = some (.baload, 1) := by decide +kernel
theorem mc166_279 : mr_C 166 279 = some (.ifCond .eq (42), 3) := by decide +kernel
theorem mc166_282 : mr_C 166 282 = some (.iload 6, 2) := by decide +kernel
theorem mc166_284 : mr_C 166 284 = some (.ifCond .eq (16), 3) := by decide +kernel
theorem mc166_287 : mr_C 166 287 = some (.aload_n 0, 1) := by decide +kernel
theorem mc166_288 : mr_C 166 288 = some (.iload 7, 2) := by decide +kernel
theorem mc166_290 : mr_C 166 290 = some (.aload_n 0, 1) := by decide +kernel
theorem mc166_291 : mr_C 166 291 = some (.getfield 55, 3) := by decide +kernel
theorem mc166_294 : mr_C 166 294 = some (.iload 8, 2) := by decide +kernel
theorem mc166_296 : mr_C 166 296 = some (.iaload, 1) := by decide +kernel
theorem mc166_297 : mr_C 166 297 = some (.invokevirtual 127, 3) := by decide +kernel
theorem mc166_300 : mr_C 166 300 = some (.iload 6, 2) := by decide +kernel
theorem mc166_302 : mr_C 166 302 = some (.ifCond .ne (7), 3) := by decide +kernel
theorem mc166_305 : mr_C 166 305 = some (.iconst 1, 1) := by decide +kernel
theorem mc166_306 : mr_C 166 306 = some (.goto 4, 3) := by decide +kernel
theorem mc166_309 : mr_C 166 309 = some (.iconst 0, 1) := by decide +kernel
theorem mc166_310 : mr_C 166 310 = some (.istore 6, 2) := by decide +kernel
theorem mc166_312 : mr_C 166 312 = some (.aload_n 0, 1) := by decide +kernel
theorem mc166_313 : mr_C 166 313 = some (.getfield 55, 3) := by decide +kernel
theorem mc166_316 : mr_C 166 316 = some (.iload 8, 2) := by decide +kernel
theorem mc166_318 : mr_C 166 318 = some (.iaload, 1) := by decide +kernel
theorem mc166_319 : mr_C 166 319 = some (.istore 7, 2) := by decide +kernel
theorem mc166_321 : mr_C 166 321 = some (.iinc 8 (1), 3) := by decide +kernel
theorem mc166_324 : mr_C 166 324 = some (.goto (-71), 3) := by decide +kernel
theorem mc166_327 : mr_C 166 327 = some (.aload_n 0, 1) := by decide +kernel
theorem mc166_328 : mr_C 166 328 = some (.aload_n 0, 1) := by decide +kernel
theorem mc166_329 : mr_C 166 329 = some (.getfield 58, 3) := by decide +kernel
theorem mc166_332 : mr_C 166 332 = some (.iload 5, 2) := by decide +kernel
theorem mc166_334 : mr_C 166 334 = some (.iaload, 1) := by decide +kernel
theorem mc166_335 : mr_C 166 335 = some (.aload_n 0, 1) := by decide +kernel
theorem mc166_336 : mr_C 166 336 = some (.getfield 58, 3) := by decide +kernel
theorem mc166_339 : mr_C 166 339 = some (.iload 5, 2) := by decide +kernel
theorem mc166_341 : mr_C 166 341 = some (.iconst 1, 1) := by decide +kernel
theorem mc166_342 : mr_C 166 342 = some (.iadd, 1) := by decide +kernel
theorem mc166_343 : mr_C 166 343 = some (.iaload, 1) := by decide +kernel
theorem mc166_344 : mr_C 166 344 = some (.invokevirtual 142, 3) := by decide +kernel
theorem mc166_347 : mr_C 166 347 = some (.iinc 5 (1), 3) := by decide +kernel
theorem mc166_350 : mr_C 166 350 = some (.goto (-120), 3) := by decide +kernel
theorem mc166_353 : mr_C 166 353 = some (.aload_n 0, 1) := by decide +kernel
theorem mc166_354 : mr_C 166 354 = some (.iload_n 1, 1) := by decide +kernel
theorem mc166_355 : mr_C 166 355 = some (.invokevirtual 145, 3) := by decide +kernel
theorem mc166_358 : mr_C 166 358 = some (.ireturn, 1) := by decide +kernel
theorem vc166_0 {sc : Nat × (Int → Int)} {Q : mm_R → mm_M → Prop} {M : mm_M} {l1 : Int} {l2 : Int} {l3 : Int} (ho : mr_ok M)
    (h : en_CI sc 70 [mm_r 72, mm_i l1, mm_i l2] M (fun x1 M2 => mr_ok M2 → mr_rg x1 ∧ ((x1 ≠ 0 → en_CV sc 153 [mm_r 72, mm_i l2, mm_u, mm_u, mm_u] M2 (fun M6 => mr_ok M6 → en_CI sc 33 [mm_i l3, mm_i 0, mm_i ((M6.1 72 29) - 1)] M6 (fun x8 M9 => mr_ok M9 → mr_rg x8 ∧ ((x8 = 0 → en_R sc 166 36 [mm_r 72, mm_i l1, mm_i l2, mm_i l3, mm_u, mm_u, mm_u, mm_u, mm_u] [mm_i 2, mm_r 72] M9 Q) ∧ (¬ x8 = 0 → en_R sc 166 36 [mm_r 72, mm_i l1, mm_i l2, mm_i l3, mm_u, mm_u, mm_u, mm_u, mm_u] [mm_i 0, mm_r 72] M9 Q))) (fun e M9 => Q (.inr e) M9)) (fun e M9 => Q (.inr e) M9)) ∧ (¬ (x1 ≠ 0) → Q (.inl (some (mm_i 0))) M2))) (fun e M9 => Q (.inr e) M9)) : en_R sc 166 0 [mm_r 72, mm_i l1, mm_i l2, mm_i l3, mm_u, mm_u, mm_u, mm_u, mm_u] [] M Q := by
  refine en_aload_n mc166_0 rfl ?_
  refine en_iload_n mc166_1 rfl ?_
  refine en_iload_n mc166_2 rfl ?_
  refine en_callI (lz := [mm_r 72, mm_i l1, mm_i l2]) mv166 mc166_3 rfl rfl (lk_m7_167) mv70 rfl (by decide) rfl (mk_cokV rfl (⟨rfl, by decide⟩ : mt_kd[72]? = some (.inl 7) ∧ 72 < 99)) rfl (mk_nh rfl _) ho ?_
  refine en_CI_mono h (fun x1 M2 h => ?_) (fun _ _ h => h)
  intro ho3
  replace h := h ho3
  obtain ⟨g4, h⟩ := h
  refine en_if_ne 11 mc166_6 (by decide) g4 (fun q => ?_) (fun q => ?_)
  · replace h := h.1 q
    refine en_aload_n mc166_11 rfl ?_
    refine en_iload_n mc166_12 rfl ?_
    refine en_callV (lz := [mm_r 72, mm_i l2, mm_u, mm_u, mm_u]) mv166 mc166_13 rfl rfl (lk_m7_264) mv153 rfl (by decide) rfl (mk_cokV rfl (⟨rfl, by decide⟩ : mt_kd[72]? = some (.inl 7) ∧ 72 < 99)) rfl (mk_nh rfl _) ho3 ?_
    refine en_CV_mono h (fun M6 h => ?_) (fun _ _ h => h)
    intro ho7
    replace h := h ho7
    refine en_aload_n mc166_16 rfl ?_
    refine en_iload_n mc166_17 rfl ?_
    refine en_iconst mc166_18 ?_
    refine en_aload_n mc166_19 rfl ?_
    refine en_getI mv166 mc166_20 (lk_f7_223) (⟨rfl, by decide⟩ : mt_kd[72]? = some (.inl 7) ∧ 72 < 99) (Or.inl rfl) ?_
    refine en_iconst mc166_23 ?_
    refine en_isub mc166_24 ?_
    refine en_callI (lz := [mm_i l3, mm_i 0, mm_i ((M6.1 72 29) - 1)]) mv166 mc166_25 rfl rfl (lk_m7_135) mv33 rfl (by decide) rfl (mk_cokS rfl) rfl (mk_nh rfl _) ho7 ?_
    refine en_CI_mono h (fun x8 M9 h => ?_) (fun _ _ h => h)
    intro ho10
    replace h := h ho10
    obtain ⟨g11, h⟩ := h
    refine en_if_eq 35 mc166_28 (by decide) g11 (fun q => ?_) (fun q => ?_)
    · replace h := h.1 q
      refine en_iconst mc166_35 ?_
      exact h
    · replace h := h.2 q
      refine en_iconst mc166_31 ?_
      refine en_goto 36 mc166_32 (by decide) ?_
      exact h
  · replace h := h.2 q
    refine en_iconst mc166_9 ?_
    exact en_iret mv166 mc166_10 rfl h
theorem vc166_36 {sc : Nat × (Int → Int)} {Q : mm_R → mm_M → Prop} {M : mm_M} {l1 : Int} {l2 : Int} {l3 : Int} {s1 : Int} (ho : mr_ok M) (hg_s1 : mr_rg s1)
    (h : (((mm_putN M 72 0 s1).1 72 0) ≤ 0 → en_R sc 166 51 [mm_r 72, mm_i l1, mm_i l2, mm_i l3, mm_i 0, mm_u, mm_u, mm_u, mm_u] [] (mm_putN M 72 0 s1) Q) ∧ (¬ ((mm_putN M 72 0 s1).1 72 0) ≤ 0 → Q (.inl (some (mm_i 0))) (mm_putN M 72 0 s1))) : en_R sc 166 36 [mm_r 72, mm_i l1, mm_i l2, mm_i l3, mm_u, mm_u, mm_u, mm_u, mm_u] [mm_i s1, mm_r 72] M Q := by
  refine en_putI mv166 mc166_36 (lk_f7_89) (⟨rfl, by decide⟩ : mt_kd[72]? = some (.inl 7) ∧ 72 < 99) rfl rfl hg_s1 ?_
  refine en_aload_n mc166_39 rfl ?_
  refine en_getI mv166 mc166_40 (lk_f7_89) (⟨rfl, by decide⟩ : mt_kd[72]? = some (.inl 7) ∧ 72 < 99) (Or.inl rfl) ?_
  refine en_if_le 48 mc166_43 (by decide) ((mr_ok_putI (a := 72) (k := 0) ho hg_s1).2.1 72 0 (by unfold mr_lg; omega)) (fun q => ?_) (fun q => ?_)
  · replace h := h.1 q
    refine en_iconst mc166_48 ?_
    refine en_istore (ls' := [mm_r 72, mm_i l1, mm_i l2, mm_i l3, mm_i 0, mm_u, mm_u, mm_u, mm_u]) mc166_49 (Nat.le_of_ble_eq_true rfl) rfl ?_
    exact h
  · replace h := h.2 q
    refine en_iconst mc166_46 ?_
    exact en_iret mv166 mc166_47 rfl h
theorem vc166_51 {sc : Nat × (Int → Int)} {Q : mm_R → mm_M → Prop} {M : mm_M} {l1 : Int} {l2 : Int} {l3 : Int} {l4 : Int} (ho : mr_ok M) (hg_l4 : mr_rg l4)
    (h : mr_rg (((M.1 72 23) + 1) * ((M.1 72 24) + 1)) ∧ (((((M.1 72 23) + 1) * ((M.1 72 24) + 1)) ≤ l4 → 0 ≤ l3 ∧ (l3 < 900 ∧ (0 ≤ l3 ∧ (l3 < 900 ∧ (0 ≤ l3 ∧ (l3 < 900 ∧ (en_R sc 166 116 [mm_r 72, mm_i l1, mm_i l2, mm_i l3, mm_i 1, mm_u, mm_u, mm_u, mm_u] [] (mm_putN (mm_putN (mm_putN M 72 31 (M.1 91 l3)) 72 32 ((mm_putN M 72 31 (M.1 91 l3)).1 92 l3)) 72 33 ((mm_putN (mm_putN M 72 31 (M.1 91 l3)) 72 32 ((mm_putN M 72 31 (M.1 91 l3)).1 92 l3)).1 93 l3)) Q))))))) ∧ (¬ (((M.1 72 23) + 1) * ((M.1 72 24) + 1)) ≤ l4 → 0 ≤ l4 ∧ (l4 < 648000 ∧ (en_R sc 166 51 [mm_r 72, mm_i l1, mm_i l2, mm_i l3, mm_i (l4 + 1), mm_u, mm_u, mm_u, mm_u] [] (mm_putN M 94 l4 0) Q))))) : en_R sc 166 51 [mm_r 72, mm_i l1, mm_i l2, mm_i l3, mm_i l4, mm_u, mm_u, mm_u, mm_u] [] M Q := by
  obtain ⟨g1, h⟩ := h
  refine en_iload mc166_51 rfl ?_
  refine en_aload_n mc166_53 rfl ?_
  refine en_getI mv166 mc166_54 (lk_f7_199) (⟨rfl, by decide⟩ : mt_kd[72]? = some (.inl 7) ∧ 72 < 99) (Or.inl rfl) ?_
  refine en_iconst mc166_57 ?_
  refine en_iadd mc166_58 ?_
  refine en_aload_n mc166_59 rfl ?_
  refine en_getI mv166 mc166_60 (lk_f7_202) (⟨rfl, by decide⟩ : mt_kd[72]? = some (.inl 7) ∧ 72 < 99) (Or.inl rfl) ?_
  refine en_iconst mc166_63 ?_
  refine en_iadd mc166_64 ?_
  refine en_imul mc166_65 ?_
  refine en_icmp_ge 83 mc166_66 (by decide) hg_l4 g1 (fun q => ?_) (fun q => ?_)
  · replace h := h.1 q
    obtain ⟨g2, h⟩ := h
    obtain ⟨g3, h⟩ := h
    obtain ⟨g4, h⟩ := h
    obtain ⟨g5, h⟩ := h
    obtain ⟨g6, h⟩ := h
    obtain ⟨g7, h⟩ := h
    refine en_aload_n mc166_83 rfl ?_
    refine en_aload_n mc166_84 rfl ?_
    refine en_getR (b := 91) mv166 mc166_85 (lk_f7_66) (⟨rfl, by decide⟩ : mt_kd[72]? = some (.inl 7) ∧ 72 < 99) rfl (mk_fc ho (by decide +kernel)) ?_
    refine en_iload_n mc166_88 rfl ?_
    refine en_iald mc166_89 (⟨rfl, by decide, by decide⟩ : mt_kd[91]? = some (.inr (.int, 900)) ∧ 91 < 99 ∧ 900 < 2147483648) g2 g3 ?_
    refine en_putI mv166 mc166_90 (lk_f7_211) (⟨rfl, by decide⟩ : mt_kd[72]? = some (.inl 7) ∧ 72 < 99) rfl rfl (ho.2.1 91 l3 (by unfold mr_lg; omega)) ?_
    refine en_aload_n mc166_93 rfl ?_
    refine en_aload_n mc166_94 rfl ?_
    refine en_getR (b := 92) mv166 mc166_95 (lk_f7_69) (⟨rfl, by decide⟩ : mt_kd[72]? = some (.inl 7) ∧ 72 < 99) rfl (mk_fc (mr_ok_putI (a := 72) (k := 31) ho (ho.2.1 91 l3 (by unfold mr_lg; omega))) (by decide +kernel)) ?_
    refine en_iload_n mc166_98 rfl ?_
    refine en_iald mc166_99 (⟨rfl, by decide, by decide⟩ : mt_kd[92]? = some (.inr (.int, 900)) ∧ 92 < 99 ∧ 900 < 2147483648) g4 g5 ?_
    refine en_putI mv166 mc166_100 (lk_f7_214) (⟨rfl, by decide⟩ : mt_kd[72]? = some (.inl 7) ∧ 72 < 99) rfl rfl ((mr_ok_putI (a := 72) (k := 31) ho (ho.2.1 91 l3 (by unfold mr_lg; omega))).2.1 92 l3 (by unfold mr_lg; omega)) ?_
    refine en_aload_n mc166_103 rfl ?_
    refine en_aload_n mc166_104 rfl ?_
    refine en_getR (b := 93) mv166 mc166_105 (lk_f7_72) (⟨rfl, by decide⟩ : mt_kd[72]? = some (.inl 7) ∧ 72 < 99) rfl (mk_fc (mr_ok_putI (a := 72) (k := 32) (mr_ok_putI (a := 72) (k := 31) ho (ho.2.1 91 l3 (by unfold mr_lg; omega))) ((mr_ok_putI (a := 72) (k := 31) ho (ho.2.1 91 l3 (by unfold mr_lg; omega))).2.1 92 l3 (by unfold mr_lg; omega))) (by decide +kernel)) ?_
    refine en_iload_n mc166_108 rfl ?_
    refine en_iald mc166_109 (⟨rfl, by decide, by decide⟩ : mt_kd[93]? = some (.inr (.int, 900)) ∧ 93 < 99 ∧ 900 < 2147483648) g6 g7 ?_
    refine en_putI mv166 mc166_110 (lk_f7_208) (⟨rfl, by decide⟩ : mt_kd[72]? = some (.inl 7) ∧ 72 < 99) rfl rfl ((mr_ok_putI (a := 72) (k := 32) (mr_ok_putI (a := 72) (k := 31) ho (ho.2.1 91 l3 (by unfold mr_lg; omega))) ((mr_ok_putI (a := 72) (k := 31) ho (ho.2.1 91 l3 (by unfold mr_lg; omega))).2.1 92 l3 (by unfold mr_lg; omega))).2.1 93 l3 (by unfold mr_lg; omega)) ?_
    refine en_iconst mc166_113 ?_
    refine en_istore (ls' := [mm_r 72, mm_i l1, mm_i l2, mm_i l3, mm_i 1, mm_u, mm_u, mm_u, mm_u]) mc166_114 (Nat.le_of_ble_eq_true rfl) rfl ?_
    exact h
  · replace h := h.2 q
    obtain ⟨g8, h⟩ := h
    obtain ⟨g9, h⟩ := h
    refine en_aload_n mc166_69 rfl ?_
    refine en_getR (b := 94) mv166 mc166_70 (lk_f7_76) (⟨rfl, by decide⟩ : mt_kd[72]? = some (.inl 7) ∧ 72 < 99) rfl (mk_fc ho (by decide +kernel)) ?_
    refine en_iload mc166_73 rfl ?_
    refine en_iconst mc166_75 ?_
    refine en_bast mc166_76 (⟨rfl, by decide, by decide⟩ : mt_kd[94]? = some (.inr (.boolean, 648000)) ∧ 94 < 99 ∧ 648000 < 2147483648) g8 g9 (by decide) ?_
    refine en_iinc (ls' := [mm_r 72, mm_i l1, mm_i l2, mm_i l3, mm_i (l4 + 1), mm_u, mm_u, mm_u, mm_u]) mc166_77 rfl rfl ?_
    refine en_goto 51 mc166_80 (by decide) ?_
    exact h
theorem vc166_116 {sc : Nat × (Int → Int)} {Q : mm_R → mm_M → Prop} {M : mm_M} {l1 : Int} {l2 : Int} {l3 : Int} {l4 : Int} (ho : mr_ok M) (hg_l4 : mr_rg l4)
    (h : (l4 = 0 → en_CV sc 35 [mm_r 72] M (fun M2 => mr_ok M2 → en_R sc 166 230 [mm_r 72, mm_i l1, mm_i l2, mm_i l3, mm_i l4, mm_i 0, mm_u, mm_u, mm_u] [] M2 Q) (fun e M9 => Q (.inr e) M9)) ∧ (¬ l4 = 0 → 0 ≤ (M.1 72 33) ∧ (mr_rg ((M.1 72 33) % 2) ∧ ((((M.1 72 33) % 2) ≠ 1 → en_R sc 166 170 [mm_r 72, mm_i l1, mm_i l2, mm_i l3, mm_i l4, mm_u, mm_u, mm_u, mm_u] [] M Q) ∧ (¬ (((M.1 72 33) % 2) ≠ 1) → ((M.1 72 33) ≠ 1 → en_R sc 166 156 [mm_r 72, mm_i l1, mm_i l2, mm_i l3, mm_i l4, mm_u, mm_u, mm_u, mm_u] [mm_i ((M.1 72 32) - 1), mm_r 94] M Q) ∧ (¬ ((M.1 72 33) ≠ 1) → en_R sc 166 156 [mm_r 72, mm_i l1, mm_i l2, mm_i l3, mm_i l4, mm_u, mm_u, mm_u, mm_u] [mm_i (M.1 72 32), mm_r 94] M Q)))))) : en_R sc 166 116 [mm_r 72, mm_i l1, mm_i l2, mm_i l3, mm_i l4, mm_u, mm_u, mm_u, mm_u] [] M Q := by
  refine en_iload mc166_116 rfl ?_
  refine en_if_eq 223 mc166_118 (by decide) hg_l4 (fun q => ?_) (fun q => ?_)
  · replace h := h.1 q
    refine en_aload_n mc166_223 rfl ?_
    refine en_callV (lz := [mm_r 72]) mv166 mc166_224 rfl rfl (lk_m7_139) mv35 rfl (by decide) rfl (mk_cokV rfl (⟨rfl, by decide⟩ : mt_kd[72]? = some (.inl 7) ∧ 72 < 99)) rfl (mk_nh rfl _) ho ?_
    refine en_CV_mono h (fun M2 h => ?_) (fun _ _ h => h)
    intro ho3
    replace h := h ho3
    refine en_iconst mc166_227 ?_
    refine en_istore (ls' := [mm_r 72, mm_i l1, mm_i l2, mm_i l3, mm_i l4, mm_i 0, mm_u, mm_u, mm_u]) mc166_228 (Nat.le_of_ble_eq_true rfl) rfl ?_
    exact h
  · replace h := h.2 q
    obtain ⟨g4, h⟩ := h
    obtain ⟨g5, h⟩ := h
    refine en_aload_n mc166_121 rfl ?_
    refine en_getI mv166 mc166_122 (lk_f7_208) (⟨rfl, by decide⟩ : mt_kd[72]? = some (.inl 7) ∧ 72 < 99) (Or.inl rfl) ?_
    refine en_iconst mc166_125 ?_
    refine en_irem mc166_126 (ho.2.1 72 33 (by unfold mr_lg; omega)) (⟨by decide, by decide⟩ : mr_rg 2) g4 (by decide) ?_
    refine en_iconst mc166_127 ?_
    refine en_icmp_ne 170 mc166_128 (by decide) g5 (⟨by decide, by decide⟩ : mr_rg 1) (fun q => ?_) (fun q => ?_)
    · replace h := h.1 q
      exact h
    · replace h := h.2 q
      refine en_aload_n mc166_131 rfl ?_
      refine en_getR (b := 94) mv166 mc166_132 (lk_f7_76) (⟨rfl, by decide⟩ : mt_kd[72]? = some (.inl 7) ∧ 72 < 99) rfl (mk_fc ho (by decide +kernel)) ?_
      refine en_aload_n mc166_135 rfl ?_
      refine en_getI mv166 mc166_136 (lk_f7_208) (⟨rfl, by decide⟩ : mt_kd[72]? = some (.inl 7) ∧ 72 < 99) (Or.inl rfl) ?_
      refine en_iconst mc166_139 ?_
      refine en_icmp_ne 150 mc166_140 (by decide) (ho.2.1 72 33 (by unfold mr_lg; omega)) (⟨by decide, by decide⟩ : mr_rg 1) (fun q => ?_) (fun q => ?_)
      · replace h := h.1 q
        refine en_aload_n mc166_150 rfl ?_
        refine en_getI mv166 mc166_151 (lk_f7_214) (⟨rfl, by decide⟩ : mt_kd[72]? = some (.inl 7) ∧ 72 < 99) (Or.inl rfl) ?_
        refine en_iconst mc166_154 ?_
        refine en_isub mc166_155 ?_
        exact h
      · replace h := h.2 q
        refine en_aload_n mc166_143 rfl ?_
        refine en_getI mv166 mc166_144 (lk_f7_214) (⟨rfl, by decide⟩ : mt_kd[72]? = some (.inl 7) ∧ 72 < 99) (Or.inl rfl) ?_
        refine en_goto 156 mc166_147 (by decide) ?_
        exact h
theorem vc166_156 {sc : Nat × (Int → Int)} {Q : mm_R → mm_M → Prop} {M : mm_M} {l1 : Int} {l2 : Int} {l3 : Int} {l4 : Int} {s1 : Int} (ho : mr_ok M)
    (h : 0 ≤ ((s1 * ((M.1 72 23) + 1)) + (M.1 72 31)) ∧ (((s1 * ((M.1 72 23) + 1)) + (M.1 72 31)) < 648000 ∧ (en_R sc 166 170 [mm_r 72, mm_i l1, mm_i l2, mm_i l3, mm_i l4, mm_u, mm_u, mm_u, mm_u] [] (mm_putN M 94 ((s1 * ((M.1 72 23) + 1)) + (M.1 72 31)) 1) Q))) : en_R sc 166 156 [mm_r 72, mm_i l1, mm_i l2, mm_i l3, mm_i l4, mm_u, mm_u, mm_u, mm_u] [mm_i s1, mm_r 94] M Q := by
  obtain ⟨g1, h⟩ := h
  obtain ⟨g2, h⟩ := h
  refine en_aload_n mc166_156 rfl ?_
  refine en_getI mv166 mc166_157 (lk_f7_199) (⟨rfl, by decide⟩ : mt_kd[72]? = some (.inl 7) ∧ 72 < 99) (Or.inl rfl) ?_
  refine en_iconst mc166_160 ?_
  refine en_iadd mc166_161 ?_
  refine en_imul mc166_162 ?_
  refine en_aload_n mc166_163 rfl ?_
  refine en_getI mv166 mc166_164 (lk_f7_211) (⟨rfl, by decide⟩ : mt_kd[72]? = some (.inl 7) ∧ 72 < 99) (Or.inl rfl) ?_
  refine en_iadd mc166_167 ?_
  refine en_iconst mc166_168 ?_
  refine en_bast mc166_169 (⟨rfl, by decide, by decide⟩ : mt_kd[94]? = some (.inr (.boolean, 648000)) ∧ 94 < 99 ∧ 648000 < 2147483648) g1 g2 (by decide) ?_
  exact h
theorem vc166_170 {sc : Nat × (Int → Int)} {Q : mm_R → mm_M → Prop} {M : mm_M} {l1 : Int} {l2 : Int} {l3 : Int} {l4 : Int} (ho : mr_ok M)
    (h : en_CV sc 151 [mm_r 72, mm_u, mm_u] M (fun M2 => mr_ok M2 → 0 ≤ l3 ∧ (l3 < 900 ∧ (((M2.1 72 31) ≠ (M2.1 91 l3) → en_R sc 166 116 [mm_r 72, mm_i l1, mm_i l2, mm_i l3, mm_i 1, mm_u, mm_u, mm_u, mm_u] [] M2 Q) ∧ (¬ ((M2.1 72 31) ≠ (M2.1 91 l3)) → 0 ≤ l3 ∧ (l3 < 900 ∧ (((M2.1 72 32) ≠ (M2.1 92 l3) → en_R sc 166 116 [mm_r 72, mm_i l1, mm_i l2, mm_i l3, mm_i 1, mm_u, mm_u, mm_u, mm_u] [] M2 Q) ∧ (¬ ((M2.1 72 32) ≠ (M2.1 92 l3)) → 0 ≤ l3 ∧ (l3 < 900 ∧ (((M2.1 72 33) = (M2.1 93 l3) → en_R sc 166 116 [mm_r 72, mm_i l1, mm_i l2, mm_i l3, mm_i 0, mm_u, mm_u, mm_u, mm_u] [] M2 Q) ∧ (¬ (M2.1 72 33) = (M2.1 93 l3) → en_R sc 166 116 [mm_r 72, mm_i l1, mm_i l2, mm_i l3, mm_i 1, mm_u, mm_u, mm_u, mm_u] [] M2 Q)))))))))) (fun e M9 => Q (.inr e) M9)) : en_R sc 166 170 [mm_r 72, mm_i l1, mm_i l2, mm_i l3, mm_i l4, mm_u, mm_u, mm_u, mm_u] [] M Q := by
  refine en_aload_n mc166_170 rfl ?_
  refine en_callV (lz := [mm_r 72, mm_u, mm_u]) mv166 mc166_171 rfl rfl (lk_m7_233) mv151 rfl (by decide) rfl (mk_cokV rfl (⟨rfl, by decide⟩ : mt_kd[72]? = some (.inl 7) ∧ 72 < 99)) rfl (mk_nh rfl _) ho ?_
  refine en_CV_mono h (fun M2 h => ?_) (fun _ _ h => h)
  intro ho3
  replace h := h ho3
  obtain ⟨g4, h⟩ := h
  obtain ⟨g5, h⟩ := h
  refine en_aload_n mc166_174 rfl ?_
  refine en_getI mv166 mc166_175 (lk_f7_211) (⟨rfl, by decide⟩ : mt_kd[72]? = some (.inl 7) ∧ 72 < 99) (Or.inl rfl) ?_
  refine en_aload_n mc166_178 rfl ?_
  refine en_getR (b := 91) mv166 mc166_179 (lk_f7_66) (⟨rfl, by decide⟩ : mt_kd[72]? = some (.inl 7) ∧ 72 < 99) rfl (mk_fc ho3 (by decide +kernel)) ?_
  refine en_iload_n mc166_182 rfl ?_
  refine en_iald mc166_183 (⟨rfl, by decide, by decide⟩ : mt_kd[91]? = some (.inr (.int, 900)) ∧ 91 < 99 ∧ 900 < 2147483648) g4 g5 ?_
  refine en_icmp_ne 213 mc166_184 (by decide) (ho3.2.1 72 31 (by unfold mr_lg; omega)) (ho3.2.1 91 l3 (by unfold mr_lg; omega)) (fun q => ?_) (fun q => ?_)
  · replace h := h.1 q
    refine en_iconst mc166_213 ?_
    refine en_goto 218 mc166_214 (by decide) ?_
    refine en_istore (ls' := [mm_r 72, mm_i l1, mm_i l2, mm_i l3, mm_i 1, mm_u, mm_u, mm_u, mm_u]) mc166_218 (Nat.le_of_ble_eq_true rfl) rfl ?_
    refine en_goto 116 mc166_220 (by decide) ?_
    exact h
  · replace h := h.2 q
    obtain ⟨g6, h⟩ := h
    obtain ⟨g7, h⟩ := h
    refine en_aload_n mc166_187 rfl ?_
    refine en_getI mv166 mc166_188 (lk_f7_214) (⟨rfl, by decide⟩ : mt_kd[72]? = some (.inl 7) ∧ 72 < 99) (Or.inl rfl) ?_
    refine en_aload_n mc166_191 rfl ?_
    refine en_getR (b := 92) mv166 mc166_192 (lk_f7_69) (⟨rfl, by decide⟩ : mt_kd[72]? = some (.inl 7) ∧ 72 < 99) rfl (mk_fc ho3 (by decide +kernel)) ?_
    refine en_iload_n mc166_195 rfl ?_
    refine en_iald mc166_196 (⟨rfl, by decide, by decide⟩ : mt_kd[92]? = some (.inr (.int, 900)) ∧ 92 < 99 ∧ 900 < 2147483648) g6 g7 ?_
    refine en_icmp_ne 213 mc166_197 (by decide) (ho3.2.1 72 32 (by unfold mr_lg; omega)) (ho3.2.1 92 l3 (by unfold mr_lg; omega)) (fun q => ?_) (fun q => ?_)
    · replace h := h.1 q
      refine en_iconst mc166_213 ?_
      refine en_goto 218 mc166_214 (by decide) ?_
      refine en_istore (ls' := [mm_r 72, mm_i l1, mm_i l2, mm_i l3, mm_i 1, mm_u, mm_u, mm_u, mm_u]) mc166_218 (Nat.le_of_ble_eq_true rfl) rfl ?_
      refine en_goto 116 mc166_220 (by decide) ?_
      exact h
    · replace h := h.2 q
      obtain ⟨g8, h⟩ := h
      obtain ⟨g9, h⟩ := h
      refine en_aload_n mc166_200 rfl ?_
      refine en_getI mv166 mc166_201 (lk_f7_208) (⟨rfl, by decide⟩ : mt_kd[72]? = some (.inl 7) ∧ 72 < 99) (Or.inl rfl) ?_
      refine en_aload_n mc166_204 rfl ?_
      refine en_getR (b := 93) mv166 mc166_205 (lk_f7_72) (⟨rfl, by decide⟩ : mt_kd[72]? = some (.inl 7) ∧ 72 < 99) rfl (mk_fc ho3 (by decide +kernel)) ?_
      refine en_iload_n mc166_208 rfl ?_
      refine en_iald mc166_209 (⟨rfl, by decide, by decide⟩ : mt_kd[93]? = some (.inr (.int, 900)) ∧ 93 < 99 ∧ 900 < 2147483648) g8 g9 ?_
      refine en_icmp_eq 217 mc166_210 (by decide) (ho3.2.1 72 33 (by unfold mr_lg; omega)) (ho3.2.1 93 l3 (by unfold mr_lg; omega)) (fun q => ?_) (fun q => ?_)
      · replace h := h.1 q
        refine en_iconst mc166_217 ?_
        refine en_istore (ls' := [mm_r 72, mm_i l1, mm_i l2, mm_i l3, mm_i 0, mm_u, mm_u, mm_u, mm_u]) mc166_218 (Nat.le_of_ble_eq_true rfl) rfl ?_
        refine en_goto 116 mc166_220 (by decide) ?_
        exact h
      · replace h := h.2 q
        refine en_iconst mc166_213 ?_
        refine en_goto 218 mc166_214 (by decide) ?_
        refine en_istore (ls' := [mm_r 72, mm_i l1, mm_i l2, mm_i l3, mm_i 1, mm_u, mm_u, mm_u, mm_u]) mc166_218 (Nat.le_of_ble_eq_true rfl) rfl ?_
        refine en_goto 116 mc166_220 (by decide) ?_
        exact h
theorem vc166_230 {sc : Nat × (Int → Int)} {Q : mm_R → mm_M → Prop} {M : mm_M} {l1 : Int} {l2 : Int} {l3 : Int} {l4 : Int} {l5 : Int} {l6 : mm_V} {l7 : mm_V} {l8 : mm_V} (ho : mr_ok M) (hg_l5 : mr_rg l5)
    (h : ((M.1 72 24) ≤ l5 → en_CI sc 39 [mm_r 72, mm_i l1, mm_u] M (fun x1 M2 => mr_ok M2 → Q (.inl (some (mm_i x1))) M2) (fun e M9 => Q (.inr e) M9)) ∧ (¬ (M.1 72 24) ≤ l5 → en_R sc 166 253 [mm_r 72, mm_i l1, mm_i l2, mm_i l3, mm_i l4, mm_i l5, mm_i 0, mm_i 0, mm_i 0] [] (mm_putN M 72 17 0) Q)) : en_R sc 166 230 [mm_r 72, mm_i l1, mm_i l2, mm_i l3, mm_i l4, mm_i l5, l6, l7, l8] [] M Q := by
  refine en_iload mc166_230 rfl ?_
  refine en_aload_n mc166_232 rfl ?_
  refine en_getI mv166 mc166_233 (lk_f7_202) (⟨rfl, by decide⟩ : mt_kd[72]? = some (.inl 7) ∧ 72 < 99) (Or.inl rfl) ?_
  refine en_icmp_ge 353 mc166_236 (by decide) hg_l5 (ho.2.1 72 24 (by unfold mr_lg; omega)) (fun q => ?_) (fun q => ?_)
  · replace h := h.1 q
    refine en_aload_n mc166_353 rfl ?_
    refine en_iload_n mc166_354 rfl ?_
    refine en_callI (lz := [mm_r 72, mm_i l1, mm_u]) mv166 mc166_355 rfl rfl (lk_m7_145) mv39 rfl (by decide) rfl (mk_cokV rfl (⟨rfl, by decide⟩ : mt_kd[72]? = some (.inl 7) ∧ 72 < 99)) rfl (mk_nh rfl _) ho ?_
    refine en_CI_mono h (fun x1 M2 h => ?_) (fun _ _ h => h)
    intro ho3
    replace h := h ho3
    exact en_iret mv166 mc166_358 rfl h
  · replace h := h.2 q
    refine en_aload_n mc166_239 rfl ?_
    refine en_iconst mc166_240 ?_
    refine en_putI mv166 mc166_241 (lk_f7_100) (⟨rfl, by decide⟩ : mt_kd[72]? = some (.inl 7) ∧ 72 < 99) rfl rfl (⟨by decide, by decide⟩ : mr_rg 0) ?_
    refine en_iconst mc166_244 ?_
    refine en_istore (ls' := [mm_r 72, mm_i l1, mm_i l2, mm_i l3, mm_i l4, mm_i l5, mm_i 0, l7, l8]) mc166_245 (Nat.le_of_ble_eq_true rfl) rfl ?_
    refine en_iconst mc166_247 ?_
    refine en_istore (ls' := [mm_r 72, mm_i l1, mm_i l2, mm_i l3, mm_i l4, mm_i l5, mm_i 0, mm_i 0, l8]) mc166_248 (Nat.le_of_ble_eq_true rfl) rfl ?_
    refine en_iconst mc166_250 ?_
    refine en_istore (ls' := [mm_r 72, mm_i l1, mm_i l2, mm_i l3, mm_i l4, mm_i l5, mm_i 0, mm_i 0, mm_i 0]) mc166_251 (Nat.le_of_ble_eq_true rfl) rfl ?_
    exact h
theorem vc166_253 {sc : Nat × (Int → Int)} {Q : mm_R → mm_M → Prop} {M : mm_M} {l1 : Int} {l2 : Int} {l3 : Int} {l4 : Int} {l5 : Int} {l6 : Int} {l7 : Int} {l8 : Int} (ho : mr_ok M) (hg_l8 : mr_rg l8) (hg_l6 : mr_rg l6)
    (h : ((M.1 72 23) < l8 → 0 ≤ l5 ∧ (l5 < 202 ∧ (0 ≤ (l5 + 1) ∧ ((l5 + 1) < 202 ∧ (en_CV sc 38 [mm_r 72, mm_i (M.1 89 l5), mm_i (M.1 89 (l5 + 1)), mm_u, mm_u] M (fun M6 => mr_ok M6 → en_R sc 166 230 [mm_r 72, mm_i l1, mm_i l2, mm_i l3, mm_i l4, mm_i (l5 + 1), mm_i l6, mm_i l7, mm_i l8] [] M6 Q) (fun e M9 => Q (.inr e) M9)))))) ∧ (¬ (M.1 72 23) < l8 → 0 ≤ ((l5 * ((M.1 72 23) + 1)) + l8) ∧ (((l5 * ((M.1 72 23) + 1)) + l8) < 648000 ∧ (((M.1 94 ((l5 * ((M.1 72 23) + 1)) + l8)) = 0 → en_R sc 166 253 [mm_r 72, mm_i l1, mm_i l2, mm_i l3, mm_i l4, mm_i l5, mm_i l6, mm_i l7, mm_i (l8 + 1)] [] M Q) ∧ (¬ (M.1 94 ((l5 * ((M.1 72 23) + 1)) + l8)) = 0 → (l6 = 0 → en_R sc 166 300 [mm_r 72, mm_i l1, mm_i l2, mm_i l3, mm_i l4, mm_i l5, mm_i l6, mm_i l7, mm_i l8] [] M Q) ∧ (¬ l6 = 0 → 0 ≤ l8 ∧ (l8 < 801 ∧ (en_CV sc 36 [mm_r 72, mm_i l7, mm_i (M.1 88 l8)] M (fun M13 => mr_ok M13 → en_R sc 166 300 [mm_r 72, mm_i l1, mm_i l2, mm_i l3, mm_i l4, mm_i l5, mm_i l6, mm_i l7, mm_i l8] [] M13 Q) (fun e M9 => Q (.inr e) M9))))))))) : en_R sc 166 253 [mm_r 72, mm_i l1, mm_i l2, mm_i l3, mm_i l4, mm_i l5, mm_i l6, mm_i l7, mm_i l8] [] M Q := by
  refine en_iload mc166_253 rfl ?_
  refine en_aload_n mc166_255 rfl ?_
  refine en_getI mv166 mc166_256 (lk_f7_199) (⟨rfl, by decide⟩ : mt_kd[72]? = some (.inl 7) ∧ 72 < 99) (Or.inl rfl) ?_
  refine en_icmp_gt 327 mc166_259 (by decide) hg_l8 (ho.2.1 72 23 (by unfold mr_lg; omega)) (fun q => ?_) (fun q => ?_)
  · replace h := h.1 q
    obtain ⟨g1, h⟩ := h
    obtain ⟨g2, h⟩ := h
    obtain ⟨g3, h⟩ := h
    obtain ⟨g4, h⟩ := h
    refine en_aload_n mc166_327 rfl ?_
    refine en_aload_n mc166_328 rfl ?_
    refine en_getR (b := 89) mv166 mc166_329 (lk_f7_58) (⟨rfl, by decide⟩ : mt_kd[72]? = some (.inl 7) ∧ 72 < 99) rfl (mk_fc ho (by decide +kernel)) ?_
    refine en_iload mc166_332 rfl ?_
    refine en_iald mc166_334 (⟨rfl, by decide, by decide⟩ : mt_kd[89]? = some (.inr (.int, 202)) ∧ 89 < 99 ∧ 202 < 2147483648) g1 g2 ?_
    refine en_aload_n mc166_335 rfl ?_
    refine en_getR (b := 89) mv166 mc166_336 (lk_f7_58) (⟨rfl, by decide⟩ : mt_kd[72]? = some (.inl 7) ∧ 72 < 99) rfl (mk_fc ho (by decide +kernel)) ?_
    refine en_iload mc166_339 rfl ?_
    refine en_iconst mc166_341 ?_
    refine en_iadd mc166_342 ?_
    refine en_iald mc166_343 (⟨rfl, by decide, by decide⟩ : mt_kd[89]? = some (.inr (.int, 202)) ∧ 89 < 99 ∧ 202 < 2147483648) g3 g4 ?_
    refine en_callV (lz := [mm_r 72, mm_i (M.1 89 l5), mm_i (M.1 89 (l5 + 1)), mm_u, mm_u]) mv166 mc166_344 rfl rfl (lk_m7_142) mv38 rfl (by decide) rfl (mk_cokV rfl (⟨rfl, by decide⟩ : mt_kd[72]? = some (.inl 7) ∧ 72 < 99)) rfl (mk_nh rfl _) ho ?_
    refine en_CV_mono h (fun M6 h => ?_) (fun _ _ h => h)
    intro ho7
    replace h := h ho7
    refine en_iinc (ls' := [mm_r 72, mm_i l1, mm_i l2, mm_i l3, mm_i l4, mm_i (l5 + 1), mm_i l6, mm_i l7, mm_i l8]) mc166_347 rfl rfl ?_
    refine en_goto 230 mc166_350 (by decide) ?_
    exact h
  · replace h := h.2 q
    obtain ⟨g8, h⟩ := h
    obtain ⟨g9, h⟩ := h
    refine en_aload_n mc166_262 rfl ?_
    refine en_getR (b := 94) mv166 mc166_263 (lk_f7_76) (⟨rfl, by decide⟩ : mt_kd[72]? = some (.inl 7) ∧ 72 < 99) rfl (mk_fc ho (by decide +kernel)) ?_
    refine en_iload mc166_266 rfl ?_
    refine en_aload_n mc166_268 rfl ?_
    refine en_getI mv166 mc166_269 (lk_f7_199) (⟨rfl, by decide⟩ : mt_kd[72]? = some (.inl 7) ∧ 72 < 99) (Or.inl rfl) ?_
    refine en_iconst mc166_272 ?_
    refine en_iadd mc166_273 ?_
    refine en_imul mc166_274 ?_
    refine en_iload mc166_275 rfl ?_
    refine en_iadd mc166_277 ?_
    refine en_bald mc166_278 (⟨rfl, by decide, by decide⟩ : mt_kd[94]? = some (.inr (.boolean, 648000)) ∧ 94 < 99 ∧ 648000 < 2147483648) g8 g9 ?_
    refine en_if_eq 321 mc166_279 (by decide) (ho.2.1 94 ((l5 * ((M.1 72 23) + 1)) + l8) (by unfold mr_lg; omega)) (fun q => ?_) (fun q => ?_)
    · replace h := h.1 q
      refine en_iinc (ls' := [mm_r 72, mm_i l1, mm_i l2, mm_i l3, mm_i l4, mm_i l5, mm_i l6, mm_i l7, mm_i (l8 + 1)]) mc166_321 rfl rfl ?_
      refine en_goto 253 mc166_324 (by decide) ?_
      exact h
    · replace h := h.2 q
      refine en_iload mc166_282 rfl ?_
      refine en_if_eq 300 mc166_284 (by decide) hg_l6 (fun q => ?_) (fun q => ?_)
      · replace h := h.1 q
        exact h
      · replace h := h.2 q
        obtain ⟨g10, h⟩ := h
        obtain ⟨g11, h⟩ := h
        refine en_aload_n mc166_287 rfl ?_
        refine en_iload mc166_288 rfl ?_
        refine en_aload_n mc166_290 rfl ?_
        refine en_getR (b := 88) mv166 mc166_291 (lk_f7_55) (⟨rfl, by decide⟩ : mt_kd[72]? = some (.inl 7) ∧ 72 < 99) rfl (mk_fc ho (by decide +kernel)) ?_
        refine en_iload mc166_294 rfl ?_
        refine en_iald mc166_296 (⟨rfl, by decide, by decide⟩ : mt_kd[88]? = some (.inr (.int, 801)) ∧ 88 < 99 ∧ 801 < 2147483648) g10 g11 ?_
        refine en_callV (lz := [mm_r 72, mm_i l7, mm_i (M.1 88 l8)]) mv166 mc166_297 rfl rfl (lk_m7_127) mv36 rfl (by decide) rfl (mk_cokV rfl (⟨rfl, by decide⟩ : mt_kd[72]? = some (.inl 7) ∧ 72 < 99)) rfl (mk_nh rfl _) ho ?_
        refine en_CV_mono h (fun M13 h => ?_) (fun _ _ h => h)
        intro ho14
        replace h := h ho14
        exact h
theorem vc166_300 {sc : Nat × (Int → Int)} {Q : mm_R → mm_M → Prop} {M : mm_M} {l1 : Int} {l2 : Int} {l3 : Int} {l4 : Int} {l5 : Int} {l6 : Int} {l7 : Int} {l8 : Int} (ho : mr_ok M) (hg_l6 : mr_rg l6)
    (h : (l6 ≠ 0 → 0 ≤ l8 ∧ (l8 < 801 ∧ (en_R sc 166 253 [mm_r 72, mm_i l1, mm_i l2, mm_i l3, mm_i l4, mm_i l5, mm_i 0, mm_i (M.1 88 l8), mm_i (l8 + 1)] [] M Q))) ∧ (¬ (l6 ≠ 0) → 0 ≤ l8 ∧ (l8 < 801 ∧ (en_R sc 166 253 [mm_r 72, mm_i l1, mm_i l2, mm_i l3, mm_i l4, mm_i l5, mm_i 1, mm_i (M.1 88 l8), mm_i (l8 + 1)] [] M Q)))) : en_R sc 166 300 [mm_r 72, mm_i l1, mm_i l2, mm_i l3, mm_i l4, mm_i l5, mm_i l6, mm_i l7, mm_i l8] [] M Q := by
  refine en_iload mc166_300 rfl ?_
  refine en_if_ne 309 mc166_302 (by decide) hg_l6 (fun q => ?_) (fun q => ?_)
  · replace h := h.1 q
    obtain ⟨g1, h⟩ := h
    obtain ⟨g2, h⟩ := h
    refine en_iconst mc166_309 ?_
    refine en_istore (ls' := [mm_r 72, mm_i l1, mm_i l2, mm_i l3, mm_i l4, mm_i l5, mm_i 0, mm_i l7, mm_i l8]) mc166_310 (Nat.le_of_ble_eq_true rfl) rfl ?_
    refine en_aload_n mc166_312 rfl ?_
    refine en_getR (b := 88) mv166 mc166_313 (lk_f7_55) (⟨rfl, by decide⟩ : mt_kd[72]? = some (.inl 7) ∧ 72 < 99) rfl (mk_fc ho (by decide +kernel)) ?_
    refine en_iload mc166_316 rfl ?_
    refine en_iald mc166_318 (⟨rfl, by decide, by decide⟩ : mt_kd[88]? = some (.inr (.int, 801)) ∧ 88 < 99 ∧ 801 < 2147483648) g1 g2 ?_
    refine en_istore (ls' := [mm_r 72, mm_i l1, mm_i l2, mm_i l3, mm_i l4, mm_i l5, mm_i 0, mm_i (M.1 88 l8), mm_i l8]) mc166_319 (Nat.le_of_ble_eq_true rfl) rfl ?_
    refine en_iinc (ls' := [mm_r 72, mm_i l1, mm_i l2, mm_i l3, mm_i l4, mm_i l5, mm_i 0, mm_i (M.1 88 l8), mm_i (l8 + 1)]) mc166_321 rfl rfl ?_
    refine en_goto 253 mc166_324 (by decide) ?_
    exact h
  · replace h := h.2 q
    obtain ⟨g3, h⟩ := h
    obtain ⟨g4, h⟩ := h
    refine en_iconst mc166_305 ?_
    refine en_goto 310 mc166_306 (by decide) ?_
    refine en_istore (ls' := [mm_r 72, mm_i l1, mm_i l2, mm_i l3, mm_i l4, mm_i l5, mm_i 1, mm_i l7, mm_i l8]) mc166_310 (Nat.le_of_ble_eq_true rfl) rfl ?_
    refine en_aload_n mc166_312 rfl ?_
    refine en_getR (b := 88) mv166 mc166_313 (lk_f7_55) (⟨rfl, by decide⟩ : mt_kd[72]? = some (.inl 7) ∧ 72 < 99) rfl (mk_fc ho (by decide +kernel)) ?_
    refine en_iload mc166_316 rfl ?_
    refine en_iald mc166_318 (⟨rfl, by decide, by decide⟩ : mt_kd[88]? = some (.inr (.int, 801)) ∧ 88 < 99 ∧ 801 < 2147483648) g3 g4 ?_
    refine en_istore (ls' := [mm_r 72, mm_i l1, mm_i l2, mm_i l3, mm_i l4, mm_i l5, mm_i 1, mm_i (M.1 88 l8), mm_i l8]) mc166_319 (Nat.le_of_ble_eq_true rfl) rfl ?_
    refine en_iinc (ls' := [mm_r 72, mm_i l1, mm_i l2, mm_i l3, mm_i l4, mm_i l5, mm_i 1, mm_i (M.1 88 l8), mm_i (l8 + 1)]) mc166_321 rfl rfl ?_
    refine en_goto 253 mc166_324 (by decide) ?_
    exact h
/-! 167: CellAreas.partOf(III)I -/
theorem mc167_0 : mr_C 167 0 = some (.iload_n 1, 1) := by decide +kernel
theorem mc167_1 : mr_C 167 1 = some (.invokestatic 61, 3) := by decide +kernel
theorem mc167_4 : mr_C 167 4 = some (.aload_n 0, 1) := by decide +kernel
theorem mc167_5 : mr_C 167 5 = some (.getfield 11, 3) := by decide +kernel
theorem mc167_8 : mr_C 167 8 = some (.iload_n 1, 1) := by decide +kernel
theorem mc167_9 : mr_C 167 9 = some (.aaload, 1) := by decide +kernel
theorem mc167_10 : mr_C 167 10 = some (.aload_n 0, 1) := by decide +kernel
theorem mc167_11 : mr_C 167 11 = some (.getfield 11, 3) := by decide +kernel
theorem mc167_14 : mr_C 167 14 = some (.iload_n 1, 1) := by decide +kernel
theorem mc167_15 : mr_C 167 15 = some (.aaload, 1) := by decide +kernel
theorem mc167_16 : mr_C 167 16 = some (.iload_n 3, 1) := by decide +kernel
theorem mc167_17 : mr_C 167 17 = some (.invokevirtual 165, 3) := by decide +kernel
theorem mc167_20 : mr_C 167 20 = some (.iload_n 2, 1) := by decide +kernel
theorem mc167_21 : mr_C 167 21 = some (.invokevirtual 168, 3) := by decide +kernel
theorem mc167_24 : mr_C 167 24 = some (.istore 4, 2) := by decide +kernel
theorem mc167_26 : mr_C 167 26 = some (.iload 4, 2) := by decide +kernel
theorem mc167_28 : mr_C 167 28 = some (.iconst (-1), 1) := by decide +kernel
theorem mc167_29 : mr_C 167 29 = some (.if_icmp .ne (7), 3) := by decide +kernel
theorem mc167_32 : mr_C 167 32 = some (.iconst (-1), 1) := by decide +kernel
theorem mc167_33 : mr_C 167 33 = some (.goto 14, 3) := by decide +kernel
theorem mc167_36 : mr_C 167 36 = some (.aload_n 0, 1) := by decide +kernel
theorem mc167_37 : mr_C 167 37 = some (.iload_n 1, 1) := by decide +kernel
theorem mc167_38 : mr_C 167 38 = some (.invokevirtual 183, 3) := by decide +kernel
theorem mc167_41 : mr_C 167 41 = some (.getfield 213, 3) := by decide +kernel
theorem mc167_44 : mr_C 167 44 = some (.iload 4, 2) := by decide +kernel
theorem mc167_46 : mr_C 167 46 = some (.iaload, 1) := by decide +kernel
theorem mc167_47 : mr_C 167 47 = some (.ireturn, 1) := by decide +kernel
theorem vc167_0 {sc : Nat × (Int → Int)} {Q : mm_R → mm_M → Prop} {M : mm_M} {l1 : Int} {l2 : Int} {l3 : Int} (ho : mr_ok M)
    (h : en_CV sc 9 [mm_i l1] M (fun M2 => mr_ok M2 → 0 ≤ l1 ∧ (l1 < 8 ∧ (∃ b6, M2.2.1 1 l1 = some b6 ∧ mr_A b6 ∧ (0 ≤ l1 ∧ (l1 < 8 ∧ (∃ b10, M2.2.1 1 l1 = some b10 ∧ mr_A b10 ∧ (en_CI sc 49 [mm_r b10, mm_i l3, mm_u, mm_u, mm_u] M2 (fun x12 M13 => mr_ok M13 → en_CI sc 82 [mm_r b6, mm_i x12, mm_i l2, mm_u] M13 (fun x15 M16 => mr_ok M16 → mr_rg x15 ∧ ((x15 ≠ (-1) → en_CR sc 137 [mm_r 0, mm_i l1] M16 (fun x19 M20 => x19 = 21 ∧ (mr_ok M20 → 0 ≤ x15 ∧ (x15 < 400 ∧ (Q (.inl (some (mm_i (M20.1 22 x15)))) M20)))) (fun e M9 => Q (.inr e) M9)) ∧ (¬ (x15 ≠ (-1)) → Q (.inl (some (mm_i (-1)))) M16))) (fun e M9 => Q (.inr e) M9)) (fun e M9 => Q (.inr e) M9)))))))) (fun e M9 => Q (.inr e) M9)) : en_R sc 167 0 [mm_r 0, mm_i l1, mm_i l2, mm_i l3, mm_u] [] M Q := by
  refine en_iload_n mc167_0 rfl ?_
  refine en_callV (lz := [mm_i l1]) mv167 mc167_1 rfl rfl (lk_m6_61) mv9 rfl (by decide) rfl (mk_cokS rfl) rfl (mk_nh rfl _) ho ?_
  refine en_CV_mono h (fun M2 h => ?_) (fun _ _ h => h)
  intro ho3
  replace h := h ho3
  obtain ⟨g4, h⟩ := h
  obtain ⟨g5, h⟩ := h
  refine en_aload_n mc167_4 rfl ?_
  refine en_getR (b := 1) mv167 mc167_5 (lk_f6_11) (⟨rfl, by decide⟩ : mt_kd[0]? = some (.inl 6) ∧ 0 < 99) rfl (mk_fc ho3 (by decide +kernel)) ?_
  refine en_iload_n mc167_8 rfl ?_
  obtain ⟨b6, g7, hA_b6_, h⟩ := h
  refine en_aald mc167_9 g4 g5 g7 ?_
  obtain ⟨g8, h⟩ := h
  obtain ⟨g9, h⟩ := h
  refine en_aload_n mc167_10 rfl ?_
  refine en_getR (b := 1) mv167 mc167_11 (lk_f6_11) (⟨rfl, by decide⟩ : mt_kd[0]? = some (.inl 6) ∧ 0 < 99) rfl (mk_fc ho3 (by decide +kernel)) ?_
  refine en_iload_n mc167_14 rfl ?_
  obtain ⟨b10, g11, hA_b10_, h⟩ := h
  refine en_aald mc167_15 g8 g9 g11 ?_
  refine en_iload_n mc167_16 rfl ?_
  refine en_callI (lz := [mm_r b10, mm_i l3, mm_u, mm_u, mm_u]) mv167 mc167_17 rfl rfl (lk_m6_165) mv49 rfl (by decide) rfl (mk_cokV rfl (mk_A0 hA_b10_)) rfl (mk_nh rfl _) ho3 ?_
  refine en_CI_mono h (fun x12 M13 h => ?_) (fun _ _ h => h)
  intro ho14
  replace h := h ho14
  refine en_iload_n mc167_20 rfl ?_
  refine en_callI (lz := [mm_r b6, mm_i x12, mm_i l2, mm_u]) mv167 mc167_21 rfl rfl (lk_m6_168) mv82 rfl (by decide) rfl (mk_cokV rfl (mk_A0 hA_b6_)) rfl (mk_nh rfl _) ho14 ?_
  refine en_CI_mono h (fun x15 M16 h => ?_) (fun _ _ h => h)
  intro ho17
  replace h := h ho17
  obtain ⟨g18, h⟩ := h
  refine en_istore (ls' := [mm_r 0, mm_i l1, mm_i l2, mm_i l3, mm_i x15]) mc167_24 (Nat.le_of_ble_eq_true rfl) rfl ?_
  refine en_iload mc167_26 rfl ?_
  refine en_iconst mc167_28 ?_
  refine en_icmp_ne 36 mc167_29 (by decide) g18 (⟨by decide, by decide⟩ : mr_rg (-1)) (fun q => ?_) (fun q => ?_)
  · replace h := h.1 q
    refine en_aload_n mc167_36 rfl ?_
    refine en_iload_n mc167_37 rfl ?_
    refine en_callR (lz := [mm_r 0, mm_i l1]) mv167 mc167_38 rfl rfl (lk_m6_183) mv137 rfl (by decide) rfl (mk_cokV rfl (⟨rfl, by decide⟩ : mt_kd[0]? = some (.inl 6) ∧ 0 < 99)) rfl (mk_nh rfl _) ho17 ?_
    refine en_CR_mono h (fun x19 M20 h => ?_) (fun _ _ h => h)
    obtain ⟨rfl, h⟩ := h
    intro ho21
    replace h := h ho21
    obtain ⟨g22, h⟩ := h
    obtain ⟨g23, h⟩ := h
    refine en_getR (b := 22) mv167 mc167_41 (lk_f6_213) (⟨rfl, by decide⟩ : mt_kd[21]? = some (.inl 4) ∧ 21 < 99) rfl (mk_fc ho21 (by decide +kernel)) ?_
    refine en_iload mc167_44 rfl ?_
    refine en_iald mc167_46 (⟨rfl, by decide, by decide⟩ : mt_kd[22]? = some (.inr (.int, 400)) ∧ 22 < 99 ∧ 400 < 2147483648) g22 g23 ?_
    exact en_iret mv167 mc167_47 rfl h
  · replace h := h.2 q
    refine en_iconst mc167_32 ?_
    refine en_goto 47 mc167_33 (by decide) ?_
    exact en_iret mv167 mc167_47 rfl h
/-! 169: CellAreasModel.partOf(III)I -/
theorem mc169_0 : mr_C 169 0 = some (.aload_n 0, 1) := by decide +kernel
theorem mc169_1 : mr_C 169 1 = some (.aload_n 0, 1) := by decide +kernel
theorem mc169_2 : mr_C 169 2 = some (.iload_n 1, 1) := by decide +kernel
theorem mc169_3 : mr_C 169 3 = some (.invokevirtual 131, 3) := by decide +kernel
theorem mc169_6 : mr_C 169 6 = some (.ifCond .eq (7), 3) := by decide +kernel
theorem mc169_9 : mr_C 169 9 = some (.iconst 0, 1) := by decide +kernel
theorem mc169_10 : mr_C 169 10 = some (.goto 4, 3) := by decide +kernel
theorem mc169_13 : mr_C 169 13 = some (.iconst 1, 1) := by decide +kernel
theorem mc169_14 : mr_C 169 14 = some (.putfield 89, 3) := by decide +kernel
theorem mc169_17 : mr_C 169 17 = some (.aload_n 0, 1) := by decide +kernel
theorem mc169_18 : mr_C 169 18 = some (.getfield 89, 3) := by decide +kernel
theorem mc169_21 : mr_C 169 21 = some (.ifCond .le (7), 3) := by decide +kernel
theorem mc169_24 : mr_C 169 24 = some (.iconst (-1), 1) := by decide +kernel
theorem mc169_25 : mr_C 169 25 = some (.goto 10, 3) := by decide +kernel
theorem mc169_28 : mr_C 169 28 = some (.aload_n 0, 1) := by decide +kernel
theorem mc169_29 : mr_C 169 29 = some (.iload_n 1, 1) := by decide +kernel
theorem mc169_30 : mr_C 169 30 = some (.iload_n 2, 1) := by decide +kernel
theorem mc169_31 : mr_C 169 31 = some (.iload_n 3, 1) := by decide +kernel
theorem mc169_32 : mr_C 169 32 = some (.invokevirtual 191, 3) := by decide +kernel
theorem mc169_35 : mr_C 169 35 = some (.istore 4, 2) := by decide +kernel
theorem mc169_37 : mr_C 169 37 = some (.iload 4, 2) := by decide +kernel
theorem mc169_39 : mr_C 169 39 = some (.ifCond .ge (16), 3) := by decide +kernel
theorem mc169_42 : mr_C 169 42 = some (.aload_n 0, 1) := by decide +kernel
theorem mc169_43 : mr_C 169 43 = some (.getfield 89, 3) := by decide +kernel
theorem mc169_46 : mr_C 169 46 = some (.ifCond .le (7), 3) := by decide +kernel
theorem mc169_49 : mr_C 169 49 = some (.iconst 0, 1) := by decide +kernel
theorem mc169_50 : mr_C 169 50 = some (.goto 4, 3) := by decide +kernel
theorem mc169_53 : mr_C 169 53 = some (.iconst (-1), 1) := by decide +kernel
theorem mc169_54 : mr_C 169 54 = some (.ireturn, 1) := by decide +kernel
theorem mc169_55 : mr_C 169 55 = some (.aload_n 0, 1) := by decide +kernel
theorem mc169_56 : mr_C 169 56 = some (.iload_n 1, 1) := by decide +kernel
theorem mc169_57 : mr_C 169 57 = some (.invokevirtual 258, 3) := by decide +kernel
theorem mc169_60 : mr_C 169 60 = some (.istore 5, 2) := by decide +kernel
theorem mc169_62 : mr_C 169 62 = some (.aload_n 0, 1) := by decide +kernel
theorem mc169_63 : mr_C 169 63 = some (.getfield 83, 3) := by decide +kernel
theorem mc169_66 : mr_C 169 66 = some (.iload 4, 2) := by decide +kernel
theorem mc169_68 : mr_C 169 68 = some (.sipush 402, 3) := by decide +kernel
theorem mc169_71 : mr_C 169 71 = some (.iload_n 1, 1) := by decide +kernel
theorem mc169_72 : mr_C 169 72 = some (.imul, 1) := by decide +kernel
theorem mc169_73 : mr_C 169 73 = some (.isub, 1) := by decide +kernel
theorem mc169_74 : mr_C 169 74 = some (.iaload, 1) := by decide +kernel
theorem mc169_75 : mr_C 169 75 = some (.ireturn, 1) := by decide +kernel
theorem vc169_0 {sc : Nat × (Int → Int)} {Q : mm_R → mm_M → Prop} {M : mm_M} {l1 : Int} {l2 : Int} {l3 : Int} (ho : mr_ok M)
    (h : en_CI sc 34 [mm_r 72, mm_i l1] M (fun x1 M2 => mr_ok M2 → mr_rg x1 ∧ ((x1 = 0 → en_R sc 169 14 [mm_r 72, mm_i l1, mm_i l2, mm_i l3, mm_u, mm_u] [mm_i 1, mm_r 72] M2 Q) ∧ (¬ x1 = 0 → en_R sc 169 14 [mm_r 72, mm_i l1, mm_i l2, mm_i l3, mm_u, mm_u] [mm_i 0, mm_r 72] M2 Q))) (fun e M9 => Q (.inr e) M9)) : en_R sc 169 0 [mm_r 72, mm_i l1, mm_i l2, mm_i l3, mm_u, mm_u] [] M Q := by
  refine en_aload_n mc169_0 rfl ?_
  refine en_aload_n mc169_1 rfl ?_
  refine en_iload_n mc169_2 rfl ?_
  refine en_callI (lz := [mm_r 72, mm_i l1]) mv169 mc169_3 rfl rfl (lk_m7_131) mv34 rfl (by decide) rfl (mk_cokV rfl (⟨rfl, by decide⟩ : mt_kd[72]? = some (.inl 7) ∧ 72 < 99)) rfl (mk_nh rfl _) ho ?_
  refine en_CI_mono h (fun x1 M2 h => ?_) (fun _ _ h => h)
  intro ho3
  replace h := h ho3
  obtain ⟨g4, h⟩ := h
  refine en_if_eq 13 mc169_6 (by decide) g4 (fun q => ?_) (fun q => ?_)
  · replace h := h.1 q
    refine en_iconst mc169_13 ?_
    exact h
  · replace h := h.2 q
    refine en_iconst mc169_9 ?_
    refine en_goto 14 mc169_10 (by decide) ?_
    exact h
theorem vc169_14 {sc : Nat × (Int → Int)} {Q : mm_R → mm_M → Prop} {M : mm_M} {l1 : Int} {l2 : Int} {l3 : Int} {s1 : Int} (ho : mr_ok M) (hg_s1 : mr_rg s1)
    (h : (((mm_putN M 72 0 s1).1 72 0) ≤ 0 → en_CI sc 113 [mm_r 72, mm_i l1, mm_i l2, mm_i l3, mm_u, mm_u, mm_u, mm_u] (mm_putN M 72 0 s1) (fun x1 M2 => mr_ok M2 → en_R sc 169 35 [mm_r 72, mm_i l1, mm_i l2, mm_i l3, mm_u, mm_u] [mm_i x1] M2 Q) (fun e M9 => Q (.inr e) M9)) ∧ (¬ ((mm_putN M 72 0 s1).1 72 0) ≤ 0 → en_R sc 169 35 [mm_r 72, mm_i l1, mm_i l2, mm_i l3, mm_u, mm_u] [mm_i (-1)] (mm_putN M 72 0 s1) Q)) : en_R sc 169 14 [mm_r 72, mm_i l1, mm_i l2, mm_i l3, mm_u, mm_u] [mm_i s1, mm_r 72] M Q := by
  refine en_putI mv169 mc169_14 (lk_f7_89) (⟨rfl, by decide⟩ : mt_kd[72]? = some (.inl 7) ∧ 72 < 99) rfl rfl hg_s1 ?_
  refine en_aload_n mc169_17 rfl ?_
  refine en_getI mv169 mc169_18 (lk_f7_89) (⟨rfl, by decide⟩ : mt_kd[72]? = some (.inl 7) ∧ 72 < 99) (Or.inl rfl) ?_
  refine en_if_le 28 mc169_21 (by decide) ((mr_ok_putI (a := 72) (k := 0) ho hg_s1).2.1 72 0 (by unfold mr_lg; omega)) (fun q => ?_) (fun q => ?_)
  · replace h := h.1 q
    refine en_aload_n mc169_28 rfl ?_
    refine en_iload_n mc169_29 rfl ?_
    refine en_iload_n mc169_30 rfl ?_
    refine en_iload_n mc169_31 rfl ?_
    refine en_callI (lz := [mm_r 72, mm_i l1, mm_i l2, mm_i l3, mm_u, mm_u, mm_u, mm_u]) mv169 mc169_32 rfl rfl (lk_m7_191) mv113 rfl (by decide) rfl (mk_cokV rfl (⟨rfl, by decide⟩ : mt_kd[72]? = some (.inl 7) ∧ 72 < 99)) rfl (mk_nh rfl _) (mr_ok_putI (a := 72) (k := 0) ho hg_s1) ?_
    refine en_CI_mono h (fun x1 M2 h => ?_) (fun _ _ h => h)
    intro ho3
    replace h := h ho3
    exact h
  · replace h := h.2 q
    refine en_iconst mc169_24 ?_
    refine en_goto 35 mc169_25 (by decide) ?_
    exact h
theorem vc169_35 {sc : Nat × (Int → Int)} {Q : mm_R → mm_M → Prop} {M : mm_M} {l1 : Int} {l2 : Int} {l3 : Int} {s0 : Int} (ho : mr_ok M) (hg_s0 : mr_rg s0)
    (h : (0 ≤ s0 → en_CI sc 144 [mm_r 72, mm_i l1, mm_u, mm_u, mm_u, mm_u, mm_u, mm_u] M (fun x1 M2 => mr_ok M2 → 0 ≤ (s0 - (402 * l1)) ∧ ((s0 - (402 * l1)) < 402 ∧ (Q (.inl (some (mm_i (M2.1 96 (s0 - (402 * l1)))))) M2))) (fun e M9 => Q (.inr e) M9)) ∧ (¬ 0 ≤ s0 → ((M.1 72 0) ≤ 0 → Q (.inl (some (mm_i (-1)))) M) ∧ (¬ (M.1 72 0) ≤ 0 → Q (.inl (some (mm_i 0))) M))) : en_R sc 169 35 [mm_r 72, mm_i l1, mm_i l2, mm_i l3, mm_u, mm_u] [mm_i s0] M Q := by
  refine en_istore (ls' := [mm_r 72, mm_i l1, mm_i l2, mm_i l3, mm_i s0, mm_u]) mc169_35 (Nat.le_of_ble_eq_true rfl) rfl ?_
  refine en_iload mc169_37 rfl ?_
  refine en_if_ge 55 mc169_39 (by decide) hg_s0 (fun q => ?_) (fun q => ?_)
  · replace h := h.1 q
    refine en_aload_n mc169_55 rfl ?_
    refine en_iload_n mc169_56 rfl ?_
    refine en_callI (lz := [mm_r 72, mm_i l1, mm_u, mm_u, mm_u, mm_u, mm_u, mm_u]) mv169 mc169_57 rfl rfl (lk_m7_258) mv144 rfl (by decide) rfl (mk_cokV rfl (⟨rfl, by decide⟩ : mt_kd[72]? = some (.inl 7) ∧ 72 < 99)) rfl (mk_nh rfl _) ho ?_
    refine en_CI_mono h (fun x1 M2 h => ?_) (fun _ _ h => h)
    intro ho3
    replace h := h ho3
    obtain ⟨g4, h⟩ := h
    obtain ⟨g5, h⟩ := h
    refine en_istore (ls' := [mm_r 72, mm_i l1, mm_i l2, mm_i l3, mm_i s0, mm_i x1]) mc169_60 (Nat.le_of_ble_eq_true rfl) rfl ?_
    refine en_aload_n mc169_62 rfl ?_
    refine en_getR (b := 96) mv169 mc169_63 (lk_f7_83) (⟨rfl, by decide⟩ : mt_kd[72]? = some (.inl 7) ∧ 72 < 99) rfl (mk_fc ho3 (by decide +kernel)) ?_
    refine en_iload mc169_66 rfl ?_
    refine en_sipush mc169_68 (by decide) ?_
    refine en_iload_n mc169_71 rfl ?_
    refine en_imul mc169_72 ?_
    refine en_isub mc169_73 ?_
    refine en_iald mc169_74 (⟨rfl, by decide, by decide⟩ : mt_kd[96]? = some (.inr (.int, 402)) ∧ 96 < 99 ∧ 402 < 2147483648) g4 g5 ?_
    exact en_iret mv169 mc169_75 rfl h
  · replace h := h.2 q
    refine en_aload_n mc169_42 rfl ?_
    refine en_getI mv169 mc169_43 (lk_f7_89) (⟨rfl, by decide⟩ : mt_kd[72]? = some (.inl 7) ∧ 72 < 99) (Or.inl rfl) ?_
    refine en_if_le 53 mc169_46 (by decide) (ho.2.1 72 0 (by unfold mr_lg; omega)) (fun q => ?_) (fun q => ?_)
    · replace h := h.1 q
      refine en_iconst mc169_53 ?_
      exact en_iret mv169 mc169_54 rfl h
    · replace h := h.2 q
      refine en_iconst mc169_49 ?_
      refine en_goto 54 mc169_50 (by decide) ?_
      exact en_iret mv169 mc169_54 rfl h
