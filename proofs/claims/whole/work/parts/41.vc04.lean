/-! 110: CellAreasModel.stretch(IIII)I -/
theorem mc110_0 : mr_C 110 0 = some (.aload_n 0, 1) := rfl
theorem mc110_1 : mr_C 110 1 = some (.aload_n 0, 1) := rfl
theorem mc110_2 : mr_C 110 2 = some (.iload_n 1, 1) := rfl
theorem mc110_3 : mr_C 110 3 = some (.invokevirtual 131, 3) := rfl
theorem mc110_6 : mr_C 110 6 = some (.ifCond .eq (7), 3) := rfl
theorem mc110_9 : mr_C 110 9 = some (.iconst 0, 1) := rfl
theorem mc110_10 : mr_C 110 10 = some (.goto 4, 3) := rfl
theorem mc110_13 : mr_C 110 13 = some (.iconst 1, 1) := rfl
theorem mc110_14 : mr_C 110 14 = some (.putfield 89, 3) := rfl
theorem mc110_17 : mr_C 110 17 = some (.aload_n 0, 1) := rfl
theorem mc110_18 : mr_C 110 18 = some (.getfield 89, 3) := rfl
theorem mc110_21 : mr_C 110 21 = some (.ifCond .gt (50), 3) := rfl
theorem mc110_24 : mr_C 110 24 = some (.iload_n 2, 1) := rfl
theorem mc110_25 : mr_C 110 25 = some (.iconst 0, 1) := rfl
theorem mc110_26 : mr_C 110 26 = some (.aload_n 0, 1) := rfl
theorem mc110_27 : mr_C 110 27 = some (.getfield 22, 3) := by decide +kernel
theorem mc110_30 : mr_C 110 30 = some (.iload_n 1, 1) := by decide +kernel
theorem mc110_31 : mr_C 110 31 = some (.iaload, 1) := by decide +kernel
theorem mc110_32 : mr_C 110 32 = some (.iconst 1, 1) := by decide +kernel
theorem mc110_33 : mr_C 110 33 = some (.isub, 1) := by decide +kernel
theorem mc110_34 : mr_C 110 34 = some (.invokestatic 135, 3) := by decide +kernel
theorem mc110_37 : mr_C 110 37 = some (.ifCond .eq (34), 3) := by decide +kernel
theorem mc110_40 : mr_C 110 40 = some (.iload_n 3, 1) := by decide +kernel
theorem mc110_41 : mr_C 110 41 = some (.iconst 0, 1) := by decide +kernel
theorem mc110_42 : mr_C 110 42 = some (.aload_n 0, 1) := by decide +kernel
theorem mc110_43 : mr_C 110 43 = some (.getfield 19, 3) := by decide +kernel
theorem mc110_46 : mr_C 110 46 = some (.bipush 102, 2) := by decide +kernel
theorem mc110_48 : mr_C 110 48 = some (.iload_n 1, 1) := by decide +kernel
theorem mc110_49 : mr_C 110 49 = some (.imul, 1) := by decide +kernel
theorem mc110_50 : mr_C 110 50 = some (.iload_n 2, 1) := by decide +kernel
theorem mc110_51 : mr_C 110 51 = some (.iadd, 1) := by decide +kernel
theorem mc110_52 : mr_C 110 52 = some (.iaload, 1) := by decide +kernel
theorem mc110_53 : mr_C 110 53 = some (.iconst 1, 1) := by decide +kernel
theorem mc110_54 : mr_C 110 54 = some (.isub, 1) := by decide +kernel
theorem mc110_55 : mr_C 110 55 = some (.invokestatic 135, 3) := by decide +kernel
theorem mc110_58 : mr_C 110 58 = some (.ifCond .eq (13), 3) := by decide +kernel
theorem mc110_61 : mr_C 110 61 = some (.iload 4, 2) := by decide +kernel
theorem mc110_63 : mr_C 110 63 = some (.iconst 0, 1) := by decide +kernel
theorem mc110_64 : mr_C 110 64 = some (.iconst 1, 1) := by decide +kernel
theorem mc110_65 : mr_C 110 65 = some (.invokestatic 135, 3) := by decide +kernel
theorem mc110_68 : mr_C 110 68 = some (.ifCond .ne (18), 3) := by decide +kernel
theorem mc110_71 : mr_C 110 71 = some (.aload_n 0, 1) := by decide +kernel
theorem mc110_72 : mr_C 110 72 = some (.getfield 89, 3) := by decide +kernel
theorem mc110_75 : mr_C 110 75 = some (.ifCond .le (7), 3) := by decide +kernel
theorem mc110_78 : mr_C 110 78 = some (.iconst 0, 1) := by decide +kernel
theorem mc110_79 : mr_C 110 79 = some (.goto 6, 3) := by decide +kernel
theorem mc110_82 : mr_C 110 82 = some (.sipush (-2001), 3) := by decide +kernel
theorem mc110_85 : mr_C 110 85 = some (.ireturn, 1) := by decide +kernel
theorem mc110_86 : mr_C 110 86 = some (.aload_n 0, 1) := by decide +kernel
theorem mc110_87 : mr_C 110 87 = some (.getfield 16, 3) := by decide +kernel
theorem mc110_90 : mr_C 110 90 = some (.bipush 102, 2) := by decide +kernel
theorem mc110_92 : mr_C 110 92 = some (.iload_n 1, 1) := by decide +kernel
theorem mc110_93 : mr_C 110 93 = some (.imul, 1) := by decide +kernel
theorem mc110_94 : mr_C 110 94 = some (.iload_n 2, 1) := by decide +kernel
theorem mc110_95 : mr_C 110 95 = some (.iadd, 1) := by decide +kernel
theorem mc110_96 : mr_C 110 96 = some (.iaload, 1) := by decide +kernel
theorem mc110_97 : mr_C 110 97 = some (.iload_n 3, 1) := by decide +kernel
theorem mc110_98 : mr_C 110 98 = some (.iadd, 1) := by decide +kernel
theorem mc110_99 : mr_C 110 99 = some (.istore 5, 2) := by decide +kernel
theorem mc110_101 : mr_C 110 101 = some (.iload 4, 2) := by decide +kernel
theorem mc110_103 : mr_C 110 103 = some (.ifCond .ne (13), 3) := by decide +kernel
theorem mc110_106 : mr_C 110 106 = some (.aload_n 0, 1) := by decide +kernel
theorem mc110_107 : mr_C 110 107 = some (.getfield 25, 3) := by decide +kernel
theorem mc110_110 : mr_C 110 110 = some (.iload 5, 2) := by decide +kernel
theorem mc110_112 : mr_C 110 112 = some (.iaload, 1) := by decide +kernel
theorem mc110_113 : mr_C 110 113 = some (.goto 10, 3) := by decide +kernel
theorem mc110_116 : mr_C 110 116 = some (.aload_n 0, 1) := by decide +kernel
theorem mc110_117 : mr_C 110 117 = some (.getfield 28, 3) := by decide +kernel
theorem mc110_120 : mr_C 110 120 = some (.iload 5, 2) := by decide +kernel
theorem mc110_122 : mr_C 110 122 = some (.iaload, 1) := by decide +kernel
theorem mc110_123 : mr_C 110 123 = some (.ireturn, 1) := by decide +kernel
theorem vc110_0 {sc : Nat × (Int → Int)} {Q : mm_R → mm_M → Prop} {M : mm_M} {l1 : Int} {l2 : Int} {l3 : Int} {l4 : Int} (ho : mr_ok M)
    (h : en_CI sc 34 [mm_r 72, mm_i l1] M (fun x1 M2 => mr_ok M2 → mr_rg x1 ∧ ((x1 = 0 → en_R sc 110 14 [mm_r 72, mm_i l1, mm_i l2, mm_i l3, mm_i l4, mm_u] [mm_i 1, mm_r 72] M2 Q) ∧ (¬ x1 = 0 → en_R sc 110 14 [mm_r 72, mm_i l1, mm_i l2, mm_i l3, mm_i l4, mm_u] [mm_i 0, mm_r 72] M2 Q))) (fun e M9 => Q (.inr e) M9)) : en_R sc 110 0 [mm_r 72, mm_i l1, mm_i l2, mm_i l3, mm_i l4, mm_u] [] M Q := by
  refine en_aload_n mc110_0 rfl ?_
  refine en_aload_n mc110_1 rfl ?_
  refine en_iload_n mc110_2 rfl ?_
  refine en_callI (lz := [mm_r 72, mm_i l1]) mv110 mc110_3 rfl rfl (lk_m7_131) mv34 rfl (by decide) rfl (mk_cokV rfl (⟨rfl, by decide⟩ : mt_kd[72]? = some (.inl 7) ∧ 72 < 99)) rfl (mk_nh rfl _) ho ?_
  refine en_CI_mono h (fun x1 M2 h => ?_) (fun _ _ h => h)
  intro ho3
  replace h := h ho3
  obtain ⟨g4, h⟩ := h
  refine en_if_eq 13 mc110_6 (by decide) g4 (fun q => ?_) (fun q => ?_)
  · replace h := h.1 q
    refine en_iconst mc110_13 ?_
    exact h
  · replace h := h.2 q
    refine en_iconst mc110_9 ?_
    refine en_goto 14 mc110_10 (by decide) ?_
    exact h
theorem vc110_14 {sc : Nat × (Int → Int)} {Q : mm_R → mm_M → Prop} {M : mm_M} {l1 : Int} {l2 : Int} {l3 : Int} {l4 : Int} {s1 : Int} (ho : mr_ok M) (hg_s1 : mr_rg s1) (hg_l4 : mr_rg l4)
    (h : (0 < ((mm_putN M 72 0 s1).1 72 0) → en_R sc 110 71 [mm_r 72, mm_i l1, mm_i l2, mm_i l3, mm_i l4, mm_u] [] (mm_putN M 72 0 s1) Q) ∧ (¬ 0 < ((mm_putN M 72 0 s1).1 72 0) → 0 ≤ l1 ∧ (l1 < 9 ∧ (en_CI sc 33 [mm_i l2, mm_i 0, mm_i (((mm_putN M 72 0 s1).1 77 l1) - 1)] (mm_putN M 72 0 s1) (fun x3 M4 => mr_ok M4 → mr_rg x3 ∧ ((x3 = 0 → en_R sc 110 71 [mm_r 72, mm_i l1, mm_i l2, mm_i l3, mm_i l4, mm_u] [] M4 Q) ∧ (¬ x3 = 0 → 0 ≤ ((102 * l1) + l2) ∧ (((102 * l1) + l2) < 918 ∧ (en_CI sc 33 [mm_i l3, mm_i 0, mm_i ((M4.1 76 ((102 * l1) + l2)) - 1)] M4 (fun x9 M10 => mr_ok M10 → mr_rg x9 ∧ ((x9 = 0 → en_R sc 110 71 [mm_r 72, mm_i l1, mm_i l2, mm_i l3, mm_i l4, mm_u] [] M10 Q) ∧ (¬ x9 = 0 → en_CI sc 33 [mm_i l4, mm_i 0, mm_i 1] M10 (fun x13 M14 => mr_ok M14 → mr_rg x13 ∧ ((x13 ≠ 0 → 0 ≤ ((102 * l1) + l2) ∧ (((102 * l1) + l2) < 918 ∧ ((l4 ≠ 0 → 0 ≤ ((M14.1 75 ((102 * l1) + l2)) + l3) ∧ (((M14.1 75 ((102 * l1) + l2)) + l3) < 3618 ∧ (Q (.inl (some (mm_i (M14.1 79 ((M14.1 75 ((102 * l1) + l2)) + l3))))) M14))) ∧ (¬ (l4 ≠ 0) → 0 ≤ ((M14.1 75 ((102 * l1) + l2)) + l3) ∧ (((M14.1 75 ((102 * l1) + l2)) + l3) < 3618 ∧ (Q (.inl (some (mm_i (M14.1 78 ((M14.1 75 ((102 * l1) + l2)) + l3))))) M14)))))) ∧ (¬ (x13 ≠ 0) → en_R sc 110 71 [mm_r 72, mm_i l1, mm_i l2, mm_i l3, mm_i l4, mm_u] [] M14 Q))) (fun e M9 => Q (.inr e) M9)))) (fun e M9 => Q (.inr e) M9)))))) (fun e M9 => Q (.inr e) M9))))) : en_R sc 110 14 [mm_r 72, mm_i l1, mm_i l2, mm_i l3, mm_i l4, mm_u] [mm_i s1, mm_r 72] M Q := by
  refine en_putI mv110 mc110_14 (lk_f7_89) (⟨rfl, by decide⟩ : mt_kd[72]? = some (.inl 7) ∧ 72 < 99) rfl rfl hg_s1 ?_
  refine en_aload_n mc110_17 rfl ?_
  refine en_getI mv110 mc110_18 (lk_f7_89) (⟨rfl, by decide⟩ : mt_kd[72]? = some (.inl 7) ∧ 72 < 99) (Or.inl rfl) ?_
  refine en_if_gt 71 mc110_21 (by decide) ((mr_ok_putI (a := 72) (k := 0) ho hg_s1).2.1 72 0 (by unfold mr_lg; omega)) (fun q => ?_) (fun q => ?_)
  · replace h := h.1 q
    exact h
  · replace h := h.2 q
    obtain ⟨g1, h⟩ := h
    obtain ⟨g2, h⟩ := h
    refine en_iload_n mc110_24 rfl ?_
    refine en_iconst mc110_25 ?_
    refine en_aload_n mc110_26 rfl ?_
    refine en_getR (b := 77) mv110 mc110_27 (lk_f7_22) (⟨rfl, by decide⟩ : mt_kd[72]? = some (.inl 7) ∧ 72 < 99) rfl (mk_fc (mr_ok_putI (a := 72) (k := 0) ho hg_s1) (by decide +kernel)) ?_
    refine en_iload_n mc110_30 rfl ?_
    refine en_iald mc110_31 (⟨rfl, by decide, by decide⟩ : mt_kd[77]? = some (.inr (.int, 9)) ∧ 77 < 99 ∧ 9 < 2147483648) g1 g2 ?_
    refine en_iconst mc110_32 ?_
    refine en_isub mc110_33 ?_
    refine en_callI (lz := [mm_i l2, mm_i 0, mm_i (((mm_putN M 72 0 s1).1 77 l1) - 1)]) mv110 mc110_34 rfl rfl (lk_m7_135) mv33 rfl (by decide) rfl (mk_cokS rfl) rfl (mk_nh rfl _) (mr_ok_putI (a := 72) (k := 0) ho hg_s1) ?_
    refine en_CI_mono h (fun x3 M4 h => ?_) (fun _ _ h => h)
    intro ho5
    replace h := h ho5
    obtain ⟨g6, h⟩ := h
    refine en_if_eq 71 mc110_37 (by decide) g6 (fun q => ?_) (fun q => ?_)
    · replace h := h.1 q
      exact h
    · replace h := h.2 q
      obtain ⟨g7, h⟩ := h
      obtain ⟨g8, h⟩ := h
      refine en_iload_n mc110_40 rfl ?_
      refine en_iconst mc110_41 ?_
      refine en_aload_n mc110_42 rfl ?_
      refine en_getR (b := 76) mv110 mc110_43 (lk_f7_19) (⟨rfl, by decide⟩ : mt_kd[72]? = some (.inl 7) ∧ 72 < 99) rfl (mk_fc ho5 (by decide +kernel)) ?_
      refine en_bipush mc110_46 (by decide) ?_
      refine en_iload_n mc110_48 rfl ?_
      refine en_imul mc110_49 ?_
      refine en_iload_n mc110_50 rfl ?_
      refine en_iadd mc110_51 ?_
      refine en_iald mc110_52 (⟨rfl, by decide, by decide⟩ : mt_kd[76]? = some (.inr (.int, 918)) ∧ 76 < 99 ∧ 918 < 2147483648) g7 g8 ?_
      refine en_iconst mc110_53 ?_
      refine en_isub mc110_54 ?_
      refine en_callI (lz := [mm_i l3, mm_i 0, mm_i ((M4.1 76 ((102 * l1) + l2)) - 1)]) mv110 mc110_55 rfl rfl (lk_m7_135) mv33 rfl (by decide) rfl (mk_cokS rfl) rfl (mk_nh rfl _) ho5 ?_
      refine en_CI_mono h (fun x9 M10 h => ?_) (fun _ _ h => h)
      intro ho11
      replace h := h ho11
      obtain ⟨g12, h⟩ := h
      refine en_if_eq 71 mc110_58 (by decide) g12 (fun q => ?_) (fun q => ?_)
      · replace h := h.1 q
        exact h
      · replace h := h.2 q
        refine en_iload mc110_61 rfl ?_
        refine en_iconst mc110_63 ?_
        refine en_iconst mc110_64 ?_
        refine en_callI (lz := [mm_i l4, mm_i 0, mm_i 1]) mv110 mc110_65 rfl rfl (lk_m7_135) mv33 rfl (by decide) rfl (mk_cokS rfl) rfl (mk_nh rfl _) ho11 ?_
        refine en_CI_mono h (fun x13 M14 h => ?_) (fun _ _ h => h)
        intro ho15
        replace h := h ho15
        obtain ⟨g16, h⟩ := h
        refine en_if_ne 86 mc110_68 (by decide) g16 (fun q => ?_) (fun q => ?_)
        · replace h := h.1 q
          obtain ⟨g17, h⟩ := h
          obtain ⟨g18, h⟩ := h
          refine en_aload_n mc110_86 rfl ?_
          refine en_getR (b := 75) mv110 mc110_87 (lk_f7_16) (⟨rfl, by decide⟩ : mt_kd[72]? = some (.inl 7) ∧ 72 < 99) rfl (mk_fc ho15 (by decide +kernel)) ?_
          refine en_bipush mc110_90 (by decide) ?_
          refine en_iload_n mc110_92 rfl ?_
          refine en_imul mc110_93 ?_
          refine en_iload_n mc110_94 rfl ?_
          refine en_iadd mc110_95 ?_
          refine en_iald mc110_96 (⟨rfl, by decide, by decide⟩ : mt_kd[75]? = some (.inr (.int, 918)) ∧ 75 < 99 ∧ 918 < 2147483648) g17 g18 ?_
          refine en_iload_n mc110_97 rfl ?_
          refine en_iadd mc110_98 ?_
          refine en_istore (ls' := [mm_r 72, mm_i l1, mm_i l2, mm_i l3, mm_i l4, mm_i ((M14.1 75 ((102 * l1) + l2)) + l3)]) mc110_99 (Nat.le_of_ble_eq_true rfl) rfl ?_
          refine en_iload mc110_101 rfl ?_
          refine en_if_ne 116 mc110_103 (by decide) hg_l4 (fun q => ?_) (fun q => ?_)
          · replace h := h.1 q
            obtain ⟨g19, h⟩ := h
            obtain ⟨g20, h⟩ := h
            refine en_aload_n mc110_116 rfl ?_
            refine en_getR (b := 79) mv110 mc110_117 (lk_f7_28) (⟨rfl, by decide⟩ : mt_kd[72]? = some (.inl 7) ∧ 72 < 99) rfl (mk_fc ho15 (by decide +kernel)) ?_
            refine en_iload mc110_120 rfl ?_
            refine en_iald mc110_122 (⟨rfl, by decide, by decide⟩ : mt_kd[79]? = some (.inr (.int, 3618)) ∧ 79 < 99 ∧ 3618 < 2147483648) g19 g20 ?_
            exact en_iret mv110 mc110_123 rfl h
          · replace h := h.2 q
            obtain ⟨g21, h⟩ := h
            obtain ⟨g22, h⟩ := h
            refine en_aload_n mc110_106 rfl ?_
            refine en_getR (b := 78) mv110 mc110_107 (lk_f7_25) (⟨rfl, by decide⟩ : mt_kd[72]? = some (.inl 7) ∧ 72 < 99) rfl (mk_fc ho15 (by decide +kernel)) ?_
            refine en_iload mc110_110 rfl ?_
            refine en_iald mc110_112 (⟨rfl, by decide, by decide⟩ : mt_kd[78]? = some (.inr (.int, 3618)) ∧ 78 < 99 ∧ 3618 < 2147483648) g21 g22 ?_
            refine en_goto 123 mc110_113 (by decide) ?_
            exact en_iret mv110 mc110_123 rfl h
        · replace h := h.2 q
          exact h
theorem vc110_71 {sc : Nat × (Int → Int)} {Q : mm_R → mm_M → Prop} {M : mm_M} {l1 : Int} {l2 : Int} {l3 : Int} {l4 : Int} (ho : mr_ok M)
    (h : ((M.1 72 0) ≤ 0 → Q (.inl (some (mm_i (-2001)))) M) ∧ (¬ (M.1 72 0) ≤ 0 → Q (.inl (some (mm_i 0))) M)) : en_R sc 110 71 [mm_r 72, mm_i l1, mm_i l2, mm_i l3, mm_i l4, mm_u] [] M Q := by
  refine en_aload_n mc110_71 rfl ?_
  refine en_getI mv110 mc110_72 (lk_f7_89) (⟨rfl, by decide⟩ : mt_kd[72]? = some (.inl 7) ∧ 72 < 99) (Or.inl rfl) ?_
  refine en_if_le 82 mc110_75 (by decide) (ho.2.1 72 0 (by unfold mr_lg; omega)) (fun q => ?_) (fun q => ?_)
  · replace h := h.1 q
    refine en_sipush mc110_82 (by decide) ?_
    exact en_iret mv110 mc110_85 rfl h
  · replace h := h.2 q
    refine en_iconst mc110_78 ?_
    refine en_goto 85 mc110_79 (by decide) ?_
    exact en_iret mv110 mc110_85 rfl h
/-! 111: CellAreas.has(III)Z -/
theorem mc111_0 : mr_C 111 0 = some (.iload_n 1, 1) := rfl
theorem mc111_1 : mr_C 111 1 = some (.invokestatic 61, 3) := rfl
theorem mc111_4 : mr_C 111 4 = some (.aload_n 0, 1) := rfl
theorem mc111_5 : mr_C 111 5 = some (.getfield 11, 3) := rfl
theorem mc111_8 : mr_C 111 8 = some (.iload_n 1, 1) := rfl
theorem mc111_9 : mr_C 111 9 = some (.aaload, 1) := rfl
theorem mc111_10 : mr_C 111 10 = some (.aload_n 0, 1) := rfl
theorem mc111_11 : mr_C 111 11 = some (.getfield 11, 3) := rfl
theorem mc111_14 : mr_C 111 14 = some (.iload_n 1, 1) := rfl
theorem mc111_15 : mr_C 111 15 = some (.aaload, 1) := rfl
theorem mc111_16 : mr_C 111 16 = some (.iload_n 3, 1) := rfl
theorem mc111_17 : mr_C 111 17 = some (.invokevirtual 165, 3) := rfl
theorem mc111_20 : mr_C 111 20 = some (.iload_n 2, 1) := rfl
theorem mc111_21 : mr_C 111 21 = some (.invokevirtual 168, 3) := rfl
theorem mc111_24 : mr_C 111 24 = some (.iconst (-1), 1) := rfl
theorem mc111_25 : mr_C 111 25 = some (.if_icmp .eq (7), 3) := by decide +kernel
theorem mc111_28 : mr_C 111 28 = some (.iconst 1, 1) := by decide +kernel
theorem mc111_29 : mr_C 111 29 = some (.goto 4, 3) := by decide +kernel
theorem mc111_32 : mr_C 111 32 = some (.iconst 0, 1) := by decide +kernel
theorem mc111_33 : mr_C 111 33 = some (.ireturn, 1) := by decide +kernel
theorem vc111_0 {sc : Nat × (Int → Int)} {Q : mm_R → mm_M → Prop} {M : mm_M} {l1 : Int} {l2 : Int} {l3 : Int} (ho : mr_ok M)
    (h : en_CV sc 9 [mm_i l1] M (fun M2 => mr_ok M2 → 0 ≤ l1 ∧ (l1 < 8 ∧ (∃ b6, M2.2.1 1 l1 = some b6 ∧ mr_A b6 ∧ (0 ≤ l1 ∧ (l1 < 8 ∧ (∃ b10, M2.2.1 1 l1 = some b10 ∧ mr_A b10 ∧ (en_CI sc 49 [mm_r b10, mm_i l3, mm_u, mm_u, mm_u] M2 (fun x12 M13 => mr_ok M13 → en_CI sc 82 [mm_r b6, mm_i x12, mm_i l2, mm_u] M13 (fun x15 M16 => mr_ok M16 → mr_rg x15 ∧ ((x15 = (-1) → Q (.inl (some (mm_i 0))) M16) ∧ (¬ x15 = (-1) → Q (.inl (some (mm_i 1))) M16))) (fun e M9 => Q (.inr e) M9)) (fun e M9 => Q (.inr e) M9)))))))) (fun e M9 => Q (.inr e) M9)) : en_R sc 111 0 [mm_r 0, mm_i l1, mm_i l2, mm_i l3] [] M Q := by
  refine en_iload_n mc111_0 rfl ?_
  refine en_callV (lz := [mm_i l1]) mv111 mc111_1 rfl rfl (lk_m6_61) mv9 rfl (by decide) rfl (mk_cokS rfl) rfl (mk_nh rfl _) ho ?_
  refine en_CV_mono h (fun M2 h => ?_) (fun _ _ h => h)
  intro ho3
  replace h := h ho3
  obtain ⟨g4, h⟩ := h
  obtain ⟨g5, h⟩ := h
  refine en_aload_n mc111_4 rfl ?_
  refine en_getR (b := 1) mv111 mc111_5 (lk_f6_11) (⟨rfl, by decide⟩ : mt_kd[0]? = some (.inl 6) ∧ 0 < 99) rfl (mk_fc ho3 (by decide +kernel)) ?_
  refine en_iload_n mc111_8 rfl ?_
  obtain ⟨b6, g7, hA_b6_, h⟩ := h
  refine en_aald mc111_9 g4 g5 g7 ?_
  obtain ⟨g8, h⟩ := h
  obtain ⟨g9, h⟩ := h
  refine en_aload_n mc111_10 rfl ?_
  refine en_getR (b := 1) mv111 mc111_11 (lk_f6_11) (⟨rfl, by decide⟩ : mt_kd[0]? = some (.inl 6) ∧ 0 < 99) rfl (mk_fc ho3 (by decide +kernel)) ?_
  refine en_iload_n mc111_14 rfl ?_
  obtain ⟨b10, g11, hA_b10_, h⟩ := h
  refine en_aald mc111_15 g8 g9 g11 ?_
  refine en_iload_n mc111_16 rfl ?_
  refine en_callI (lz := [mm_r b10, mm_i l3, mm_u, mm_u, mm_u]) mv111 mc111_17 rfl rfl (lk_m6_165) mv49 rfl (by decide) rfl (mk_cokV rfl (mk_A0 hA_b10_)) rfl (mk_nh rfl _) ho3 ?_
  refine en_CI_mono h (fun x12 M13 h => ?_) (fun _ _ h => h)
  intro ho14
  replace h := h ho14
  refine en_iload_n mc111_20 rfl ?_
  refine en_callI (lz := [mm_r b6, mm_i x12, mm_i l2, mm_u]) mv111 mc111_21 rfl rfl (lk_m6_168) mv82 rfl (by decide) rfl (mk_cokV rfl (mk_A0 hA_b6_)) rfl (mk_nh rfl _) ho14 ?_
  refine en_CI_mono h (fun x15 M16 h => ?_) (fun _ _ h => h)
  intro ho17
  replace h := h ho17
  obtain ⟨g18, h⟩ := h
  refine en_iconst mc111_24 ?_
  refine en_icmp_eq 32 mc111_25 (by decide) g18 (⟨by decide, by decide⟩ : mr_rg (-1)) (fun q => ?_) (fun q => ?_)
  · replace h := h.1 q
    refine en_iconst mc111_32 ?_
    exact en_zret mv111 mc111_33 rfl (by decide) h
  · replace h := h.2 q
    refine en_iconst mc111_28 ?_
    refine en_goto 33 mc111_29 (by decide) ?_
    exact en_zret mv111 mc111_33 rfl (by decide) h
/-! 113: CellAreasModel.stretchAt(III)I -/
theorem mc113_0 : mr_C 113 0 = some (.aload_n 0, 1) := rfl
theorem mc113_1 : mr_C 113 1 = some (.iload_n 1, 1) := rfl
theorem mc113_2 : mr_C 113 2 = some (.iload_n 3, 1) := rfl
theorem mc113_3 : mr_C 113 3 = some (.invokevirtual 111, 3) := rfl
theorem mc113_6 : mr_C 113 6 = some (.istore 4, 2) := rfl
theorem mc113_8 : mr_C 113 8 = some (.iconst (-1), 1) := rfl
theorem mc113_9 : mr_C 113 9 = some (.istore 5, 2) := rfl
theorem mc113_11 : mr_C 113 11 = some (.iconst 0, 1) := rfl
theorem mc113_12 : mr_C 113 12 = some (.istore 6, 2) := rfl
theorem mc113_14 : mr_C 113 14 = some (.iload 4, 2) := rfl
theorem mc113_16 : mr_C 113 16 = some (.ifCond .lt (64), 3) := rfl
theorem mc113_19 : mr_C 113 19 = some (.iload 6, 2) := rfl
theorem mc113_21 : mr_C 113 21 = some (.aload_n 0, 1) := rfl
theorem mc113_22 : mr_C 113 22 = some (.getfield 19, 3) := rfl
theorem mc113_25 : mr_C 113 25 = some (.iload 4, 2) := by decide +kernel
theorem mc113_27 : mr_C 113 27 = some (.iaload, 1) := by decide +kernel
theorem mc113_28 : mr_C 113 28 = some (.if_icmp .ge (52), 3) := by decide +kernel
theorem mc113_31 : mr_C 113 31 = some (.aload_n 0, 1) := by decide +kernel
theorem mc113_32 : mr_C 113 32 = some (.getfield 16, 3) := by decide +kernel
theorem mc113_35 : mr_C 113 35 = some (.iload 4, 2) := by decide +kernel
theorem mc113_37 : mr_C 113 37 = some (.iaload, 1) := by decide +kernel
theorem mc113_38 : mr_C 113 38 = some (.iload 6, 2) := by decide +kernel
theorem mc113_40 : mr_C 113 40 = some (.iadd, 1) := by decide +kernel
theorem mc113_41 : mr_C 113 41 = some (.istore 7, 2) := by decide +kernel
theorem mc113_43 : mr_C 113 43 = some (.aload_n 0, 1) := by decide +kernel
theorem mc113_44 : mr_C 113 44 = some (.getfield 25, 3) := by decide +kernel
theorem mc113_47 : mr_C 113 47 = some (.iload 7, 2) := by decide +kernel
theorem mc113_49 : mr_C 113 49 = some (.iaload, 1) := by decide +kernel
theorem mc113_50 : mr_C 113 50 = some (.iload_n 2, 1) := by decide +kernel
theorem mc113_51 : mr_C 113 51 = some (.if_icmp .gt (19), 3) := by decide +kernel
theorem mc113_54 : mr_C 113 54 = some (.iload_n 2, 1) := by decide +kernel
theorem mc113_55 : mr_C 113 55 = some (.aload_n 0, 1) := by decide +kernel
theorem mc113_56 : mr_C 113 56 = some (.getfield 28, 3) := by decide +kernel
theorem mc113_59 : mr_C 113 59 = some (.iload 7, 2) := by decide +kernel
theorem mc113_61 : mr_C 113 61 = some (.iaload, 1) := by decide +kernel
theorem mc113_62 : mr_C 113 62 = some (.if_icmp .ge (8), 3) := by decide +kernel
theorem mc113_65 : mr_C 113 65 = some (.iload 7, 2) := by decide +kernel
theorem mc113_67 : mr_C 113 67 = some (.goto 5, 3) := by decide +kernel
theorem mc113_70 : mr_C 113 70 = some (.iload 5, 2) := by decide +kernel
theorem mc113_72 : mr_C 113 72 = some (.istore 5, 2) := by decide +kernel
theorem mc113_74 : mr_C 113 74 = some (.iinc 6 (1), 3) := by decide +kernel
theorem mc113_77 : mr_C 113 77 = some (.goto (-63), 3) := by decide +kernel
theorem mc113_80 : mr_C 113 80 = some (.iload 5, 2) := by decide +kernel
theorem mc113_82 : mr_C 113 82 = some (.ireturn, 1) := by decide +kernel
theorem vc113_0 {sc : Nat × (Int → Int)} {Q : mm_R → mm_M → Prop} {M : mm_M} {l1 : Int} {l2 : Int} {l3 : Int} (ho : mr_ok M)
    (h : en_CI sc 60 [mm_r 72, mm_i l1, mm_i l3, mm_u, mm_u] M (fun x1 M2 => mr_ok M2 → en_R sc 113 14 [mm_r 72, mm_i l1, mm_i l2, mm_i l3, mm_i x1, mm_i (-1), mm_i 0, mm_u] [] M2 Q) (fun e M9 => Q (.inr e) M9)) : en_R sc 113 0 [mm_r 72, mm_i l1, mm_i l2, mm_i l3, mm_u, mm_u, mm_u, mm_u] [] M Q := by
  refine en_aload_n mc113_0 rfl ?_
  refine en_iload_n mc113_1 rfl ?_
  refine en_iload_n mc113_2 rfl ?_
  refine en_callI (lz := [mm_r 72, mm_i l1, mm_i l3, mm_u, mm_u]) mv113 mc113_3 rfl rfl (lk_m7_111) mv60 rfl (by decide) rfl (mk_cokV rfl (⟨rfl, by decide⟩ : mt_kd[72]? = some (.inl 7) ∧ 72 < 99)) rfl (mk_nh rfl _) ho ?_
  refine en_CI_mono h (fun x1 M2 h => ?_) (fun _ _ h => h)
  intro ho3
  replace h := h ho3
  refine en_istore (ls' := [mm_r 72, mm_i l1, mm_i l2, mm_i l3, mm_i x1, mm_u, mm_u, mm_u]) mc113_6 (Nat.le_of_ble_eq_true rfl) rfl ?_
  refine en_iconst mc113_8 ?_
  refine en_istore (ls' := [mm_r 72, mm_i l1, mm_i l2, mm_i l3, mm_i x1, mm_i (-1), mm_u, mm_u]) mc113_9 (Nat.le_of_ble_eq_true rfl) rfl ?_
  refine en_iconst mc113_11 ?_
  refine en_istore (ls' := [mm_r 72, mm_i l1, mm_i l2, mm_i l3, mm_i x1, mm_i (-1), mm_i 0, mm_u]) mc113_12 (Nat.le_of_ble_eq_true rfl) rfl ?_
  exact h
theorem vc113_14 {sc : Nat × (Int → Int)} {Q : mm_R → mm_M → Prop} {M : mm_M} {l1 : Int} {l2 : Int} {l3 : Int} {l4 : Int} {l5 : Int} {l6 : Int} {l7 : mm_V} (ho : mr_ok M) (hg_l4 : mr_rg l4) (hg_l6 : mr_rg l6) (hg_l2 : mr_rg l2)
    (h : (l4 < 0 → Q (.inl (some (mm_i l5))) M) ∧ (¬ l4 < 0 → 0 ≤ l4 ∧ (l4 < 918 ∧ (((M.1 76 l4) ≤ l6 → Q (.inl (some (mm_i l5))) M) ∧ (¬ (M.1 76 l4) ≤ l6 → 0 ≤ l4 ∧ (l4 < 918 ∧ (0 ≤ ((M.1 75 l4) + l6) ∧ (((M.1 75 l4) + l6) < 3618 ∧ ((l2 < (M.1 78 ((M.1 75 l4) + l6)) → en_R sc 113 14 [mm_r 72, mm_i l1, mm_i l2, mm_i l3, mm_i l4, mm_i l5, mm_i (l6 + 1), mm_i ((M.1 75 l4) + l6)] [] M Q) ∧ (¬ l2 < (M.1 78 ((M.1 75 l4) + l6)) → 0 ≤ ((M.1 75 l4) + l6) ∧ (((M.1 75 l4) + l6) < 3618 ∧ (((M.1 79 ((M.1 75 l4) + l6)) ≤ l2 → en_R sc 113 14 [mm_r 72, mm_i l1, mm_i l2, mm_i l3, mm_i l4, mm_i l5, mm_i (l6 + 1), mm_i ((M.1 75 l4) + l6)] [] M Q) ∧ (¬ (M.1 79 ((M.1 75 l4) + l6)) ≤ l2 → en_R sc 113 14 [mm_r 72, mm_i l1, mm_i l2, mm_i l3, mm_i l4, mm_i ((M.1 75 l4) + l6), mm_i (l6 + 1), mm_i ((M.1 75 l4) + l6)] [] M Q))))))))))))) : en_R sc 113 14 [mm_r 72, mm_i l1, mm_i l2, mm_i l3, mm_i l4, mm_i l5, mm_i l6, l7] [] M Q := by
  refine en_iload mc113_14 rfl ?_
  refine en_if_lt 80 mc113_16 (by decide) hg_l4 (fun q => ?_) (fun q => ?_)
  · replace h := h.1 q
    refine en_iload mc113_80 rfl ?_
    exact en_iret mv113 mc113_82 rfl h
  · replace h := h.2 q
    obtain ⟨g1, h⟩ := h
    obtain ⟨g2, h⟩ := h
    refine en_iload mc113_19 rfl ?_
    refine en_aload_n mc113_21 rfl ?_
    refine en_getR (b := 76) mv113 mc113_22 (lk_f7_19) (⟨rfl, by decide⟩ : mt_kd[72]? = some (.inl 7) ∧ 72 < 99) rfl (mk_fc ho (by decide +kernel)) ?_
    refine en_iload mc113_25 rfl ?_
    refine en_iald mc113_27 (⟨rfl, by decide, by decide⟩ : mt_kd[76]? = some (.inr (.int, 918)) ∧ 76 < 99 ∧ 918 < 2147483648) g1 g2 ?_
    refine en_icmp_ge 80 mc113_28 (by decide) hg_l6 (ho.2.1 76 l4 (by unfold mr_lg; omega)) (fun q => ?_) (fun q => ?_)
    · replace h := h.1 q
      refine en_iload mc113_80 rfl ?_
      exact en_iret mv113 mc113_82 rfl h
    · replace h := h.2 q
      obtain ⟨g3, h⟩ := h
      obtain ⟨g4, h⟩ := h
      obtain ⟨g5, h⟩ := h
      obtain ⟨g6, h⟩ := h
      refine en_aload_n mc113_31 rfl ?_
      refine en_getR (b := 75) mv113 mc113_32 (lk_f7_16) (⟨rfl, by decide⟩ : mt_kd[72]? = some (.inl 7) ∧ 72 < 99) rfl (mk_fc ho (by decide +kernel)) ?_
      refine en_iload mc113_35 rfl ?_
      refine en_iald mc113_37 (⟨rfl, by decide, by decide⟩ : mt_kd[75]? = some (.inr (.int, 918)) ∧ 75 < 99 ∧ 918 < 2147483648) g3 g4 ?_
      refine en_iload mc113_38 rfl ?_
      refine en_iadd mc113_40 ?_
      refine en_istore (ls' := [mm_r 72, mm_i l1, mm_i l2, mm_i l3, mm_i l4, mm_i l5, mm_i l6, mm_i ((M.1 75 l4) + l6)]) mc113_41 (Nat.le_of_ble_eq_true rfl) rfl ?_
      refine en_aload_n mc113_43 rfl ?_
      refine en_getR (b := 78) mv113 mc113_44 (lk_f7_25) (⟨rfl, by decide⟩ : mt_kd[72]? = some (.inl 7) ∧ 72 < 99) rfl (mk_fc ho (by decide +kernel)) ?_
      refine en_iload mc113_47 rfl ?_
      refine en_iald mc113_49 (⟨rfl, by decide, by decide⟩ : mt_kd[78]? = some (.inr (.int, 3618)) ∧ 78 < 99 ∧ 3618 < 2147483648) g5 g6 ?_
      refine en_iload_n mc113_50 rfl ?_
      refine en_icmp_gt 70 mc113_51 (by decide) (ho.2.1 78 ((M.1 75 l4) + l6) (by unfold mr_lg; omega)) hg_l2 (fun q => ?_) (fun q => ?_)
      · replace h := h.1 q
        refine en_iload mc113_70 rfl ?_
        refine en_istore (ls' := [mm_r 72, mm_i l1, mm_i l2, mm_i l3, mm_i l4, mm_i l5, mm_i l6, mm_i ((M.1 75 l4) + l6)]) mc113_72 (Nat.le_of_ble_eq_true rfl) rfl ?_
        refine en_iinc (ls' := [mm_r 72, mm_i l1, mm_i l2, mm_i l3, mm_i l4, mm_i l5, mm_i (l6 + 1), mm_i ((M.1 75 l4) + l6)]) mc113_74 rfl rfl ?_
        refine en_goto 14 mc113_77 (by decide) ?_
        exact h
      · replace h := h.2 q
        obtain ⟨g7, h⟩ := h
        obtain ⟨g8, h⟩ := h
        refine en_iload_n mc113_54 rfl ?_
        refine en_aload_n mc113_55 rfl ?_
        refine en_getR (b := 79) mv113 mc113_56 (lk_f7_28) (⟨rfl, by decide⟩ : mt_kd[72]? = some (.inl 7) ∧ 72 < 99) rfl (mk_fc ho (by decide +kernel)) ?_
        refine en_iload mc113_59 rfl ?_
        refine en_iald mc113_61 (⟨rfl, by decide, by decide⟩ : mt_kd[79]? = some (.inr (.int, 3618)) ∧ 79 < 99 ∧ 3618 < 2147483648) g7 g8 ?_
        refine en_icmp_ge 70 mc113_62 (by decide) hg_l2 (ho.2.1 79 ((M.1 75 l4) + l6) (by unfold mr_lg; omega)) (fun q => ?_) (fun q => ?_)
        · replace h := h.1 q
          refine en_iload mc113_70 rfl ?_
          refine en_istore (ls' := [mm_r 72, mm_i l1, mm_i l2, mm_i l3, mm_i l4, mm_i l5, mm_i l6, mm_i ((M.1 75 l4) + l6)]) mc113_72 (Nat.le_of_ble_eq_true rfl) rfl ?_
          refine en_iinc (ls' := [mm_r 72, mm_i l1, mm_i l2, mm_i l3, mm_i l4, mm_i l5, mm_i (l6 + 1), mm_i ((M.1 75 l4) + l6)]) mc113_74 rfl rfl ?_
          refine en_goto 14 mc113_77 (by decide) ?_
          exact h
        · replace h := h.2 q
          refine en_iload mc113_65 rfl ?_
          refine en_goto 72 mc113_67 (by decide) ?_
          refine en_istore (ls' := [mm_r 72, mm_i l1, mm_i l2, mm_i l3, mm_i l4, mm_i ((M.1 75 l4) + l6), mm_i l6, mm_i ((M.1 75 l4) + l6)]) mc113_72 (Nat.le_of_ble_eq_true rfl) rfl ?_
          refine en_iinc (ls' := [mm_r 72, mm_i l1, mm_i l2, mm_i l3, mm_i l4, mm_i ((M.1 75 l4) + l6), mm_i (l6 + 1), mm_i ((M.1 75 l4) + l6)]) mc113_74 rfl rfl ?_
          refine en_goto 14 mc113_77 (by decide) ?_
          exact h
/-! 114: CellAreasModel.has(III)Z -/
theorem mc114_0 : mr_C 114 0 = some (.aload_n 0, 1) := rfl
theorem mc114_1 : mr_C 114 1 = some (.aload_n 0, 1) := rfl
theorem mc114_2 : mr_C 114 2 = some (.iload_n 1, 1) := rfl
theorem mc114_3 : mr_C 114 3 = some (.invokevirtual 131, 3) := rfl
theorem mc114_6 : mr_C 114 6 = some (.ifCond .eq (7), 3) := rfl
theorem mc114_9 : mr_C 114 9 = some (.iconst 0, 1) := rfl
theorem mc114_10 : mr_C 114 10 = some (.goto 4, 3) := rfl
theorem mc114_13 : mr_C 114 13 = some (.iconst 1, 1) := rfl
theorem mc114_14 : mr_C 114 14 = some (.putfield 89, 3) := rfl
theorem mc114_17 : mr_C 114 17 = some (.aload_n 0, 1) := rfl
theorem mc114_18 : mr_C 114 18 = some (.getfield 89, 3) := rfl
theorem mc114_21 : mr_C 114 21 = some (.ifCond .ne (17), 3) := rfl
theorem mc114_24 : mr_C 114 24 = some (.aload_n 0, 1) := rfl
theorem mc114_25 : mr_C 114 25 = some (.iload_n 1, 1) := by decide +kernel
theorem mc114_26 : mr_C 114 26 = some (.iload_n 2, 1) := by decide +kernel
theorem mc114_27 : mr_C 114 27 = some (.iload_n 3, 1) := by decide +kernel
theorem mc114_28 : mr_C 114 28 = some (.invokevirtual 191, 3) := by decide +kernel
theorem mc114_31 : mr_C 114 31 = some (.ifCond .lt (7), 3) := by decide +kernel
theorem mc114_34 : mr_C 114 34 = some (.iconst 1, 1) := by decide +kernel
theorem mc114_35 : mr_C 114 35 = some (.goto 4, 3) := by decide +kernel
theorem mc114_38 : mr_C 114 38 = some (.iconst 0, 1) := by decide +kernel
theorem mc114_39 : mr_C 114 39 = some (.ireturn, 1) := by decide +kernel
theorem vc114_0 {sc : Nat × (Int → Int)} {Q : mm_R → mm_M → Prop} {M : mm_M} {l1 : Int} {l2 : Int} {l3 : Int} (ho : mr_ok M)
    (h : en_CI sc 34 [mm_r 72, mm_i l1] M (fun x1 M2 => mr_ok M2 → mr_rg x1 ∧ ((x1 = 0 → en_R sc 114 14 [mm_r 72, mm_i l1, mm_i l2, mm_i l3] [mm_i 1, mm_r 72] M2 Q) ∧ (¬ x1 = 0 → en_R sc 114 14 [mm_r 72, mm_i l1, mm_i l2, mm_i l3] [mm_i 0, mm_r 72] M2 Q))) (fun e M9 => Q (.inr e) M9)) : en_R sc 114 0 [mm_r 72, mm_i l1, mm_i l2, mm_i l3] [] M Q := by
  refine en_aload_n mc114_0 rfl ?_
  refine en_aload_n mc114_1 rfl ?_
  refine en_iload_n mc114_2 rfl ?_
  refine en_callI (lz := [mm_r 72, mm_i l1]) mv114 mc114_3 rfl rfl (lk_m7_131) mv34 rfl (by decide) rfl (mk_cokV rfl (⟨rfl, by decide⟩ : mt_kd[72]? = some (.inl 7) ∧ 72 < 99)) rfl (mk_nh rfl _) ho ?_
  refine en_CI_mono h (fun x1 M2 h => ?_) (fun _ _ h => h)
  intro ho3
  replace h := h ho3
  obtain ⟨g4, h⟩ := h
  refine en_if_eq 13 mc114_6 (by decide) g4 (fun q => ?_) (fun q => ?_)
  · replace h := h.1 q
    refine en_iconst mc114_13 ?_
    exact h
  · replace h := h.2 q
    refine en_iconst mc114_9 ?_
    refine en_goto 14 mc114_10 (by decide) ?_
    exact h
theorem vc114_14 {sc : Nat × (Int → Int)} {Q : mm_R → mm_M → Prop} {M : mm_M} {l1 : Int} {l2 : Int} {l3 : Int} {s1 : Int} (ho : mr_ok M) (hg_s1 : mr_rg s1)
    (h : (((mm_putN M 72 0 s1).1 72 0) ≠ 0 → Q (.inl (some (mm_i 0))) (mm_putN M 72 0 s1)) ∧ (¬ (((mm_putN M 72 0 s1).1 72 0) ≠ 0) → en_CI sc 113 [mm_r 72, mm_i l1, mm_i l2, mm_i l3, mm_u, mm_u, mm_u, mm_u] (mm_putN M 72 0 s1) (fun x1 M2 => mr_ok M2 → mr_rg x1 ∧ ((x1 < 0 → Q (.inl (some (mm_i 0))) M2) ∧ (¬ x1 < 0 → Q (.inl (some (mm_i 1))) M2))) (fun e M9 => Q (.inr e) M9))) : en_R sc 114 14 [mm_r 72, mm_i l1, mm_i l2, mm_i l3] [mm_i s1, mm_r 72] M Q := by
  refine en_putI mv114 mc114_14 (lk_f7_89) (⟨rfl, by decide⟩ : mt_kd[72]? = some (.inl 7) ∧ 72 < 99) rfl rfl hg_s1 ?_
  refine en_aload_n mc114_17 rfl ?_
  refine en_getI mv114 mc114_18 (lk_f7_89) (⟨rfl, by decide⟩ : mt_kd[72]? = some (.inl 7) ∧ 72 < 99) (Or.inl rfl) ?_
  refine en_if_ne 38 mc114_21 (by decide) ((mr_ok_putI (a := 72) (k := 0) ho hg_s1).2.1 72 0 (by unfold mr_lg; omega)) (fun q => ?_) (fun q => ?_)
  · replace h := h.1 q
    refine en_iconst mc114_38 ?_
    exact en_zret mv114 mc114_39 rfl (by decide) h
  · replace h := h.2 q
    refine en_aload_n mc114_24 rfl ?_
    refine en_iload_n mc114_25 rfl ?_
    refine en_iload_n mc114_26 rfl ?_
    refine en_iload_n mc114_27 rfl ?_
    refine en_callI (lz := [mm_r 72, mm_i l1, mm_i l2, mm_i l3, mm_u, mm_u, mm_u, mm_u]) mv114 mc114_28 rfl rfl (lk_m7_191) mv113 rfl (by decide) rfl (mk_cokV rfl (⟨rfl, by decide⟩ : mt_kd[72]? = some (.inl 7) ∧ 72 < 99)) rfl (mk_nh rfl _) (mr_ok_putI (a := 72) (k := 0) ho hg_s1) ?_
    refine en_CI_mono h (fun x1 M2 h => ?_) (fun _ _ h => h)
    intro ho3
    replace h := h ho3
    obtain ⟨g4, h⟩ := h
    refine en_if_lt 38 mc114_31 (by decide) g4 (fun q => ?_) (fun q => ?_)
    · replace h := h.1 q
      refine en_iconst mc114_38 ?_
      exact en_zret mv114 mc114_39 rfl (by decide) h
    · replace h := h.2 q
      refine en_iconst mc114_34 ?_
      refine en_goto 39 mc114_35 (by decide) ?_
      exact en_zret mv114 mc114_39 rfl (by decide) h
/-! 115: java/util/Arrays.fill([II)V -/
theorem mc115_0 : mr_C 115 0 = some (.iconst 0, 1) := rfl
theorem mc115_1 : mr_C 115 1 = some (.istore_n 2, 1) := rfl
theorem mc115_2 : mr_C 115 2 = some (.aload_n 0, 1) := rfl
theorem mc115_3 : mr_C 115 3 = some (.arraylength, 1) := rfl
theorem mc115_4 : mr_C 115 4 = some (.istore_n 3, 1) := rfl
theorem mc115_5 : mr_C 115 5 = some (.iload_n 2, 1) := rfl
theorem mc115_6 : mr_C 115 6 = some (.iload_n 3, 1) := rfl
theorem mc115_7 : mr_C 115 7 = some (.if_icmp .ge (13), 3) := rfl
theorem mc115_10 : mr_C 115 10 = some (.aload_n 0, 1) := rfl
theorem mc115_11 : mr_C 115 11 = some (.iload_n 2, 1) := rfl
theorem mc115_12 : mr_C 115 12 = some (.iload_n 1, 1) := rfl
theorem mc115_13 : mr_C 115 13 = some (.iastore, 1) := rfl
theorem mc115_14 : mr_C 115 14 = some (.iinc 2 (1), 3) := rfl
theorem mc115_17 : mr_C 115 17 = some (.goto (-12), 3) := by decide +kernel
theorem mc115_20 : mr_C 115 20 = some (.return_, 1) := by decide +kernel
theorem vc115_0 {sc : Nat × (Int → Int)} {Q : mm_R → mm_M → Prop} {M : mm_M} {l1 : Int} (ho : mr_ok M)
    (h : en_R sc 115 5 [mm_r 18, mm_i l1, mm_i 0, mm_i 800] [] M Q) : en_R sc 115 0 [mm_r 18, mm_i l1, mm_u, mm_u] [] M Q := by
  refine en_iconst mc115_0 ?_
  refine en_istore_n (ls' := [mm_r 18, mm_i l1, mm_i 0, mm_u]) mc115_1 (Nat.le_of_ble_eq_true rfl) rfl ?_
  refine en_aload_n mc115_2 rfl ?_
  refine en_alen (m := 800) mc115_3 ⟨(⟨rfl, by decide, by decide⟩ : mt_kd[18]? = some (.inr (.int, 800)) ∧ 18 < 99 ∧ 800 < 2147483648).1, (⟨rfl, by decide, by decide⟩ : mt_kd[18]? = some (.inr (.int, 800)) ∧ 18 < 99 ∧ 800 < 2147483648).2.1⟩ ?_
  refine en_istore_n (ls' := [mm_r 18, mm_i l1, mm_i 0, mm_i 800]) mc115_4 (Nat.le_of_ble_eq_true rfl) rfl ?_
  exact h
theorem vc115_5 {sc : Nat × (Int → Int)} {Q : mm_R → mm_M → Prop} {M : mm_M} {l1 : Int} {l2 : Int} {l3 : Int} (ho : mr_ok M) (hg_l2 : mr_rg l2) (hg_l3 : mr_rg l3) (hg_l1 : mr_rg l1)
    (h : (l3 ≤ l2 → Q (.inl none) M) ∧ (¬ l3 ≤ l2 → 0 ≤ l2 ∧ (l2 < 800 ∧ (en_R sc 115 5 [mm_r 18, mm_i l1, mm_i (l2 + 1), mm_i l3] [] (mm_putN M 18 l2 l1) Q)))) : en_R sc 115 5 [mm_r 18, mm_i l1, mm_i l2, mm_i l3] [] M Q := by
  refine en_iload_n mc115_5 rfl ?_
  refine en_iload_n mc115_6 rfl ?_
  refine en_icmp_ge 20 mc115_7 (by decide) hg_l2 hg_l3 (fun q => ?_) (fun q => ?_)
  · replace h := h.1 q
    exact en_vret mv115 mc115_20 rfl h
  · replace h := h.2 q
    obtain ⟨g1, h⟩ := h
    obtain ⟨g2, h⟩ := h
    refine en_aload_n mc115_10 rfl ?_
    refine en_iload_n mc115_11 rfl ?_
    refine en_iload_n mc115_12 rfl ?_
    refine en_iast mc115_13 (⟨rfl, by decide, by decide⟩ : mt_kd[18]? = some (.inr (.int, 800)) ∧ 18 < 99 ∧ 800 < 2147483648) g1 g2 hg_l1 ?_
    refine en_iinc (ls' := [mm_r 18, mm_i l1, mm_i (l2 + 1), mm_i l3]) mc115_14 rfl rfl ?_
    refine en_goto 5 mc115_17 (by decide) ?_
    exact h
/-! 116: CellAreas$Loops.goesUp(I)Z -/
theorem mc116_0 : mr_C 116 0 = some (.iload_n 0, 1) := rfl
theorem mc116_1 : mr_C 116 1 = some (.iconst 2, 1) := rfl
theorem mc116_2 : mr_C 116 2 = some (.irem, 1) := rfl
theorem mc116_3 : mr_C 116 3 = some (.iconst 1, 1) := rfl
theorem mc116_4 : mr_C 116 4 = some (.if_icmp .ne (7), 3) := rfl
theorem mc116_7 : mr_C 116 7 = some (.iconst 1, 1) := rfl
theorem mc116_8 : mr_C 116 8 = some (.goto 4, 3) := rfl
theorem mc116_11 : mr_C 116 11 = some (.iconst 0, 1) := rfl
theorem mc116_12 : mr_C 116 12 = some (.ireturn, 1) := rfl
theorem vc116_0 {sc : Nat × (Int → Int)} {Q : mm_R → mm_M → Prop} {M : mm_M} {l0 : Int} (ho : mr_ok M) (hg_l0 : mr_rg l0)
    (h : 0 ≤ l0 ∧ (mr_rg (l0 % 2) ∧ (((l0 % 2) ≠ 1 → Q (.inl (some (mm_i 0))) M) ∧ (¬ ((l0 % 2) ≠ 1) → Q (.inl (some (mm_i 1))) M)))) : en_R sc 116 0 [mm_i l0] [] M Q := by
  obtain ⟨g1, h⟩ := h
  obtain ⟨g2, h⟩ := h
  refine en_iload_n mc116_0 rfl ?_
  refine en_iconst mc116_1 ?_
  refine en_irem mc116_2 hg_l0 (⟨by decide, by decide⟩ : mr_rg 2) g1 (by decide) ?_
  refine en_iconst mc116_3 ?_
  refine en_icmp_ne 11 mc116_4 (by decide) g2 (⟨by decide, by decide⟩ : mr_rg 1) (fun q => ?_) (fun q => ?_)
  · replace h := h.1 q
    refine en_iconst mc116_11 ?_
    exact en_zret mv116 mc116_12 rfl (by decide) h
  · replace h := h.2 q
    refine en_iconst mc116_7 ?_
    refine en_goto 12 mc116_8 (by decide) ?_
    exact en_zret mv116 mc116_12 rfl (by decide) h
/-! 117: CellAreas$Area.bandOf(I)I -/
theorem mc117_0 : mr_C 117 0 = some (.iconst 0, 1) := rfl
theorem mc117_1 : mr_C 117 1 = some (.istore_n 2, 1) := rfl
theorem mc117_2 : mr_C 117 2 = some (.aload_n 0, 1) := rfl
theorem mc117_3 : mr_C 117 3 = some (.getfield 9, 3) := rfl
theorem mc117_6 : mr_C 117 6 = some (.iconst 1, 1) := rfl
theorem mc117_7 : mr_C 117 7 = some (.isub, 1) := rfl
theorem mc117_8 : mr_C 117 8 = some (.istore_n 3, 1) := rfl
theorem mc117_9 : mr_C 117 9 = some (.iload_n 2, 1) := rfl
theorem mc117_10 : mr_C 117 10 = some (.iload_n 3, 1) := rfl
theorem mc117_11 : mr_C 117 11 = some (.if_icmp .ge (37), 3) := rfl
theorem mc117_14 : mr_C 117 14 = some (.iload_n 2, 1) := rfl
theorem mc117_15 : mr_C 117 15 = some (.iload_n 3, 1) := rfl
theorem mc117_16 : mr_C 117 16 = some (.iadd, 1) := by decide +kernel
theorem mc117_17 : mr_C 117 17 = some (.iconst 2, 1) := by decide +kernel
theorem mc117_18 : mr_C 117 18 = some (.idiv, 1) := by decide +kernel
theorem mc117_19 : mr_C 117 19 = some (.istore 4, 2) := by decide +kernel
theorem mc117_21 : mr_C 117 21 = some (.aload_n 0, 1) := by decide +kernel
theorem mc117_22 : mr_C 117 22 = some (.getfield 22, 3) := by decide +kernel
theorem mc117_25 : mr_C 117 25 = some (.iload 4, 2) := by decide +kernel
theorem mc117_27 : mr_C 117 27 = some (.iconst 1, 1) := by decide +kernel
theorem mc117_28 : mr_C 117 28 = some (.iadd, 1) := by decide +kernel
theorem mc117_29 : mr_C 117 29 = some (.iaload, 1) := by decide +kernel
theorem mc117_30 : mr_C 117 30 = some (.iload_n 1, 1) := by decide +kernel
theorem mc117_31 : mr_C 117 31 = some (.if_icmp .le (9), 3) := by decide +kernel
theorem mc117_34 : mr_C 117 34 = some (.iload 4, 2) := by decide +kernel
theorem mc117_36 : mr_C 117 36 = some (.istore_n 3, 1) := by decide +kernel
theorem mc117_37 : mr_C 117 37 = some (.goto 8, 3) := by decide +kernel
theorem mc117_40 : mr_C 117 40 = some (.iload 4, 2) := by decide +kernel
theorem mc117_42 : mr_C 117 42 = some (.iconst 1, 1) := by decide +kernel
theorem mc117_43 : mr_C 117 43 = some (.iadd, 1) := by decide +kernel
theorem mc117_44 : mr_C 117 44 = some (.istore_n 2, 1) := by decide +kernel
theorem mc117_45 : mr_C 117 45 = some (.goto (-36), 3) := by decide +kernel
theorem mc117_48 : mr_C 117 48 = some (.iload_n 2, 1) := by decide +kernel
theorem mc117_49 : mr_C 117 49 = some (.ireturn, 1) := by decide +kernel
theorem vc117_0 {sc : Nat × (Int → Int)} {Q : mm_R → mm_M → Prop} {M : mm_M} {l0 : Nat} {l1 : Int} (ho : mr_ok M) (hA_l0 : mr_A l0)
    (h : en_R sc 117 9 [mm_r l0, mm_i l1, mm_i 0, mm_i ((M.1 l0 0) - 1), mm_u] [] M Q) : en_R sc 117 0 [mm_r l0, mm_i l1, mm_u, mm_u, mm_u] [] M Q := by
  refine en_iconst mc117_0 ?_
  refine en_istore_n (ls' := [mm_r l0, mm_i l1, mm_i 0, mm_u, mm_u]) mc117_1 (Nat.le_of_ble_eq_true rfl) rfl ?_
  refine en_aload_n mc117_2 rfl ?_
  refine en_getI mv117 mc117_3 (lk_f0_9) (mk_A0 hA_l0) (Or.inl rfl) ?_
  refine en_iconst mc117_6 ?_
  refine en_isub mc117_7 ?_
  refine en_istore_n (ls' := [mm_r l0, mm_i l1, mm_i 0, mm_i ((M.1 l0 0) - 1), mm_u]) mc117_8 (Nat.le_of_ble_eq_true rfl) rfl ?_
  exact h
theorem vc117_9 {sc : Nat × (Int → Int)} {Q : mm_R → mm_M → Prop} {M : mm_M} {l0 : Nat} {l1 : Int} {l2 : Int} {l3 : Int} {l4 : mm_V} (ho : mr_ok M) (hg_l2 : mr_rg l2) (hg_l3 : mr_rg l3) (hA_l0 : mr_A l0) (hg_l1 : mr_rg l1)
    (h : (l3 ≤ l2 → Q (.inl (some (mm_i l2))) M) ∧ (¬ l3 ≤ l2 → mr_rg (l2 + l3) ∧ (0 ≤ (l2 + l3) ∧ (0 ≤ (((l2 + l3) / 2) + 1) ∧ ((((l2 + l3) / 2) + 1) < 101 ∧ (((M.1 (l0 + 3) (((l2 + l3) / 2) + 1)) ≤ l1 → en_R sc 117 9 [mm_r l0, mm_i l1, mm_i (((l2 + l3) / 2) + 1), mm_i l3, mm_i ((l2 + l3) / 2)] [] M Q) ∧ (¬ (M.1 (l0 + 3) (((l2 + l3) / 2) + 1)) ≤ l1 → en_R sc 117 9 [mm_r l0, mm_i l1, mm_i l2, mm_i ((l2 + l3) / 2), mm_i ((l2 + l3) / 2)] [] M Q))))))) : en_R sc 117 9 [mm_r l0, mm_i l1, mm_i l2, mm_i l3, l4] [] M Q := by
  refine en_iload_n mc117_9 rfl ?_
  refine en_iload_n mc117_10 rfl ?_
  refine en_icmp_ge 48 mc117_11 (by decide) hg_l2 hg_l3 (fun q => ?_) (fun q => ?_)
  · replace h := h.1 q
    refine en_iload_n mc117_48 rfl ?_
    exact en_iret mv117 mc117_49 rfl h
  · replace h := h.2 q
    obtain ⟨g1, h⟩ := h
    obtain ⟨g2, h⟩ := h
    obtain ⟨g3, h⟩ := h
    obtain ⟨g4, h⟩ := h
    refine en_iload_n mc117_14 rfl ?_
    refine en_iload_n mc117_15 rfl ?_
    refine en_iadd mc117_16 ?_
    refine en_iconst mc117_17 ?_
    refine en_idiv mc117_18 g1 (⟨by decide, by decide⟩ : mr_rg 2) g2 (by decide) ?_
    refine en_istore (ls' := [mm_r l0, mm_i l1, mm_i l2, mm_i l3, mm_i ((l2 + l3) / 2)]) mc117_19 (Nat.le_of_ble_eq_true rfl) rfl ?_
    refine en_aload_n mc117_21 rfl ?_
    refine en_getR (b := (l0 + 3)) mv117 mc117_22 (lk_f0_22) (mk_A0 hA_l0) rfl (mk_fA3 hA_l0 ho) ?_
    refine en_iload mc117_25 rfl ?_
    refine en_iconst mc117_27 ?_
    refine en_iadd mc117_28 ?_
    refine en_iald mc117_29 (mk_A3 hA_l0) g3 g4 ?_
    refine en_iload_n mc117_30 rfl ?_
    refine en_icmp_le 40 mc117_31 (by decide) (ho.2.1 (l0 + 3) (((l2 + l3) / 2) + 1) ((mk_nA3 hA_l0) _)) hg_l1 (fun q => ?_) (fun q => ?_)
    · replace h := h.1 q
      refine en_iload mc117_40 rfl ?_
      refine en_iconst mc117_42 ?_
      refine en_iadd mc117_43 ?_
      refine en_istore_n (ls' := [mm_r l0, mm_i l1, mm_i (((l2 + l3) / 2) + 1), mm_i l3, mm_i ((l2 + l3) / 2)]) mc117_44 (Nat.le_of_ble_eq_true rfl) rfl ?_
      refine en_goto 9 mc117_45 (by decide) ?_
      exact h
    · replace h := h.2 q
      refine en_iload mc117_34 rfl ?_
      refine en_istore_n (ls' := [mm_r l0, mm_i l1, mm_i l2, mm_i ((l2 + l3) / 2), mm_i ((l2 + l3) / 2)]) mc117_36 (Nat.le_of_ble_eq_true rfl) rfl ?_
      refine en_goto 45 mc117_37 (by decide) ?_
      refine en_goto 9 mc117_45 (by decide) ?_
      exact h
/-! 118: CellAreas$Loops.turnAt(II)V -/
theorem mc118_0 : mr_C 118 0 = some (.aload_n 0, 1) := rfl
theorem mc118_1 : mr_C 118 1 = some (.getfield 15, 3) := rfl
theorem mc118_4 : mr_C 118 4 = some (.aload_n 0, 1) := rfl
theorem mc118_5 : mr_C 118 5 = some (.getfield 25, 3) := rfl
theorem mc118_8 : mr_C 118 8 = some (.arraylength, 1) := rfl
theorem mc118_9 : mr_C 118 9 = some (.if_icmp .ge (37), 3) := rfl
theorem mc118_12 : mr_C 118 12 = some (.aload_n 0, 1) := rfl
theorem mc118_13 : mr_C 118 13 = some (.getfield 25, 3) := rfl
theorem mc118_16 : mr_C 118 16 = some (.aload_n 0, 1) := rfl
theorem mc118_17 : mr_C 118 17 = some (.getfield 15, 3) := rfl
theorem mc118_20 : mr_C 118 20 = some (.iload_n 2, 1) := rfl
theorem mc118_21 : mr_C 118 21 = some (.sipush (-1000), 3) := by decide +kernel
theorem mc118_24 : mr_C 118 24 = some (.isub, 1) := by decide +kernel
theorem mc118_25 : mr_C 118 25 = some (.sipush 2001, 3) := by decide +kernel
theorem mc118_28 : mr_C 118 28 = some (.imul, 1) := by decide +kernel
theorem mc118_29 : mr_C 118 29 = some (.iload_n 1, 1) := by decide +kernel
theorem mc118_30 : mr_C 118 30 = some (.iadd, 1) := by decide +kernel
theorem mc118_31 : mr_C 118 31 = some (.sipush (-1000), 3) := by decide +kernel
theorem mc118_34 : mr_C 118 34 = some (.isub, 1) := by decide +kernel
theorem mc118_35 : mr_C 118 35 = some (.iastore, 1) := by decide +kernel
theorem mc118_36 : mr_C 118 36 = some (.aload_n 0, 1) := by decide +kernel
theorem mc118_37 : mr_C 118 37 = some (.dup, 1) := by decide +kernel
theorem mc118_38 : mr_C 118 38 = some (.getfield 15, 3) := by decide +kernel
theorem mc118_41 : mr_C 118 41 = some (.iconst 1, 1) := by decide +kernel
theorem mc118_42 : mr_C 118 42 = some (.iadd, 1) := by decide +kernel
theorem mc118_43 : mr_C 118 43 = some (.putfield 15, 3) := by decide +kernel
theorem mc118_46 : mr_C 118 46 = some (.return_, 1) := by decide +kernel
theorem vc118_0 {sc : Nat × (Int → Int)} {Q : mm_R → mm_M → Prop} {M : mm_M} {l1 : Int} {l2 : Int} (ho : mr_ok M)
    (h : (1601 ≤ (M.1 17 1) → Q (.inl none) M) ∧ (¬ 1601 ≤ (M.1 17 1) → 0 ≤ (M.1 17 1) ∧ ((M.1 17 1) < 1601 ∧ (mr_rg ((((l2 - (-1000)) * 2001) + l1) - (-1000)) ∧ (mr_rg (((mm_putN M 20 (M.1 17 1) ((((l2 - (-1000)) * 2001) + l1) - (-1000))).1 17 1) + 1) ∧ (Q (.inl none) (mm_putN (mm_putN M 20 (M.1 17 1) ((((l2 - (-1000)) * 2001) + l1) - (-1000))) 17 1 (((mm_putN M 20 (M.1 17 1) ((((l2 - (-1000)) * 2001) + l1) - (-1000))).1 17 1) + 1)))))))) : en_R sc 118 0 [mm_r 17, mm_i l1, mm_i l2] [] M Q := by
  refine en_aload_n mc118_0 rfl ?_
  refine en_getI mv118 mc118_1 (lk_f3_15) (⟨rfl, by decide⟩ : mt_kd[17]? = some (.inl 3) ∧ 17 < 99) (Or.inl rfl) ?_
  refine en_aload_n mc118_4 rfl ?_
  refine en_getR (b := 20) mv118 mc118_5 (lk_f3_25) (⟨rfl, by decide⟩ : mt_kd[17]? = some (.inl 3) ∧ 17 < 99) rfl (mk_fc ho (by decide +kernel)) ?_
  refine en_alen (m := 1601) mc118_8 ⟨(⟨rfl, by decide, by decide⟩ : mt_kd[20]? = some (.inr (.int, 1601)) ∧ 20 < 99 ∧ 1601 < 2147483648).1, (⟨rfl, by decide, by decide⟩ : mt_kd[20]? = some (.inr (.int, 1601)) ∧ 20 < 99 ∧ 1601 < 2147483648).2.1⟩ ?_
  refine en_icmp_ge 46 mc118_9 (by decide) (ho.2.1 17 1 (by unfold mr_lg; omega)) (⟨by decide, by decide⟩ : mr_rg 1601) (fun q => ?_) (fun q => ?_)
  · replace h := h.1 q
    exact en_vret mv118 mc118_46 rfl h
  · replace h := h.2 q
    obtain ⟨g1, h⟩ := h
    obtain ⟨g2, h⟩ := h
    obtain ⟨g3, h⟩ := h
    obtain ⟨g4, h⟩ := h
    refine en_aload_n mc118_12 rfl ?_
    refine en_getR (b := 20) mv118 mc118_13 (lk_f3_25) (⟨rfl, by decide⟩ : mt_kd[17]? = some (.inl 3) ∧ 17 < 99) rfl (mk_fc ho (by decide +kernel)) ?_
    refine en_aload_n mc118_16 rfl ?_
    refine en_getI mv118 mc118_17 (lk_f3_15) (⟨rfl, by decide⟩ : mt_kd[17]? = some (.inl 3) ∧ 17 < 99) (Or.inl rfl) ?_
    refine en_iload_n mc118_20 rfl ?_
    refine en_sipush mc118_21 (by decide) ?_
    refine en_isub mc118_24 ?_
    refine en_sipush mc118_25 (by decide) ?_
    refine en_imul mc118_28 ?_
    refine en_iload_n mc118_29 rfl ?_
    refine en_iadd mc118_30 ?_
    refine en_sipush mc118_31 (by decide) ?_
    refine en_isub mc118_34 ?_
    refine en_iast mc118_35 (⟨rfl, by decide, by decide⟩ : mt_kd[20]? = some (.inr (.int, 1601)) ∧ 20 < 99 ∧ 1601 < 2147483648) g1 g2 g3 ?_
    refine en_aload_n mc118_36 rfl ?_
    refine en_dup mc118_37 rfl ?_
    refine en_getI mv118 mc118_38 (lk_f3_15) (⟨rfl, by decide⟩ : mt_kd[17]? = some (.inl 3) ∧ 17 < 99) (Or.inl rfl) ?_
    refine en_iconst mc118_41 ?_
    refine en_iadd mc118_42 ?_
    refine en_putI mv118 mc118_43 (lk_f3_15) (⟨rfl, by decide⟩ : mt_kd[17]? = some (.inl 3) ∧ 17 < 99) rfl rfl g4 ?_
    exact en_vret mv118 mc118_46 rfl h
/-! 119: CellAreas$Area.above(I)I -/
theorem mc119_0 : mr_C 119 0 = some (.iload_n 1, 1) := rfl
theorem mc119_1 : mr_C 119 1 = some (.iconst 1, 1) := rfl
theorem mc119_2 : mr_C 119 2 = some (.iadd, 1) := rfl
theorem mc119_3 : mr_C 119 3 = some (.aload_n 0, 1) := rfl
theorem mc119_4 : mr_C 119 4 = some (.getfield 9, 3) := rfl
theorem mc119_7 : mr_C 119 7 = some (.if_icmp .ge (26), 3) := rfl
theorem mc119_10 : mr_C 119 10 = some (.aload_n 0, 1) := rfl
theorem mc119_11 : mr_C 119 11 = some (.getfield 15, 3) := rfl
theorem mc119_14 : mr_C 119 14 = some (.iload_n 1, 1) := rfl
theorem mc119_15 : mr_C 119 15 = some (.iconst 1, 1) := rfl
theorem mc119_16 : mr_C 119 16 = some (.iadd, 1) := rfl
theorem mc119_17 : mr_C 119 17 = some (.iaload, 1) := by decide +kernel
theorem mc119_18 : mr_C 119 18 = some (.aload_n 0, 1) := by decide +kernel
theorem mc119_19 : mr_C 119 19 = some (.getfield 19, 3) := by decide +kernel
theorem mc119_22 : mr_C 119 22 = some (.iload_n 1, 1) := by decide +kernel
theorem mc119_23 : mr_C 119 23 = some (.iaload, 1) := by decide +kernel
theorem mc119_24 : mr_C 119 24 = some (.if_icmp .ne (9), 3) := by decide +kernel
theorem mc119_27 : mr_C 119 27 = some (.iload_n 1, 1) := by decide +kernel
theorem mc119_28 : mr_C 119 28 = some (.iconst 1, 1) := by decide +kernel
theorem mc119_29 : mr_C 119 29 = some (.iadd, 1) := by decide +kernel
theorem mc119_30 : mr_C 119 30 = some (.goto 4, 3) := by decide +kernel
theorem mc119_33 : mr_C 119 33 = some (.iconst (-1), 1) := by decide +kernel
theorem mc119_34 : mr_C 119 34 = some (.ireturn, 1) := by decide +kernel
theorem vc119_0 {sc : Nat × (Int → Int)} {Q : mm_R → mm_M → Prop} {M : mm_M} {l0 : Nat} {l1 : Int} (ho : mr_ok M) (hA_l0 : mr_A l0)
    (h : mr_rg (l1 + 1) ∧ (((M.1 l0 0) ≤ (l1 + 1) → Q (.inl (some (mm_i (-1)))) M) ∧ (¬ (M.1 l0 0) ≤ (l1 + 1) → 0 ≤ (l1 + 1) ∧ ((l1 + 1) < 100 ∧ (0 ≤ l1 ∧ (l1 < 100 ∧ (((M.1 (l0 + 1) (l1 + 1)) ≠ (M.1 (l0 + 2) l1) → Q (.inl (some (mm_i (-1)))) M) ∧ (¬ ((M.1 (l0 + 1) (l1 + 1)) ≠ (M.1 (l0 + 2) l1)) → Q (.inl (some (mm_i (l1 + 1)))) M)))))))) : en_R sc 119 0 [mm_r l0, mm_i l1] [] M Q := by
  obtain ⟨g1, h⟩ := h
  refine en_iload_n mc119_0 rfl ?_
  refine en_iconst mc119_1 ?_
  refine en_iadd mc119_2 ?_
  refine en_aload_n mc119_3 rfl ?_
  refine en_getI mv119 mc119_4 (lk_f0_9) (mk_A0 hA_l0) (Or.inl rfl) ?_
  refine en_icmp_ge 33 mc119_7 (by decide) g1 (ho.2.1 l0 0 (mk_nA0 hA_l0 _)) (fun q => ?_) (fun q => ?_)
  · replace h := h.1 q
    refine en_iconst mc119_33 ?_
    exact en_iret mv119 mc119_34 rfl h
  · replace h := h.2 q
    obtain ⟨g2, h⟩ := h
    obtain ⟨g3, h⟩ := h
    obtain ⟨g4, h⟩ := h
    obtain ⟨g5, h⟩ := h
    refine en_aload_n mc119_10 rfl ?_
    refine en_getR (b := (l0 + 1)) mv119 mc119_11 (lk_f0_15) (mk_A0 hA_l0) rfl (mk_fA1 hA_l0 ho) ?_
    refine en_iload_n mc119_14 rfl ?_
    refine en_iconst mc119_15 ?_
    refine en_iadd mc119_16 ?_
    refine en_iald mc119_17 (mk_A1 hA_l0) g2 g3 ?_
    refine en_aload_n mc119_18 rfl ?_
    refine en_getR (b := (l0 + 2)) mv119 mc119_19 (lk_f0_19) (mk_A0 hA_l0) rfl (mk_fA2 hA_l0 ho) ?_
    refine en_iload_n mc119_22 rfl ?_
    refine en_iald mc119_23 (mk_A2 hA_l0) g4 g5 ?_
    refine en_icmp_ne 33 mc119_24 (by decide) (ho.2.1 (l0 + 1) (l1 + 1) ((mk_nA1 hA_l0) _)) (ho.2.1 (l0 + 2) l1 ((mk_nA2 hA_l0) _)) (fun q => ?_) (fun q => ?_)
    · replace h := h.1 q
      refine en_iconst mc119_33 ?_
      exact en_iret mv119 mc119_34 rfl h
    · replace h := h.2 q
      refine en_iload_n mc119_27 rfl ?_
      refine en_iconst mc119_28 ?_
      refine en_iadd mc119_29 ?_
      refine en_goto 34 mc119_30 (by decide) ?_
      exact en_iret mv119 mc119_34 rfl h
/-! 120: CellAreas$Loops.alongTop(LCellAreas$Area;IIII)I -/
theorem mc120_0 : mr_C 120 0 = some (.aload_n 0, 1) := rfl
theorem mc120_1 : mr_C 120 1 = some (.iload 4, 2) := rfl
theorem mc120_3 : mr_C 120 3 = some (.iload 5, 2) := rfl
theorem mc120_5 : mr_C 120 5 = some (.invokevirtual 58, 3) := rfl
theorem mc120_8 : mr_C 120 8 = some (.aload_n 1, 1) := rfl
theorem mc120_9 : mr_C 120 9 = some (.iload_n 3, 1) := rfl
theorem mc120_10 : mr_C 120 10 = some (.iload 4, 2) := rfl
theorem mc120_12 : mr_C 120 12 = some (.invokevirtual 92, 3) := rfl
theorem mc120_15 : mr_C 120 15 = some (.iconst 1, 1) := rfl
theorem mc120_16 : mr_C 120 16 = some (.isub, 1) := rfl
theorem mc120_17 : mr_C 120 17 = some (.istore 6, 2) := by decide +kernel
theorem mc120_19 : mr_C 120 19 = some (.iload 6, 2) := by decide +kernel
theorem mc120_21 : mr_C 120 21 = some (.aload_n 1, 1) := by decide +kernel
theorem mc120_22 : mr_C 120 22 = some (.iload_n 3, 1) := by decide +kernel
theorem mc120_23 : mr_C 120 23 = some (.invokevirtual 95, 3) := by decide +kernel
theorem mc120_26 : mr_C 120 26 = some (.if_icmp .lt (39), 3) := by decide +kernel
theorem mc120_29 : mr_C 120 29 = some (.aload_n 1, 1) := by decide +kernel
theorem mc120_30 : mr_C 120 30 = some (.getfield 48, 3) := by decide +kernel
theorem mc120_33 : mr_C 120 33 = some (.iload 6, 2) := by decide +kernel
theorem mc120_35 : mr_C 120 35 = some (.iaload, 1) := by decide +kernel
theorem mc120_36 : mr_C 120 36 = some (.aload_n 1, 1) := by decide +kernel
theorem mc120_37 : mr_C 120 37 = some (.getfield 86, 3) := by decide +kernel
theorem mc120_40 : mr_C 120 40 = some (.iload_n 2, 1) := by decide +kernel
theorem mc120_41 : mr_C 120 41 = some (.iaload, 1) := by decide +kernel
theorem mc120_42 : mr_C 120 42 = some (.if_icmp .le (23), 3) := by decide +kernel
theorem mc120_45 : mr_C 120 45 = some (.aload_n 0, 1) := by decide +kernel
theorem mc120_46 : mr_C 120 46 = some (.aload_n 1, 1) := by decide +kernel
theorem mc120_47 : mr_C 120 47 = some (.getfield 48, 3) := by decide +kernel
theorem mc120_50 : mr_C 120 50 = some (.iload 6, 2) := by decide +kernel
theorem mc120_52 : mr_C 120 52 = some (.iaload, 1) := by decide +kernel
theorem mc120_53 : mr_C 120 53 = some (.iload 5, 2) := by decide +kernel
theorem mc120_55 : mr_C 120 55 = some (.invokevirtual 58, 3) := by decide +kernel
theorem mc120_58 : mr_C 120 58 = some (.iconst 2, 1) := by decide +kernel
theorem mc120_59 : mr_C 120 59 = some (.iload 6, 2) := by decide +kernel
theorem mc120_61 : mr_C 120 61 = some (.imul, 1) := by decide +kernel
theorem mc120_62 : mr_C 120 62 = some (.iconst 1, 1) := by decide +kernel
theorem mc120_63 : mr_C 120 63 = some (.iadd, 1) := by decide +kernel
theorem mc120_64 : mr_C 120 64 = some (.ireturn, 1) := by decide +kernel
theorem mc120_65 : mr_C 120 65 = some (.aload_n 0, 1) := by decide +kernel
theorem mc120_66 : mr_C 120 66 = some (.aload_n 1, 1) := by decide +kernel
theorem mc120_67 : mr_C 120 67 = some (.getfield 86, 3) := by decide +kernel
theorem mc120_70 : mr_C 120 70 = some (.iload_n 2, 1) := by decide +kernel
theorem mc120_71 : mr_C 120 71 = some (.iaload, 1) := by decide +kernel
theorem mc120_72 : mr_C 120 72 = some (.iload 5, 2) := by decide +kernel
theorem mc120_74 : mr_C 120 74 = some (.invokevirtual 58, 3) := by decide +kernel
theorem mc120_77 : mr_C 120 77 = some (.iconst 2, 1) := by decide +kernel
theorem mc120_78 : mr_C 120 78 = some (.iload_n 2, 1) := by decide +kernel
theorem mc120_79 : mr_C 120 79 = some (.imul, 1) := by decide +kernel
theorem mc120_80 : mr_C 120 80 = some (.ireturn, 1) := by decide +kernel
theorem vc120_0 {sc : Nat × (Int → Int)} {Q : mm_R → mm_M → Prop} {M : mm_M} {l1 : Nat} {l2 : Int} {l3 : Int} {l4 : Int} {l5 : Int} (ho : mr_ok M) (hA_l1 : mr_A l1)
    (h : en_CV sc 118 [mm_r 17, mm_i l4, mm_i l5] M (fun M2 => mr_ok M2 → en_CI sc 81 [mm_r l1, mm_i l3, mm_i l4, mm_u, mm_u, mm_u] M2 (fun x4 M5 => mr_ok M5 → en_CI sc 50 [mm_r l1, mm_i l3] M5 (fun x7 M8 => mr_ok M8 → mr_rg (x4 - 1) ∧ (mr_rg x7 ∧ (((x4 - 1) < x7 → en_R sc 120 65 [mm_r 17, mm_r l1, mm_i l2, mm_i l3, mm_i l4, mm_i l5, mm_i (x4 - 1)] [] M8 Q) ∧ (¬ (x4 - 1) < x7 → 0 ≤ (x4 - 1) ∧ ((x4 - 1) < 400 ∧ (0 ≤ l2 ∧ (l2 < 400 ∧ (((M8.1 (l1 + 5) (x4 - 1)) ≤ (M8.1 (l1 + 4) l2) → en_R sc 120 65 [mm_r 17, mm_r l1, mm_i l2, mm_i l3, mm_i l4, mm_i l5, mm_i (x4 - 1)] [] M8 Q) ∧ (¬ (M8.1 (l1 + 5) (x4 - 1)) ≤ (M8.1 (l1 + 4) l2) → 0 ≤ (x4 - 1) ∧ ((x4 - 1) < 400 ∧ (en_CV sc 118 [mm_r 17, mm_i (M8.1 (l1 + 5) (x4 - 1)), mm_i l5] M8 (fun M19 => mr_ok M19 → Q (.inl (some (mm_i ((2 * (x4 - 1)) + 1)))) M19) (fun e M9 => Q (.inr e) M9)))))))))))) (fun e M9 => Q (.inr e) M9)) (fun e M9 => Q (.inr e) M9)) (fun e M9 => Q (.inr e) M9)) : en_R sc 120 0 [mm_r 17, mm_r l1, mm_i l2, mm_i l3, mm_i l4, mm_i l5, mm_u] [] M Q := by
  refine en_aload_n mc120_0 rfl ?_
  refine en_iload mc120_1 rfl ?_
  refine en_iload mc120_3 rfl ?_
  refine en_callV (lz := [mm_r 17, mm_i l4, mm_i l5]) mv120 mc120_5 rfl rfl (lk_m3_58) mv118 rfl (by decide) rfl (mk_cokV rfl (⟨rfl, by decide⟩ : mt_kd[17]? = some (.inl 3) ∧ 17 < 99)) rfl (mk_nh rfl _) ho ?_
  refine en_CV_mono h (fun M2 h => ?_) (fun _ _ h => h)
  intro ho3
  replace h := h ho3
  refine en_aload_n mc120_8 rfl ?_
  refine en_iload_n mc120_9 rfl ?_
  refine en_iload mc120_10 rfl ?_
  refine en_callI (lz := [mm_r l1, mm_i l3, mm_i l4, mm_u, mm_u, mm_u]) mv120 mc120_12 rfl rfl (lk_m3_92) mv81 rfl (by decide) rfl (mk_cokV rfl (mk_A0 hA_l1)) rfl (mk_nh rfl _) ho3 ?_
  refine en_CI_mono h (fun x4 M5 h => ?_) (fun _ _ h => h)
  intro ho6
  replace h := h ho6
  refine en_iconst mc120_15 ?_
  refine en_isub mc120_16 ?_
  refine en_istore (ls' := [mm_r 17, mm_r l1, mm_i l2, mm_i l3, mm_i l4, mm_i l5, mm_i (x4 - 1)]) mc120_17 (Nat.le_of_ble_eq_true rfl) rfl ?_
  refine en_iload mc120_19 rfl ?_
  refine en_aload_n mc120_21 rfl ?_
  refine en_iload_n mc120_22 rfl ?_
  refine en_callI (lz := [mm_r l1, mm_i l3]) mv120 mc120_23 rfl rfl (lk_m3_95) mv50 rfl (by decide) rfl (mk_cokV rfl (mk_A0 hA_l1)) rfl (mk_nh rfl _) ho6 ?_
  refine en_CI_mono h (fun x7 M8 h => ?_) (fun _ _ h => h)
  intro ho9
  replace h := h ho9
  obtain ⟨g10, h⟩ := h
  obtain ⟨g11, h⟩ := h
  refine en_icmp_lt 65 mc120_26 (by decide) g10 g11 (fun q => ?_) (fun q => ?_)
  · replace h := h.1 q
    exact h
  · replace h := h.2 q
    obtain ⟨g12, h⟩ := h
    obtain ⟨g13, h⟩ := h
    obtain ⟨g14, h⟩ := h
    obtain ⟨g15, h⟩ := h
    refine en_aload_n mc120_29 rfl ?_
    refine en_getR (b := (l1 + 5)) mv120 mc120_30 (lk_f3_48) (mk_A0 hA_l1) rfl (mk_fA5 hA_l1 ho9) ?_
    refine en_iload mc120_33 rfl ?_
    refine en_iald mc120_35 (mk_A5 hA_l1) g12 g13 ?_
    refine en_aload_n mc120_36 rfl ?_
    refine en_getR (b := (l1 + 4)) mv120 mc120_37 (lk_f3_86) (mk_A0 hA_l1) rfl (mk_fA4 hA_l1 ho9) ?_
    refine en_iload_n mc120_40 rfl ?_
    refine en_iald mc120_41 (mk_A4 hA_l1) g14 g15 ?_
    refine en_icmp_le 65 mc120_42 (by decide) (ho9.2.1 (l1 + 5) (x4 - 1) ((mk_nA5 hA_l1) _)) (ho9.2.1 (l1 + 4) l2 ((mk_nA4 hA_l1) _)) (fun q => ?_) (fun q => ?_)
    · replace h := h.1 q
      exact h
    · replace h := h.2 q
      obtain ⟨g16, h⟩ := h
      obtain ⟨g17, h⟩ := h
      refine en_aload_n mc120_45 rfl ?_
      refine en_aload_n mc120_46 rfl ?_
      refine en_getR (b := (l1 + 5)) mv120 mc120_47 (lk_f3_48) (mk_A0 hA_l1) rfl (mk_fA5 hA_l1 ho9) ?_
      refine en_iload mc120_50 rfl ?_
      refine en_iald mc120_52 (mk_A5 hA_l1) g16 g17 ?_
      refine en_iload mc120_53 rfl ?_
      refine en_callV (lz := [mm_r 17, mm_i (M8.1 (l1 + 5) (x4 - 1)), mm_i l5]) mv120 mc120_55 rfl rfl (lk_m3_58) mv118 rfl (by decide) rfl (mk_cokV rfl (⟨rfl, by decide⟩ : mt_kd[17]? = some (.inl 3) ∧ 17 < 99)) rfl (mk_nh rfl _) ho9 ?_
      refine en_CV_mono h (fun M19 h => ?_) (fun _ _ h => h)
      intro ho20
      replace h := h ho20
      refine en_iconst mc120_58 ?_
      refine en_iload mc120_59 rfl ?_
      refine en_imul mc120_61 ?_
      refine en_iconst mc120_62 ?_
      refine en_iadd mc120_63 ?_
      exact en_iret mv120 mc120_64 rfl h
theorem vc120_65 {sc : Nat × (Int → Int)} {Q : mm_R → mm_M → Prop} {M : mm_M} {l1 : Nat} {l2 : Int} {l3 : Int} {l4 : Int} {l5 : Int} {l6 : Int} (ho : mr_ok M) (hA_l1 : mr_A l1)
    (h : 0 ≤ l2 ∧ (l2 < 400 ∧ (en_CV sc 118 [mm_r 17, mm_i (M.1 (l1 + 4) l2), mm_i l5] M (fun M4 => mr_ok M4 → Q (.inl (some (mm_i (2 * l2)))) M4) (fun e M9 => Q (.inr e) M9)))) : en_R sc 120 65 [mm_r 17, mm_r l1, mm_i l2, mm_i l3, mm_i l4, mm_i l5, mm_i l6] [] M Q := by
  obtain ⟨g1, h⟩ := h
  obtain ⟨g2, h⟩ := h
  refine en_aload_n mc120_65 rfl ?_
  refine en_aload_n mc120_66 rfl ?_
  refine en_getR (b := (l1 + 4)) mv120 mc120_67 (lk_f3_86) (mk_A0 hA_l1) rfl (mk_fA4 hA_l1 ho) ?_
  refine en_iload_n mc120_70 rfl ?_
  refine en_iald mc120_71 (mk_A4 hA_l1) g1 g2 ?_
  refine en_iload mc120_72 rfl ?_
  refine en_callV (lz := [mm_r 17, mm_i (M.1 (l1 + 4) l2), mm_i l5]) mv120 mc120_74 rfl rfl (lk_m3_58) mv118 rfl (by decide) rfl (mk_cokV rfl (⟨rfl, by decide⟩ : mt_kd[17]? = some (.inl 3) ∧ 17 < 99)) rfl (mk_nh rfl _) ho ?_
  refine en_CV_mono h (fun M4 h => ?_) (fun _ _ h => h)
  intro ho5
  replace h := h ho5
  refine en_iconst mc120_77 ?_
  refine en_iload_n mc120_78 rfl ?_
  refine en_imul mc120_79 ?_
  exact en_iret mv120 mc120_80 rfl h
/-! 121: CellAreas$Loops.alongBottom(LCellAreas$Area;IIII)I -/
theorem mc121_0 : mr_C 121 0 = some (.aload_n 0, 1) := rfl
theorem mc121_1 : mr_C 121 1 = some (.iload 4, 2) := rfl
theorem mc121_3 : mr_C 121 3 = some (.iload 5, 2) := rfl
theorem mc121_5 : mr_C 121 5 = some (.invokevirtual 58, 3) := rfl
theorem mc121_8 : mr_C 121 8 = some (.aload_n 1, 1) := rfl
theorem mc121_9 : mr_C 121 9 = some (.iload_n 3, 1) := rfl
theorem mc121_10 : mr_C 121 10 = some (.iload 4, 2) := rfl
theorem mc121_12 : mr_C 121 12 = some (.invokevirtual 92, 3) := rfl
theorem mc121_15 : mr_C 121 15 = some (.istore 6, 2) := rfl
theorem mc121_17 : mr_C 121 17 = some (.iload 6, 2) := rfl
theorem mc121_19 : mr_C 121 19 = some (.aload_n 1, 1) := by decide +kernel
theorem mc121_20 : mr_C 121 20 = some (.iload_n 3, 1) := by decide +kernel
theorem mc121_21 : mr_C 121 21 = some (.invokevirtual 98, 3) := by decide +kernel
theorem mc121_24 : mr_C 121 24 = some (.if_icmp .ge (37), 3) := by decide +kernel
theorem mc121_27 : mr_C 121 27 = some (.aload_n 1, 1) := by decide +kernel
theorem mc121_28 : mr_C 121 28 = some (.getfield 86, 3) := by decide +kernel
theorem mc121_31 : mr_C 121 31 = some (.iload 6, 2) := by decide +kernel
theorem mc121_33 : mr_C 121 33 = some (.iaload, 1) := by decide +kernel
theorem mc121_34 : mr_C 121 34 = some (.aload_n 1, 1) := by decide +kernel
theorem mc121_35 : mr_C 121 35 = some (.getfield 48, 3) := by decide +kernel
theorem mc121_38 : mr_C 121 38 = some (.iload_n 2, 1) := by decide +kernel
theorem mc121_39 : mr_C 121 39 = some (.iaload, 1) := by decide +kernel
theorem mc121_40 : mr_C 121 40 = some (.if_icmp .ge (21), 3) := by decide +kernel
theorem mc121_43 : mr_C 121 43 = some (.aload_n 0, 1) := by decide +kernel
theorem mc121_44 : mr_C 121 44 = some (.aload_n 1, 1) := by decide +kernel
theorem mc121_45 : mr_C 121 45 = some (.getfield 86, 3) := by decide +kernel
theorem mc121_48 : mr_C 121 48 = some (.iload 6, 2) := by decide +kernel
theorem mc121_50 : mr_C 121 50 = some (.iaload, 1) := by decide +kernel
theorem mc121_51 : mr_C 121 51 = some (.iload 5, 2) := by decide +kernel
theorem mc121_53 : mr_C 121 53 = some (.invokevirtual 58, 3) := by decide +kernel
theorem mc121_56 : mr_C 121 56 = some (.iconst 2, 1) := by decide +kernel
theorem mc121_57 : mr_C 121 57 = some (.iload 6, 2) := by decide +kernel
theorem mc121_59 : mr_C 121 59 = some (.imul, 1) := by decide +kernel
theorem mc121_60 : mr_C 121 60 = some (.ireturn, 1) := by decide +kernel
theorem mc121_61 : mr_C 121 61 = some (.aload_n 0, 1) := by decide +kernel
theorem mc121_62 : mr_C 121 62 = some (.aload_n 1, 1) := by decide +kernel
theorem mc121_63 : mr_C 121 63 = some (.getfield 48, 3) := by decide +kernel
theorem mc121_66 : mr_C 121 66 = some (.iload_n 2, 1) := by decide +kernel
theorem mc121_67 : mr_C 121 67 = some (.iaload, 1) := by decide +kernel
theorem mc121_68 : mr_C 121 68 = some (.iload 5, 2) := by decide +kernel
theorem mc121_70 : mr_C 121 70 = some (.invokevirtual 58, 3) := by decide +kernel
theorem mc121_73 : mr_C 121 73 = some (.iconst 2, 1) := by decide +kernel
theorem mc121_74 : mr_C 121 74 = some (.iload_n 2, 1) := by decide +kernel
theorem mc121_75 : mr_C 121 75 = some (.imul, 1) := by decide +kernel
theorem mc121_76 : mr_C 121 76 = some (.iconst 1, 1) := by decide +kernel
theorem mc121_77 : mr_C 121 77 = some (.iadd, 1) := by decide +kernel
theorem mc121_78 : mr_C 121 78 = some (.ireturn, 1) := by decide +kernel
theorem vc121_0 {sc : Nat × (Int → Int)} {Q : mm_R → mm_M → Prop} {M : mm_M} {l1 : Nat} {l2 : Int} {l3 : Int} {l4 : Int} {l5 : Int} (ho : mr_ok M) (hA_l1 : mr_A l1)
    (h : en_CV sc 118 [mm_r 17, mm_i l4, mm_i l5] M (fun M2 => mr_ok M2 → en_CI sc 81 [mm_r l1, mm_i l3, mm_i l4, mm_u, mm_u, mm_u] M2 (fun x4 M5 => mr_ok M5 → en_CI sc 51 [mm_r l1, mm_i l3] M5 (fun x7 M8 => mr_ok M8 → mr_rg x4 ∧ (mr_rg x7 ∧ ((x7 ≤ x4 → en_R sc 121 61 [mm_r 17, mm_r l1, mm_i l2, mm_i l3, mm_i l4, mm_i l5, mm_i x4] [] M8 Q) ∧ (¬ x7 ≤ x4 → 0 ≤ x4 ∧ (x4 < 400 ∧ (0 ≤ l2 ∧ (l2 < 400 ∧ (((M8.1 (l1 + 5) l2) ≤ (M8.1 (l1 + 4) x4) → en_R sc 121 61 [mm_r 17, mm_r l1, mm_i l2, mm_i l3, mm_i l4, mm_i l5, mm_i x4] [] M8 Q) ∧ (¬ (M8.1 (l1 + 5) l2) ≤ (M8.1 (l1 + 4) x4) → 0 ≤ x4 ∧ (x4 < 400 ∧ (en_CV sc 118 [mm_r 17, mm_i (M8.1 (l1 + 4) x4), mm_i l5] M8 (fun M19 => mr_ok M19 → Q (.inl (some (mm_i (2 * x4)))) M19) (fun e M9 => Q (.inr e) M9)))))))))))) (fun e M9 => Q (.inr e) M9)) (fun e M9 => Q (.inr e) M9)) (fun e M9 => Q (.inr e) M9)) : en_R sc 121 0 [mm_r 17, mm_r l1, mm_i l2, mm_i l3, mm_i l4, mm_i l5, mm_u] [] M Q := by
  refine en_aload_n mc121_0 rfl ?_
  refine en_iload mc121_1 rfl ?_
  refine en_iload mc121_3 rfl ?_
  refine en_callV (lz := [mm_r 17, mm_i l4, mm_i l5]) mv121 mc121_5 rfl rfl (lk_m3_58) mv118 rfl (by decide) rfl (mk_cokV rfl (⟨rfl, by decide⟩ : mt_kd[17]? = some (.inl 3) ∧ 17 < 99)) rfl (mk_nh rfl _) ho ?_
  refine en_CV_mono h (fun M2 h => ?_) (fun _ _ h => h)
  intro ho3
  replace h := h ho3
  refine en_aload_n mc121_8 rfl ?_
  refine en_iload_n mc121_9 rfl ?_
  refine en_iload mc121_10 rfl ?_
  refine en_callI (lz := [mm_r l1, mm_i l3, mm_i l4, mm_u, mm_u, mm_u]) mv121 mc121_12 rfl rfl (lk_m3_92) mv81 rfl (by decide) rfl (mk_cokV rfl (mk_A0 hA_l1)) rfl (mk_nh rfl _) ho3 ?_
  refine en_CI_mono h (fun x4 M5 h => ?_) (fun _ _ h => h)
  intro ho6
  replace h := h ho6
  refine en_istore (ls' := [mm_r 17, mm_r l1, mm_i l2, mm_i l3, mm_i l4, mm_i l5, mm_i x4]) mc121_15 (Nat.le_of_ble_eq_true rfl) rfl ?_
  refine en_iload mc121_17 rfl ?_
  refine en_aload_n mc121_19 rfl ?_
  refine en_iload_n mc121_20 rfl ?_
  refine en_callI (lz := [mm_r l1, mm_i l3]) mv121 mc121_21 rfl rfl (lk_m3_98) mv51 rfl (by decide) rfl (mk_cokV rfl (mk_A0 hA_l1)) rfl (mk_nh rfl _) ho6 ?_
  refine en_CI_mono h (fun x7 M8 h => ?_) (fun _ _ h => h)
  intro ho9
  replace h := h ho9
  obtain ⟨g10, h⟩ := h
  obtain ⟨g11, h⟩ := h
  refine en_icmp_ge 61 mc121_24 (by decide) g10 g11 (fun q => ?_) (fun q => ?_)
  · replace h := h.1 q
    exact h
  · replace h := h.2 q
    obtain ⟨g12, h⟩ := h
    obtain ⟨g13, h⟩ := h
    obtain ⟨g14, h⟩ := h
    obtain ⟨g15, h⟩ := h
    refine en_aload_n mc121_27 rfl ?_
    refine en_getR (b := (l1 + 4)) mv121 mc121_28 (lk_f3_86) (mk_A0 hA_l1) rfl (mk_fA4 hA_l1 ho9) ?_
    refine en_iload mc121_31 rfl ?_
    refine en_iald mc121_33 (mk_A4 hA_l1) g12 g13 ?_
    refine en_aload_n mc121_34 rfl ?_
    refine en_getR (b := (l1 + 5)) mv121 mc121_35 (lk_f3_48) (mk_A0 hA_l1) rfl (mk_fA5 hA_l1 ho9) ?_
    refine en_iload_n mc121_38 rfl ?_
    refine en_iald mc121_39 (mk_A5 hA_l1) g14 g15 ?_
    refine en_icmp_ge 61 mc121_40 (by decide) (ho9.2.1 (l1 + 4) x4 ((mk_nA4 hA_l1) _)) (ho9.2.1 (l1 + 5) l2 ((mk_nA5 hA_l1) _)) (fun q => ?_) (fun q => ?_)
    · replace h := h.1 q
      exact h
    · replace h := h.2 q
      obtain ⟨g16, h⟩ := h
      obtain ⟨g17, h⟩ := h
      refine en_aload_n mc121_43 rfl ?_
      refine en_aload_n mc121_44 rfl ?_
      refine en_getR (b := (l1 + 4)) mv121 mc121_45 (lk_f3_86) (mk_A0 hA_l1) rfl (mk_fA4 hA_l1 ho9) ?_
      refine en_iload mc121_48 rfl ?_
      refine en_iald mc121_50 (mk_A4 hA_l1) g16 g17 ?_
      refine en_iload mc121_51 rfl ?_
      refine en_callV (lz := [mm_r 17, mm_i (M8.1 (l1 + 4) x4), mm_i l5]) mv121 mc121_53 rfl rfl (lk_m3_58) mv118 rfl (by decide) rfl (mk_cokV rfl (⟨rfl, by decide⟩ : mt_kd[17]? = some (.inl 3) ∧ 17 < 99)) rfl (mk_nh rfl _) ho9 ?_
      refine en_CV_mono h (fun M19 h => ?_) (fun _ _ h => h)
      intro ho20
      replace h := h ho20
      refine en_iconst mc121_56 ?_
      refine en_iload mc121_57 rfl ?_
      refine en_imul mc121_59 ?_
      exact en_iret mv121 mc121_60 rfl h
theorem vc121_61 {sc : Nat × (Int → Int)} {Q : mm_R → mm_M → Prop} {M : mm_M} {l1 : Nat} {l2 : Int} {l3 : Int} {l4 : Int} {l5 : Int} {l6 : Int} (ho : mr_ok M) (hA_l1 : mr_A l1)
    (h : 0 ≤ l2 ∧ (l2 < 400 ∧ (en_CV sc 118 [mm_r 17, mm_i (M.1 (l1 + 5) l2), mm_i l5] M (fun M4 => mr_ok M4 → Q (.inl (some (mm_i ((2 * l2) + 1)))) M4) (fun e M9 => Q (.inr e) M9)))) : en_R sc 121 61 [mm_r 17, mm_r l1, mm_i l2, mm_i l3, mm_i l4, mm_i l5, mm_i l6] [] M Q := by
  obtain ⟨g1, h⟩ := h
  obtain ⟨g2, h⟩ := h
  refine en_aload_n mc121_61 rfl ?_
  refine en_aload_n mc121_62 rfl ?_
  refine en_getR (b := (l1 + 5)) mv121 mc121_63 (lk_f3_48) (mk_A0 hA_l1) rfl (mk_fA5 hA_l1 ho) ?_
  refine en_iload_n mc121_66 rfl ?_
  refine en_iald mc121_67 (mk_A5 hA_l1) g1 g2 ?_
  refine en_iload mc121_68 rfl ?_
  refine en_callV (lz := [mm_r 17, mm_i (M.1 (l1 + 5) l2), mm_i l5]) mv121 mc121_70 rfl rfl (lk_m3_58) mv118 rfl (by decide) rfl (mk_cokV rfl (⟨rfl, by decide⟩ : mt_kd[17]? = some (.inl 3) ∧ 17 < 99)) rfl (mk_nh rfl _) ho ?_
  refine en_CV_mono h (fun M4 h => ?_) (fun _ _ h => h)
  intro ho5
  replace h := h ho5
  refine en_iconst mc121_73 ?_
  refine en_iload_n mc121_74 rfl ?_
  refine en_imul mc121_75 ?_
  refine en_iconst mc121_76 ?_
  refine en_iadd mc121_77 ?_
  exact en_iret mv121 mc121_78 rfl h
/-! 122: CellAreas$Loops.afterUp(LCellAreas$Area;I)I -/
theorem mc122_0 : mr_C 122 0 = some (.aload_n 1, 1) := rfl
theorem mc122_1 : mr_C 122 1 = some (.iload_n 2, 1) := rfl
theorem mc122_2 : mr_C 122 2 = some (.invokevirtual 54, 3) := rfl
theorem mc122_5 : mr_C 122 5 = some (.istore_n 3, 1) := rfl
theorem mc122_6 : mr_C 122 6 = some (.aload_n 1, 1) := rfl
theorem mc122_7 : mr_C 122 7 = some (.getfield 48, 3) := rfl
theorem mc122_10 : mr_C 122 10 = some (.iload_n 2, 1) := rfl
theorem mc122_11 : mr_C 122 11 = some (.iaload, 1) := rfl
theorem mc122_12 : mr_C 122 12 = some (.istore 4, 2) := rfl
theorem mc122_14 : mr_C 122 14 = some (.aload_n 1, 1) := by decide +kernel
theorem mc122_15 : mr_C 122 15 = some (.aload_n 1, 1) := by decide +kernel
theorem mc122_16 : mr_C 122 16 = some (.iload_n 3, 1) := by decide +kernel
theorem mc122_17 : mr_C 122 17 = some (.invokevirtual 69, 3) := by decide +kernel
theorem mc122_20 : mr_C 122 20 = some (.iload 4, 2) := by decide +kernel
theorem mc122_22 : mr_C 122 22 = some (.iconst 1, 1) := by decide +kernel
theorem mc122_23 : mr_C 122 23 = some (.isub, 1) := by decide +kernel
theorem mc122_24 : mr_C 122 24 = some (.invokevirtual 72, 3) := by decide +kernel
theorem mc122_27 : mr_C 122 27 = some (.istore 5, 2) := by decide +kernel
theorem mc122_29 : mr_C 122 29 = some (.iload 5, 2) := by decide +kernel
theorem mc122_31 : mr_C 122 31 = some (.iconst (-1), 1) := by decide +kernel
theorem mc122_32 : mr_C 122 32 = some (.if_icmp .ne (23), 3) := by decide +kernel
theorem mc122_35 : mr_C 122 35 = some (.aload_n 0, 1) := by decide +kernel
theorem mc122_36 : mr_C 122 36 = some (.aload_n 1, 1) := by decide +kernel
theorem mc122_37 : mr_C 122 37 = some (.iload_n 2, 1) := by decide +kernel
theorem mc122_38 : mr_C 122 38 = some (.aload_n 1, 1) := by decide +kernel
theorem mc122_39 : mr_C 122 39 = some (.iload_n 3, 1) := by decide +kernel
theorem mc122_40 : mr_C 122 40 = some (.invokevirtual 69, 3) := by decide +kernel
theorem mc122_43 : mr_C 122 43 = some (.iload 4, 2) := by decide +kernel
theorem mc122_45 : mr_C 122 45 = some (.aload_n 1, 1) := by decide +kernel
theorem mc122_46 : mr_C 122 46 = some (.getfield 76, 3) := by decide +kernel
theorem mc122_49 : mr_C 122 49 = some (.iload_n 3, 1) := by decide +kernel
theorem mc122_50 : mr_C 122 50 = some (.iaload, 1) := by decide +kernel
theorem mc122_51 : mr_C 122 51 = some (.invokevirtual 79, 3) := by decide +kernel
theorem mc122_54 : mr_C 122 54 = some (.ireturn, 1) := by decide +kernel
theorem mc122_55 : mr_C 122 55 = some (.aload_n 1, 1) := by decide +kernel
theorem mc122_56 : mr_C 122 56 = some (.getfield 48, 3) := by decide +kernel
theorem mc122_59 : mr_C 122 59 = some (.iload 5, 2) := by decide +kernel
theorem mc122_61 : mr_C 122 61 = some (.iaload, 1) := by decide +kernel
theorem mc122_62 : mr_C 122 62 = some (.iload 4, 2) := by decide +kernel
theorem mc122_64 : mr_C 122 64 = some (.if_icmp .ne (12), 3) := by decide +kernel
theorem mc122_67 : mr_C 122 67 = some (.iconst 2, 1) := by decide +kernel
theorem mc122_68 : mr_C 122 68 = some (.iload 5, 2) := by decide +kernel
theorem mc122_70 : mr_C 122 70 = some (.imul, 1) := by decide +kernel
theorem mc122_71 : mr_C 122 71 = some (.iconst 1, 1) := by decide +kernel
theorem mc122_72 : mr_C 122 72 = some (.iadd, 1) := by decide +kernel
theorem mc122_73 : mr_C 122 73 = some (.goto 19, 3) := by decide +kernel
theorem mc122_76 : mr_C 122 76 = some (.aload_n 0, 1) := by decide +kernel
theorem mc122_77 : mr_C 122 77 = some (.aload_n 1, 1) := by decide +kernel
theorem mc122_78 : mr_C 122 78 = some (.iload 5, 2) := by decide +kernel
theorem mc122_80 : mr_C 122 80 = some (.iload_n 3, 1) := by decide +kernel
theorem mc122_81 : mr_C 122 81 = some (.iload 4, 2) := by decide +kernel
theorem mc122_83 : mr_C 122 83 = some (.aload_n 1, 1) := by decide +kernel
theorem mc122_84 : mr_C 122 84 = some (.getfield 76, 3) := by decide +kernel
theorem mc122_87 : mr_C 122 87 = some (.iload_n 3, 1) := by decide +kernel
theorem mc122_88 : mr_C 122 88 = some (.iaload, 1) := by decide +kernel
theorem mc122_89 : mr_C 122 89 = some (.invokevirtual 83, 3) := by decide +kernel
theorem mc122_92 : mr_C 122 92 = some (.ireturn, 1) := by decide +kernel
theorem vc122_0 {sc : Nat × (Int → Int)} {Q : mm_R → mm_M → Prop} {M : mm_M} {l1 : Nat} {l2 : Int} (ho : mr_ok M) (hA_l1 : mr_A l1)
    (h : en_CI sc 117 [mm_r l1, mm_i l2, mm_u, mm_u, mm_u] M (fun x1 M2 => mr_ok M2 → 0 ≤ l2 ∧ (l2 < 400 ∧ (en_CI sc 119 [mm_r l1, mm_i x1] M2 (fun x6 M7 => mr_ok M7 → en_CI sc 82 [mm_r l1, mm_i x6, mm_i ((M2.1 (l1 + 5) l2) - 1), mm_u] M7 (fun x9 M10 => mr_ok M10 → mr_rg x9 ∧ ((x9 ≠ (-1) → 0 ≤ x9 ∧ (x9 < 400 ∧ (((M10.1 (l1 + 5) x9) ≠ (M2.1 (l1 + 5) l2) → 0 ≤ x1 ∧ (x1 < 100 ∧ (en_CI sc 121 [mm_r 17, mm_r l1, mm_i x9, mm_i x1, mm_i (M2.1 (l1 + 5) l2), mm_i (M10.1 (l1 + 2) x1), mm_u] M10 (fun x17 M18 => mr_ok M18 → Q (.inl (some (mm_i x17))) M18) (fun e M9 => Q (.inr e) M9)))) ∧ (¬ ((M10.1 (l1 + 5) x9) ≠ (M2.1 (l1 + 5) l2)) → Q (.inl (some (mm_i ((2 * x9) + 1)))) M10)))) ∧ (¬ (x9 ≠ (-1)) → en_CI sc 119 [mm_r l1, mm_i x1] M10 (fun x20 M21 => mr_ok M21 → 0 ≤ x1 ∧ (x1 < 100 ∧ (en_CI sc 120 [mm_r 17, mm_r l1, mm_i l2, mm_i x20, mm_i (M2.1 (l1 + 5) l2), mm_i (M21.1 (l1 + 2) x1), mm_u] M21 (fun x25 M26 => mr_ok M26 → Q (.inl (some (mm_i x25))) M26) (fun e M9 => Q (.inr e) M9)))) (fun e M9 => Q (.inr e) M9)))) (fun e M9 => Q (.inr e) M9)) (fun e M9 => Q (.inr e) M9)))) (fun e M9 => Q (.inr e) M9)) : en_R sc 122 0 [mm_r 17, mm_r l1, mm_i l2, mm_u, mm_u, mm_u] [] M Q := by
  refine en_aload_n mc122_0 rfl ?_
  refine en_iload_n mc122_1 rfl ?_
  refine en_callI (lz := [mm_r l1, mm_i l2, mm_u, mm_u, mm_u]) mv122 mc122_2 rfl rfl (lk_m3_54) mv117 rfl (by decide) rfl (mk_cokV rfl (mk_A0 hA_l1)) rfl (mk_nh rfl _) ho ?_
  refine en_CI_mono h (fun x1 M2 h => ?_) (fun _ _ h => h)
  intro ho3
  replace h := h ho3
  obtain ⟨g4, h⟩ := h
  obtain ⟨g5, h⟩ := h
  refine en_istore_n (ls' := [mm_r 17, mm_r l1, mm_i l2, mm_i x1, mm_u, mm_u]) mc122_5 (Nat.le_of_ble_eq_true rfl) rfl ?_
  refine en_aload_n mc122_6 rfl ?_
  refine en_getR (b := (l1 + 5)) mv122 mc122_7 (lk_f3_48) (mk_A0 hA_l1) rfl (mk_fA5 hA_l1 ho3) ?_
  refine en_iload_n mc122_10 rfl ?_
  refine en_iald mc122_11 (mk_A5 hA_l1) g4 g5 ?_
  refine en_istore (ls' := [mm_r 17, mm_r l1, mm_i l2, mm_i x1, mm_i (M2.1 (l1 + 5) l2), mm_u]) mc122_12 (Nat.le_of_ble_eq_true rfl) rfl ?_
  refine en_aload_n mc122_14 rfl ?_
  refine en_aload_n mc122_15 rfl ?_
  refine en_iload_n mc122_16 rfl ?_
  refine en_callI (lz := [mm_r l1, mm_i x1]) mv122 mc122_17 rfl rfl (lk_m3_69) mv119 rfl (by decide) rfl (mk_cokV rfl (mk_A0 hA_l1)) rfl (mk_nh rfl _) ho3 ?_
  refine en_CI_mono h (fun x6 M7 h => ?_) (fun _ _ h => h)
  intro ho8
  replace h := h ho8
  refine en_iload mc122_20 rfl ?_
  refine en_iconst mc122_22 ?_
  refine en_isub mc122_23 ?_
  refine en_callI (lz := [mm_r l1, mm_i x6, mm_i ((M2.1 (l1 + 5) l2) - 1), mm_u]) mv122 mc122_24 rfl rfl (lk_m3_72) mv82 rfl (by decide) rfl (mk_cokV rfl (mk_A0 hA_l1)) rfl (mk_nh rfl _) ho8 ?_
  refine en_CI_mono h (fun x9 M10 h => ?_) (fun _ _ h => h)
  intro ho11
  replace h := h ho11
  obtain ⟨g12, h⟩ := h
  refine en_istore (ls' := [mm_r 17, mm_r l1, mm_i l2, mm_i x1, mm_i (M2.1 (l1 + 5) l2), mm_i x9]) mc122_27 (Nat.le_of_ble_eq_true rfl) rfl ?_
  refine en_iload mc122_29 rfl ?_
  refine en_iconst mc122_31 ?_
  refine en_icmp_ne 55 mc122_32 (by decide) g12 (⟨by decide, by decide⟩ : mr_rg (-1)) (fun q => ?_) (fun q => ?_)
  · replace h := h.1 q
    obtain ⟨g13, h⟩ := h
    obtain ⟨g14, h⟩ := h
    refine en_aload_n mc122_55 rfl ?_
    refine en_getR (b := (l1 + 5)) mv122 mc122_56 (lk_f3_48) (mk_A0 hA_l1) rfl (mk_fA5 hA_l1 ho11) ?_
    refine en_iload mc122_59 rfl ?_
    refine en_iald mc122_61 (mk_A5 hA_l1) g13 g14 ?_
    refine en_iload mc122_62 rfl ?_
    refine en_icmp_ne 76 mc122_64 (by decide) (ho11.2.1 (l1 + 5) x9 ((mk_nA5 hA_l1) _)) (ho3.2.1 (l1 + 5) l2 ((mk_nA5 hA_l1) _)) (fun q => ?_) (fun q => ?_)
    · replace h := h.1 q
      obtain ⟨g15, h⟩ := h
      obtain ⟨g16, h⟩ := h
      refine en_aload_n mc122_76 rfl ?_
      refine en_aload_n mc122_77 rfl ?_
      refine en_iload mc122_78 rfl ?_
      refine en_iload_n mc122_80 rfl ?_
      refine en_iload mc122_81 rfl ?_
      refine en_aload_n mc122_83 rfl ?_
      refine en_getR (b := (l1 + 2)) mv122 mc122_84 (lk_f3_76) (mk_A0 hA_l1) rfl (mk_fA2 hA_l1 ho11) ?_
      refine en_iload_n mc122_87 rfl ?_
      refine en_iald mc122_88 (mk_A2 hA_l1) g15 g16 ?_
      refine en_callI (lz := [mm_r 17, mm_r l1, mm_i x9, mm_i x1, mm_i (M2.1 (l1 + 5) l2), mm_i (M10.1 (l1 + 2) x1), mm_u]) mv122 mc122_89 rfl rfl (lk_m3_83) mv121 rfl (by decide) rfl (mk_cokV rfl (⟨rfl, by decide⟩ : mt_kd[17]? = some (.inl 3) ∧ 17 < 99)) rfl (mk_nh rfl _) ho11 ?_
      refine en_CI_mono h (fun x17 M18 h => ?_) (fun _ _ h => h)
      intro ho19
      replace h := h ho19
      exact en_iret mv122 mc122_92 rfl h
    · replace h := h.2 q
      refine en_iconst mc122_67 ?_
      refine en_iload mc122_68 rfl ?_
      refine en_imul mc122_70 ?_
      refine en_iconst mc122_71 ?_
      refine en_iadd mc122_72 ?_
      refine en_goto 92 mc122_73 (by decide) ?_
      exact en_iret mv122 mc122_92 rfl h
  · replace h := h.2 q
    refine en_aload_n mc122_35 rfl ?_
    refine en_aload_n mc122_36 rfl ?_
    refine en_iload_n mc122_37 rfl ?_
    refine en_aload_n mc122_38 rfl ?_
    refine en_iload_n mc122_39 rfl ?_
    refine en_callI (lz := [mm_r l1, mm_i x1]) mv122 mc122_40 rfl rfl (lk_m3_69) mv119 rfl (by decide) rfl (mk_cokV rfl (mk_A0 hA_l1)) rfl (mk_nh rfl _) ho11 ?_
    refine en_CI_mono h (fun x20 M21 h => ?_) (fun _ _ h => h)
    intro ho22
    replace h := h ho22
    obtain ⟨g23, h⟩ := h
    obtain ⟨g24, h⟩ := h
    refine en_iload mc122_43 rfl ?_
    refine en_aload_n mc122_45 rfl ?_
    refine en_getR (b := (l1 + 2)) mv122 mc122_46 (lk_f3_76) (mk_A0 hA_l1) rfl (mk_fA2 hA_l1 ho22) ?_
    refine en_iload_n mc122_49 rfl ?_
    refine en_iald mc122_50 (mk_A2 hA_l1) g23 g24 ?_
    refine en_callI (lz := [mm_r 17, mm_r l1, mm_i l2, mm_i x20, mm_i (M2.1 (l1 + 5) l2), mm_i (M21.1 (l1 + 2) x1), mm_u]) mv122 mc122_51 rfl rfl (lk_m3_79) mv120 rfl (by decide) rfl (mk_cokV rfl (⟨rfl, by decide⟩ : mt_kd[17]? = some (.inl 3) ∧ 17 < 99)) rfl (mk_nh rfl _) ho22 ?_
    refine en_CI_mono h (fun x25 M26 h => ?_) (fun _ _ h => h)
    intro ho27
    replace h := h ho27
    exact en_iret mv122 mc122_54 rfl h
/-! 123: CellAreas$Loops.afterDown(LCellAreas$Area;I)I -/
theorem mc123_0 : mr_C 123 0 = some (.aload_n 1, 1) := rfl
theorem mc123_1 : mr_C 123 1 = some (.iload_n 2, 1) := rfl
theorem mc123_2 : mr_C 123 2 = some (.invokevirtual 54, 3) := rfl
theorem mc123_5 : mr_C 123 5 = some (.istore_n 3, 1) := rfl
theorem mc123_6 : mr_C 123 6 = some (.aload_n 1, 1) := rfl
theorem mc123_7 : mr_C 123 7 = some (.getfield 86, 3) := rfl
theorem mc123_10 : mr_C 123 10 = some (.iload_n 2, 1) := rfl
theorem mc123_11 : mr_C 123 11 = some (.iaload, 1) := rfl
theorem mc123_12 : mr_C 123 12 = some (.istore 4, 2) := rfl
theorem mc123_14 : mr_C 123 14 = some (.aload_n 1, 1) := by decide +kernel
theorem mc123_15 : mr_C 123 15 = some (.aload_n 1, 1) := by decide +kernel
theorem mc123_16 : mr_C 123 16 = some (.iload_n 3, 1) := by decide +kernel
theorem mc123_17 : mr_C 123 17 = some (.invokevirtual 89, 3) := by decide +kernel
theorem mc123_20 : mr_C 123 20 = some (.iload 4, 2) := by decide +kernel
theorem mc123_22 : mr_C 123 22 = some (.invokevirtual 72, 3) := by decide +kernel
theorem mc123_25 : mr_C 123 25 = some (.istore 5, 2) := by decide +kernel
theorem mc123_27 : mr_C 123 27 = some (.iload 5, 2) := by decide +kernel
theorem mc123_29 : mr_C 123 29 = some (.iconst (-1), 1) := by decide +kernel
theorem mc123_30 : mr_C 123 30 = some (.if_icmp .ne (23), 3) := by decide +kernel
theorem mc123_33 : mr_C 123 33 = some (.aload_n 0, 1) := by decide +kernel
theorem mc123_34 : mr_C 123 34 = some (.aload_n 1, 1) := by decide +kernel
theorem mc123_35 : mr_C 123 35 = some (.iload_n 2, 1) := by decide +kernel
theorem mc123_36 : mr_C 123 36 = some (.aload_n 1, 1) := by decide +kernel
theorem mc123_37 : mr_C 123 37 = some (.iload_n 3, 1) := by decide +kernel
theorem mc123_38 : mr_C 123 38 = some (.invokevirtual 89, 3) := by decide +kernel
theorem mc123_41 : mr_C 123 41 = some (.iload 4, 2) := by decide +kernel
theorem mc123_43 : mr_C 123 43 = some (.aload_n 1, 1) := by decide +kernel
theorem mc123_44 : mr_C 123 44 = some (.getfield 51, 3) := by decide +kernel
theorem mc123_47 : mr_C 123 47 = some (.iload_n 3, 1) := by decide +kernel
theorem mc123_48 : mr_C 123 48 = some (.iaload, 1) := by decide +kernel
theorem mc123_49 : mr_C 123 49 = some (.invokevirtual 83, 3) := by decide +kernel
theorem mc123_52 : mr_C 123 52 = some (.ireturn, 1) := by decide +kernel
theorem mc123_53 : mr_C 123 53 = some (.aload_n 1, 1) := by decide +kernel
theorem mc123_54 : mr_C 123 54 = some (.getfield 86, 3) := by decide +kernel
theorem mc123_57 : mr_C 123 57 = some (.iload 5, 2) := by decide +kernel
theorem mc123_59 : mr_C 123 59 = some (.iaload, 1) := by decide +kernel
theorem mc123_60 : mr_C 123 60 = some (.iload 4, 2) := by decide +kernel
theorem mc123_62 : mr_C 123 62 = some (.if_icmp .ne (10), 3) := by decide +kernel
theorem mc123_65 : mr_C 123 65 = some (.iconst 2, 1) := by decide +kernel
theorem mc123_66 : mr_C 123 66 = some (.iload 5, 2) := by decide +kernel
theorem mc123_68 : mr_C 123 68 = some (.imul, 1) := by decide +kernel
theorem mc123_69 : mr_C 123 69 = some (.goto 19, 3) := by decide +kernel
theorem mc123_72 : mr_C 123 72 = some (.aload_n 0, 1) := by decide +kernel
theorem mc123_73 : mr_C 123 73 = some (.aload_n 1, 1) := by decide +kernel
theorem mc123_74 : mr_C 123 74 = some (.iload 5, 2) := by decide +kernel
theorem mc123_76 : mr_C 123 76 = some (.iload_n 3, 1) := by decide +kernel
theorem mc123_77 : mr_C 123 77 = some (.iload 4, 2) := by decide +kernel
theorem mc123_79 : mr_C 123 79 = some (.aload_n 1, 1) := by decide +kernel
theorem mc123_80 : mr_C 123 80 = some (.getfield 51, 3) := by decide +kernel
theorem mc123_83 : mr_C 123 83 = some (.iload_n 3, 1) := by decide +kernel
theorem mc123_84 : mr_C 123 84 = some (.iaload, 1) := by decide +kernel
theorem mc123_85 : mr_C 123 85 = some (.invokevirtual 79, 3) := by decide +kernel
theorem mc123_88 : mr_C 123 88 = some (.ireturn, 1) := by decide +kernel
theorem vc123_0 {sc : Nat × (Int → Int)} {Q : mm_R → mm_M → Prop} {M : mm_M} {l1 : Nat} {l2 : Int} (ho : mr_ok M) (hA_l1 : mr_A l1)
    (h : en_CI sc 117 [mm_r l1, mm_i l2, mm_u, mm_u, mm_u] M (fun x1 M2 => mr_ok M2 → 0 ≤ l2 ∧ (l2 < 400 ∧ (en_CI sc 96 [mm_r l1, mm_i x1] M2 (fun x6 M7 => mr_ok M7 → en_CI sc 82 [mm_r l1, mm_i x6, mm_i (M2.1 (l1 + 4) l2), mm_u] M7 (fun x9 M10 => mr_ok M10 → mr_rg x9 ∧ ((x9 ≠ (-1) → 0 ≤ x9 ∧ (x9 < 400 ∧ (((M10.1 (l1 + 4) x9) ≠ (M2.1 (l1 + 4) l2) → 0 ≤ x1 ∧ (x1 < 100 ∧ (en_CI sc 120 [mm_r 17, mm_r l1, mm_i x9, mm_i x1, mm_i (M2.1 (l1 + 4) l2), mm_i (M10.1 (l1 + 1) x1), mm_u] M10 (fun x17 M18 => mr_ok M18 → Q (.inl (some (mm_i x17))) M18) (fun e M9 => Q (.inr e) M9)))) ∧ (¬ ((M10.1 (l1 + 4) x9) ≠ (M2.1 (l1 + 4) l2)) → Q (.inl (some (mm_i (2 * x9)))) M10)))) ∧ (¬ (x9 ≠ (-1)) → en_CI sc 96 [mm_r l1, mm_i x1] M10 (fun x20 M21 => mr_ok M21 → 0 ≤ x1 ∧ (x1 < 100 ∧ (en_CI sc 121 [mm_r 17, mm_r l1, mm_i l2, mm_i x20, mm_i (M2.1 (l1 + 4) l2), mm_i (M21.1 (l1 + 1) x1), mm_u] M21 (fun x25 M26 => mr_ok M26 → Q (.inl (some (mm_i x25))) M26) (fun e M9 => Q (.inr e) M9)))) (fun e M9 => Q (.inr e) M9)))) (fun e M9 => Q (.inr e) M9)) (fun e M9 => Q (.inr e) M9)))) (fun e M9 => Q (.inr e) M9)) : en_R sc 123 0 [mm_r 17, mm_r l1, mm_i l2, mm_u, mm_u, mm_u] [] M Q := by
  refine en_aload_n mc123_0 rfl ?_
  refine en_iload_n mc123_1 rfl ?_
  refine en_callI (lz := [mm_r l1, mm_i l2, mm_u, mm_u, mm_u]) mv123 mc123_2 rfl rfl (lk_m3_54) mv117 rfl (by decide) rfl (mk_cokV rfl (mk_A0 hA_l1)) rfl (mk_nh rfl _) ho ?_
  refine en_CI_mono h (fun x1 M2 h => ?_) (fun _ _ h => h)
  intro ho3
  replace h := h ho3
  obtain ⟨g4, h⟩ := h
  obtain ⟨g5, h⟩ := h
  refine en_istore_n (ls' := [mm_r 17, mm_r l1, mm_i l2, mm_i x1, mm_u, mm_u]) mc123_5 (Nat.le_of_ble_eq_true rfl) rfl ?_
  refine en_aload_n mc123_6 rfl ?_
  refine en_getR (b := (l1 + 4)) mv123 mc123_7 (lk_f3_86) (mk_A0 hA_l1) rfl (mk_fA4 hA_l1 ho3) ?_
  refine en_iload_n mc123_10 rfl ?_
  refine en_iald mc123_11 (mk_A4 hA_l1) g4 g5 ?_
  refine en_istore (ls' := [mm_r 17, mm_r l1, mm_i l2, mm_i x1, mm_i (M2.1 (l1 + 4) l2), mm_u]) mc123_12 (Nat.le_of_ble_eq_true rfl) rfl ?_
  refine en_aload_n mc123_14 rfl ?_
  refine en_aload_n mc123_15 rfl ?_
  refine en_iload_n mc123_16 rfl ?_
  refine en_callI (lz := [mm_r l1, mm_i x1]) mv123 mc123_17 rfl rfl (lk_m3_89) mv96 rfl (by decide) rfl (mk_cokV rfl (mk_A0 hA_l1)) rfl (mk_nh rfl _) ho3 ?_
  refine en_CI_mono h (fun x6 M7 h => ?_) (fun _ _ h => h)
  intro ho8
  replace h := h ho8
  refine en_iload mc123_20 rfl ?_
  refine en_callI (lz := [mm_r l1, mm_i x6, mm_i (M2.1 (l1 + 4) l2), mm_u]) mv123 mc123_22 rfl rfl (lk_m3_72) mv82 rfl (by decide) rfl (mk_cokV rfl (mk_A0 hA_l1)) rfl (mk_nh rfl _) ho8 ?_
  refine en_CI_mono h (fun x9 M10 h => ?_) (fun _ _ h => h)
  intro ho11
  replace h := h ho11
  obtain ⟨g12, h⟩ := h
  refine en_istore (ls' := [mm_r 17, mm_r l1, mm_i l2, mm_i x1, mm_i (M2.1 (l1 + 4) l2), mm_i x9]) mc123_25 (Nat.le_of_ble_eq_true rfl) rfl ?_
  refine en_iload mc123_27 rfl ?_
  refine en_iconst mc123_29 ?_
  refine en_icmp_ne 53 mc123_30 (by decide) g12 (⟨by decide, by decide⟩ : mr_rg (-1)) (fun q => ?_) (fun q => ?_)
  · replace h := h.1 q
    obtain ⟨g13, h⟩ := h
    obtain ⟨g14, h⟩ := h
    refine en_aload_n mc123_53 rfl ?_
    refine en_getR (b := (l1 + 4)) mv123 mc123_54 (lk_f3_86) (mk_A0 hA_l1) rfl (mk_fA4 hA_l1 ho11) ?_
    refine en_iload mc123_57 rfl ?_
    refine en_iald mc123_59 (mk_A4 hA_l1) g13 g14 ?_
    refine en_iload mc123_60 rfl ?_
    refine en_icmp_ne 72 mc123_62 (by decide) (ho11.2.1 (l1 + 4) x9 ((mk_nA4 hA_l1) _)) (ho3.2.1 (l1 + 4) l2 ((mk_nA4 hA_l1) _)) (fun q => ?_) (fun q => ?_)
    · replace h := h.1 q
      obtain ⟨g15, h⟩ := h
      obtain ⟨g16, h⟩ := h
      refine en_aload_n mc123_72 rfl ?_
      refine en_aload_n mc123_73 rfl ?_
      refine en_iload mc123_74 rfl ?_
      refine en_iload_n mc123_76 rfl ?_
      refine en_iload mc123_77 rfl ?_
      refine en_aload_n mc123_79 rfl ?_
      refine en_getR (b := (l1 + 1)) mv123 mc123_80 (lk_f3_51) (mk_A0 hA_l1) rfl (mk_fA1 hA_l1 ho11) ?_
      refine en_iload_n mc123_83 rfl ?_
      refine en_iald mc123_84 (mk_A1 hA_l1) g15 g16 ?_
      refine en_callI (lz := [mm_r 17, mm_r l1, mm_i x9, mm_i x1, mm_i (M2.1 (l1 + 4) l2), mm_i (M10.1 (l1 + 1) x1), mm_u]) mv123 mc123_85 rfl rfl (lk_m3_79) mv120 rfl (by decide) rfl (mk_cokV rfl (⟨rfl, by decide⟩ : mt_kd[17]? = some (.inl 3) ∧ 17 < 99)) rfl (mk_nh rfl _) ho11 ?_
      refine en_CI_mono h (fun x17 M18 h => ?_) (fun _ _ h => h)
      intro ho19
      replace h := h ho19
      exact en_iret mv123 mc123_88 rfl h
    · replace h := h.2 q
      refine en_iconst mc123_65 ?_
      refine en_iload mc123_66 rfl ?_
      refine en_imul mc123_68 ?_
      refine en_goto 88 mc123_69 (by decide) ?_
      exact en_iret mv123 mc123_88 rfl h
  · replace h := h.2 q
    refine en_aload_n mc123_33 rfl ?_
    refine en_aload_n mc123_34 rfl ?_
    refine en_iload_n mc123_35 rfl ?_
    refine en_aload_n mc123_36 rfl ?_
    refine en_iload_n mc123_37 rfl ?_
    refine en_callI (lz := [mm_r l1, mm_i x1]) mv123 mc123_38 rfl rfl (lk_m3_89) mv96 rfl (by decide) rfl (mk_cokV rfl (mk_A0 hA_l1)) rfl (mk_nh rfl _) ho11 ?_
    refine en_CI_mono h (fun x20 M21 h => ?_) (fun _ _ h => h)
    intro ho22
    replace h := h ho22
    obtain ⟨g23, h⟩ := h
    obtain ⟨g24, h⟩ := h
    refine en_iload mc123_41 rfl ?_
    refine en_aload_n mc123_43 rfl ?_
    refine en_getR (b := (l1 + 1)) mv123 mc123_44 (lk_f3_51) (mk_A0 hA_l1) rfl (mk_fA1 hA_l1 ho22) ?_
    refine en_iload_n mc123_47 rfl ?_
    refine en_iald mc123_48 (mk_A1 hA_l1) g23 g24 ?_
    refine en_callI (lz := [mm_r 17, mm_r l1, mm_i l2, mm_i x20, mm_i (M2.1 (l1 + 4) l2), mm_i (M21.1 (l1 + 1) x1), mm_u]) mv123 mc123_49 rfl rfl (lk_m3_83) mv121 rfl (by decide) rfl (mk_cokV rfl (⟨rfl, by decide⟩ : mt_kd[17]? = some (.inl 3) ∧ 17 < 99)) rfl (mk_nh rfl _) ho22 ?_
    refine en_CI_mono h (fun x25 M26 h => ?_) (fun _ _ h => h)
    intro ho27
    replace h := h ho27
    exact en_iret mv123 mc123_52 rfl h
/-! 124: CellAreas$Loops.walk(LCellAreas$Area;II)V -/
theorem mc124_0 : mr_C 124 0 = some (.iload_n 2, 1) := rfl
theorem mc124_1 : mr_C 124 1 = some (.invokestatic 44, 3) := rfl
theorem mc124_4 : mr_C 124 4 = some (.istore 4, 2) := rfl
theorem mc124_6 : mr_C 124 6 = some (.iload 4, 2) := rfl
theorem mc124_8 : mr_C 124 8 = some (.ifCond .eq (27), 3) := rfl
theorem mc124_11 : mr_C 124 11 = some (.aload_n 0, 1) := rfl
theorem mc124_12 : mr_C 124 12 = some (.aload_n 1, 1) := rfl
theorem mc124_13 : mr_C 124 13 = some (.getfield 48, 3) := rfl
theorem mc124_16 : mr_C 124 16 = some (.iload_n 2, 1) := by decide +kernel
theorem mc124_17 : mr_C 124 17 = some (.iconst 2, 1) := by decide +kernel
theorem mc124_18 : mr_C 124 18 = some (.idiv, 1) := by decide +kernel
theorem mc124_19 : mr_C 124 19 = some (.iaload, 1) := by decide +kernel
theorem mc124_20 : mr_C 124 20 = some (.aload_n 1, 1) := by decide +kernel
theorem mc124_21 : mr_C 124 21 = some (.getfield 51, 3) := by decide +kernel
theorem mc124_24 : mr_C 124 24 = some (.aload_n 1, 1) := by decide +kernel
theorem mc124_25 : mr_C 124 25 = some (.iload_n 2, 1) := by decide +kernel
theorem mc124_26 : mr_C 124 26 = some (.iconst 2, 1) := by decide +kernel
theorem mc124_27 : mr_C 124 27 = some (.idiv, 1) := by decide +kernel
theorem mc124_28 : mr_C 124 28 = some (.invokevirtual 54, 3) := by decide +kernel
theorem mc124_31 : mr_C 124 31 = some (.iaload, 1) := by decide +kernel
theorem mc124_32 : mr_C 124 32 = some (.invokevirtual 58, 3) := by decide +kernel
theorem mc124_35 : mr_C 124 35 = some (.iload_n 2, 1) := by decide +kernel
theorem mc124_36 : mr_C 124 36 = some (.istore 5, 2) := by decide +kernel
theorem mc124_38 : mr_C 124 38 = some (.iconst 0, 1) := by decide +kernel
theorem mc124_39 : mr_C 124 39 = some (.istore 6, 2) := by decide +kernel
theorem mc124_41 : mr_C 124 41 = some (.iload 6, 2) := by decide +kernel
theorem mc124_43 : mr_C 124 43 = some (.iload_n 3, 1) := by decide +kernel
theorem mc124_44 : mr_C 124 44 = some (.if_icmp .ge (62), 3) := by decide +kernel
theorem mc124_47 : mr_C 124 47 = some (.aload_n 0, 1) := by decide +kernel
theorem mc124_48 : mr_C 124 48 = some (.getfield 18, 3) := by decide +kernel
theorem mc124_51 : mr_C 124 51 = some (.iload 5, 2) := by decide +kernel
theorem mc124_53 : mr_C 124 53 = some (.iaload, 1) := by decide +kernel
theorem mc124_54 : mr_C 124 54 = some (.iconst (-1), 1) := by decide +kernel
theorem mc124_55 : mr_C 124 55 = some (.if_icmp .ne (51), 3) := by decide +kernel
theorem mc124_58 : mr_C 124 58 = some (.aload_n 0, 1) := by decide +kernel
theorem mc124_59 : mr_C 124 59 = some (.getfield 18, 3) := by decide +kernel
theorem mc124_62 : mr_C 124 62 = some (.iload 5, 2) := by decide +kernel
theorem mc124_64 : mr_C 124 64 = some (.aload_n 0, 1) := by decide +kernel
theorem mc124_65 : mr_C 124 65 = some (.getfield 9, 3) := by decide +kernel
theorem mc124_68 : mr_C 124 68 = some (.iastore, 1) := by decide +kernel
theorem mc124_69 : mr_C 124 69 = some (.iload 5, 2) := by decide +kernel
theorem mc124_71 : mr_C 124 71 = some (.invokestatic 44, 3) := by decide +kernel
theorem mc124_74 : mr_C 124 74 = some (.ifCond .eq (15), 3) := by decide +kernel
theorem mc124_77 : mr_C 124 77 = some (.aload_n 0, 1) := by decide +kernel
theorem mc124_78 : mr_C 124 78 = some (.aload_n 1, 1) := by decide +kernel
theorem mc124_79 : mr_C 124 79 = some (.iload 5, 2) := by decide +kernel
theorem mc124_81 : mr_C 124 81 = some (.iconst 2, 1) := by decide +kernel
theorem mc124_82 : mr_C 124 82 = some (.idiv, 1) := by decide +kernel
theorem mc124_83 : mr_C 124 83 = some (.invokevirtual 62, 3) := by decide +kernel
theorem mc124_86 : mr_C 124 86 = some (.goto 12, 3) := by decide +kernel
theorem mc124_89 : mr_C 124 89 = some (.aload_n 0, 1) := by decide +kernel
theorem mc124_90 : mr_C 124 90 = some (.aload_n 1, 1) := by decide +kernel
theorem mc124_91 : mr_C 124 91 = some (.iload 5, 2) := by decide +kernel
theorem mc124_93 : mr_C 124 93 = some (.iconst 2, 1) := by decide +kernel
theorem mc124_94 : mr_C 124 94 = some (.idiv, 1) := by decide +kernel
theorem mc124_95 : mr_C 124 95 = some (.invokevirtual 66, 3) := by decide +kernel
theorem mc124_98 : mr_C 124 98 = some (.istore 5, 2) := by decide +kernel
theorem mc124_100 : mr_C 124 100 = some (.iinc 6 (1), 3) := by decide +kernel
theorem mc124_103 : mr_C 124 103 = some (.goto (-62), 3) := by decide +kernel
theorem mc124_106 : mr_C 124 106 = some (.iload 4, 2) := by decide +kernel
theorem mc124_108 : mr_C 124 108 = some (.ifCond .eq (13), 3) := by decide +kernel
theorem mc124_111 : mr_C 124 111 = some (.aload_n 0, 1) := by decide +kernel
theorem mc124_112 : mr_C 124 112 = some (.dup, 1) := by decide +kernel
theorem mc124_113 : mr_C 124 113 = some (.getfield 15, 3) := by decide +kernel
theorem mc124_116 : mr_C 124 116 = some (.iconst 1, 1) := by decide +kernel
theorem mc124_117 : mr_C 124 117 = some (.isub, 1) := by decide +kernel
theorem mc124_118 : mr_C 124 118 = some (.putfield 15, 3) := by decide +kernel
theorem mc124_121 : mr_C 124 121 = some (.aload_n 0, 1) := by decide +kernel
theorem mc124_122 : mr_C 124 122 = some (.dup, 1) := by decide +kernel
theorem mc124_123 : mr_C 124 123 = some (.getfield 9, 3) := by decide +kernel
theorem mc124_126 : mr_C 124 126 = some (.iconst 1, 1) := by decide +kernel
theorem mc124_127 : mr_C 124 127 = some (.iadd, 1) := by decide +kernel
theorem mc124_128 : mr_C 124 128 = some (.putfield 9, 3) := by decide +kernel
theorem mc124_131 : mr_C 124 131 = some (.aload_n 0, 1) := by decide +kernel
theorem mc124_132 : mr_C 124 132 = some (.getfield 22, 3) := by decide +kernel
theorem mc124_135 : mr_C 124 135 = some (.aload_n 0, 1) := by decide +kernel
theorem mc124_136 : mr_C 124 136 = some (.getfield 9, 3) := by decide +kernel
theorem mc124_139 : mr_C 124 139 = some (.aload_n 0, 1) := by decide +kernel
theorem mc124_140 : mr_C 124 140 = some (.getfield 15, 3) := by decide +kernel
theorem mc124_143 : mr_C 124 143 = some (.iastore, 1) := by decide +kernel
theorem mc124_144 : mr_C 124 144 = some (.return_, 1) := by decide +kernel
theorem vc124_0 {sc : Nat × (Int → Int)} {Q : mm_R → mm_M → Prop} {M : mm_M} {l1 : Nat} {l2 : Int} {l3 : Int} (ho : mr_ok M) (hA_l1 : mr_A l1) (hg_l2 : mr_rg l2)
    (h : en_CI sc 116 [mm_i l2] M (fun x1 M2 => mr_ok M2 → mr_rg x1 ∧ ((x1 = 0 → en_R sc 124 41 [mm_r 17, mm_r l1, mm_i l2, mm_i l3, mm_i x1, mm_i l2, mm_i 0] [] M2 Q) ∧ (¬ x1 = 0 → 0 ≤ l2 ∧ (0 ≤ (l2 / 2) ∧ ((l2 / 2) < 400 ∧ (0 ≤ l2 ∧ (en_CI sc 117 [mm_r l1, mm_i (l2 / 2), mm_u, mm_u, mm_u] M2 (fun x9 M10 => mr_ok M10 → 0 ≤ x9 ∧ (x9 < 100 ∧ (en_CV sc 118 [mm_r 17, mm_i (M2.1 (l1 + 5) (l2 / 2)), mm_i (M10.1 (l1 + 1) x9)] M10 (fun M15 => mr_ok M15 → en_R sc 124 41 [mm_r 17, mm_r l1, mm_i l2, mm_i l3, mm_i x1, mm_i l2, mm_i 0] [] M15 Q) (fun e M9 => Q (.inr e) M9)))) (fun e M9 => Q (.inr e) M9)))))))) (fun e M9 => Q (.inr e) M9)) : en_R sc 124 0 [mm_r 17, mm_r l1, mm_i l2, mm_i l3, mm_u, mm_u, mm_u] [] M Q := by
  refine en_iload_n mc124_0 rfl ?_
  refine en_callI (lz := [mm_i l2]) mv124 mc124_1 rfl rfl (lk_m3_44) mv116 rfl (by decide) rfl (mk_cokS rfl) rfl (mk_nh rfl _) ho ?_
  refine en_CI_mono h (fun x1 M2 h => ?_) (fun _ _ h => h)
  intro ho3
  replace h := h ho3
  obtain ⟨g4, h⟩ := h
  refine en_istore (ls' := [mm_r 17, mm_r l1, mm_i l2, mm_i l3, mm_i x1, mm_u, mm_u]) mc124_4 (Nat.le_of_ble_eq_true rfl) rfl ?_
  refine en_iload mc124_6 rfl ?_
  refine en_if_eq 35 mc124_8 (by decide) g4 (fun q => ?_) (fun q => ?_)
  · replace h := h.1 q
    refine en_iload_n mc124_35 rfl ?_
    refine en_istore (ls' := [mm_r 17, mm_r l1, mm_i l2, mm_i l3, mm_i x1, mm_i l2, mm_u]) mc124_36 (Nat.le_of_ble_eq_true rfl) rfl ?_
    refine en_iconst mc124_38 ?_
    refine en_istore (ls' := [mm_r 17, mm_r l1, mm_i l2, mm_i l3, mm_i x1, mm_i l2, mm_i 0]) mc124_39 (Nat.le_of_ble_eq_true rfl) rfl ?_
    exact h
  · replace h := h.2 q
    obtain ⟨g5, h⟩ := h
    obtain ⟨g6, h⟩ := h
    obtain ⟨g7, h⟩ := h
    obtain ⟨g8, h⟩ := h
    refine en_aload_n mc124_11 rfl ?_
    refine en_aload_n mc124_12 rfl ?_
    refine en_getR (b := (l1 + 5)) mv124 mc124_13 (lk_f3_48) (mk_A0 hA_l1) rfl (mk_fA5 hA_l1 ho3) ?_
    refine en_iload_n mc124_16 rfl ?_
    refine en_iconst mc124_17 ?_
    refine en_idiv mc124_18 hg_l2 (⟨by decide, by decide⟩ : mr_rg 2) g5 (by decide) ?_
    refine en_iald mc124_19 (mk_A5 hA_l1) g6 g7 ?_
    refine en_aload_n mc124_20 rfl ?_
    refine en_getR (b := (l1 + 1)) mv124 mc124_21 (lk_f3_51) (mk_A0 hA_l1) rfl (mk_fA1 hA_l1 ho3) ?_
    refine en_aload_n mc124_24 rfl ?_
    refine en_iload_n mc124_25 rfl ?_
    refine en_iconst mc124_26 ?_
    refine en_idiv mc124_27 hg_l2 (⟨by decide, by decide⟩ : mr_rg 2) g8 (by decide) ?_
    refine en_callI (lz := [mm_r l1, mm_i (l2 / 2), mm_u, mm_u, mm_u]) mv124 mc124_28 rfl rfl (lk_m3_54) mv117 rfl (by decide) rfl (mk_cokV rfl (mk_A0 hA_l1)) rfl (mk_nh rfl _) ho3 ?_
    refine en_CI_mono h (fun x9 M10 h => ?_) (fun _ _ h => h)
    intro ho11
    replace h := h ho11
    obtain ⟨g12, h⟩ := h
    obtain ⟨g13, h⟩ := h
    refine en_iald mc124_31 (mk_A1 hA_l1) g12 g13 ?_
    refine en_callV (lz := [mm_r 17, mm_i (M2.1 (l1 + 5) (l2 / 2)), mm_i (M10.1 (l1 + 1) x9)]) mv124 mc124_32 rfl rfl (lk_m3_58) mv118 rfl (by decide) rfl (mk_cokV rfl (⟨rfl, by decide⟩ : mt_kd[17]? = some (.inl 3) ∧ 17 < 99)) rfl (mk_nh rfl _) ho11 ?_
    refine en_CV_mono h (fun M15 h => ?_) (fun _ _ h => h)
    intro ho16
    replace h := h ho16
    refine en_iload_n mc124_35 rfl ?_
    refine en_istore (ls' := [mm_r 17, mm_r l1, mm_i l2, mm_i l3, mm_i x1, mm_i l2, mm_u]) mc124_36 (Nat.le_of_ble_eq_true rfl) rfl ?_
    refine en_iconst mc124_38 ?_
    refine en_istore (ls' := [mm_r 17, mm_r l1, mm_i l2, mm_i l3, mm_i x1, mm_i l2, mm_i 0]) mc124_39 (Nat.le_of_ble_eq_true rfl) rfl ?_
    exact h
theorem vc124_41 {sc : Nat × (Int → Int)} {Q : mm_R → mm_M → Prop} {M : mm_M} {l1 : Nat} {l2 : Int} {l3 : Int} {l4 : Int} {l5 : Int} {l6 : Int} (ho : mr_ok M) (hg_l6 : mr_rg l6) (hg_l3 : mr_rg l3) (hg_l5 : mr_rg l5)
    (h : (l3 ≤ l6 → en_R sc 124 106 [mm_r 17, mm_r l1, mm_i l2, mm_i l3, mm_i l4, mm_i l5, mm_i l6] [] M Q) ∧ (¬ l3 ≤ l6 → 0 ≤ l5 ∧ (l5 < 800 ∧ (((M.1 18 l5) ≠ (-1) → en_R sc 124 106 [mm_r 17, mm_r l1, mm_i l2, mm_i l3, mm_i l4, mm_i l5, mm_i l6] [] M Q) ∧ (¬ ((M.1 18 l5) ≠ (-1)) → 0 ≤ l5 ∧ (l5 < 800 ∧ (en_CI sc 116 [mm_i l5] (mm_putN M 18 l5 (M.1 17 0)) (fun x5 M6 => mr_ok M6 → mr_rg x5 ∧ ((x5 = 0 → 0 ≤ l5 ∧ (en_CI sc 123 [mm_r 17, mm_r l1, mm_i (l5 / 2), mm_u, mm_u, mm_u] M6 (fun x10 M11 => mr_ok M11 → en_R sc 124 41 [mm_r 17, mm_r l1, mm_i l2, mm_i l3, mm_i l4, mm_i x10, mm_i (l6 + 1)] [] M11 Q) (fun e M9 => Q (.inr e) M9))) ∧ (¬ x5 = 0 → 0 ≤ l5 ∧ (en_CI sc 122 [mm_r 17, mm_r l1, mm_i (l5 / 2), mm_u, mm_u, mm_u] M6 (fun x14 M15 => mr_ok M15 → en_R sc 124 41 [mm_r 17, mm_r l1, mm_i l2, mm_i l3, mm_i l4, mm_i x14, mm_i (l6 + 1)] [] M15 Q) (fun e M9 => Q (.inr e) M9))))) (fun e M9 => Q (.inr e) M9)))))))) : en_R sc 124 41 [mm_r 17, mm_r l1, mm_i l2, mm_i l3, mm_i l4, mm_i l5, mm_i l6] [] M Q := by
  refine en_iload mc124_41 rfl ?_
  refine en_iload_n mc124_43 rfl ?_
  refine en_icmp_ge 106 mc124_44 (by decide) hg_l6 hg_l3 (fun q => ?_) (fun q => ?_)
  · replace h := h.1 q
    exact h
  · replace h := h.2 q
    obtain ⟨g1, h⟩ := h
    obtain ⟨g2, h⟩ := h
    refine en_aload_n mc124_47 rfl ?_
    refine en_getR (b := 18) mv124 mc124_48 (lk_f3_18) (⟨rfl, by decide⟩ : mt_kd[17]? = some (.inl 3) ∧ 17 < 99) rfl (mk_fc ho (by decide +kernel)) ?_
    refine en_iload mc124_51 rfl ?_
    refine en_iald mc124_53 (⟨rfl, by decide, by decide⟩ : mt_kd[18]? = some (.inr (.int, 800)) ∧ 18 < 99 ∧ 800 < 2147483648) g1 g2 ?_
    refine en_iconst mc124_54 ?_
    refine en_icmp_ne 106 mc124_55 (by decide) (ho.2.1 18 l5 (by unfold mr_lg; omega)) (⟨by decide, by decide⟩ : mr_rg (-1)) (fun q => ?_) (fun q => ?_)
    · replace h := h.1 q
      exact h
    · replace h := h.2 q
      obtain ⟨g3, h⟩ := h
      obtain ⟨g4, h⟩ := h
      refine en_aload_n mc124_58 rfl ?_
      refine en_getR (b := 18) mv124 mc124_59 (lk_f3_18) (⟨rfl, by decide⟩ : mt_kd[17]? = some (.inl 3) ∧ 17 < 99) rfl (mk_fc ho (by decide +kernel)) ?_
      refine en_iload mc124_62 rfl ?_
      refine en_aload_n mc124_64 rfl ?_
      refine en_getI mv124 mc124_65 (lk_f3_9) (⟨rfl, by decide⟩ : mt_kd[17]? = some (.inl 3) ∧ 17 < 99) (Or.inl rfl) ?_
      refine en_iast mc124_68 (⟨rfl, by decide, by decide⟩ : mt_kd[18]? = some (.inr (.int, 800)) ∧ 18 < 99 ∧ 800 < 2147483648) g3 g4 (ho.2.1 17 0 (by unfold mr_lg; omega)) ?_
      refine en_iload mc124_69 rfl ?_
      refine en_callI (lz := [mm_i l5]) mv124 mc124_71 rfl rfl (lk_m3_44) mv116 rfl (by decide) rfl (mk_cokS rfl) rfl (mk_nh rfl _) (mr_ok_putI (a := 18) (k := l5) ho (ho.2.1 17 0 (by unfold mr_lg; omega))) ?_
      refine en_CI_mono h (fun x5 M6 h => ?_) (fun _ _ h => h)
      intro ho7
      replace h := h ho7
      obtain ⟨g8, h⟩ := h
      refine en_if_eq 89 mc124_74 (by decide) g8 (fun q => ?_) (fun q => ?_)
      · replace h := h.1 q
        obtain ⟨g9, h⟩ := h
        refine en_aload_n mc124_89 rfl ?_
        refine en_aload_n mc124_90 rfl ?_
        refine en_iload mc124_91 rfl ?_
        refine en_iconst mc124_93 ?_
        refine en_idiv mc124_94 hg_l5 (⟨by decide, by decide⟩ : mr_rg 2) g9 (by decide) ?_
        refine en_callI (lz := [mm_r 17, mm_r l1, mm_i (l5 / 2), mm_u, mm_u, mm_u]) mv124 mc124_95 rfl rfl (lk_m3_66) mv123 rfl (by decide) rfl (mk_cokV rfl (⟨rfl, by decide⟩ : mt_kd[17]? = some (.inl 3) ∧ 17 < 99)) rfl (mk_nh rfl _) ho7 ?_
        refine en_CI_mono h (fun x10 M11 h => ?_) (fun _ _ h => h)
        intro ho12
        replace h := h ho12
        refine en_istore (ls' := [mm_r 17, mm_r l1, mm_i l2, mm_i l3, mm_i l4, mm_i x10, mm_i l6]) mc124_98 (Nat.le_of_ble_eq_true rfl) rfl ?_
        refine en_iinc (ls' := [mm_r 17, mm_r l1, mm_i l2, mm_i l3, mm_i l4, mm_i x10, mm_i (l6 + 1)]) mc124_100 rfl rfl ?_
        refine en_goto 41 mc124_103 (by decide) ?_
        exact h
      · replace h := h.2 q
        obtain ⟨g13, h⟩ := h
        refine en_aload_n mc124_77 rfl ?_
        refine en_aload_n mc124_78 rfl ?_
        refine en_iload mc124_79 rfl ?_
        refine en_iconst mc124_81 ?_
        refine en_idiv mc124_82 hg_l5 (⟨by decide, by decide⟩ : mr_rg 2) g13 (by decide) ?_
        refine en_callI (lz := [mm_r 17, mm_r l1, mm_i (l5 / 2), mm_u, mm_u, mm_u]) mv124 mc124_83 rfl rfl (lk_m3_62) mv122 rfl (by decide) rfl (mk_cokV rfl (⟨rfl, by decide⟩ : mt_kd[17]? = some (.inl 3) ∧ 17 < 99)) rfl (mk_nh rfl _) ho7 ?_
        refine en_CI_mono h (fun x14 M15 h => ?_) (fun _ _ h => h)
        intro ho16
        replace h := h ho16
        refine en_goto 98 mc124_86 (by decide) ?_
        refine en_istore (ls' := [mm_r 17, mm_r l1, mm_i l2, mm_i l3, mm_i l4, mm_i x14, mm_i l6]) mc124_98 (Nat.le_of_ble_eq_true rfl) rfl ?_
        refine en_iinc (ls' := [mm_r 17, mm_r l1, mm_i l2, mm_i l3, mm_i l4, mm_i x14, mm_i (l6 + 1)]) mc124_100 rfl rfl ?_
        refine en_goto 41 mc124_103 (by decide) ?_
        exact h
theorem vc124_106 {sc : Nat × (Int → Int)} {Q : mm_R → mm_M → Prop} {M : mm_M} {l1 : Nat} {l2 : Int} {l3 : Int} {l4 : Int} {l5 : Int} {l6 : Int} (ho : mr_ok M) (hg_l4 : mr_rg l4)
    (h : (l4 = 0 → en_R sc 124 121 [mm_r 17, mm_r l1, mm_i l2, mm_i l3, mm_i l4, mm_i l5, mm_i l6] [] M Q) ∧ (¬ l4 = 0 → mr_rg ((M.1 17 1) - 1) ∧ (en_R sc 124 121 [mm_r 17, mm_r l1, mm_i l2, mm_i l3, mm_i l4, mm_i l5, mm_i l6] [] (mm_putN M 17 1 ((M.1 17 1) - 1)) Q))) : en_R sc 124 106 [mm_r 17, mm_r l1, mm_i l2, mm_i l3, mm_i l4, mm_i l5, mm_i l6] [] M Q := by
  refine en_iload mc124_106 rfl ?_
  refine en_if_eq 121 mc124_108 (by decide) hg_l4 (fun q => ?_) (fun q => ?_)
  · replace h := h.1 q
    exact h
  · replace h := h.2 q
    obtain ⟨g1, h⟩ := h
    refine en_aload_n mc124_111 rfl ?_
    refine en_dup mc124_112 rfl ?_
    refine en_getI mv124 mc124_113 (lk_f3_15) (⟨rfl, by decide⟩ : mt_kd[17]? = some (.inl 3) ∧ 17 < 99) (Or.inl rfl) ?_
    refine en_iconst mc124_116 ?_
    refine en_isub mc124_117 ?_
    refine en_putI mv124 mc124_118 (lk_f3_15) (⟨rfl, by decide⟩ : mt_kd[17]? = some (.inl 3) ∧ 17 < 99) rfl rfl g1 ?_
    exact h
theorem vc124_121 {sc : Nat × (Int → Int)} {Q : mm_R → mm_M → Prop} {M : mm_M} {l1 : Nat} {l2 : Int} {l3 : Int} {l4 : Int} {l5 : Int} {l6 : Int} (ho : mr_ok M)
    (h : mr_rg ((M.1 17 0) + 1) ∧ (0 ≤ ((mm_putN M 17 0 ((M.1 17 0) + 1)).1 17 0) ∧ (((mm_putN M 17 0 ((M.1 17 0) + 1)).1 17 0) < 401 ∧ (Q (.inl none) (mm_putN (mm_putN M 17 0 ((M.1 17 0) + 1)) 19 ((mm_putN M 17 0 ((M.1 17 0) + 1)).1 17 0) ((mm_putN M 17 0 ((M.1 17 0) + 1)).1 17 1)))))) : en_R sc 124 121 [mm_r 17, mm_r l1, mm_i l2, mm_i l3, mm_i l4, mm_i l5, mm_i l6] [] M Q := by
  obtain ⟨g1, h⟩ := h
  obtain ⟨g2, h⟩ := h
  obtain ⟨g3, h⟩ := h
  refine en_aload_n mc124_121 rfl ?_
  refine en_dup mc124_122 rfl ?_
  refine en_getI mv124 mc124_123 (lk_f3_9) (⟨rfl, by decide⟩ : mt_kd[17]? = some (.inl 3) ∧ 17 < 99) (Or.inl rfl) ?_
  refine en_iconst mc124_126 ?_
  refine en_iadd mc124_127 ?_
  refine en_putI mv124 mc124_128 (lk_f3_9) (⟨rfl, by decide⟩ : mt_kd[17]? = some (.inl 3) ∧ 17 < 99) rfl rfl g1 ?_
  refine en_aload_n mc124_131 rfl ?_
  refine en_getR (b := 19) mv124 mc124_132 (lk_f3_22) (⟨rfl, by decide⟩ : mt_kd[17]? = some (.inl 3) ∧ 17 < 99) rfl (mk_fc (mr_ok_putI (a := 17) (k := 0) ho g1) (by decide +kernel)) ?_
  refine en_aload_n mc124_135 rfl ?_
  refine en_getI mv124 mc124_136 (lk_f3_9) (⟨rfl, by decide⟩ : mt_kd[17]? = some (.inl 3) ∧ 17 < 99) (Or.inl rfl) ?_
  refine en_aload_n mc124_139 rfl ?_
  refine en_getI mv124 mc124_140 (lk_f3_15) (⟨rfl, by decide⟩ : mt_kd[17]? = some (.inl 3) ∧ 17 < 99) (Or.inl rfl) ?_
  refine en_iast mc124_143 (⟨rfl, by decide, by decide⟩ : mt_kd[19]? = some (.inr (.int, 401)) ∧ 19 < 99 ∧ 401 < 2147483648) g2 g3 ((mr_ok_putI (a := 17) (k := 0) ho g1).2.1 17 1 (by unfold mr_lg; omega)) ?_
  exact en_vret mv124 mc124_144 rfl h
/-! 125: CellAreas$Loops.trace(LCellAreas$Area;)V -/
theorem mc125_0 : mr_C 125 0 = some (.aload_n 0, 1) := rfl
theorem mc125_1 : mr_C 125 1 = some (.iconst 0, 1) := rfl
theorem mc125_2 : mr_C 125 2 = some (.putfield 9, 3) := rfl
theorem mc125_5 : mr_C 125 5 = some (.aload_n 0, 1) := rfl
theorem mc125_6 : mr_C 125 6 = some (.iconst 0, 1) := rfl
theorem mc125_7 : mr_C 125 7 = some (.putfield 15, 3) := rfl
theorem mc125_10 : mr_C 125 10 = some (.iconst 2, 1) := rfl
theorem mc125_11 : mr_C 125 11 = some (.aload_n 1, 1) := rfl
theorem mc125_12 : mr_C 125 12 = some (.invokevirtual 28, 3) := by decide +kernel
theorem mc125_15 : mr_C 125 15 = some (.imul, 1) := by decide +kernel
theorem mc125_16 : mr_C 125 16 = some (.istore_n 2, 1) := by decide +kernel
theorem mc125_17 : mr_C 125 17 = some (.aload_n 0, 1) := by decide +kernel
theorem mc125_18 : mr_C 125 18 = some (.getfield 18, 3) := by decide +kernel
theorem mc125_21 : mr_C 125 21 = some (.iconst (-1), 1) := by decide +kernel
theorem mc125_22 : mr_C 125 22 = some (.invokestatic 34, 3) := by decide +kernel
theorem mc125_25 : mr_C 125 25 = some (.iconst 0, 1) := by decide +kernel
theorem mc125_26 : mr_C 125 26 = some (.istore_n 3, 1) := by decide +kernel
theorem mc125_27 : mr_C 125 27 = some (.iload_n 3, 1) := by decide +kernel
theorem mc125_28 : mr_C 125 28 = some (.iload_n 2, 1) := by decide +kernel
theorem mc125_29 : mr_C 125 29 = some (.if_icmp .ge (26), 3) := by decide +kernel
theorem mc125_32 : mr_C 125 32 = some (.aload_n 0, 1) := by decide +kernel
theorem mc125_33 : mr_C 125 33 = some (.getfield 18, 3) := by decide +kernel
theorem mc125_36 : mr_C 125 36 = some (.iload_n 3, 1) := by decide +kernel
theorem mc125_37 : mr_C 125 37 = some (.iaload, 1) := by decide +kernel
theorem mc125_38 : mr_C 125 38 = some (.iconst (-1), 1) := by decide +kernel
theorem mc125_39 : mr_C 125 39 = some (.if_icmp .ne (10), 3) := by decide +kernel
theorem mc125_42 : mr_C 125 42 = some (.aload_n 0, 1) := by decide +kernel
theorem mc125_43 : mr_C 125 43 = some (.aload_n 1, 1) := by decide +kernel
theorem mc125_44 : mr_C 125 44 = some (.iload_n 3, 1) := by decide +kernel
theorem mc125_45 : mr_C 125 45 = some (.iload_n 2, 1) := by decide +kernel
theorem mc125_46 : mr_C 125 46 = some (.invokevirtual 40, 3) := by decide +kernel
theorem mc125_49 : mr_C 125 49 = some (.iinc 3 (1), 3) := by decide +kernel
theorem mc125_52 : mr_C 125 52 = some (.goto (-25), 3) := by decide +kernel
theorem mc125_55 : mr_C 125 55 = some (.return_, 1) := by decide +kernel
theorem vc125_0 {sc : Nat × (Int → Int)} {Q : mm_R → mm_M → Prop} {M : mm_M} {l1 : Nat} (ho : mr_ok M) (hA_l1 : mr_A l1)
    (h : en_CI sc 79 [mm_r l1] (mm_putN (mm_putN M 17 0 0) 17 1 0) (fun x1 M2 => mr_ok M2 → en_CV sc 115 [mm_r 18, mm_i (-1), mm_u, mm_u] M2 (fun M5 => mr_ok M5 → en_R sc 125 27 [mm_r 17, mm_r l1, mm_i (2 * x1), mm_i 0] [] M5 Q) (fun e M9 => Q (.inr e) M9)) (fun e M9 => Q (.inr e) M9)) : en_R sc 125 0 [mm_r 17, mm_r l1, mm_u, mm_u] [] M Q := by
  refine en_aload_n mc125_0 rfl ?_
  refine en_iconst mc125_1 ?_
  refine en_putI mv125 mc125_2 (lk_f3_9) (⟨rfl, by decide⟩ : mt_kd[17]? = some (.inl 3) ∧ 17 < 99) rfl rfl (⟨by decide, by decide⟩ : mr_rg 0) ?_
  refine en_aload_n mc125_5 rfl ?_
  refine en_iconst mc125_6 ?_
  refine en_putI mv125 mc125_7 (lk_f3_15) (⟨rfl, by decide⟩ : mt_kd[17]? = some (.inl 3) ∧ 17 < 99) rfl rfl (⟨by decide, by decide⟩ : mr_rg 0) ?_
  refine en_iconst mc125_10 ?_
  refine en_aload_n mc125_11 rfl ?_
  refine en_callI (lz := [mm_r l1]) mv125 mc125_12 rfl rfl (lk_m3_28) mv79 rfl (by decide) rfl (mk_cokV rfl (mk_A0 hA_l1)) rfl (mk_nh rfl _) (mr_ok_putI (a := 17) (k := 1) (mr_ok_putI (a := 17) (k := 0) ho (⟨by decide, by decide⟩ : mr_rg 0)) (⟨by decide, by decide⟩ : mr_rg 0)) ?_
  refine en_CI_mono h (fun x1 M2 h => ?_) (fun _ _ h => h)
  intro ho3
  replace h := h ho3
  refine en_imul mc125_15 ?_
  refine en_istore_n (ls' := [mm_r 17, mm_r l1, mm_i (2 * x1), mm_u]) mc125_16 (Nat.le_of_ble_eq_true rfl) rfl ?_
  refine en_aload_n mc125_17 rfl ?_
  refine en_getR (b := 18) mv125 mc125_18 (lk_f3_18) (⟨rfl, by decide⟩ : mt_kd[17]? = some (.inl 3) ∧ 17 < 99) rfl (mk_fc ho3 (by decide +kernel)) ?_
  refine en_iconst mc125_21 ?_
  refine en_callV (lz := [mm_r 18, mm_i (-1), mm_u, mm_u]) mv125 mc125_22 rfl rfl (lk_m3_34) mv115 rfl (by decide) rfl (mk_cokS rfl) rfl (mk_nh rfl _) ho3 ?_
  refine en_CV_mono h (fun M5 h => ?_) (fun _ _ h => h)
  intro ho6
  replace h := h ho6
  refine en_iconst mc125_25 ?_
  refine en_istore_n (ls' := [mm_r 17, mm_r l1, mm_i (2 * x1), mm_i 0]) mc125_26 (Nat.le_of_ble_eq_true rfl) rfl ?_
  exact h
theorem vc125_27 {sc : Nat × (Int → Int)} {Q : mm_R → mm_M → Prop} {M : mm_M} {l1 : Nat} {l2 : Int} {l3 : Int} (ho : mr_ok M) (hg_l3 : mr_rg l3) (hg_l2 : mr_rg l2)
    (h : (l2 ≤ l3 → Q (.inl none) M) ∧ (¬ l2 ≤ l3 → 0 ≤ l3 ∧ (l3 < 800 ∧ (((M.1 18 l3) ≠ (-1) → en_R sc 125 27 [mm_r 17, mm_r l1, mm_i l2, mm_i (l3 + 1)] [] M Q) ∧ (¬ ((M.1 18 l3) ≠ (-1)) → en_CV sc 124 [mm_r 17, mm_r l1, mm_i l3, mm_i l2, mm_u, mm_u, mm_u] M (fun M4 => mr_ok M4 → en_R sc 125 27 [mm_r 17, mm_r l1, mm_i l2, mm_i (l3 + 1)] [] M4 Q) (fun e M9 => Q (.inr e) M9)))))) : en_R sc 125 27 [mm_r 17, mm_r l1, mm_i l2, mm_i l3] [] M Q := by
  refine en_iload_n mc125_27 rfl ?_
  refine en_iload_n mc125_28 rfl ?_
  refine en_icmp_ge 55 mc125_29 (by decide) hg_l3 hg_l2 (fun q => ?_) (fun q => ?_)
  · replace h := h.1 q
    exact en_vret mv125 mc125_55 rfl h
  · replace h := h.2 q
    obtain ⟨g1, h⟩ := h
    obtain ⟨g2, h⟩ := h
    refine en_aload_n mc125_32 rfl ?_
    refine en_getR (b := 18) mv125 mc125_33 (lk_f3_18) (⟨rfl, by decide⟩ : mt_kd[17]? = some (.inl 3) ∧ 17 < 99) rfl (mk_fc ho (by decide +kernel)) ?_
    refine en_iload_n mc125_36 rfl ?_
    refine en_iald mc125_37 (⟨rfl, by decide, by decide⟩ : mt_kd[18]? = some (.inr (.int, 800)) ∧ 18 < 99 ∧ 800 < 2147483648) g1 g2 ?_
    refine en_iconst mc125_38 ?_
    refine en_icmp_ne 49 mc125_39 (by decide) (ho.2.1 18 l3 (by unfold mr_lg; omega)) (⟨by decide, by decide⟩ : mr_rg (-1)) (fun q => ?_) (fun q => ?_)
    · replace h := h.1 q
      refine en_iinc (ls' := [mm_r 17, mm_r l1, mm_i l2, mm_i (l3 + 1)]) mc125_49 rfl rfl ?_
      refine en_goto 27 mc125_52 (by decide) ?_
      exact h
    · replace h := h.2 q
      refine en_aload_n mc125_42 rfl ?_
      refine en_aload_n mc125_43 rfl ?_
      refine en_iload_n mc125_44 rfl ?_
      refine en_iload_n mc125_45 rfl ?_
      refine en_callV (lz := [mm_r 17, mm_r l1, mm_i l3, mm_i l2, mm_u, mm_u, mm_u]) mv125 mc125_46 rfl rfl (lk_m3_40) mv124 rfl (by decide) rfl (mk_cokV rfl (⟨rfl, by decide⟩ : mt_kd[17]? = some (.inl 3) ∧ 17 < 99)) rfl (mk_nh rfl _) ho ?_
      refine en_CV_mono h (fun M4 h => ?_) (fun _ _ h => h)
      intro ho5
      replace h := h ho5
      refine en_iinc (ls' := [mm_r 17, mm_r l1, mm_i l2, mm_i (l3 + 1)]) mc125_49 rfl rfl ?_
      refine en_goto 27 mc125_52 (by decide) ?_
      exact h
/-! 126: CellAreas.loopsOf(I)LCellAreas$Loops; -/
theorem mc126_0 : mr_C 126 0 = some (.aload_n 0, 1) := rfl
theorem mc126_1 : mr_C 126 1 = some (.getfield 42, 3) := rfl
theorem mc126_4 : mr_C 126 4 = some (.iload_n 1, 1) := rfl
theorem mc126_5 : mr_C 126 5 = some (.if_icmp .eq (21), 3) := rfl
theorem mc126_8 : mr_C 126 8 = some (.aload_n 0, 1) := rfl
theorem mc126_9 : mr_C 126 9 = some (.getfield 38, 3) := rfl
theorem mc126_12 : mr_C 126 12 = some (.aload_n 0, 1) := rfl
theorem mc126_13 : mr_C 126 13 = some (.getfield 11, 3) := by decide +kernel
theorem mc126_16 : mr_C 126 16 = some (.iload_n 1, 1) := by decide +kernel
theorem mc126_17 : mr_C 126 17 = some (.aaload, 1) := by decide +kernel
theorem mc126_18 : mr_C 126 18 = some (.invokevirtual 265, 3) := by decide +kernel
theorem mc126_21 : mr_C 126 21 = some (.aload_n 0, 1) := by decide +kernel
theorem mc126_22 : mr_C 126 22 = some (.iload_n 1, 1) := by decide +kernel
theorem mc126_23 : mr_C 126 23 = some (.putfield 42, 3) := by decide +kernel
theorem mc126_26 : mr_C 126 26 = some (.aload_n 0, 1) := by decide +kernel
theorem mc126_27 : mr_C 126 27 = some (.getfield 38, 3) := by decide +kernel
theorem mc126_30 : mr_C 126 30 = some (.areturn, 1) := by decide +kernel
theorem vc126_0 {sc : Nat × (Int → Int)} {Q : mm_R → mm_M → Prop} {M : mm_M} {l1 : Int} (ho : mr_ok M) (hg_l1 : mr_rg l1)
    (h : ((M.1 0 6) = l1 → Q (.inl (some (mm_r 17))) M) ∧ (¬ (M.1 0 6) = l1 → 0 ≤ l1 ∧ (l1 < 8 ∧ (∃ b3, M.2.1 1 l1 = some b3 ∧ mr_A b3 ∧ (en_CV sc 125 [mm_r 17, mm_r b3, mm_u, mm_u] M (fun M6 => mr_ok M6 → Q (.inl (some (mm_r 17))) (mm_putN M6 0 6 l1)) (fun e M9 => Q (.inr e) M9)))))) : en_R sc 126 0 [mm_r 0, mm_i l1] [] M Q := by
  refine en_aload_n mc126_0 rfl ?_
  refine en_getI mv126 mc126_1 (lk_f6_42) (⟨rfl, by decide⟩ : mt_kd[0]? = some (.inl 6) ∧ 0 < 99) (Or.inl rfl) ?_
  refine en_iload_n mc126_4 rfl ?_
  refine en_icmp_eq 26 mc126_5 (by decide) (ho.2.1 0 6 (by unfold mr_lg; omega)) hg_l1 (fun q => ?_) (fun q => ?_)
  · replace h := h.1 q
    refine en_aload_n mc126_26 rfl ?_
    refine en_getR (b := 17) mv126 mc126_27 (lk_f6_38) (⟨rfl, by decide⟩ : mt_kd[0]? = some (.inl 6) ∧ 0 < 99) rfl (mk_fc ho (by decide +kernel)) ?_
    exact en_aret mv126 mc126_30 rfl h
  · replace h := h.2 q
    obtain ⟨g1, h⟩ := h
    obtain ⟨g2, h⟩ := h
    refine en_aload_n mc126_8 rfl ?_
    refine en_getR (b := 17) mv126 mc126_9 (lk_f6_38) (⟨rfl, by decide⟩ : mt_kd[0]? = some (.inl 6) ∧ 0 < 99) rfl (mk_fc ho (by decide +kernel)) ?_
    refine en_aload_n mc126_12 rfl ?_
    refine en_getR (b := 1) mv126 mc126_13 (lk_f6_11) (⟨rfl, by decide⟩ : mt_kd[0]? = some (.inl 6) ∧ 0 < 99) rfl (mk_fc ho (by decide +kernel)) ?_
    refine en_iload_n mc126_16 rfl ?_
    obtain ⟨b3, g4, hA_b3_, h⟩ := h
    refine en_aald mc126_17 g1 g2 g4 ?_
    refine en_callV (lz := [mm_r 17, mm_r b3, mm_u, mm_u]) mv126 mc126_18 rfl rfl (lk_m6_265) mv125 rfl (by decide) rfl (mk_cokV rfl (⟨rfl, by decide⟩ : mt_kd[17]? = some (.inl 3) ∧ 17 < 99)) rfl (mk_nh rfl _) ho ?_
    refine en_CV_mono h (fun M6 h => ?_) (fun _ _ h => h)
    intro ho7
    replace h := h ho7
    refine en_aload_n mc126_21 rfl ?_
    refine en_iload_n mc126_22 rfl ?_
    refine en_putI mv126 mc126_23 (lk_f6_42) (⟨rfl, by decide⟩ : mt_kd[0]? = some (.inl 6) ∧ 0 < 99) rfl rfl hg_l1 ?_
    refine en_aload_n mc126_26 rfl ?_
    refine en_getR (b := 17) mv126 mc126_27 (lk_f6_38) (⟨rfl, by decide⟩ : mt_kd[0]? = some (.inl 6) ∧ 0 < 99) rfl (mk_fc (mr_ok_putI (a := 0) (k := 6) ho7 hg_l1) (by decide +kernel)) ?_
    exact en_aret mv126 mc126_30 rfl h
/-! 127: CellAreas$Loops.next(II)I -/
theorem mc127_0 : mr_C 127 0 = some (.iload_n 2, 1) := rfl
theorem mc127_1 : mr_C 127 1 = some (.iconst 1, 1) := rfl
theorem mc127_2 : mr_C 127 2 = some (.iadd, 1) := rfl
theorem mc127_3 : mr_C 127 3 = some (.aload_n 0, 1) := rfl
theorem mc127_4 : mr_C 127 4 = some (.getfield 22, 3) := rfl
theorem mc127_7 : mr_C 127 7 = some (.iload_n 1, 1) := rfl
theorem mc127_8 : mr_C 127 8 = some (.iconst 1, 1) := rfl
theorem mc127_9 : mr_C 127 9 = some (.iadd, 1) := by decide +kernel
theorem mc127_10 : mr_C 127 10 = some (.iaload, 1) := by decide +kernel
theorem mc127_11 : mr_C 127 11 = some (.if_icmp .ge (9), 3) := by decide +kernel
theorem mc127_14 : mr_C 127 14 = some (.iload_n 2, 1) := by decide +kernel
theorem mc127_15 : mr_C 127 15 = some (.iconst 1, 1) := by decide +kernel
theorem mc127_16 : mr_C 127 16 = some (.iadd, 1) := by decide +kernel
theorem mc127_17 : mr_C 127 17 = some (.goto 9, 3) := by decide +kernel
theorem mc127_20 : mr_C 127 20 = some (.aload_n 0, 1) := by decide +kernel
theorem mc127_21 : mr_C 127 21 = some (.getfield 22, 3) := by decide +kernel
theorem mc127_24 : mr_C 127 24 = some (.iload_n 1, 1) := by decide +kernel
theorem mc127_25 : mr_C 127 25 = some (.iaload, 1) := by decide +kernel
theorem mc127_26 : mr_C 127 26 = some (.ireturn, 1) := by decide +kernel
theorem vc127_0 {sc : Nat × (Int → Int)} {Q : mm_R → mm_M → Prop} {M : mm_M} {l1 : Int} {l2 : Int} (ho : mr_ok M)
    (h : 0 ≤ (l1 + 1) ∧ ((l1 + 1) < 401 ∧ (mr_rg (l2 + 1) ∧ (((M.1 19 (l1 + 1)) ≤ (l2 + 1) → 0 ≤ l1 ∧ (l1 < 401 ∧ (Q (.inl (some (mm_i (M.1 19 l1)))) M))) ∧ (¬ (M.1 19 (l1 + 1)) ≤ (l2 + 1) → Q (.inl (some (mm_i (l2 + 1)))) M))))) : en_R sc 127 0 [mm_r 17, mm_i l1, mm_i l2] [] M Q := by
  obtain ⟨g1, h⟩ := h
  obtain ⟨g2, h⟩ := h
  obtain ⟨g3, h⟩ := h
  refine en_iload_n mc127_0 rfl ?_
  refine en_iconst mc127_1 ?_
  refine en_iadd mc127_2 ?_
  refine en_aload_n mc127_3 rfl ?_
  refine en_getR (b := 19) mv127 mc127_4 (lk_f3_22) (⟨rfl, by decide⟩ : mt_kd[17]? = some (.inl 3) ∧ 17 < 99) rfl (mk_fc ho (by decide +kernel)) ?_
  refine en_iload_n mc127_7 rfl ?_
  refine en_iconst mc127_8 ?_
  refine en_iadd mc127_9 ?_
  refine en_iald mc127_10 (⟨rfl, by decide, by decide⟩ : mt_kd[19]? = some (.inr (.int, 401)) ∧ 19 < 99 ∧ 401 < 2147483648) g1 g2 ?_
  refine en_icmp_ge 20 mc127_11 (by decide) g3 (ho.2.1 19 (l1 + 1) (by unfold mr_lg; omega)) (fun q => ?_) (fun q => ?_)
  · replace h := h.1 q
    obtain ⟨g4, h⟩ := h
    obtain ⟨g5, h⟩ := h
    refine en_aload_n mc127_20 rfl ?_
    refine en_getR (b := 19) mv127 mc127_21 (lk_f3_22) (⟨rfl, by decide⟩ : mt_kd[17]? = some (.inl 3) ∧ 17 < 99) rfl (mk_fc ho (by decide +kernel)) ?_
    refine en_iload_n mc127_24 rfl ?_
    refine en_iald mc127_25 (⟨rfl, by decide, by decide⟩ : mt_kd[19]? = some (.inr (.int, 401)) ∧ 19 < 99 ∧ 401 < 2147483648) g4 g5 ?_
    exact en_iret mv127 mc127_26 rfl h
  · replace h := h.2 q
    refine en_iload_n mc127_14 rfl ?_
    refine en_iconst mc127_15 ?_
    refine en_iadd mc127_16 ?_
    refine en_goto 26 mc127_17 (by decide) ?_
    exact en_iret mv127 mc127_26 rfl h
/-! 128: CellAreas$Loops.xOf(I)I -/
theorem mc128_0 : mr_C 128 0 = some (.aload_n 0, 1) := rfl
theorem mc128_1 : mr_C 128 1 = some (.getfield 25, 3) := rfl
theorem mc128_4 : mr_C 128 4 = some (.iload_n 1, 1) := rfl
theorem mc128_5 : mr_C 128 5 = some (.iaload, 1) := rfl
theorem mc128_6 : mr_C 128 6 = some (.sipush 2001, 3) := rfl
theorem mc128_9 : mr_C 128 9 = some (.irem, 1) := rfl
theorem mc128_10 : mr_C 128 10 = some (.sipush (-1000), 3) := by decide +kernel
theorem mc128_13 : mr_C 128 13 = some (.iadd, 1) := by decide +kernel
theorem mc128_14 : mr_C 128 14 = some (.ireturn, 1) := by decide +kernel
theorem vc128_0 {sc : Nat × (Int → Int)} {Q : mm_R → mm_M → Prop} {M : mm_M} {l1 : Int} (ho : mr_ok M)
    (h : 0 ≤ l1 ∧ (l1 < 1601 ∧ (0 ≤ (M.1 20 l1) ∧ (Q (.inl (some (mm_i (((M.1 20 l1) % 2001) + (-1000))))) M)))) : en_R sc 128 0 [mm_r 17, mm_i l1] [] M Q := by
  obtain ⟨g1, h⟩ := h
  obtain ⟨g2, h⟩ := h
  obtain ⟨g3, h⟩ := h
  refine en_aload_n mc128_0 rfl ?_
  refine en_getR (b := 20) mv128 mc128_1 (lk_f3_25) (⟨rfl, by decide⟩ : mt_kd[17]? = some (.inl 3) ∧ 17 < 99) rfl (mk_fc ho (by decide +kernel)) ?_
  refine en_iload_n mc128_4 rfl ?_
  refine en_iald mc128_5 (⟨rfl, by decide, by decide⟩ : mt_kd[20]? = some (.inr (.int, 1601)) ∧ 20 < 99 ∧ 1601 < 2147483648) g1 g2 ?_
  refine en_sipush mc128_6 (by decide) ?_
  refine en_irem mc128_9 (ho.2.1 20 l1 (by unfold mr_lg; omega)) (⟨by decide, by decide⟩ : mr_rg 2001) g3 (by decide) ?_
  refine en_sipush mc128_10 (by decide) ?_
  refine en_iadd mc128_13 ?_
  exact en_iret mv128 mc128_14 rfl h
/-! 130: CellAreas$Loops.yOf(I)I -/
theorem mc130_0 : mr_C 130 0 = some (.aload_n 0, 1) := rfl
theorem mc130_1 : mr_C 130 1 = some (.getfield 25, 3) := rfl
theorem mc130_4 : mr_C 130 4 = some (.iload_n 1, 1) := rfl
theorem mc130_5 : mr_C 130 5 = some (.iaload, 1) := rfl
theorem mc130_6 : mr_C 130 6 = some (.sipush 2001, 3) := rfl
theorem mc130_9 : mr_C 130 9 = some (.idiv, 1) := by decide +kernel
theorem mc130_10 : mr_C 130 10 = some (.sipush (-1000), 3) := by decide +kernel
theorem mc130_13 : mr_C 130 13 = some (.iadd, 1) := by decide +kernel
theorem mc130_14 : mr_C 130 14 = some (.ireturn, 1) := by decide +kernel
theorem vc130_0 {sc : Nat × (Int → Int)} {Q : mm_R → mm_M → Prop} {M : mm_M} {l1 : Int} (ho : mr_ok M)
    (h : 0 ≤ l1 ∧ (l1 < 1601 ∧ (0 ≤ (M.1 20 l1) ∧ (Q (.inl (some (mm_i (((M.1 20 l1) / 2001) + (-1000))))) M)))) : en_R sc 130 0 [mm_r 17, mm_i l1] [] M Q := by
  obtain ⟨g1, h⟩ := h
  obtain ⟨g2, h⟩ := h
  obtain ⟨g3, h⟩ := h
  refine en_aload_n mc130_0 rfl ?_
  refine en_getR (b := 20) mv130 mc130_1 (lk_f3_25) (⟨rfl, by decide⟩ : mt_kd[17]? = some (.inl 3) ∧ 17 < 99) rfl (mk_fc ho (by decide +kernel)) ?_
  refine en_iload_n mc130_4 rfl ?_
  refine en_iald mc130_5 (⟨rfl, by decide, by decide⟩ : mt_kd[20]? = some (.inr (.int, 1601)) ∧ 20 < 99 ∧ 1601 < 2147483648) g1 g2 ?_
  refine en_sipush mc130_6 (by decide) ?_
  refine en_idiv mc130_9 (ho.2.1 20 l1 (by unfold mr_lg; omega)) (⟨by decide, by decide⟩ : mr_rg 2001) g3 (by decide) ?_
  refine en_sipush mc130_10 (by decide) ?_
  refine en_iadd mc130_13 ?_
  exact en_iret mv130 mc130_14 rfl h
/-! 131: CellAreas$Loops.length(I)I -/
theorem mc131_0 : mr_C 131 0 = some (.iconst 0, 1) := rfl
theorem mc131_1 : mr_C 131 1 = some (.istore_n 2, 1) := rfl
theorem mc131_2 : mr_C 131 2 = some (.aload_n 0, 1) := rfl
theorem mc131_3 : mr_C 131 3 = some (.getfield 22, 3) := rfl
theorem mc131_6 : mr_C 131 6 = some (.iload_n 1, 1) := rfl
theorem mc131_7 : mr_C 131 7 = some (.iaload, 1) := by decide +kernel
theorem mc131_8 : mr_C 131 8 = some (.istore_n 3, 1) := by decide +kernel
theorem mc131_9 : mr_C 131 9 = some (.iload_n 3, 1) := by decide +kernel
theorem mc131_10 : mr_C 131 10 = some (.aload_n 0, 1) := by decide +kernel
theorem mc131_11 : mr_C 131 11 = some (.getfield 22, 3) := by decide +kernel
theorem mc131_14 : mr_C 131 14 = some (.iload_n 1, 1) := by decide +kernel
theorem mc131_15 : mr_C 131 15 = some (.iconst 1, 1) := by decide +kernel
theorem mc131_16 : mr_C 131 16 = some (.iadd, 1) := by decide +kernel
theorem mc131_17 : mr_C 131 17 = some (.iaload, 1) := by decide +kernel
theorem mc131_18 : mr_C 131 18 = some (.if_icmp .ge (51), 3) := by decide +kernel
theorem mc131_21 : mr_C 131 21 = some (.aload_n 0, 1) := by decide +kernel
theorem mc131_22 : mr_C 131 22 = some (.iload_n 1, 1) := by decide +kernel
theorem mc131_23 : mr_C 131 23 = some (.iload_n 3, 1) := by decide +kernel
theorem mc131_24 : mr_C 131 24 = some (.invokevirtual 101, 3) := by decide +kernel
theorem mc131_27 : mr_C 131 27 = some (.istore 4, 2) := by decide +kernel
theorem mc131_29 : mr_C 131 29 = some (.iload_n 2, 1) := by decide +kernel
theorem mc131_30 : mr_C 131 30 = some (.aload_n 0, 1) := by decide +kernel
theorem mc131_31 : mr_C 131 31 = some (.iload 4, 2) := by decide +kernel
theorem mc131_33 : mr_C 131 33 = some (.invokevirtual 104, 3) := by decide +kernel
theorem mc131_36 : mr_C 131 36 = some (.aload_n 0, 1) := by decide +kernel
theorem mc131_37 : mr_C 131 37 = some (.iload_n 3, 1) := by decide +kernel
theorem mc131_38 : mr_C 131 38 = some (.invokevirtual 104, 3) := by decide +kernel
theorem mc131_41 : mr_C 131 41 = some (.isub, 1) := by decide +kernel
theorem mc131_42 : mr_C 131 42 = some (.invokestatic 107, 3) := by decide +kernel
theorem mc131_45 : mr_C 131 45 = some (.aload_n 0, 1) := by decide +kernel
theorem mc131_46 : mr_C 131 46 = some (.iload 4, 2) := by decide +kernel
theorem mc131_48 : mr_C 131 48 = some (.invokevirtual 112, 3) := by decide +kernel
theorem mc131_51 : mr_C 131 51 = some (.aload_n 0, 1) := by decide +kernel
theorem mc131_52 : mr_C 131 52 = some (.iload_n 3, 1) := by decide +kernel
theorem mc131_53 : mr_C 131 53 = some (.invokevirtual 112, 3) := by decide +kernel
theorem mc131_56 : mr_C 131 56 = some (.isub, 1) := by decide +kernel
theorem mc131_57 : mr_C 131 57 = some (.invokestatic 107, 3) := by decide +kernel
theorem mc131_60 : mr_C 131 60 = some (.iadd, 1) := by decide +kernel
theorem mc131_61 : mr_C 131 61 = some (.iadd, 1) := by decide +kernel
theorem mc131_62 : mr_C 131 62 = some (.istore_n 2, 1) := by decide +kernel
theorem mc131_63 : mr_C 131 63 = some (.iinc 3 (1), 3) := by decide +kernel
theorem mc131_66 : mr_C 131 66 = some (.goto (-57), 3) := by decide +kernel
theorem mc131_69 : mr_C 131 69 = some (.iload_n 2, 1) := by decide +kernel
theorem mc131_70 : mr_C 131 70 = some (.ireturn, 1) := by decide +kernel
theorem vc131_0 {sc : Nat × (Int → Int)} {Q : mm_R → mm_M → Prop} {M : mm_M} {l1 : Int} (ho : mr_ok M)
    (h : 0 ≤ l1 ∧ (l1 < 401 ∧ (en_R sc 131 9 [mm_r 17, mm_i l1, mm_i 0, mm_i (M.1 19 l1), mm_u] [] M Q))) : en_R sc 131 0 [mm_r 17, mm_i l1, mm_u, mm_u, mm_u] [] M Q := by
  obtain ⟨g1, h⟩ := h
  obtain ⟨g2, h⟩ := h
  refine en_iconst mc131_0 ?_
  refine en_istore_n (ls' := [mm_r 17, mm_i l1, mm_i 0, mm_u, mm_u]) mc131_1 (Nat.le_of_ble_eq_true rfl) rfl ?_
  refine en_aload_n mc131_2 rfl ?_
  refine en_getR (b := 19) mv131 mc131_3 (lk_f3_22) (⟨rfl, by decide⟩ : mt_kd[17]? = some (.inl 3) ∧ 17 < 99) rfl (mk_fc ho (by decide +kernel)) ?_
  refine en_iload_n mc131_6 rfl ?_
  refine en_iald mc131_7 (⟨rfl, by decide, by decide⟩ : mt_kd[19]? = some (.inr (.int, 401)) ∧ 19 < 99 ∧ 401 < 2147483648) g1 g2 ?_
  refine en_istore_n (ls' := [mm_r 17, mm_i l1, mm_i 0, mm_i (M.1 19 l1), mm_u]) mc131_8 (Nat.le_of_ble_eq_true rfl) rfl ?_
  exact h
theorem vc131_9 {sc : Nat × (Int → Int)} {Q : mm_R → mm_M → Prop} {M : mm_M} {l1 : Int} {l2 : Int} {l3 : Int} {l4 : mm_V} (ho : mr_ok M) (hg_l3 : mr_rg l3)
    (h : 0 ≤ (l1 + 1) ∧ ((l1 + 1) < 401 ∧ (((M.1 19 (l1 + 1)) ≤ l3 → Q (.inl (some (mm_i l2))) M) ∧ (¬ (M.1 19 (l1 + 1)) ≤ l3 → en_CI sc 127 [mm_r 17, mm_i l1, mm_i l3] M (fun x3 M4 => mr_ok M4 → en_CI sc 128 [mm_r 17, mm_i x3] M4 (fun x6 M7 => mr_ok M7 → en_CI sc 128 [mm_r 17, mm_i l3] M7 (fun x9 M10 => mr_ok M10 → mr_rg (x6 - x9) ∧ (en_CI sc 130 [mm_r 17, mm_i x3] M10 (fun x13 M14 => mr_ok M14 → en_CI sc 130 [mm_r 17, mm_i l3] M14 (fun x16 M17 => mr_ok M17 → mr_rg (x13 - x16) ∧ (en_R sc 131 9 [mm_r 17, mm_i l1, mm_i (l2 + ((max (x6 - x9) (0 - (x6 - x9))) + (max (x13 - x16) (0 - (x13 - x16))))), mm_i (l3 + 1), mm_i x3] [] M17 Q)) (fun e M9 => Q (.inr e) M9)) (fun e M9 => Q (.inr e) M9))) (fun e M9 => Q (.inr e) M9)) (fun e M9 => Q (.inr e) M9)) (fun e M9 => Q (.inr e) M9))))) : en_R sc 131 9 [mm_r 17, mm_i l1, mm_i l2, mm_i l3, l4] [] M Q := by
  obtain ⟨g1, h⟩ := h
  obtain ⟨g2, h⟩ := h
  refine en_iload_n mc131_9 rfl ?_
  refine en_aload_n mc131_10 rfl ?_
  refine en_getR (b := 19) mv131 mc131_11 (lk_f3_22) (⟨rfl, by decide⟩ : mt_kd[17]? = some (.inl 3) ∧ 17 < 99) rfl (mk_fc ho (by decide +kernel)) ?_
  refine en_iload_n mc131_14 rfl ?_
  refine en_iconst mc131_15 ?_
  refine en_iadd mc131_16 ?_
  refine en_iald mc131_17 (⟨rfl, by decide, by decide⟩ : mt_kd[19]? = some (.inr (.int, 401)) ∧ 19 < 99 ∧ 401 < 2147483648) g1 g2 ?_
  refine en_icmp_ge 69 mc131_18 (by decide) hg_l3 (ho.2.1 19 (l1 + 1) (by unfold mr_lg; omega)) (fun q => ?_) (fun q => ?_)
  · replace h := h.1 q
    refine en_iload_n mc131_69 rfl ?_
    exact en_iret mv131 mc131_70 rfl h
  · replace h := h.2 q
    refine en_aload_n mc131_21 rfl ?_
    refine en_iload_n mc131_22 rfl ?_
    refine en_iload_n mc131_23 rfl ?_
    refine en_callI (lz := [mm_r 17, mm_i l1, mm_i l3]) mv131 mc131_24 rfl rfl (lk_m3_101) mv127 rfl (by decide) rfl (mk_cokV rfl (⟨rfl, by decide⟩ : mt_kd[17]? = some (.inl 3) ∧ 17 < 99)) rfl (mk_nh rfl _) ho ?_
    refine en_CI_mono h (fun x3 M4 h => ?_) (fun _ _ h => h)
    intro ho5
    replace h := h ho5
    refine en_istore (ls' := [mm_r 17, mm_i l1, mm_i l2, mm_i l3, mm_i x3]) mc131_27 (Nat.le_of_ble_eq_true rfl) rfl ?_
    refine en_iload_n mc131_29 rfl ?_
    refine en_aload_n mc131_30 rfl ?_
    refine en_iload mc131_31 rfl ?_
    refine en_callI (lz := [mm_r 17, mm_i x3]) mv131 mc131_33 rfl rfl (lk_m3_104) mv128 rfl (by decide) rfl (mk_cokV rfl (⟨rfl, by decide⟩ : mt_kd[17]? = some (.inl 3) ∧ 17 < 99)) rfl (mk_nh rfl _) ho5 ?_
    refine en_CI_mono h (fun x6 M7 h => ?_) (fun _ _ h => h)
    intro ho8
    replace h := h ho8
    refine en_aload_n mc131_36 rfl ?_
    refine en_iload_n mc131_37 rfl ?_
    refine en_callI (lz := [mm_r 17, mm_i l3]) mv131 mc131_38 rfl rfl (lk_m3_104) mv128 rfl (by decide) rfl (mk_cokV rfl (⟨rfl, by decide⟩ : mt_kd[17]? = some (.inl 3) ∧ 17 < 99)) rfl (mk_nh rfl _) ho8 ?_
    refine en_CI_mono h (fun x9 M10 h => ?_) (fun _ _ h => h)
    intro ho11
    replace h := h ho11
    obtain ⟨g12, h⟩ := h
    refine en_isub mc131_41 ?_
    refine en_abs mv131 mc131_42 (lk_m3_107) mv129 rfl ⟨Nat.le_of_ble_eq_true rfl, Nat.le_of_ble_eq_true rfl⟩ g12 ?_
    refine en_aload_n mc131_45 rfl ?_
    refine en_iload mc131_46 rfl ?_
    refine en_callI (lz := [mm_r 17, mm_i x3]) mv131 mc131_48 rfl rfl (lk_m3_112) mv130 rfl (by decide) rfl (mk_cokV rfl (⟨rfl, by decide⟩ : mt_kd[17]? = some (.inl 3) ∧ 17 < 99)) rfl (mk_nh rfl _) ho11 ?_
    refine en_CI_mono h (fun x13 M14 h => ?_) (fun _ _ h => h)
    intro ho15
    replace h := h ho15
    refine en_aload_n mc131_51 rfl ?_
    refine en_iload_n mc131_52 rfl ?_
    refine en_callI (lz := [mm_r 17, mm_i l3]) mv131 mc131_53 rfl rfl (lk_m3_112) mv130 rfl (by decide) rfl (mk_cokV rfl (⟨rfl, by decide⟩ : mt_kd[17]? = some (.inl 3) ∧ 17 < 99)) rfl (mk_nh rfl _) ho15 ?_
    refine en_CI_mono h (fun x16 M17 h => ?_) (fun _ _ h => h)
    intro ho18
    replace h := h ho18
    obtain ⟨g19, h⟩ := h
    refine en_isub mc131_56 ?_
    refine en_abs mv131 mc131_57 (lk_m3_107) mv129 rfl ⟨Nat.le_of_ble_eq_true rfl, Nat.le_of_ble_eq_true rfl⟩ g19 ?_
    refine en_iadd mc131_60 ?_
    refine en_iadd mc131_61 ?_
    refine en_istore_n (ls' := [mm_r 17, mm_i l1, mm_i (l2 + ((max (x6 - x9) (0 - (x6 - x9))) + (max (x13 - x16) (0 - (x13 - x16))))), mm_i l3, mm_i x3]) mc131_62 (Nat.le_of_ble_eq_true rfl) rfl ?_
    refine en_iinc (ls' := [mm_r 17, mm_i l1, mm_i (l2 + ((max (x6 - x9) (0 - (x6 - x9))) + (max (x13 - x16) (0 - (x13 - x16))))), mm_i (l3 + 1), mm_i x3]) mc131_63 rfl rfl ?_
    refine en_goto 9 mc131_66 (by decide) ?_
    exact h
/-! 132: CellAreas$Loops.sides()I -/
theorem mc132_0 : mr_C 132 0 = some (.iconst 0, 1) := rfl
theorem mc132_1 : mr_C 132 1 = some (.istore_n 1, 1) := rfl
theorem mc132_2 : mr_C 132 2 = some (.iconst 0, 1) := rfl
theorem mc132_3 : mr_C 132 3 = some (.istore_n 2, 1) := rfl
theorem mc132_4 : mr_C 132 4 = some (.iload_n 2, 1) := by decide +kernel
theorem mc132_5 : mr_C 132 5 = some (.aload_n 0, 1) := by decide +kernel
theorem mc132_6 : mr_C 132 6 = some (.getfield 9, 3) := by decide +kernel
theorem mc132_9 : mr_C 132 9 = some (.if_icmp .ge (17), 3) := by decide +kernel
theorem mc132_12 : mr_C 132 12 = some (.iload_n 1, 1) := by decide +kernel
theorem mc132_13 : mr_C 132 13 = some (.aload_n 0, 1) := by decide +kernel
theorem mc132_14 : mr_C 132 14 = some (.iload_n 2, 1) := by decide +kernel
theorem mc132_15 : mr_C 132 15 = some (.invokevirtual 117, 3) := by decide +kernel
theorem mc132_18 : mr_C 132 18 = some (.iadd, 1) := by decide +kernel
theorem mc132_19 : mr_C 132 19 = some (.istore_n 1, 1) := by decide +kernel
theorem mc132_20 : mr_C 132 20 = some (.iinc 2 (1), 3) := by decide +kernel
theorem mc132_23 : mr_C 132 23 = some (.goto (-19), 3) := by decide +kernel
theorem mc132_26 : mr_C 132 26 = some (.iload_n 1, 1) := by decide +kernel
theorem mc132_27 : mr_C 132 27 = some (.ireturn, 1) := by decide +kernel
theorem vc132_0 {sc : Nat × (Int → Int)} {Q : mm_R → mm_M → Prop} {M : mm_M} (ho : mr_ok M)
    (h : en_R sc 132 4 [mm_r 17, mm_i 0, mm_i 0] [] M Q) : en_R sc 132 0 [mm_r 17, mm_u, mm_u] [] M Q := by
  refine en_iconst mc132_0 ?_
  refine en_istore_n (ls' := [mm_r 17, mm_i 0, mm_u]) mc132_1 (Nat.le_of_ble_eq_true rfl) rfl ?_
  refine en_iconst mc132_2 ?_
  refine en_istore_n (ls' := [mm_r 17, mm_i 0, mm_i 0]) mc132_3 (Nat.le_of_ble_eq_true rfl) rfl ?_
  exact h
theorem vc132_4 {sc : Nat × (Int → Int)} {Q : mm_R → mm_M → Prop} {M : mm_M} {l1 : Int} {l2 : Int} (ho : mr_ok M) (hg_l2 : mr_rg l2)
    (h : ((M.1 17 0) ≤ l2 → Q (.inl (some (mm_i l1))) M) ∧ (¬ (M.1 17 0) ≤ l2 → en_CI sc 131 [mm_r 17, mm_i l2, mm_u, mm_u, mm_u] M (fun x1 M2 => mr_ok M2 → en_R sc 132 4 [mm_r 17, mm_i (l1 + x1), mm_i (l2 + 1)] [] M2 Q) (fun e M9 => Q (.inr e) M9))) : en_R sc 132 4 [mm_r 17, mm_i l1, mm_i l2] [] M Q := by
  refine en_iload_n mc132_4 rfl ?_
  refine en_aload_n mc132_5 rfl ?_
  refine en_getI mv132 mc132_6 (lk_f3_9) (⟨rfl, by decide⟩ : mt_kd[17]? = some (.inl 3) ∧ 17 < 99) (Or.inl rfl) ?_
  refine en_icmp_ge 26 mc132_9 (by decide) hg_l2 (ho.2.1 17 0 (by unfold mr_lg; omega)) (fun q => ?_) (fun q => ?_)
  · replace h := h.1 q
    refine en_iload_n mc132_26 rfl ?_
    exact en_iret mv132 mc132_27 rfl h
  · replace h := h.2 q
    refine en_iload_n mc132_12 rfl ?_
    refine en_aload_n mc132_13 rfl ?_
    refine en_iload_n mc132_14 rfl ?_
    refine en_callI (lz := [mm_r 17, mm_i l2, mm_u, mm_u, mm_u]) mv132 mc132_15 rfl rfl (lk_m3_117) mv131 rfl (by decide) rfl (mk_cokV rfl (⟨rfl, by decide⟩ : mt_kd[17]? = some (.inl 3) ∧ 17 < 99)) rfl (mk_nh rfl _) ho ?_
    refine en_CI_mono h (fun x1 M2 h => ?_) (fun _ _ h => h)
    intro ho3
    replace h := h ho3
    refine en_iadd mc132_18 ?_
    refine en_istore_n (ls' := [mm_r 17, mm_i (l1 + x1), mm_i l2]) mc132_19 (Nat.le_of_ble_eq_true rfl) rfl ?_
    refine en_iinc (ls' := [mm_r 17, mm_i (l1 + x1), mm_i (l2 + 1)]) mc132_20 rfl rfl ?_
    refine en_goto 4 mc132_23 (by decide) ?_
    exact h
/-! 133: CellAreas$Parts.earliest(I)I -/
theorem mc133_0 : mr_C 133 0 = some (.iload_n 1, 1) := rfl
theorem mc133_1 : mr_C 133 1 = some (.istore_n 2, 1) := rfl
theorem mc133_2 : mr_C 133 2 = some (.aload_n 0, 1) := rfl
theorem mc133_3 : mr_C 133 3 = some (.getfield 15, 3) := rfl
theorem mc133_6 : mr_C 133 6 = some (.iload_n 2, 1) := by decide +kernel
theorem mc133_7 : mr_C 133 7 = some (.iaload, 1) := by decide +kernel
theorem mc133_8 : mr_C 133 8 = some (.iload_n 2, 1) := by decide +kernel
theorem mc133_9 : mr_C 133 9 = some (.if_icmp .ge (13), 3) := by decide +kernel
theorem mc133_12 : mr_C 133 12 = some (.aload_n 0, 1) := by decide +kernel
theorem mc133_13 : mr_C 133 13 = some (.getfield 15, 3) := by decide +kernel
theorem mc133_16 : mr_C 133 16 = some (.iload_n 2, 1) := by decide +kernel
theorem mc133_17 : mr_C 133 17 = some (.iaload, 1) := by decide +kernel
theorem mc133_18 : mr_C 133 18 = some (.istore_n 2, 1) := by decide +kernel
theorem mc133_19 : mr_C 133 19 = some (.goto (-17), 3) := by decide +kernel
theorem mc133_22 : mr_C 133 22 = some (.iload_n 2, 1) := by decide +kernel
theorem mc133_23 : mr_C 133 23 = some (.ireturn, 1) := by decide +kernel
theorem vc133_0 {sc : Nat × (Int → Int)} {Q : mm_R → mm_M → Prop} {M : mm_M} {l1 : Int} (ho : mr_ok M)
    (h : en_R sc 133 2 [mm_r 21, mm_i l1, mm_i l1] [] M Q) : en_R sc 133 0 [mm_r 21, mm_i l1, mm_u] [] M Q := by
  refine en_iload_n mc133_0 rfl ?_
  refine en_istore_n (ls' := [mm_r 21, mm_i l1, mm_i l1]) mc133_1 (Nat.le_of_ble_eq_true rfl) rfl ?_
  exact h
theorem vc133_2 {sc : Nat × (Int → Int)} {Q : mm_R → mm_M → Prop} {M : mm_M} {l1 : Int} {l2 : Int} (ho : mr_ok M) (hg_l2 : mr_rg l2)
    (h : 0 ≤ l2 ∧ (l2 < 400 ∧ ((l2 ≤ (M.1 22 l2) → Q (.inl (some (mm_i l2))) M) ∧ (¬ l2 ≤ (M.1 22 l2) → 0 ≤ l2 ∧ (l2 < 400 ∧ (en_R sc 133 2 [mm_r 21, mm_i l1, mm_i (M.1 22 l2)] [] M Q)))))) : en_R sc 133 2 [mm_r 21, mm_i l1, mm_i l2] [] M Q := by
  obtain ⟨g1, h⟩ := h
  obtain ⟨g2, h⟩ := h
  refine en_aload_n mc133_2 rfl ?_
  refine en_getR (b := 22) mv133 mc133_3 (lk_f4_15) (⟨rfl, by decide⟩ : mt_kd[21]? = some (.inl 4) ∧ 21 < 99) rfl (mk_fc ho (by decide +kernel)) ?_
  refine en_iload_n mc133_6 rfl ?_
  refine en_iald mc133_7 (⟨rfl, by decide, by decide⟩ : mt_kd[22]? = some (.inr (.int, 400)) ∧ 22 < 99 ∧ 400 < 2147483648) g1 g2 ?_
  refine en_iload_n mc133_8 rfl ?_
  refine en_icmp_ge 22 mc133_9 (by decide) (ho.2.1 22 l2 (by unfold mr_lg; omega)) hg_l2 (fun q => ?_) (fun q => ?_)
  · replace h := h.1 q
    refine en_iload_n mc133_22 rfl ?_
    exact en_iret mv133 mc133_23 rfl h
  · replace h := h.2 q
    obtain ⟨g3, h⟩ := h
    obtain ⟨g4, h⟩ := h
    refine en_aload_n mc133_12 rfl ?_
    refine en_getR (b := 22) mv133 mc133_13 (lk_f4_15) (⟨rfl, by decide⟩ : mt_kd[21]? = some (.inl 4) ∧ 21 < 99) rfl (mk_fc ho (by decide +kernel)) ?_
    refine en_iload_n mc133_16 rfl ?_
    refine en_iald mc133_17 (⟨rfl, by decide, by decide⟩ : mt_kd[22]? = some (.inr (.int, 400)) ∧ 22 < 99 ∧ 400 < 2147483648) g3 g4 ?_
    refine en_istore_n (ls' := [mm_r 21, mm_i l1, mm_i (M.1 22 l2)]) mc133_18 (Nat.le_of_ble_eq_true rfl) rfl ?_
    refine en_goto 2 mc133_19 (by decide) ?_
    exact h
/-! 134: CellAreas$Parts.join(II)V -/
theorem mc134_0 : mr_C 134 0 = some (.aload_n 0, 1) := rfl
theorem mc134_1 : mr_C 134 1 = some (.iload_n 1, 1) := rfl
theorem mc134_2 : mr_C 134 2 = some (.invokevirtual 52, 3) := rfl
theorem mc134_5 : mr_C 134 5 = some (.istore_n 3, 1) := by decide +kernel
theorem mc134_6 : mr_C 134 6 = some (.aload_n 0, 1) := by decide +kernel
theorem mc134_7 : mr_C 134 7 = some (.iload_n 2, 1) := by decide +kernel
theorem mc134_8 : mr_C 134 8 = some (.invokevirtual 52, 3) := by decide +kernel
theorem mc134_11 : mr_C 134 11 = some (.istore 4, 2) := by decide +kernel
theorem mc134_13 : mr_C 134 13 = some (.aload_n 0, 1) := by decide +kernel
theorem mc134_14 : mr_C 134 14 = some (.getfield 15, 3) := by decide +kernel
theorem mc134_17 : mr_C 134 17 = some (.iload_n 3, 1) := by decide +kernel
theorem mc134_18 : mr_C 134 18 = some (.iload 4, 2) := by decide +kernel
theorem mc134_20 : mr_C 134 20 = some (.invokestatic 55, 3) := by decide +kernel
theorem mc134_23 : mr_C 134 23 = some (.iload_n 3, 1) := by decide +kernel
theorem mc134_24 : mr_C 134 24 = some (.iload 4, 2) := by decide +kernel
theorem mc134_26 : mr_C 134 26 = some (.invokestatic 61, 3) := by decide +kernel
theorem mc134_29 : mr_C 134 29 = some (.iastore, 1) := by decide +kernel
theorem mc134_30 : mr_C 134 30 = some (.return_, 1) := by decide +kernel
theorem vc134_0 {sc : Nat × (Int → Int)} {Q : mm_R → mm_M → Prop} {M : mm_M} {l1 : Int} {l2 : Int} (ho : mr_ok M)
    (h : en_CI sc 133 [mm_r 21, mm_i l1, mm_u] M (fun x1 M2 => mr_ok M2 → en_CI sc 133 [mm_r 21, mm_i l2, mm_u] M2 (fun x4 M5 => mr_ok M5 → mr_rg x1 ∧ (mr_rg x4 ∧ (0 ≤ (max x1 x4) ∧ ((max x1 x4) < 400 ∧ (mr_rg (min x1 x4) ∧ (Q (.inl none) (mm_putN M5 22 (max x1 x4) (min x1 x4)))))))) (fun e M9 => Q (.inr e) M9)) (fun e M9 => Q (.inr e) M9)) : en_R sc 134 0 [mm_r 21, mm_i l1, mm_i l2, mm_u, mm_u] [] M Q := by
  refine en_aload_n mc134_0 rfl ?_
  refine en_iload_n mc134_1 rfl ?_
  refine en_callI (lz := [mm_r 21, mm_i l1, mm_u]) mv134 mc134_2 rfl rfl (lk_m4_52) mv133 rfl (by decide) rfl (mk_cokV rfl (⟨rfl, by decide⟩ : mt_kd[21]? = some (.inl 4) ∧ 21 < 99)) rfl (mk_nh rfl _) ho ?_
  refine en_CI_mono h (fun x1 M2 h => ?_) (fun _ _ h => h)
  intro ho3
  replace h := h ho3
  refine en_istore_n (ls' := [mm_r 21, mm_i l1, mm_i l2, mm_i x1, mm_u]) mc134_5 (Nat.le_of_ble_eq_true rfl) rfl ?_
  refine en_aload_n mc134_6 rfl ?_
  refine en_iload_n mc134_7 rfl ?_
  refine en_callI (lz := [mm_r 21, mm_i l2, mm_u]) mv134 mc134_8 rfl rfl (lk_m4_52) mv133 rfl (by decide) rfl (mk_cokV rfl (⟨rfl, by decide⟩ : mt_kd[21]? = some (.inl 4) ∧ 21 < 99)) rfl (mk_nh rfl _) ho3 ?_
  refine en_CI_mono h (fun x4 M5 h => ?_) (fun _ _ h => h)
  intro ho6
  replace h := h ho6
  obtain ⟨g7, h⟩ := h
  obtain ⟨g8, h⟩ := h
  obtain ⟨g9, h⟩ := h
  obtain ⟨g10, h⟩ := h
  obtain ⟨g11, h⟩ := h
  refine en_istore (ls' := [mm_r 21, mm_i l1, mm_i l2, mm_i x1, mm_i x4]) mc134_11 (Nat.le_of_ble_eq_true rfl) rfl ?_
  refine en_aload_n mc134_13 rfl ?_
  refine en_getR (b := 22) mv134 mc134_14 (lk_f4_15) (⟨rfl, by decide⟩ : mt_kd[21]? = some (.inl 4) ∧ 21 < 99) rfl (mk_fc ho6 (by decide +kernel)) ?_
  refine en_iload_n mc134_17 rfl ?_
  refine en_iload mc134_18 rfl ?_
  refine en_max mv134 mc134_20 (lk_m4_55) mv13 rfl ⟨Nat.le_of_ble_eq_true rfl, Nat.le_of_ble_eq_true rfl⟩ g7 g8 ?_
  refine en_iload_n mc134_23 rfl ?_
  refine en_iload mc134_24 rfl ?_
  refine en_min mv134 mc134_26 (lk_m4_61) mv14 rfl ⟨Nat.le_of_ble_eq_true rfl, Nat.le_of_ble_eq_true rfl⟩ g7 g8 ?_
  refine en_iast mc134_29 (⟨rfl, by decide, by decide⟩ : mt_kd[22]? = some (.inr (.int, 400)) ∧ 22 < 99 ∧ 400 < 2147483648) g9 g10 g11 ?_
  exact en_vret mv134 mc134_30 rfl h
/-! 135: CellAreas$Parts.joinBands(LCellAreas$Area;II)V -/
theorem mc135_0 : mr_C 135 0 = some (.aload_n 1, 1) := rfl
theorem mc135_1 : mr_C 135 1 = some (.iload_n 2, 1) := rfl
theorem mc135_2 : mr_C 135 2 = some (.invokevirtual 36, 3) := rfl
theorem mc135_5 : mr_C 135 5 = some (.istore 4, 2) := by decide +kernel
theorem mc135_7 : mr_C 135 7 = some (.aload_n 1, 1) := by decide +kernel
theorem mc135_8 : mr_C 135 8 = some (.iload_n 3, 1) := by decide +kernel
theorem mc135_9 : mr_C 135 9 = some (.invokevirtual 36, 3) := by decide +kernel
theorem mc135_12 : mr_C 135 12 = some (.istore 5, 2) := by decide +kernel
theorem mc135_14 : mr_C 135 14 = some (.iload 4, 2) := by decide +kernel
theorem mc135_16 : mr_C 135 16 = some (.aload_n 1, 1) := by decide +kernel
theorem mc135_17 : mr_C 135 17 = some (.iload_n 2, 1) := by decide +kernel
theorem mc135_18 : mr_C 135 18 = some (.invokevirtual 39, 3) := by decide +kernel
theorem mc135_21 : mr_C 135 21 = some (.if_icmp .ge (84), 3) := by decide +kernel
theorem mc135_24 : mr_C 135 24 = some (.iload 5, 2) := by decide +kernel
theorem mc135_26 : mr_C 135 26 = some (.aload_n 1, 1) := by decide +kernel
theorem mc135_27 : mr_C 135 27 = some (.iload_n 3, 1) := by decide +kernel
theorem mc135_28 : mr_C 135 28 = some (.invokevirtual 39, 3) := by decide +kernel
theorem mc135_31 : mr_C 135 31 = some (.if_icmp .ge (74), 3) := by decide +kernel
theorem mc135_34 : mr_C 135 34 = some (.aload_n 1, 1) := by decide +kernel
theorem mc135_35 : mr_C 135 35 = some (.getfield 42, 3) := by decide +kernel
theorem mc135_38 : mr_C 135 38 = some (.iload 4, 2) := by decide +kernel
theorem mc135_40 : mr_C 135 40 = some (.iaload, 1) := by decide +kernel
theorem mc135_41 : mr_C 135 41 = some (.aload_n 1, 1) := by decide +kernel
theorem mc135_42 : mr_C 135 42 = some (.getfield 45, 3) := by decide +kernel
theorem mc135_45 : mr_C 135 45 = some (.iload 5, 2) := by decide +kernel
theorem mc135_47 : mr_C 135 47 = some (.iaload, 1) := by decide +kernel
theorem mc135_48 : mr_C 135 48 = some (.if_icmp .ge (28), 3) := by decide +kernel
theorem mc135_51 : mr_C 135 51 = some (.aload_n 1, 1) := by decide +kernel
theorem mc135_52 : mr_C 135 52 = some (.getfield 42, 3) := by decide +kernel
theorem mc135_55 : mr_C 135 55 = some (.iload 5, 2) := by decide +kernel
theorem mc135_57 : mr_C 135 57 = some (.iaload, 1) := by decide +kernel
theorem mc135_58 : mr_C 135 58 = some (.aload_n 1, 1) := by decide +kernel
theorem mc135_59 : mr_C 135 59 = some (.getfield 45, 3) := by decide +kernel
theorem mc135_62 : mr_C 135 62 = some (.iload 4, 2) := by decide +kernel
theorem mc135_64 : mr_C 135 64 = some (.iaload, 1) := by decide +kernel
theorem mc135_65 : mr_C 135 65 = some (.if_icmp .ge (11), 3) := by decide +kernel
theorem mc135_68 : mr_C 135 68 = some (.aload_n 0, 1) := by decide +kernel
theorem mc135_69 : mr_C 135 69 = some (.iload 4, 2) := by decide +kernel
theorem mc135_71 : mr_C 135 71 = some (.iload 5, 2) := by decide +kernel
theorem mc135_73 : mr_C 135 73 = some (.invokevirtual 48, 3) := by decide +kernel
theorem mc135_76 : mr_C 135 76 = some (.aload_n 1, 1) := by decide +kernel
theorem mc135_77 : mr_C 135 77 = some (.getfield 45, 3) := by decide +kernel
theorem mc135_80 : mr_C 135 80 = some (.iload 4, 2) := by decide +kernel
theorem mc135_82 : mr_C 135 82 = some (.iaload, 1) := by decide +kernel
theorem mc135_83 : mr_C 135 83 = some (.aload_n 1, 1) := by decide +kernel
theorem mc135_84 : mr_C 135 84 = some (.getfield 45, 3) := by decide +kernel
theorem mc135_87 : mr_C 135 87 = some (.iload 5, 2) := by decide +kernel
theorem mc135_89 : mr_C 135 89 = some (.iaload, 1) := by decide +kernel
theorem mc135_90 : mr_C 135 90 = some (.if_icmp .ge (9), 3) := by decide +kernel
theorem mc135_93 : mr_C 135 93 = some (.iinc 4 (1), 3) := by decide +kernel
theorem mc135_96 : mr_C 135 96 = some (.goto (-82), 3) := by decide +kernel
theorem mc135_99 : mr_C 135 99 = some (.iinc 5 (1), 3) := by decide +kernel
theorem mc135_102 : mr_C 135 102 = some (.goto (-88), 3) := by decide +kernel
theorem mc135_105 : mr_C 135 105 = some (.return_, 1) := by decide +kernel
theorem vc135_0 {sc : Nat × (Int → Int)} {Q : mm_R → mm_M → Prop} {M : mm_M} {l1 : Nat} {l2 : Int} {l3 : Int} (ho : mr_ok M) (hA_l1 : mr_A l1)
    (h : en_CI sc 50 [mm_r l1, mm_i l2] M (fun x1 M2 => mr_ok M2 → en_CI sc 50 [mm_r l1, mm_i l3] M2 (fun x4 M5 => mr_ok M5 → en_R sc 135 14 [mm_r 21, mm_r l1, mm_i l2, mm_i l3, mm_i x1, mm_i x4] [] M5 Q) (fun e M9 => Q (.inr e) M9)) (fun e M9 => Q (.inr e) M9)) : en_R sc 135 0 [mm_r 21, mm_r l1, mm_i l2, mm_i l3, mm_u, mm_u] [] M Q := by
  refine en_aload_n mc135_0 rfl ?_
  refine en_iload_n mc135_1 rfl ?_
  refine en_callI (lz := [mm_r l1, mm_i l2]) mv135 mc135_2 rfl rfl (lk_m4_36) mv50 rfl (by decide) rfl (mk_cokV rfl (mk_A0 hA_l1)) rfl (mk_nh rfl _) ho ?_
  refine en_CI_mono h (fun x1 M2 h => ?_) (fun _ _ h => h)
  intro ho3
  replace h := h ho3
  refine en_istore (ls' := [mm_r 21, mm_r l1, mm_i l2, mm_i l3, mm_i x1, mm_u]) mc135_5 (Nat.le_of_ble_eq_true rfl) rfl ?_
  refine en_aload_n mc135_7 rfl ?_
  refine en_iload_n mc135_8 rfl ?_
  refine en_callI (lz := [mm_r l1, mm_i l3]) mv135 mc135_9 rfl rfl (lk_m4_36) mv50 rfl (by decide) rfl (mk_cokV rfl (mk_A0 hA_l1)) rfl (mk_nh rfl _) ho3 ?_
  refine en_CI_mono h (fun x4 M5 h => ?_) (fun _ _ h => h)
  intro ho6
  replace h := h ho6
  refine en_istore (ls' := [mm_r 21, mm_r l1, mm_i l2, mm_i l3, mm_i x1, mm_i x4]) mc135_12 (Nat.le_of_ble_eq_true rfl) rfl ?_
  exact h
theorem vc135_14 {sc : Nat × (Int → Int)} {Q : mm_R → mm_M → Prop} {M : mm_M} {l1 : Nat} {l2 : Int} {l3 : Int} {l4 : Int} {l5 : Int} (ho : mr_ok M) (hA_l1 : mr_A l1) (hg_l4 : mr_rg l4) (hg_l5 : mr_rg l5)
    (h : en_CI sc 51 [mm_r l1, mm_i l2] M (fun x1 M2 => mr_ok M2 → mr_rg x1 ∧ ((x1 ≤ l4 → Q (.inl none) M2) ∧ (¬ x1 ≤ l4 → en_CI sc 51 [mm_r l1, mm_i l3] M2 (fun x5 M6 => mr_ok M6 → mr_rg x5 ∧ ((x5 ≤ l5 → Q (.inl none) M6) ∧ (¬ x5 ≤ l5 → 0 ≤ l4 ∧ (l4 < 400 ∧ (0 ≤ l5 ∧ (l5 < 400 ∧ (((M6.1 (l1 + 5) l5) ≤ (M6.1 (l1 + 4) l4) → en_R sc 135 76 [mm_r 21, mm_r l1, mm_i l2, mm_i l3, mm_i l4, mm_i l5] [] M6 Q) ∧ (¬ (M6.1 (l1 + 5) l5) ≤ (M6.1 (l1 + 4) l4) → 0 ≤ l5 ∧ (l5 < 400 ∧ (0 ≤ l4 ∧ (l4 < 400 ∧ (((M6.1 (l1 + 5) l4) ≤ (M6.1 (l1 + 4) l5) → en_R sc 135 76 [mm_r 21, mm_r l1, mm_i l2, mm_i l3, mm_i l4, mm_i l5] [] M6 Q) ∧ (¬ (M6.1 (l1 + 5) l4) ≤ (M6.1 (l1 + 4) l5) → en_CV sc 134 [mm_r 21, mm_i l4, mm_i l5, mm_u, mm_u] M6 (fun M18 => mr_ok M18 → en_R sc 135 76 [mm_r 21, mm_r l1, mm_i l2, mm_i l3, mm_i l4, mm_i l5] [] M18 Q) (fun e M9 => Q (.inr e) M9)))))))))))))) (fun e M9 => Q (.inr e) M9)))) (fun e M9 => Q (.inr e) M9)) : en_R sc 135 14 [mm_r 21, mm_r l1, mm_i l2, mm_i l3, mm_i l4, mm_i l5] [] M Q := by
  refine en_iload mc135_14 rfl ?_
  refine en_aload_n mc135_16 rfl ?_
  refine en_iload_n mc135_17 rfl ?_
  refine en_callI (lz := [mm_r l1, mm_i l2]) mv135 mc135_18 rfl rfl (lk_m4_39) mv51 rfl (by decide) rfl (mk_cokV rfl (mk_A0 hA_l1)) rfl (mk_nh rfl _) ho ?_
  refine en_CI_mono h (fun x1 M2 h => ?_) (fun _ _ h => h)
  intro ho3
  replace h := h ho3
  obtain ⟨g4, h⟩ := h
  refine en_icmp_ge 105 mc135_21 (by decide) hg_l4 g4 (fun q => ?_) (fun q => ?_)
  · replace h := h.1 q
    exact en_vret mv135 mc135_105 rfl h
  · replace h := h.2 q
    refine en_iload mc135_24 rfl ?_
    refine en_aload_n mc135_26 rfl ?_
    refine en_iload_n mc135_27 rfl ?_
    refine en_callI (lz := [mm_r l1, mm_i l3]) mv135 mc135_28 rfl rfl (lk_m4_39) mv51 rfl (by decide) rfl (mk_cokV rfl (mk_A0 hA_l1)) rfl (mk_nh rfl _) ho3 ?_
    refine en_CI_mono h (fun x5 M6 h => ?_) (fun _ _ h => h)
    intro ho7
    replace h := h ho7
    obtain ⟨g8, h⟩ := h
    refine en_icmp_ge 105 mc135_31 (by decide) hg_l5 g8 (fun q => ?_) (fun q => ?_)
    · replace h := h.1 q
      exact en_vret mv135 mc135_105 rfl h
    · replace h := h.2 q
      obtain ⟨g9, h⟩ := h
      obtain ⟨g10, h⟩ := h
      obtain ⟨g11, h⟩ := h
      obtain ⟨g12, h⟩ := h
      refine en_aload_n mc135_34 rfl ?_
      refine en_getR (b := (l1 + 4)) mv135 mc135_35 (lk_f4_42) (mk_A0 hA_l1) rfl (mk_fA4 hA_l1 ho7) ?_
      refine en_iload mc135_38 rfl ?_
      refine en_iald mc135_40 (mk_A4 hA_l1) g9 g10 ?_
      refine en_aload_n mc135_41 rfl ?_
      refine en_getR (b := (l1 + 5)) mv135 mc135_42 (lk_f4_45) (mk_A0 hA_l1) rfl (mk_fA5 hA_l1 ho7) ?_
      refine en_iload mc135_45 rfl ?_
      refine en_iald mc135_47 (mk_A5 hA_l1) g11 g12 ?_
      refine en_icmp_ge 76 mc135_48 (by decide) (ho7.2.1 (l1 + 4) l4 ((mk_nA4 hA_l1) _)) (ho7.2.1 (l1 + 5) l5 ((mk_nA5 hA_l1) _)) (fun q => ?_) (fun q => ?_)
      · replace h := h.1 q
        exact h
      · replace h := h.2 q
        obtain ⟨g13, h⟩ := h
        obtain ⟨g14, h⟩ := h
        obtain ⟨g15, h⟩ := h
        obtain ⟨g16, h⟩ := h
        refine en_aload_n mc135_51 rfl ?_
        refine en_getR (b := (l1 + 4)) mv135 mc135_52 (lk_f4_42) (mk_A0 hA_l1) rfl (mk_fA4 hA_l1 ho7) ?_
        refine en_iload mc135_55 rfl ?_
        refine en_iald mc135_57 (mk_A4 hA_l1) g13 g14 ?_
        refine en_aload_n mc135_58 rfl ?_
        refine en_getR (b := (l1 + 5)) mv135 mc135_59 (lk_f4_45) (mk_A0 hA_l1) rfl (mk_fA5 hA_l1 ho7) ?_
        refine en_iload mc135_62 rfl ?_
        refine en_iald mc135_64 (mk_A5 hA_l1) g15 g16 ?_
        refine en_icmp_ge 76 mc135_65 (by decide) (ho7.2.1 (l1 + 4) l5 ((mk_nA4 hA_l1) _)) (ho7.2.1 (l1 + 5) l4 ((mk_nA5 hA_l1) _)) (fun q => ?_) (fun q => ?_)
        · replace h := h.1 q
          exact h
        · replace h := h.2 q
          refine en_aload_n mc135_68 rfl ?_
          refine en_iload mc135_69 rfl ?_
          refine en_iload mc135_71 rfl ?_
          refine en_callV (lz := [mm_r 21, mm_i l4, mm_i l5, mm_u, mm_u]) mv135 mc135_73 rfl rfl (lk_m4_48) mv134 rfl (by decide) rfl (mk_cokV rfl (⟨rfl, by decide⟩ : mt_kd[21]? = some (.inl 4) ∧ 21 < 99)) rfl (mk_nh rfl _) ho7 ?_
          refine en_CV_mono h (fun M18 h => ?_) (fun _ _ h => h)
          intro ho19
          replace h := h ho19
          exact h
theorem vc135_76 {sc : Nat × (Int → Int)} {Q : mm_R → mm_M → Prop} {M : mm_M} {l1 : Nat} {l2 : Int} {l3 : Int} {l4 : Int} {l5 : Int} (ho : mr_ok M) (hA_l1 : mr_A l1)
    (h : 0 ≤ l4 ∧ (l4 < 400 ∧ (0 ≤ l5 ∧ (l5 < 400 ∧ (((M.1 (l1 + 5) l5) ≤ (M.1 (l1 + 5) l4) → en_R sc 135 14 [mm_r 21, mm_r l1, mm_i l2, mm_i l3, mm_i l4, mm_i (l5 + 1)] [] M Q) ∧ (¬ (M.1 (l1 + 5) l5) ≤ (M.1 (l1 + 5) l4) → en_R sc 135 14 [mm_r 21, mm_r l1, mm_i l2, mm_i l3, mm_i (l4 + 1), mm_i l5] [] M Q)))))) : en_R sc 135 76 [mm_r 21, mm_r l1, mm_i l2, mm_i l3, mm_i l4, mm_i l5] [] M Q := by
  obtain ⟨g1, h⟩ := h
  obtain ⟨g2, h⟩ := h
  obtain ⟨g3, h⟩ := h
  obtain ⟨g4, h⟩ := h
  refine en_aload_n mc135_76 rfl ?_
  refine en_getR (b := (l1 + 5)) mv135 mc135_77 (lk_f4_45) (mk_A0 hA_l1) rfl (mk_fA5 hA_l1 ho) ?_
  refine en_iload mc135_80 rfl ?_
  refine en_iald mc135_82 (mk_A5 hA_l1) g1 g2 ?_
  refine en_aload_n mc135_83 rfl ?_
  refine en_getR (b := (l1 + 5)) mv135 mc135_84 (lk_f4_45) (mk_A0 hA_l1) rfl (mk_fA5 hA_l1 ho) ?_
  refine en_iload mc135_87 rfl ?_
  refine en_iald mc135_89 (mk_A5 hA_l1) g3 g4 ?_
  refine en_icmp_ge 99 mc135_90 (by decide) (ho.2.1 (l1 + 5) l4 ((mk_nA5 hA_l1) _)) (ho.2.1 (l1 + 5) l5 ((mk_nA5 hA_l1) _)) (fun q => ?_) (fun q => ?_)
  · replace h := h.1 q
    refine en_iinc (ls' := [mm_r 21, mm_r l1, mm_i l2, mm_i l3, mm_i l4, mm_i (l5 + 1)]) mc135_99 rfl rfl ?_
    refine en_goto 14 mc135_102 (by decide) ?_
    exact h
  · replace h := h.2 q
    refine en_iinc (ls' := [mm_r 21, mm_r l1, mm_i l2, mm_i l3, mm_i (l4 + 1), mm_i l5]) mc135_93 rfl rfl ?_
    refine en_goto 14 mc135_96 (by decide) ?_
    exact h
/-! 136: CellAreas$Parts.find(LCellAreas$Area;)V -/
theorem mc136_0 : mr_C 136 0 = some (.iconst 0, 1) := rfl
theorem mc136_1 : mr_C 136 1 = some (.istore_n 2, 1) := rfl
theorem mc136_2 : mr_C 136 2 = some (.iload_n 2, 1) := by decide +kernel
theorem mc136_3 : mr_C 136 3 = some (.aload_n 1, 1) := by decide +kernel
theorem mc136_4 : mr_C 136 4 = some (.invokevirtual 19, 3) := by decide +kernel
theorem mc136_7 : mr_C 136 7 = some (.if_icmp .ge (16), 3) := by decide +kernel
theorem mc136_10 : mr_C 136 10 = some (.aload_n 0, 1) := by decide +kernel
theorem mc136_11 : mr_C 136 11 = some (.getfield 15, 3) := by decide +kernel
theorem mc136_14 : mr_C 136 14 = some (.iload_n 2, 1) := by decide +kernel
theorem mc136_15 : mr_C 136 15 = some (.iload_n 2, 1) := by decide +kernel
theorem mc136_16 : mr_C 136 16 = some (.iastore, 1) := by decide +kernel
theorem mc136_17 : mr_C 136 17 = some (.iinc 2 (1), 3) := by decide +kernel
theorem mc136_20 : mr_C 136 20 = some (.goto (-18), 3) := by decide +kernel
theorem mc136_23 : mr_C 136 23 = some (.iconst 0, 1) := by decide +kernel
theorem mc136_24 : mr_C 136 24 = some (.istore_n 2, 1) := by decide +kernel
theorem mc136_25 : mr_C 136 25 = some (.iload_n 2, 1) := by decide +kernel
theorem mc136_26 : mr_C 136 26 = some (.aload_n 1, 1) := by decide +kernel
theorem mc136_27 : mr_C 136 27 = some (.getfield 25, 3) := by decide +kernel
theorem mc136_30 : mr_C 136 30 = some (.if_icmp .ge (20), 3) := by decide +kernel
theorem mc136_33 : mr_C 136 33 = some (.aload_n 0, 1) := by decide +kernel
theorem mc136_34 : mr_C 136 34 = some (.aload_n 1, 1) := by decide +kernel
theorem mc136_35 : mr_C 136 35 = some (.iload_n 2, 1) := by decide +kernel
theorem mc136_36 : mr_C 136 36 = some (.aload_n 1, 1) := by decide +kernel
theorem mc136_37 : mr_C 136 37 = some (.iload_n 2, 1) := by decide +kernel
theorem mc136_38 : mr_C 136 38 = some (.invokevirtual 28, 3) := by decide +kernel
theorem mc136_41 : mr_C 136 41 = some (.invokevirtual 32, 3) := by decide +kernel
theorem mc136_44 : mr_C 136 44 = some (.iinc 2 (1), 3) := by decide +kernel
theorem mc136_47 : mr_C 136 47 = some (.goto (-22), 3) := by decide +kernel
theorem mc136_50 : mr_C 136 50 = some (.aload_n 0, 1) := by decide +kernel
theorem mc136_51 : mr_C 136 51 = some (.iconst 0, 1) := by decide +kernel
theorem mc136_52 : mr_C 136 52 = some (.putfield 9, 3) := by decide +kernel
theorem mc136_55 : mr_C 136 55 = some (.iconst 0, 1) := by decide +kernel
theorem mc136_56 : mr_C 136 56 = some (.istore_n 2, 1) := by decide +kernel
theorem mc136_57 : mr_C 136 57 = some (.iload_n 2, 1) := by decide +kernel
theorem mc136_58 : mr_C 136 58 = some (.aload_n 1, 1) := by decide +kernel
theorem mc136_59 : mr_C 136 59 = some (.invokevirtual 19, 3) := by decide +kernel
theorem mc136_62 : mr_C 136 62 = some (.if_icmp .ge (50), 3) := by decide +kernel
theorem mc136_65 : mr_C 136 65 = some (.aload_n 0, 1) := by decide +kernel
theorem mc136_66 : mr_C 136 66 = some (.getfield 15, 3) := by decide +kernel
theorem mc136_69 : mr_C 136 69 = some (.iload_n 2, 1) := by decide +kernel
theorem mc136_70 : mr_C 136 70 = some (.aload_n 0, 1) := by decide +kernel
theorem mc136_71 : mr_C 136 71 = some (.getfield 15, 3) := by decide +kernel
theorem mc136_74 : mr_C 136 74 = some (.iload_n 2, 1) := by decide +kernel
theorem mc136_75 : mr_C 136 75 = some (.iaload, 1) := by decide +kernel
theorem mc136_76 : mr_C 136 76 = some (.iload_n 2, 1) := by decide +kernel
theorem mc136_77 : mr_C 136 77 = some (.if_icmp .ne (17), 3) := by decide +kernel
theorem mc136_80 : mr_C 136 80 = some (.aload_n 0, 1) := by decide +kernel
theorem mc136_81 : mr_C 136 81 = some (.dup, 1) := by decide +kernel
theorem mc136_82 : mr_C 136 82 = some (.getfield 9, 3) := by decide +kernel
theorem mc136_85 : mr_C 136 85 = some (.dup_x1, 1) := by decide +kernel
theorem mc136_86 : mr_C 136 86 = some (.iconst 1, 1) := by decide +kernel
theorem mc136_87 : mr_C 136 87 = some (.iadd, 1) := by decide +kernel
theorem mc136_88 : mr_C 136 88 = some (.putfield 9, 3) := by decide +kernel
theorem mc136_91 : mr_C 136 91 = some (.goto 14, 3) := by decide +kernel
theorem mc136_94 : mr_C 136 94 = some (.aload_n 0, 1) := by decide +kernel
theorem mc136_95 : mr_C 136 95 = some (.getfield 15, 3) := by decide +kernel
theorem mc136_98 : mr_C 136 98 = some (.aload_n 0, 1) := by decide +kernel
theorem mc136_99 : mr_C 136 99 = some (.getfield 15, 3) := by decide +kernel
theorem mc136_102 : mr_C 136 102 = some (.iload_n 2, 1) := by decide +kernel
theorem mc136_103 : mr_C 136 103 = some (.iaload, 1) := by decide +kernel
theorem mc136_104 : mr_C 136 104 = some (.iaload, 1) := by decide +kernel
theorem mc136_105 : mr_C 136 105 = some (.iastore, 1) := by decide +kernel
theorem mc136_106 : mr_C 136 106 = some (.iinc 2 (1), 3) := by decide +kernel
theorem mc136_109 : mr_C 136 109 = some (.goto (-52), 3) := by decide +kernel
theorem mc136_112 : mr_C 136 112 = some (.return_, 1) := by decide +kernel
theorem vc136_0 {sc : Nat × (Int → Int)} {Q : mm_R → mm_M → Prop} {M : mm_M} {l1 : Nat} (ho : mr_ok M)
    (h : en_R sc 136 2 [mm_r 21, mm_r l1, mm_i 0] [] M Q) : en_R sc 136 0 [mm_r 21, mm_r l1, mm_u] [] M Q := by
  refine en_iconst mc136_0 ?_
  refine en_istore_n (ls' := [mm_r 21, mm_r l1, mm_i 0]) mc136_1 (Nat.le_of_ble_eq_true rfl) rfl ?_
  exact h
theorem vc136_2 {sc : Nat × (Int → Int)} {Q : mm_R → mm_M → Prop} {M : mm_M} {l1 : Nat} {l2 : Int} (ho : mr_ok M) (hA_l1 : mr_A l1) (hg_l2 : mr_rg l2)
    (h : en_CI sc 79 [mm_r l1] M (fun x1 M2 => mr_ok M2 → mr_rg x1 ∧ ((x1 ≤ l2 → en_R sc 136 25 [mm_r 21, mm_r l1, mm_i 0] [] M2 Q) ∧ (¬ x1 ≤ l2 → 0 ≤ l2 ∧ (l2 < 400 ∧ (en_R sc 136 2 [mm_r 21, mm_r l1, mm_i (l2 + 1)] [] (mm_putN M2 22 l2 l2) Q))))) (fun e M9 => Q (.inr e) M9)) : en_R sc 136 2 [mm_r 21, mm_r l1, mm_i l2] [] M Q := by
  refine en_iload_n mc136_2 rfl ?_
  refine en_aload_n mc136_3 rfl ?_
  refine en_callI (lz := [mm_r l1]) mv136 mc136_4 rfl rfl (lk_m4_19) mv79 rfl (by decide) rfl (mk_cokV rfl (mk_A0 hA_l1)) rfl (mk_nh rfl _) ho ?_
  refine en_CI_mono h (fun x1 M2 h => ?_) (fun _ _ h => h)
  intro ho3
  replace h := h ho3
  obtain ⟨g4, h⟩ := h
  refine en_icmp_ge 23 mc136_7 (by decide) hg_l2 g4 (fun q => ?_) (fun q => ?_)
  · replace h := h.1 q
    refine en_iconst mc136_23 ?_
    refine en_istore_n (ls' := [mm_r 21, mm_r l1, mm_i 0]) mc136_24 (Nat.le_of_ble_eq_true rfl) rfl ?_
    exact h
  · replace h := h.2 q
    obtain ⟨g5, h⟩ := h
    obtain ⟨g6, h⟩ := h
    refine en_aload_n mc136_10 rfl ?_
    refine en_getR (b := 22) mv136 mc136_11 (lk_f4_15) (⟨rfl, by decide⟩ : mt_kd[21]? = some (.inl 4) ∧ 21 < 99) rfl (mk_fc ho3 (by decide +kernel)) ?_
    refine en_iload_n mc136_14 rfl ?_
    refine en_iload_n mc136_15 rfl ?_
    refine en_iast mc136_16 (⟨rfl, by decide, by decide⟩ : mt_kd[22]? = some (.inr (.int, 400)) ∧ 22 < 99 ∧ 400 < 2147483648) g5 g6 hg_l2 ?_
    refine en_iinc (ls' := [mm_r 21, mm_r l1, mm_i (l2 + 1)]) mc136_17 rfl rfl ?_
    refine en_goto 2 mc136_20 (by decide) ?_
    exact h
theorem vc136_25 {sc : Nat × (Int → Int)} {Q : mm_R → mm_M → Prop} {M : mm_M} {l1 : Nat} {l2 : Int} (ho : mr_ok M) (hA_l1 : mr_A l1) (hg_l2 : mr_rg l2)
    (h : ((M.1 l1 0) ≤ l2 → en_R sc 136 57 [mm_r 21, mm_r l1, mm_i 0] [] (mm_putN M 21 0 0) Q) ∧ (¬ (M.1 l1 0) ≤ l2 → en_CI sc 119 [mm_r l1, mm_i l2] M (fun x1 M2 => mr_ok M2 → en_CV sc 135 [mm_r 21, mm_r l1, mm_i l2, mm_i x1, mm_u, mm_u] M2 (fun M5 => mr_ok M5 → en_R sc 136 25 [mm_r 21, mm_r l1, mm_i (l2 + 1)] [] M5 Q) (fun e M9 => Q (.inr e) M9)) (fun e M9 => Q (.inr e) M9))) : en_R sc 136 25 [mm_r 21, mm_r l1, mm_i l2] [] M Q := by
  refine en_iload_n mc136_25 rfl ?_
  refine en_aload_n mc136_26 rfl ?_
  refine en_getI mv136 mc136_27 (lk_f4_25) (mk_A0 hA_l1) (Or.inl rfl) ?_
  refine en_icmp_ge 50 mc136_30 (by decide) hg_l2 (ho.2.1 l1 0 (mk_nA0 hA_l1 _)) (fun q => ?_) (fun q => ?_)
  · replace h := h.1 q
    refine en_aload_n mc136_50 rfl ?_
    refine en_iconst mc136_51 ?_
    refine en_putI mv136 mc136_52 (lk_f4_9) (⟨rfl, by decide⟩ : mt_kd[21]? = some (.inl 4) ∧ 21 < 99) rfl rfl (⟨by decide, by decide⟩ : mr_rg 0) ?_
    refine en_iconst mc136_55 ?_
    refine en_istore_n (ls' := [mm_r 21, mm_r l1, mm_i 0]) mc136_56 (Nat.le_of_ble_eq_true rfl) rfl ?_
    exact h
  · replace h := h.2 q
    refine en_aload_n mc136_33 rfl ?_
    refine en_aload_n mc136_34 rfl ?_
    refine en_iload_n mc136_35 rfl ?_
    refine en_aload_n mc136_36 rfl ?_
    refine en_iload_n mc136_37 rfl ?_
    refine en_callI (lz := [mm_r l1, mm_i l2]) mv136 mc136_38 rfl rfl (lk_m4_28) mv119 rfl (by decide) rfl (mk_cokV rfl (mk_A0 hA_l1)) rfl (mk_nh rfl _) ho ?_
    refine en_CI_mono h (fun x1 M2 h => ?_) (fun _ _ h => h)
    intro ho3
    replace h := h ho3
    refine en_callV (lz := [mm_r 21, mm_r l1, mm_i l2, mm_i x1, mm_u, mm_u]) mv136 mc136_41 rfl rfl (lk_m4_32) mv135 rfl (by decide) rfl (mk_cokV rfl (⟨rfl, by decide⟩ : mt_kd[21]? = some (.inl 4) ∧ 21 < 99)) rfl (mk_nh rfl _) ho3 ?_
    refine en_CV_mono h (fun M5 h => ?_) (fun _ _ h => h)
    intro ho6
    replace h := h ho6
    refine en_iinc (ls' := [mm_r 21, mm_r l1, mm_i (l2 + 1)]) mc136_44 rfl rfl ?_
    refine en_goto 25 mc136_47 (by decide) ?_
    exact h
theorem vc136_57 {sc : Nat × (Int → Int)} {Q : mm_R → mm_M → Prop} {M : mm_M} {l1 : Nat} {l2 : Int} (ho : mr_ok M) (hA_l1 : mr_A l1) (hg_l2 : mr_rg l2)
    (h : en_CI sc 79 [mm_r l1] M (fun x1 M2 => mr_ok M2 → mr_rg x1 ∧ ((x1 ≤ l2 → Q (.inl none) M2) ∧ (¬ x1 ≤ l2 → 0 ≤ l2 ∧ (l2 < 400 ∧ (((M2.1 22 l2) ≠ l2 → 0 ≤ l2 ∧ (l2 < 400 ∧ (0 ≤ (M2.1 22 l2) ∧ ((M2.1 22 l2) < 400 ∧ (0 ≤ l2 ∧ (l2 < 400 ∧ (en_R sc 136 57 [mm_r 21, mm_r l1, mm_i (l2 + 1)] [] (mm_putN M2 22 l2 (M2.1 22 (M2.1 22 l2))) Q))))))) ∧ (¬ ((M2.1 22 l2) ≠ l2) → mr_rg ((M2.1 21 0) + 1) ∧ (0 ≤ l2 ∧ (l2 < 400 ∧ (en_R sc 136 57 [mm_r 21, mm_r l1, mm_i (l2 + 1)] [] (mm_putN (mm_putN M2 21 0 ((M2.1 21 0) + 1)) 22 l2 (M2.1 21 0)) Q))))))))) (fun e M9 => Q (.inr e) M9)) : en_R sc 136 57 [mm_r 21, mm_r l1, mm_i l2] [] M Q := by
  refine en_iload_n mc136_57 rfl ?_
  refine en_aload_n mc136_58 rfl ?_
  refine en_callI (lz := [mm_r l1]) mv136 mc136_59 rfl rfl (lk_m4_19) mv79 rfl (by decide) rfl (mk_cokV rfl (mk_A0 hA_l1)) rfl (mk_nh rfl _) ho ?_
  refine en_CI_mono h (fun x1 M2 h => ?_) (fun _ _ h => h)
  intro ho3
  replace h := h ho3
  obtain ⟨g4, h⟩ := h
  refine en_icmp_ge 112 mc136_62 (by decide) hg_l2 g4 (fun q => ?_) (fun q => ?_)
  · replace h := h.1 q
    exact en_vret mv136 mc136_112 rfl h
  · replace h := h.2 q
    obtain ⟨g5, h⟩ := h
    obtain ⟨g6, h⟩ := h
    refine en_aload_n mc136_65 rfl ?_
    refine en_getR (b := 22) mv136 mc136_66 (lk_f4_15) (⟨rfl, by decide⟩ : mt_kd[21]? = some (.inl 4) ∧ 21 < 99) rfl (mk_fc ho3 (by decide +kernel)) ?_
    refine en_iload_n mc136_69 rfl ?_
    refine en_aload_n mc136_70 rfl ?_
    refine en_getR (b := 22) mv136 mc136_71 (lk_f4_15) (⟨rfl, by decide⟩ : mt_kd[21]? = some (.inl 4) ∧ 21 < 99) rfl (mk_fc ho3 (by decide +kernel)) ?_
    refine en_iload_n mc136_74 rfl ?_
    refine en_iald mc136_75 (⟨rfl, by decide, by decide⟩ : mt_kd[22]? = some (.inr (.int, 400)) ∧ 22 < 99 ∧ 400 < 2147483648) g5 g6 ?_
    refine en_iload_n mc136_76 rfl ?_
    refine en_icmp_ne 94 mc136_77 (by decide) (ho3.2.1 22 l2 (by unfold mr_lg; omega)) hg_l2 (fun q => ?_) (fun q => ?_)
    · replace h := h.1 q
      obtain ⟨g7, h⟩ := h
      obtain ⟨g8, h⟩ := h
      obtain ⟨g9, h⟩ := h
      obtain ⟨g10, h⟩ := h
      obtain ⟨g11, h⟩ := h
      obtain ⟨g12, h⟩ := h
      refine en_aload_n mc136_94 rfl ?_
      refine en_getR (b := 22) mv136 mc136_95 (lk_f4_15) (⟨rfl, by decide⟩ : mt_kd[21]? = some (.inl 4) ∧ 21 < 99) rfl (mk_fc ho3 (by decide +kernel)) ?_
      refine en_aload_n mc136_98 rfl ?_
      refine en_getR (b := 22) mv136 mc136_99 (lk_f4_15) (⟨rfl, by decide⟩ : mt_kd[21]? = some (.inl 4) ∧ 21 < 99) rfl (mk_fc ho3 (by decide +kernel)) ?_
      refine en_iload_n mc136_102 rfl ?_
      refine en_iald mc136_103 (⟨rfl, by decide, by decide⟩ : mt_kd[22]? = some (.inr (.int, 400)) ∧ 22 < 99 ∧ 400 < 2147483648) g7 g8 ?_
      refine en_iald mc136_104 (⟨rfl, by decide, by decide⟩ : mt_kd[22]? = some (.inr (.int, 400)) ∧ 22 < 99 ∧ 400 < 2147483648) g9 g10 ?_
      refine en_iast mc136_105 (⟨rfl, by decide, by decide⟩ : mt_kd[22]? = some (.inr (.int, 400)) ∧ 22 < 99 ∧ 400 < 2147483648) g11 g12 (ho3.2.1 22 (M2.1 22 l2) (by unfold mr_lg; omega)) ?_
      refine en_iinc (ls' := [mm_r 21, mm_r l1, mm_i (l2 + 1)]) mc136_106 rfl rfl ?_
      refine en_goto 57 mc136_109 (by decide) ?_
      exact h
    · replace h := h.2 q
      obtain ⟨g13, h⟩ := h
      obtain ⟨g14, h⟩ := h
      obtain ⟨g15, h⟩ := h
      refine en_aload_n mc136_80 rfl ?_
      refine en_dup mc136_81 rfl ?_
      refine en_getI mv136 mc136_82 (lk_f4_9) (⟨rfl, by decide⟩ : mt_kd[21]? = some (.inl 4) ∧ 21 < 99) (Or.inl rfl) ?_
      refine en_dup_x1 mc136_85 rfl rfl ?_
      refine en_iconst mc136_86 ?_
      refine en_iadd mc136_87 ?_
      refine en_putI mv136 mc136_88 (lk_f4_9) (⟨rfl, by decide⟩ : mt_kd[21]? = some (.inl 4) ∧ 21 < 99) rfl rfl g13 ?_
      refine en_goto 105 mc136_91 (by decide) ?_
      refine en_iast mc136_105 (⟨rfl, by decide, by decide⟩ : mt_kd[22]? = some (.inr (.int, 400)) ∧ 22 < 99 ∧ 400 < 2147483648) g14 g15 (ho3.2.1 21 0 (by unfold mr_lg; omega)) ?_
      refine en_iinc (ls' := [mm_r 21, mm_r l1, mm_i (l2 + 1)]) mc136_106 rfl rfl ?_
      refine en_goto 57 mc136_109 (by decide) ?_
      exact h
/-! 137: CellAreas.partsOf(I)LCellAreas$Parts; -/
theorem mc137_0 : mr_C 137 0 = some (.aload_n 0, 1) := rfl
theorem mc137_1 : mr_C 137 1 = some (.getfield 49, 3) := rfl
theorem mc137_4 : mr_C 137 4 = some (.aload_n 0, 1) := by decide +kernel
theorem mc137_5 : mr_C 137 5 = some (.getfield 11, 3) := by decide +kernel
theorem mc137_8 : mr_C 137 8 = some (.iload_n 1, 1) := by decide +kernel
theorem mc137_9 : mr_C 137 9 = some (.aaload, 1) := by decide +kernel
theorem mc137_10 : mr_C 137 10 = some (.invokevirtual 268, 3) := by decide +kernel
theorem mc137_13 : mr_C 137 13 = some (.aload_n 0, 1) := by decide +kernel
theorem mc137_14 : mr_C 137 14 = some (.getfield 49, 3) := by decide +kernel
theorem mc137_17 : mr_C 137 17 = some (.areturn, 1) := by decide +kernel
theorem vc137_0 {sc : Nat × (Int → Int)} {Q : mm_R → mm_M → Prop} {M : mm_M} {l1 : Int} (ho : mr_ok M)
    (h : 0 ≤ l1 ∧ (l1 < 8 ∧ (∃ b3, M.2.1 1 l1 = some b3 ∧ mr_A b3 ∧ (en_CV sc 136 [mm_r 21, mm_r b3, mm_u] M (fun M6 => mr_ok M6 → Q (.inl (some (mm_r 21))) M6) (fun e M9 => Q (.inr e) M9))))) : en_R sc 137 0 [mm_r 0, mm_i l1] [] M Q := by
  obtain ⟨g1, h⟩ := h
  obtain ⟨g2, h⟩ := h
  refine en_aload_n mc137_0 rfl ?_
  refine en_getR (b := 21) mv137 mc137_1 (lk_f6_49) (⟨rfl, by decide⟩ : mt_kd[0]? = some (.inl 6) ∧ 0 < 99) rfl (mk_fc ho (by decide +kernel)) ?_
  refine en_aload_n mc137_4 rfl ?_
  refine en_getR (b := 1) mv137 mc137_5 (lk_f6_11) (⟨rfl, by decide⟩ : mt_kd[0]? = some (.inl 6) ∧ 0 < 99) rfl (mk_fc ho (by decide +kernel)) ?_
  refine en_iload_n mc137_8 rfl ?_
  obtain ⟨b3, g4, hA_b3_, h⟩ := h
  refine en_aald mc137_9 g1 g2 g4 ?_
  refine en_callV (lz := [mm_r 21, mm_r b3, mm_u]) mv137 mc137_10 rfl rfl (lk_m6_268) mv136 rfl (by decide) rfl (mk_cokV rfl (⟨rfl, by decide⟩ : mt_kd[21]? = some (.inl 4) ∧ 21 < 99)) rfl (mk_nh rfl _) ho ?_
  refine en_CV_mono h (fun M6 h => ?_) (fun _ _ h => h)
  intro ho7
  replace h := h ho7
  refine en_aload_n mc137_13 rfl ?_
  refine en_getR (b := 21) mv137 mc137_14 (lk_f6_49) (⟨rfl, by decide⟩ : mt_kd[0]? = some (.inl 6) ∧ 0 < 99) rfl (mk_fc ho7 (by decide +kernel)) ?_
  exact en_aret mv137 mc137_17 rfl h
/-! 138: CellAreas$Loops.goesRound(I)I -/
theorem mc138_0 : mr_C 138 0 = some (.lconst 0, 1) := rfl
theorem mc138_1 : mr_C 138 1 = some (.lstore_n 2, 1) := by decide +kernel
theorem mc138_2 : mr_C 138 2 = some (.aload_n 0, 1) := by decide +kernel
theorem mc138_3 : mr_C 138 3 = some (.getfield 22, 3) := by decide +kernel
theorem mc138_6 : mr_C 138 6 = some (.iload_n 1, 1) := by decide +kernel
theorem mc138_7 : mr_C 138 7 = some (.iaload, 1) := by decide +kernel
theorem mc138_8 : mr_C 138 8 = some (.istore 4, 2) := by decide +kernel
theorem mc138_10 : mr_C 138 10 = some (.iload 4, 2) := by decide +kernel
theorem mc138_12 : mr_C 138 12 = some (.aload_n 0, 1) := by decide +kernel
theorem mc138_13 : mr_C 138 13 = some (.getfield 22, 3) := by decide +kernel
theorem mc138_16 : mr_C 138 16 = some (.iload_n 1, 1) := by decide +kernel
theorem mc138_17 : mr_C 138 17 = some (.iconst 1, 1) := by decide +kernel
theorem mc138_18 : mr_C 138 18 = some (.iadd, 1) := by decide +kernel
theorem mc138_19 : mr_C 138 19 = some (.iaload, 1) := by decide +kernel
theorem mc138_20 : mr_C 138 20 = some (.if_icmp .ge (52), 3) := by decide +kernel
theorem mc138_23 : mr_C 138 23 = some (.aload_n 0, 1) := by decide +kernel
theorem mc138_24 : mr_C 138 24 = some (.iload_n 1, 1) := by decide +kernel
theorem mc138_25 : mr_C 138 25 = some (.iload 4, 2) := by decide +kernel
theorem mc138_27 : mr_C 138 27 = some (.invokevirtual 101, 3) := by decide +kernel
theorem mc138_30 : mr_C 138 30 = some (.istore 5, 2) := by decide +kernel
theorem mc138_32 : mr_C 138 32 = some (.lload_n 2, 1) := by decide +kernel
theorem mc138_33 : mr_C 138 33 = some (.aload_n 0, 1) := by decide +kernel
theorem mc138_34 : mr_C 138 34 = some (.iload 4, 2) := by decide +kernel
theorem mc138_36 : mr_C 138 36 = some (.invokevirtual 104, 3) := by decide +kernel
theorem mc138_39 : mr_C 138 39 = some (.i2l, 1) := by decide +kernel
theorem mc138_40 : mr_C 138 40 = some (.aload_n 0, 1) := by decide +kernel
theorem mc138_41 : mr_C 138 41 = some (.iload 5, 2) := by decide +kernel
theorem mc138_43 : mr_C 138 43 = some (.invokevirtual 112, 3) := by decide +kernel
theorem mc138_46 : mr_C 138 46 = some (.i2l, 1) := by decide +kernel
theorem mc138_47 : mr_C 138 47 = some (.lmul, 1) := by decide +kernel
theorem mc138_48 : mr_C 138 48 = some (.aload_n 0, 1) := by decide +kernel
theorem mc138_49 : mr_C 138 49 = some (.iload 5, 2) := by decide +kernel
theorem mc138_51 : mr_C 138 51 = some (.invokevirtual 104, 3) := by decide +kernel
theorem mc138_54 : mr_C 138 54 = some (.i2l, 1) := by decide +kernel
theorem mc138_55 : mr_C 138 55 = some (.aload_n 0, 1) := by decide +kernel
theorem mc138_56 : mr_C 138 56 = some (.iload 4, 2) := by decide +kernel
theorem mc138_58 : mr_C 138 58 = some (.invokevirtual 112, 3) := by decide +kernel
theorem mc138_61 : mr_C 138 61 = some (.i2l, 1) := by decide +kernel
theorem mc138_62 : mr_C 138 62 = some (.lmul, 1) := by decide +kernel
theorem mc138_63 : mr_C 138 63 = some (.lsub, 1) := by decide +kernel
theorem mc138_64 : mr_C 138 64 = some (.ladd, 1) := by decide +kernel
theorem mc138_65 : mr_C 138 65 = some (.lstore_n 2, 1) := by decide +kernel
theorem mc138_66 : mr_C 138 66 = some (.iinc 4 (1), 3) := by decide +kernel
theorem mc138_69 : mr_C 138 69 = some (.goto (-59), 3) := by decide +kernel
theorem mc138_72 : mr_C 138 72 = some (.lload_n 2, 1) := by decide +kernel
theorem mc138_73 : mr_C 138 73 = some (.ldc2_w 115, 3) := by decide +kernel
theorem mc138_76 : mr_C 138 76 = some (.ldiv, 1) := by decide +kernel
theorem mc138_77 : mr_C 138 77 = some (.l2i, 1) := by decide +kernel
theorem mc138_78 : mr_C 138 78 = some (.ireturn, 1) := by decide +kernel
theorem vc138_0 {sc : Nat × (Int → Int)} {Q : mm_R → mm_M → Prop} {M : mm_M} {l1 : Int} (ho : mr_ok M)
    (h : 0 ≤ l1 ∧ (l1 < 401 ∧ (en_R sc 138 10 [mm_r 17, mm_i l1, mm_j 0, mm_u, mm_i (M.1 19 l1), mm_u] [] M Q))) : en_R sc 138 0 [mm_r 17, mm_i l1, mm_u, mm_u, mm_u, mm_u] [] M Q := by
  obtain ⟨g1, h⟩ := h
  obtain ⟨g2, h⟩ := h
  refine en_lconst mc138_0 ?_
  refine en_lstore_n (ls' := [mm_r 17, mm_i l1, mm_j 0, mm_u, mm_u, mm_u]) mc138_1 (Nat.le_of_ble_eq_true rfl) rfl ?_
  refine en_aload_n mc138_2 rfl ?_
  refine en_getR (b := 19) mv138 mc138_3 (lk_f3_22) (⟨rfl, by decide⟩ : mt_kd[17]? = some (.inl 3) ∧ 17 < 99) rfl (mk_fc ho (by decide +kernel)) ?_
  refine en_iload_n mc138_6 rfl ?_
  refine en_iald mc138_7 (⟨rfl, by decide, by decide⟩ : mt_kd[19]? = some (.inr (.int, 401)) ∧ 19 < 99 ∧ 401 < 2147483648) g1 g2 ?_
  refine en_istore (ls' := [mm_r 17, mm_i l1, mm_j 0, mm_u, mm_i (M.1 19 l1), mm_u]) mc138_8 (Nat.le_of_ble_eq_true rfl) rfl ?_
  exact h
theorem vc138_10 {sc : Nat × (Int → Int)} {Q : mm_R → mm_M → Prop} {M : mm_M} {l1 : Int} {l2 : Int} {l4 : Int} {l5 : mm_V} (ho : mr_ok M) (hg_l4 : mr_rg l4)
    (h : 0 ≤ (l1 + 1) ∧ ((l1 + 1) < 401 ∧ (((M.1 19 (l1 + 1)) ≤ l4 → Q (.inl (some (mm_i (mr_ldiv l2 2)))) M) ∧ (¬ (M.1 19 (l1 + 1)) ≤ l4 → en_CI sc 127 [mm_r 17, mm_i l1, mm_i l4] M (fun x3 M4 => mr_ok M4 → en_CI sc 128 [mm_r 17, mm_i l4] M4 (fun x6 M7 => mr_ok M7 → mr_rg x6 ∧ (en_CI sc 130 [mm_r 17, mm_i x3] M7 (fun x10 M11 => mr_ok M11 → mr_rg x10 ∧ (en_CI sc 128 [mm_r 17, mm_i x3] M11 (fun x14 M15 => mr_ok M15 → mr_rg x14 ∧ (en_CI sc 130 [mm_r 17, mm_i l4] M15 (fun x18 M19 => mr_ok M19 → mr_rg x18 ∧ (en_R sc 138 10 [mm_r 17, mm_i l1, mm_j (l2 + ((x6 * x10) - (x14 * x18))), mm_u, mm_i (l4 + 1), mm_i x3] [] M19 Q)) (fun e M9 => Q (.inr e) M9))) (fun e M9 => Q (.inr e) M9))) (fun e M9 => Q (.inr e) M9))) (fun e M9 => Q (.inr e) M9)) (fun e M9 => Q (.inr e) M9))))) : en_R sc 138 10 [mm_r 17, mm_i l1, mm_j l2, mm_u, mm_i l4, l5] [] M Q := by
  obtain ⟨g1, h⟩ := h
  obtain ⟨g2, h⟩ := h
  refine en_iload mc138_10 rfl ?_
  refine en_aload_n mc138_12 rfl ?_
  refine en_getR (b := 19) mv138 mc138_13 (lk_f3_22) (⟨rfl, by decide⟩ : mt_kd[17]? = some (.inl 3) ∧ 17 < 99) rfl (mk_fc ho (by decide +kernel)) ?_
  refine en_iload_n mc138_16 rfl ?_
  refine en_iconst mc138_17 ?_
  refine en_iadd mc138_18 ?_
  refine en_iald mc138_19 (⟨rfl, by decide, by decide⟩ : mt_kd[19]? = some (.inr (.int, 401)) ∧ 19 < 99 ∧ 401 < 2147483648) g1 g2 ?_
  refine en_icmp_ge 72 mc138_20 (by decide) hg_l4 (ho.2.1 19 (l1 + 1) (by unfold mr_lg; omega)) (fun q => ?_) (fun q => ?_)
  · replace h := h.1 q
    refine en_lload_n mc138_72 rfl ?_
    refine en_ldc2 mv138 mc138_73 rfl ?_
    refine en_ldiv mc138_76 (by decide) ?_
    refine en_l2i mc138_77 ?_
    exact en_iret mv138 mc138_78 rfl h
  · replace h := h.2 q
    refine en_aload_n mc138_23 rfl ?_
    refine en_iload_n mc138_24 rfl ?_
    refine en_iload mc138_25 rfl ?_
    refine en_callI (lz := [mm_r 17, mm_i l1, mm_i l4]) mv138 mc138_27 rfl rfl (lk_m3_101) mv127 rfl (by decide) rfl (mk_cokV rfl (⟨rfl, by decide⟩ : mt_kd[17]? = some (.inl 3) ∧ 17 < 99)) rfl (mk_nh rfl _) ho ?_
    refine en_CI_mono h (fun x3 M4 h => ?_) (fun _ _ h => h)
    intro ho5
    replace h := h ho5
    refine en_istore (ls' := [mm_r 17, mm_i l1, mm_j l2, mm_u, mm_i l4, mm_i x3]) mc138_30 (Nat.le_of_ble_eq_true rfl) rfl ?_
    refine en_lload_n mc138_32 rfl ?_
    refine en_aload_n mc138_33 rfl ?_
    refine en_iload mc138_34 rfl ?_
    refine en_callI (lz := [mm_r 17, mm_i l4]) mv138 mc138_36 rfl rfl (lk_m3_104) mv128 rfl (by decide) rfl (mk_cokV rfl (⟨rfl, by decide⟩ : mt_kd[17]? = some (.inl 3) ∧ 17 < 99)) rfl (mk_nh rfl _) ho5 ?_
    refine en_CI_mono h (fun x6 M7 h => ?_) (fun _ _ h => h)
    intro ho8
    replace h := h ho8
    obtain ⟨g9, h⟩ := h
    refine en_i2l mc138_39 g9 ?_
    refine en_aload_n mc138_40 rfl ?_
    refine en_iload mc138_41 rfl ?_
    refine en_callI (lz := [mm_r 17, mm_i x3]) mv138 mc138_43 rfl rfl (lk_m3_112) mv130 rfl (by decide) rfl (mk_cokV rfl (⟨rfl, by decide⟩ : mt_kd[17]? = some (.inl 3) ∧ 17 < 99)) rfl (mk_nh rfl _) ho8 ?_
    refine en_CI_mono h (fun x10 M11 h => ?_) (fun _ _ h => h)
    intro ho12
    replace h := h ho12
    obtain ⟨g13, h⟩ := h
    refine en_i2l mc138_46 g13 ?_
    refine en_lmul mc138_47 ?_
    refine en_aload_n mc138_48 rfl ?_
    refine en_iload mc138_49 rfl ?_
    refine en_callI (lz := [mm_r 17, mm_i x3]) mv138 mc138_51 rfl rfl (lk_m3_104) mv128 rfl (by decide) rfl (mk_cokV rfl (⟨rfl, by decide⟩ : mt_kd[17]? = some (.inl 3) ∧ 17 < 99)) rfl (mk_nh rfl _) ho12 ?_
    refine en_CI_mono h (fun x14 M15 h => ?_) (fun _ _ h => h)
    intro ho16
    replace h := h ho16
    obtain ⟨g17, h⟩ := h
    refine en_i2l mc138_54 g17 ?_
    refine en_aload_n mc138_55 rfl ?_
    refine en_iload mc138_56 rfl ?_
    refine en_callI (lz := [mm_r 17, mm_i l4]) mv138 mc138_58 rfl rfl (lk_m3_112) mv130 rfl (by decide) rfl (mk_cokV rfl (⟨rfl, by decide⟩ : mt_kd[17]? = some (.inl 3) ∧ 17 < 99)) rfl (mk_nh rfl _) ho16 ?_
    refine en_CI_mono h (fun x18 M19 h => ?_) (fun _ _ h => h)
    intro ho20
    replace h := h ho20
    obtain ⟨g21, h⟩ := h
    refine en_i2l mc138_61 g21 ?_
    refine en_lmul mc138_62 ?_
    refine en_lsub mc138_63 ?_
    refine en_ladd mc138_64 ?_
    refine en_lstore_n (ls' := [mm_r 17, mm_i l1, mm_j (l2 + ((x6 * x10) - (x14 * x18))), mm_u, mm_i l4, mm_i x3]) mc138_65 (Nat.le_of_ble_eq_true rfl) rfl ?_
    refine en_iinc (ls' := [mm_r 17, mm_i l1, mm_j (l2 + ((x6 * x10) - (x14 * x18))), mm_u, mm_i (l4 + 1), mm_i x3]) mc138_66 rfl rfl ?_
    refine en_goto 10 mc138_69 (by decide) ?_
    exact h
