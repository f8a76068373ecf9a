/-! 40: CellAreasModel.box(IIIII)V -/
theorem mc40_0 : mr_C 40 0 = some (.iload_n 2, 1) := rfl
theorem mc40_1 : mr_C 40 1 = some (.sipush (-1000), 3) := rfl
theorem mc40_4 : mr_C 40 4 = some (.sipush 1000, 3) := rfl
theorem mc40_7 : mr_C 40 7 = some (.invokestatic 135, 3) := rfl
theorem mc40_10 : mr_C 40 10 = some (.ifCond .eq (60), 3) := rfl
theorem mc40_13 : mr_C 40 13 = some (.iload 4, 2) := rfl
theorem mc40_15 : mr_C 40 15 = some (.sipush (-1000), 3) := rfl
theorem mc40_18 : mr_C 40 18 = some (.sipush 1000, 3) := rfl
theorem mc40_21 : mr_C 40 21 = some (.invokestatic 135, 3) := rfl
theorem mc40_24 : mr_C 40 24 = some (.ifCond .eq (46), 3) := rfl
theorem mc40_27 : mr_C 40 27 = some (.iload_n 3, 1) := rfl
theorem mc40_28 : mr_C 40 28 = some (.sipush (-1000), 3) := rfl
theorem mc40_31 : mr_C 40 31 = some (.sipush 1000, 3) := rfl
theorem mc40_34 : mr_C 40 34 = some (.invokestatic 135, 3) := rfl
theorem mc40_37 : mr_C 40 37 = some (.ifCond .eq (33), 3) := rfl
theorem mc40_40 : mr_C 40 40 = some (.iload 5, 2) := rfl
theorem mc40_42 : mr_C 40 42 = some (.sipush (-1000), 3) := rfl
theorem mc40_45 : mr_C 40 45 = some (.sipush 1000, 3) := rfl
theorem mc40_48 : mr_C 40 48 = some (.invokestatic 135, 3) := rfl
theorem mc40_51 : mr_C 40 51 = some (.ifCond .eq (19), 3) := rfl
theorem mc40_54 : mr_C 40 54 = some (.iload_n 2, 1) := rfl
theorem mc40_55 : mr_C 40 55 = some (.iload 4, 2) := rfl
theorem mc40_57 : mr_C 40 57 = some (.if_icmp .ge (13), 3) := rfl
theorem mc40_60 : mr_C 40 60 = some (.iload_n 3, 1) := rfl
theorem mc40_61 : mr_C 40 61 = some (.iload 5, 2) := rfl
theorem mc40_63 : mr_C 40 63 = some (.if_icmp .ge (7), 3) := rfl
theorem mc40_66 : mr_C 40 66 = some (.iconst 1, 1) := rfl
theorem mc40_67 : mr_C 40 67 = some (.goto 4, 3) := rfl
theorem mc40_70 : mr_C 40 70 = some (.iconst 0, 1) := rfl
theorem mc40_71 : mr_C 40 71 = some (.istore 6, 2) := rfl
theorem mc40_73 : mr_C 40 73 = some (.aload_n 0, 1) := rfl
theorem mc40_74 : mr_C 40 74 = some (.aload_n 0, 1) := rfl
theorem mc40_75 : mr_C 40 75 = some (.iload_n 1, 1) := rfl
theorem mc40_76 : mr_C 40 76 = some (.invokevirtual 131, 3) := rfl
theorem mc40_79 : mr_C 40 79 = some (.ifCond .ne (7), 3) := rfl
theorem mc40_82 : mr_C 40 82 = some (.iconst 1, 1) := rfl
theorem mc40_83 : mr_C 40 83 = some (.goto 13, 3) := rfl
theorem mc40_86 : mr_C 40 86 = some (.iload 6, 2) := rfl
theorem mc40_88 : mr_C 40 88 = some (.ifCond .ne (7), 3) := rfl
theorem mc40_91 : mr_C 40 91 = some (.iconst 2, 1) := rfl
theorem mc40_92 : mr_C 40 92 = some (.goto 4, 3) := rfl
theorem mc40_95 : mr_C 40 95 = some (.iconst 0, 1) := rfl
theorem mc40_96 : mr_C 40 96 = some (.putfield 89, 3) := rfl
theorem mc40_99 : mr_C 40 99 = some (.aload_n 0, 1) := rfl
theorem mc40_100 : mr_C 40 100 = some (.getfield 89, 3) := rfl
theorem mc40_103 : mr_C 40 103 = some (.ifCond .ne (33), 3) := rfl
theorem mc40_106 : mr_C 40 106 = some (.aload_n 0, 1) := rfl
theorem mc40_107 : mr_C 40 107 = some (.invokevirtual 139, 3) := rfl
theorem mc40_110 : mr_C 40 110 = some (.aload_n 0, 1) := rfl
theorem mc40_111 : mr_C 40 111 = some (.iconst 0, 1) := rfl
theorem mc40_112 : mr_C 40 112 = some (.putfield 100, 3) := by decide +kernel
theorem mc40_115 : mr_C 40 115 = some (.aload_n 0, 1) := by decide +kernel
theorem mc40_116 : mr_C 40 116 = some (.iload_n 2, 1) := by decide +kernel
theorem mc40_117 : mr_C 40 117 = some (.iload 4, 2) := by decide +kernel
theorem mc40_119 : mr_C 40 119 = some (.invokevirtual 127, 3) := by decide +kernel
theorem mc40_122 : mr_C 40 122 = some (.aload_n 0, 1) := by decide +kernel
theorem mc40_123 : mr_C 40 123 = some (.iload_n 3, 1) := by decide +kernel
theorem mc40_124 : mr_C 40 124 = some (.iload 5, 2) := by decide +kernel
theorem mc40_126 : mr_C 40 126 = some (.invokevirtual 142, 3) := by decide +kernel
theorem mc40_129 : mr_C 40 129 = some (.aload_n 0, 1) := by decide +kernel
theorem mc40_130 : mr_C 40 130 = some (.iload_n 1, 1) := by decide +kernel
theorem mc40_131 : mr_C 40 131 = some (.invokevirtual 145, 3) := by decide +kernel
theorem mc40_134 : mr_C 40 134 = some (.istore 7, 2) := by decide +kernel
theorem mc40_136 : mr_C 40 136 = some (.return_, 1) := by decide +kernel
theorem vc40_0 {sc : Nat × (Int → Int)} {Q : mm_R → mm_M → Prop} {M : mm_M} {l1 : Int} {l2 : Int} {l3 : Int} {l4 : Int} {l5 : Int} (ho : mr_ok M) (hg_l2 : mr_rg l2) (hg_l4 : mr_rg l4) (hg_l3 : mr_rg l3) (hg_l5 : mr_rg l5)
    (h : en_CI sc 33 [mm_i l2, mm_i (-1000), mm_i 1000] M (fun x1 M2 => mr_ok M2 → mr_rg x1 ∧ ((x1 = 0 → en_R sc 40 70 [mm_r 72, mm_i l1, mm_i l2, mm_i l3, mm_i l4, mm_i l5, mm_u, mm_u] [] M2 Q) ∧ (¬ x1 = 0 → en_CI sc 33 [mm_i l4, mm_i (-1000), mm_i 1000] M2 (fun x5 M6 => mr_ok M6 → mr_rg x5 ∧ ((x5 = 0 → en_R sc 40 70 [mm_r 72, mm_i l1, mm_i l2, mm_i l3, mm_i l4, mm_i l5, mm_u, mm_u] [] M6 Q) ∧ (¬ x5 = 0 → en_CI sc 33 [mm_i l3, mm_i (-1000), mm_i 1000] M6 (fun x9 M10 => mr_ok M10 → mr_rg x9 ∧ ((x9 = 0 → en_R sc 40 70 [mm_r 72, mm_i l1, mm_i l2, mm_i l3, mm_i l4, mm_i l5, mm_u, mm_u] [] M10 Q) ∧ (¬ x9 = 0 → en_CI sc 33 [mm_i l5, mm_i (-1000), mm_i 1000] M10 (fun x13 M14 => mr_ok M14 → mr_rg x13 ∧ ((x13 = 0 → en_R sc 40 70 [mm_r 72, mm_i l1, mm_i l2, mm_i l3, mm_i l4, mm_i l5, mm_u, mm_u] [] M14 Q) ∧ (¬ x13 = 0 → (l4 ≤ l2 → en_R sc 40 70 [mm_r 72, mm_i l1, mm_i l2, mm_i l3, mm_i l4, mm_i l5, mm_u, mm_u] [] M14 Q) ∧ (¬ l4 ≤ l2 → (l5 ≤ l3 → en_R sc 40 70 [mm_r 72, mm_i l1, mm_i l2, mm_i l3, mm_i l4, mm_i l5, mm_u, mm_u] [] M14 Q) ∧ (¬ l5 ≤ l3 → en_R sc 40 71 [mm_r 72, mm_i l1, mm_i l2, mm_i l3, mm_i l4, mm_i l5, mm_u, mm_u] [mm_i 1] M14 Q))))) (fun e M9 => Q (.inr e) M9)))) (fun e M9 => Q (.inr e) M9)))) (fun e M9 => Q (.inr e) M9)))) (fun e M9 => Q (.inr e) M9)) : en_R sc 40 0 [mm_r 72, mm_i l1, mm_i l2, mm_i l3, mm_i l4, mm_i l5, mm_u, mm_u] [] M Q := by
  refine en_iload_n mc40_0 rfl ?_
  refine en_sipush mc40_1 (by decide) ?_
  refine en_sipush mc40_4 (by decide) ?_
  refine en_callI (lz := [mm_i l2, mm_i (-1000), mm_i 1000]) mv40 mc40_7 rfl rfl (lk_m7_135) mv33 rfl (by decide) rfl (mk_cokS rfl) rfl (mk_nh rfl _) ho ?_
  refine en_CI_mono h (fun x1 M2 h => ?_) (fun _ _ h => h)
  intro ho3
  replace h := h ho3
  obtain ⟨g4, h⟩ := h
  refine en_if_eq 70 mc40_10 (by decide) g4 (fun q => ?_) (fun q => ?_)
  · replace h := h.1 q
    exact h
  · replace h := h.2 q
    refine en_iload mc40_13 rfl ?_
    refine en_sipush mc40_15 (by decide) ?_
    refine en_sipush mc40_18 (by decide) ?_
    refine en_callI (lz := [mm_i l4, mm_i (-1000), mm_i 1000]) mv40 mc40_21 rfl rfl (lk_m7_135) mv33 rfl (by decide) rfl (mk_cokS rfl) rfl (mk_nh rfl _) ho3 ?_
    refine en_CI_mono h (fun x5 M6 h => ?_) (fun _ _ h => h)
    intro ho7
    replace h := h ho7
    obtain ⟨g8, h⟩ := h
    refine en_if_eq 70 mc40_24 (by decide) g8 (fun q => ?_) (fun q => ?_)
    · replace h := h.1 q
      exact h
    · replace h := h.2 q
      refine en_iload_n mc40_27 rfl ?_
      refine en_sipush mc40_28 (by decide) ?_
      refine en_sipush mc40_31 (by decide) ?_
      refine en_callI (lz := [mm_i l3, mm_i (-1000), mm_i 1000]) mv40 mc40_34 rfl rfl (lk_m7_135) mv33 rfl (by decide) rfl (mk_cokS rfl) rfl (mk_nh rfl _) ho7 ?_
      refine en_CI_mono h (fun x9 M10 h => ?_) (fun _ _ h => h)
      intro ho11
      replace h := h ho11
      obtain ⟨g12, h⟩ := h
      refine en_if_eq 70 mc40_37 (by decide) g12 (fun q => ?_) (fun q => ?_)
      · replace h := h.1 q
        exact h
      · replace h := h.2 q
        refine en_iload mc40_40 rfl ?_
        refine en_sipush mc40_42 (by decide) ?_
        refine en_sipush mc40_45 (by decide) ?_
        refine en_callI (lz := [mm_i l5, mm_i (-1000), mm_i 1000]) mv40 mc40_48 rfl rfl (lk_m7_135) mv33 rfl (by decide) rfl (mk_cokS rfl) rfl (mk_nh rfl _) ho11 ?_
        refine en_CI_mono h (fun x13 M14 h => ?_) (fun _ _ h => h)
        intro ho15
        replace h := h ho15
        obtain ⟨g16, h⟩ := h
        refine en_if_eq 70 mc40_51 (by decide) g16 (fun q => ?_) (fun q => ?_)
        · replace h := h.1 q
          exact h
        · replace h := h.2 q
          refine en_iload_n mc40_54 rfl ?_
          refine en_iload mc40_55 rfl ?_
          refine en_icmp_ge 70 mc40_57 (by decide) hg_l2 hg_l4 (fun q => ?_) (fun q => ?_)
          · replace h := h.1 q
            exact h
          · replace h := h.2 q
            refine en_iload_n mc40_60 rfl ?_
            refine en_iload mc40_61 rfl ?_
            refine en_icmp_ge 70 mc40_63 (by decide) hg_l3 hg_l5 (fun q => ?_) (fun q => ?_)
            · replace h := h.1 q
              exact h
            · replace h := h.2 q
              refine en_iconst mc40_66 ?_
              refine en_goto 71 mc40_67 (by decide) ?_
              exact h
theorem vc40_70 {sc : Nat × (Int → Int)} {Q : mm_R → mm_M → Prop} {M : mm_M} {l1 : Int} {l2 : Int} {l3 : Int} {l4 : Int} {l5 : Int} (ho : mr_ok M)
    (h : en_R sc 40 71 [mm_r 72, mm_i l1, mm_i l2, mm_i l3, mm_i l4, mm_i l5, mm_u, mm_u] [mm_i 0] M Q) : en_R sc 40 70 [mm_r 72, mm_i l1, mm_i l2, mm_i l3, mm_i l4, mm_i l5, mm_u, mm_u] [] M Q := by
  refine en_iconst mc40_70 ?_
  exact h
theorem vc40_71 {sc : Nat × (Int → Int)} {Q : mm_R → mm_M → Prop} {M : mm_M} {l1 : Int} {l2 : Int} {l3 : Int} {l4 : Int} {l5 : Int} {s0 : Int} (ho : mr_ok M) (hg_s0 : mr_rg s0)
    (h : en_CI sc 34 [mm_r 72, mm_i l1] M (fun x1 M2 => mr_ok M2 → mr_rg x1 ∧ ((x1 ≠ 0 → (s0 ≠ 0 → en_R sc 40 96 [mm_r 72, mm_i l1, mm_i l2, mm_i l3, mm_i l4, mm_i l5, mm_i s0, mm_u] [mm_i 0, mm_r 72] M2 Q) ∧ (¬ (s0 ≠ 0) → en_R sc 40 96 [mm_r 72, mm_i l1, mm_i l2, mm_i l3, mm_i l4, mm_i l5, mm_i s0, mm_u] [mm_i 2, mm_r 72] M2 Q)) ∧ (¬ (x1 ≠ 0) → en_R sc 40 96 [mm_r 72, mm_i l1, mm_i l2, mm_i l3, mm_i l4, mm_i l5, mm_i s0, mm_u] [mm_i 1, mm_r 72] M2 Q))) (fun e M9 => Q (.inr e) M9)) : en_R sc 40 71 [mm_r 72, mm_i l1, mm_i l2, mm_i l3, mm_i l4, mm_i l5, mm_u, mm_u] [mm_i s0] M Q := by
  refine en_istore (ls' := [mm_r 72, mm_i l1, mm_i l2, mm_i l3, mm_i l4, mm_i l5, mm_i s0, mm_u]) mc40_71 (Nat.le_of_ble_eq_true rfl) rfl ?_
  refine en_aload_n mc40_73 rfl ?_
  refine en_aload_n mc40_74 rfl ?_
  refine en_iload_n mc40_75 rfl ?_
  refine en_callI (lz := [mm_r 72, mm_i l1]) mv40 mc40_76 rfl rfl (lk_m7_131) mv34 rfl (by decide) rfl (mk_cokV rfl (⟨rfl, by decide⟩ : mt_kd[72]? = some (.inl 7) ∧ 72 < 99)) rfl (mk_nh rfl _) ho ?_
  refine en_CI_mono h (fun x1 M2 h => ?_) (fun _ _ h => h)
  intro ho3
  replace h := h ho3
  obtain ⟨g4, h⟩ := h
  refine en_if_ne 86 mc40_79 (by decide) g4 (fun q => ?_) (fun q => ?_)
  · replace h := h.1 q
    refine en_iload mc40_86 rfl ?_
    refine en_if_ne 95 mc40_88 (by decide) hg_s0 (fun q => ?_) (fun q => ?_)
    · replace h := h.1 q
      refine en_iconst mc40_95 ?_
      exact h
    · replace h := h.2 q
      refine en_iconst mc40_91 ?_
      refine en_goto 96 mc40_92 (by decide) ?_
      exact h
  · replace h := h.2 q
    refine en_iconst mc40_82 ?_
    refine en_goto 96 mc40_83 (by decide) ?_
    exact h
theorem vc40_96 {sc : Nat × (Int → Int)} {Q : mm_R → mm_M → Prop} {M : mm_M} {l1 : Int} {l2 : Int} {l3 : Int} {l4 : Int} {l5 : Int} {l6 : Int} {s1 : Int} (ho : mr_ok M) (hg_s1 : mr_rg s1)
    (h : (((mm_putN M 72 0 s1).1 72 0) ≠ 0 → Q (.inl none) (mm_putN M 72 0 s1)) ∧ (¬ (((mm_putN M 72 0 s1).1 72 0) ≠ 0) → en_CV sc 35 [mm_r 72] (mm_putN M 72 0 s1) (fun M2 => mr_ok M2 → en_CV sc 36 [mm_r 72, mm_i l2, mm_i l4] (mm_putN M2 72 17 0) (fun M5 => mr_ok M5 → en_CV sc 38 [mm_r 72, mm_i l3, mm_i l5, mm_u, mm_u] M5 (fun M8 => mr_ok M8 → en_CI sc 39 [mm_r 72, mm_i l1, mm_u] M8 (fun x10 M11 => mr_ok M11 → Q (.inl none) M11) (fun e M9 => Q (.inr e) M9)) (fun e M9 => Q (.inr e) M9)) (fun e M9 => Q (.inr e) M9)) (fun e M9 => Q (.inr e) M9))) : en_R sc 40 96 [mm_r 72, mm_i l1, mm_i l2, mm_i l3, mm_i l4, mm_i l5, mm_i l6, mm_u] [mm_i s1, mm_r 72] M Q := by
  refine en_putI mv40 mc40_96 (lk_f7_89) (⟨rfl, by decide⟩ : mt_kd[72]? = some (.inl 7) ∧ 72 < 99) rfl rfl hg_s1 ?_
  refine en_aload_n mc40_99 rfl ?_
  refine en_getI mv40 mc40_100 (lk_f7_89) (⟨rfl, by decide⟩ : mt_kd[72]? = some (.inl 7) ∧ 72 < 99) (Or.inl rfl) ?_
  refine en_if_ne 136 mc40_103 (by decide) ((mr_ok_putI (a := 72) (k := 0) ho hg_s1).2.1 72 0 (by unfold mr_lg; omega)) (fun q => ?_) (fun q => ?_)
  · replace h := h.1 q
    exact en_vret mv40 mc40_136 rfl h
  · replace h := h.2 q
    refine en_aload_n mc40_106 rfl ?_
    refine en_callV (lz := [mm_r 72]) mv40 mc40_107 rfl rfl (lk_m7_139) mv35 rfl (by decide) rfl (mk_cokV rfl (⟨rfl, by decide⟩ : mt_kd[72]? = some (.inl 7) ∧ 72 < 99)) rfl (mk_nh rfl _) (mr_ok_putI (a := 72) (k := 0) ho hg_s1) ?_
    refine en_CV_mono h (fun M2 h => ?_) (fun _ _ h => h)
    intro ho3
    replace h := h ho3
    refine en_aload_n mc40_110 rfl ?_
    refine en_iconst mc40_111 ?_
    refine en_putI mv40 mc40_112 (lk_f7_100) (⟨rfl, by decide⟩ : mt_kd[72]? = some (.inl 7) ∧ 72 < 99) rfl rfl (⟨by decide, by decide⟩ : mr_rg 0) ?_
    refine en_aload_n mc40_115 rfl ?_
    refine en_iload_n mc40_116 rfl ?_
    refine en_iload mc40_117 rfl ?_
    refine en_callV (lz := [mm_r 72, mm_i l2, mm_i l4]) mv40 mc40_119 rfl rfl (lk_m7_127) mv36 rfl (by decide) rfl (mk_cokV rfl (⟨rfl, by decide⟩ : mt_kd[72]? = some (.inl 7) ∧ 72 < 99)) rfl (mk_nh rfl _) (mr_ok_putI (a := 72) (k := 17) ho3 (⟨by decide, by decide⟩ : mr_rg 0)) ?_
    refine en_CV_mono h (fun M5 h => ?_) (fun _ _ h => h)
    intro ho6
    replace h := h ho6
    refine en_aload_n mc40_122 rfl ?_
    refine en_iload_n mc40_123 rfl ?_
    refine en_iload mc40_124 rfl ?_
    refine en_callV (lz := [mm_r 72, mm_i l3, mm_i l5, mm_u, mm_u]) mv40 mc40_126 rfl rfl (lk_m7_142) mv38 rfl (by decide) rfl (mk_cokV rfl (⟨rfl, by decide⟩ : mt_kd[72]? = some (.inl 7) ∧ 72 < 99)) rfl (mk_nh rfl _) ho6 ?_
    refine en_CV_mono h (fun M8 h => ?_) (fun _ _ h => h)
    intro ho9
    replace h := h ho9
    refine en_aload_n mc40_129 rfl ?_
    refine en_iload_n mc40_130 rfl ?_
    refine en_callI (lz := [mm_r 72, mm_i l1, mm_u]) mv40 mc40_131 rfl rfl (lk_m7_145) mv39 rfl (by decide) rfl (mk_cokV rfl (⟨rfl, by decide⟩ : mt_kd[72]? = some (.inl 7) ∧ 72 < 99)) rfl (mk_nh rfl _) ho9 ?_
    refine en_CI_mono h (fun x10 M11 h => ?_) (fun _ _ h => h)
    intro ho12
    replace h := h ho12
    refine en_istore (ls' := [mm_r 72, mm_i l1, mm_i l2, mm_i l3, mm_i l4, mm_i l5, mm_i l6, mm_i x10]) mc40_134 (Nat.le_of_ble_eq_true rfl) rfl ?_
    exact en_vret mv40 mc40_136 rfl h
/-! 41: CellAreasModel.thrown()I -/
theorem mc41_0 : mr_C 41 0 = some (.aload_n 0, 1) := rfl
theorem mc41_1 : mr_C 41 1 = some (.getfield 89, 3) := rfl
theorem mc41_4 : mr_C 41 4 = some (.ireturn, 1) := rfl
theorem vc41_0 {sc : Nat × (Int → Int)} {Q : mm_R → mm_M → Prop} {M : mm_M} (ho : mr_ok M)
    (h : Q (.inl (some (mm_i (M.1 72 0)))) M) : en_R sc 41 0 [mm_r 72] [] M Q := by
  refine en_aload_n mc41_0 rfl ?_
  refine en_getI mv41 mc41_1 (lk_f7_89) (⟨rfl, by decide⟩ : mt_kd[72]? = some (.inl 7) ∧ 72 < 99) (Or.inl rfl) ?_
  exact en_iret mv41 mc41_4 rfl h
/-! 42: CellAreas$Area.cells()I -/
theorem mc42_0 : mr_C 42 0 = some (.iconst 0, 1) := rfl
theorem mc42_1 : mr_C 42 1 = some (.istore_n 1, 1) := rfl
theorem mc42_2 : mr_C 42 2 = some (.iconst 0, 1) := rfl
theorem mc42_3 : mr_C 42 3 = some (.istore_n 2, 1) := rfl
theorem mc42_4 : mr_C 42 4 = some (.iload_n 2, 1) := rfl
theorem mc42_5 : mr_C 42 5 = some (.aload_n 0, 1) := rfl
theorem mc42_6 : mr_C 42 6 = some (.getfield 9, 3) := rfl
theorem mc42_9 : mr_C 42 9 = some (.if_icmp .ge (64), 3) := rfl
theorem mc42_12 : mr_C 42 12 = some (.aload_n 0, 1) := rfl
theorem mc42_13 : mr_C 42 13 = some (.getfield 22, 3) := rfl
theorem mc42_16 : mr_C 42 16 = some (.iload_n 2, 1) := rfl
theorem mc42_17 : mr_C 42 17 = some (.iaload, 1) := rfl
theorem mc42_18 : mr_C 42 18 = some (.istore_n 3, 1) := rfl
theorem mc42_19 : mr_C 42 19 = some (.iload_n 3, 1) := rfl
theorem mc42_20 : mr_C 42 20 = some (.aload_n 0, 1) := rfl
theorem mc42_21 : mr_C 42 21 = some (.getfield 22, 3) := rfl
theorem mc42_24 : mr_C 42 24 = some (.iload_n 2, 1) := rfl
theorem mc42_25 : mr_C 42 25 = some (.iconst 1, 1) := rfl
theorem mc42_26 : mr_C 42 26 = some (.iadd, 1) := rfl
theorem mc42_27 : mr_C 42 27 = some (.iaload, 1) := rfl
theorem mc42_28 : mr_C 42 28 = some (.if_icmp .ge (39), 3) := rfl
theorem mc42_31 : mr_C 42 31 = some (.iload_n 1, 1) := rfl
theorem mc42_32 : mr_C 42 32 = some (.aload_n 0, 1) := rfl
theorem mc42_33 : mr_C 42 33 = some (.getfield 19, 3) := rfl
theorem mc42_36 : mr_C 42 36 = some (.iload_n 2, 1) := rfl
theorem mc42_37 : mr_C 42 37 = some (.iaload, 1) := rfl
theorem mc42_38 : mr_C 42 38 = some (.aload_n 0, 1) := rfl
theorem mc42_39 : mr_C 42 39 = some (.getfield 15, 3) := rfl
theorem mc42_42 : mr_C 42 42 = some (.iload_n 2, 1) := rfl
theorem mc42_43 : mr_C 42 43 = some (.iaload, 1) := rfl
theorem mc42_44 : mr_C 42 44 = some (.isub, 1) := rfl
theorem mc42_45 : mr_C 42 45 = some (.aload_n 0, 1) := rfl
theorem mc42_46 : mr_C 42 46 = some (.getfield 28, 3) := rfl
theorem mc42_49 : mr_C 42 49 = some (.iload_n 3, 1) := rfl
theorem mc42_50 : mr_C 42 50 = some (.iaload, 1) := rfl
theorem mc42_51 : mr_C 42 51 = some (.aload_n 0, 1) := rfl
theorem mc42_52 : mr_C 42 52 = some (.getfield 25, 3) := rfl
theorem mc42_55 : mr_C 42 55 = some (.iload_n 3, 1) := rfl
theorem mc42_56 : mr_C 42 56 = some (.iaload, 1) := rfl
theorem mc42_57 : mr_C 42 57 = some (.isub, 1) := rfl
theorem mc42_58 : mr_C 42 58 = some (.imul, 1) := rfl
theorem mc42_59 : mr_C 42 59 = some (.iadd, 1) := rfl
theorem mc42_60 : mr_C 42 60 = some (.istore_n 1, 1) := rfl
theorem mc42_61 : mr_C 42 61 = some (.iinc 3 (1), 3) := rfl
theorem mc42_64 : mr_C 42 64 = some (.goto (-45), 3) := rfl
theorem mc42_67 : mr_C 42 67 = some (.iinc 2 (1), 3) := rfl
theorem mc42_70 : mr_C 42 70 = some (.goto (-66), 3) := rfl
theorem mc42_73 : mr_C 42 73 = some (.iload_n 1, 1) := rfl
theorem mc42_74 : mr_C 42 74 = some (.ireturn, 1) := rfl
theorem vc42_0 {sc : Nat × (Int → Int)} {Q : mm_R → mm_M → Prop} {M : mm_M} {l0 : Nat} (ho : mr_ok M)
    (h : en_R sc 42 4 [mm_r l0, mm_i 0, mm_i 0, mm_u] [] M Q) : en_R sc 42 0 [mm_r l0, mm_u, mm_u, mm_u] [] M Q := by
  refine en_iconst mc42_0 ?_
  refine en_istore_n (ls' := [mm_r l0, mm_i 0, mm_u, mm_u]) mc42_1 (Nat.le_of_ble_eq_true rfl) rfl ?_
  refine en_iconst mc42_2 ?_
  refine en_istore_n (ls' := [mm_r l0, mm_i 0, mm_i 0, mm_u]) mc42_3 (Nat.le_of_ble_eq_true rfl) rfl ?_
  exact h
theorem vc42_4 {sc : Nat × (Int → Int)} {Q : mm_R → mm_M → Prop} {M : mm_M} {l0 : Nat} {l1 : Int} {l2 : Int} {l3 : mm_V} (ho : mr_ok M) (hA_l0 : mr_A l0) (hg_l2 : mr_rg l2)
    (h : ((M.1 l0 0) ≤ l2 → Q (.inl (some (mm_i l1))) M) ∧ (¬ (M.1 l0 0) ≤ l2 → 0 ≤ l2 ∧ (l2 < 101 ∧ (en_R sc 42 19 [mm_r l0, mm_i l1, mm_i l2, mm_i (M.1 (l0 + 3) l2)] [] M Q)))) : en_R sc 42 4 [mm_r l0, mm_i l1, mm_i l2, l3] [] M Q := by
  refine en_iload_n mc42_4 rfl ?_
  refine en_aload_n mc42_5 rfl ?_
  refine en_getI mv42 mc42_6 (lk_f0_9) (mk_A0 hA_l0) (Or.inl rfl) ?_
  refine en_icmp_ge 73 mc42_9 (by decide) hg_l2 (ho.2.1 l0 0 (mk_nA0 hA_l0 _)) (fun q => ?_) (fun q => ?_)
  · replace h := h.1 q
    refine en_iload_n mc42_73 rfl ?_
    exact en_iret mv42 mc42_74 rfl h
  · replace h := h.2 q
    obtain ⟨g1, h⟩ := h
    obtain ⟨g2, h⟩ := h
    refine en_aload_n mc42_12 rfl ?_
    refine en_getR (b := (l0 + 3)) mv42 mc42_13 (lk_f0_22) (mk_A0 hA_l0) rfl (mk_fA3 hA_l0 ho) ?_
    refine en_iload_n mc42_16 rfl ?_
    refine en_iald mc42_17 (mk_A3 hA_l0) g1 g2 ?_
    refine en_istore_n (ls' := [mm_r l0, mm_i l1, mm_i l2, mm_i (M.1 (l0 + 3) l2)]) mc42_18 (Nat.le_of_ble_eq_true rfl) rfl ?_
    exact h
theorem vc42_19 {sc : Nat × (Int → Int)} {Q : mm_R → mm_M → Prop} {M : mm_M} {l0 : Nat} {l1 : Int} {l2 : Int} {l3 : Int} (ho : mr_ok M) (hA_l0 : mr_A l0) (hg_l3 : mr_rg l3)
    (h : 0 ≤ (l2 + 1) ∧ ((l2 + 1) < 101 ∧ (((M.1 (l0 + 3) (l2 + 1)) ≤ l3 → en_R sc 42 4 [mm_r l0, mm_i l1, mm_i (l2 + 1), mm_i l3] [] M Q) ∧ (¬ (M.1 (l0 + 3) (l2 + 1)) ≤ l3 → 0 ≤ l2 ∧ (l2 < 100 ∧ (0 ≤ l2 ∧ (l2 < 100 ∧ (0 ≤ l3 ∧ (l3 < 400 ∧ (0 ≤ l3 ∧ (l3 < 400 ∧ (en_R sc 42 19 [mm_r l0, mm_i (l1 + (((M.1 (l0 + 2) l2) - (M.1 (l0 + 1) l2)) * ((M.1 (l0 + 5) l3) - (M.1 (l0 + 4) l3)))), mm_i l2, mm_i (l3 + 1)] [] M Q)))))))))))) : en_R sc 42 19 [mm_r l0, mm_i l1, mm_i l2, mm_i l3] [] M Q := by
  obtain ⟨g1, h⟩ := h
  obtain ⟨g2, h⟩ := h
  refine en_iload_n mc42_19 rfl ?_
  refine en_aload_n mc42_20 rfl ?_
  refine en_getR (b := (l0 + 3)) mv42 mc42_21 (lk_f0_22) (mk_A0 hA_l0) rfl (mk_fA3 hA_l0 ho) ?_
  refine en_iload_n mc42_24 rfl ?_
  refine en_iconst mc42_25 ?_
  refine en_iadd mc42_26 ?_
  refine en_iald mc42_27 (mk_A3 hA_l0) g1 g2 ?_
  refine en_icmp_ge 67 mc42_28 (by decide) hg_l3 (ho.2.1 (l0 + 3) (l2 + 1) ((mk_nA3 hA_l0) _)) (fun q => ?_) (fun q => ?_)
  · replace h := h.1 q
    refine en_iinc (ls' := [mm_r l0, mm_i l1, mm_i (l2 + 1), mm_i l3]) mc42_67 rfl rfl ?_
    refine en_goto 4 mc42_70 (by decide) ?_
    exact h
  · replace h := h.2 q
    obtain ⟨g3, h⟩ := h
    obtain ⟨g4, h⟩ := h
    obtain ⟨g5, h⟩ := h
    obtain ⟨g6, h⟩ := h
    obtain ⟨g7, h⟩ := h
    obtain ⟨g8, h⟩ := h
    obtain ⟨g9, h⟩ := h
    obtain ⟨g10, h⟩ := h
    refine en_iload_n mc42_31 rfl ?_
    refine en_aload_n mc42_32 rfl ?_
    refine en_getR (b := (l0 + 2)) mv42 mc42_33 (lk_f0_19) (mk_A0 hA_l0) rfl (mk_fA2 hA_l0 ho) ?_
    refine en_iload_n mc42_36 rfl ?_
    refine en_iald mc42_37 (mk_A2 hA_l0) g3 g4 ?_
    refine en_aload_n mc42_38 rfl ?_
    refine en_getR (b := (l0 + 1)) mv42 mc42_39 (lk_f0_15) (mk_A0 hA_l0) rfl (mk_fA1 hA_l0 ho) ?_
    refine en_iload_n mc42_42 rfl ?_
    refine en_iald mc42_43 (mk_A1 hA_l0) g5 g6 ?_
    refine en_isub mc42_44 ?_
    refine en_aload_n mc42_45 rfl ?_
    refine en_getR (b := (l0 + 5)) mv42 mc42_46 (lk_f0_28) (mk_A0 hA_l0) rfl (mk_fA5 hA_l0 ho) ?_
    refine en_iload_n mc42_49 rfl ?_
    refine en_iald mc42_50 (mk_A5 hA_l0) g7 g8 ?_
    refine en_aload_n mc42_51 rfl ?_
    refine en_getR (b := (l0 + 4)) mv42 mc42_52 (lk_f0_25) (mk_A0 hA_l0) rfl (mk_fA4 hA_l0 ho) ?_
    refine en_iload_n mc42_55 rfl ?_
    refine en_iald mc42_56 (mk_A4 hA_l0) g9 g10 ?_
    refine en_isub mc42_57 ?_
    refine en_imul mc42_58 ?_
    refine en_iadd mc42_59 ?_
    refine en_istore_n (ls' := [mm_r l0, mm_i (l1 + (((M.1 (l0 + 2) l2) - (M.1 (l0 + 1) l2)) * ((M.1 (l0 + 5) l3) - (M.1 (l0 + 4) l3)))), mm_i l2, mm_i l3]) mc42_60 (Nat.le_of_ble_eq_true rfl) rfl ?_
    refine en_iinc (ls' := [mm_r l0, mm_i (l1 + (((M.1 (l0 + 2) l2) - (M.1 (l0 + 1) l2)) * ((M.1 (l0 + 5) l3) - (M.1 (l0 + 4) l3)))), mm_i l2, mm_i (l3 + 1)]) mc42_61 rfl rfl ?_
    refine en_goto 19 mc42_64 (by decide) ?_
    exact h
/-! 43: CellAreas.clear(I)I -/
theorem mc43_0 : mr_C 43 0 = some (.iload_n 1, 1) := rfl
theorem mc43_1 : mr_C 43 1 = some (.invokestatic 61, 3) := rfl
theorem mc43_4 : mr_C 43 4 = some (.aload_n 0, 1) := rfl
theorem mc43_5 : mr_C 43 5 = some (.getfield 11, 3) := rfl
theorem mc43_8 : mr_C 43 8 = some (.iload_n 1, 1) := rfl
theorem mc43_9 : mr_C 43 9 = some (.aaload, 1) := rfl
theorem mc43_10 : mr_C 43 10 = some (.invokevirtual 87, 3) := rfl
theorem mc43_13 : mr_C 43 13 = some (.istore_n 2, 1) := rfl
theorem mc43_14 : mr_C 43 14 = some (.aload_n 0, 1) := rfl
theorem mc43_15 : mr_C 43 15 = some (.getfield 18, 3) := rfl
theorem mc43_18 : mr_C 43 18 = some (.invokevirtual 76, 3) := rfl
theorem mc43_21 : mr_C 43 21 = some (.aload_n 0, 1) := rfl
theorem mc43_22 : mr_C 43 22 = some (.iload_n 1, 1) := rfl
theorem mc43_23 : mr_C 43 23 = some (.invokevirtual 83, 3) := rfl
theorem mc43_26 : mr_C 43 26 = some (.pop, 1) := rfl
theorem mc43_27 : mr_C 43 27 = some (.iload_n 2, 1) := rfl
theorem mc43_28 : mr_C 43 28 = some (.ireturn, 1) := rfl
theorem vc43_0 {sc : Nat × (Int → Int)} {Q : mm_R → mm_M → Prop} {M : mm_M} {l1 : Int} (ho : mr_ok M)
    (h : en_CV sc 9 [mm_i l1] M (fun M2 => mr_ok M2 → 0 ≤ l1 ∧ (l1 < 8 ∧ (∃ b6, M2.2.1 1 l1 = some b6 ∧ mr_A b6 ∧ (en_CI sc 42 [mm_r b6, mm_u, mm_u, mm_u] M2 (fun x8 M9 => mr_ok M9 → en_CV sc 18 [mm_r 2] M9 (fun M12 => mr_ok M12 → en_CI sc 30 [mm_r 0, mm_i l1, mm_u] M12 (fun x14 M15 => mr_ok M15 → Q (.inl (some (mm_i x8))) M15) (fun e M9 => Q (.inr e) M9)) (fun e M9 => Q (.inr e) M9)) (fun e M9 => Q (.inr e) M9))))) (fun e M9 => Q (.inr e) M9)) : en_R sc 43 0 [mm_r 0, mm_i l1, mm_u] [] M Q := by
  refine en_iload_n mc43_0 rfl ?_
  refine en_callV (lz := [mm_i l1]) mv43 mc43_1 rfl rfl (lk_m6_61) mv9 rfl (by decide) rfl (mk_cokS rfl) rfl (mk_nh rfl _) ho ?_
  refine en_CV_mono h (fun M2 h => ?_) (fun _ _ h => h)
  intro ho3
  replace h := h ho3
  obtain ⟨g4, h⟩ := h
  obtain ⟨g5, h⟩ := h
  refine en_aload_n mc43_4 rfl ?_
  refine en_getR (b := 1) mv43 mc43_5 (lk_f6_11) (⟨rfl, by decide⟩ : mt_kd[0]? = some (.inl 6) ∧ 0 < 99) rfl (mk_fc ho3 (by decide +kernel)) ?_
  refine en_iload_n mc43_8 rfl ?_
  obtain ⟨b6, g7, hA_b6_, h⟩ := h
  refine en_aald mc43_9 g4 g5 g7 ?_
  refine en_callI (lz := [mm_r b6, mm_u, mm_u, mm_u]) mv43 mc43_10 rfl rfl (lk_m6_87) mv42 rfl (by decide) rfl (mk_cokV rfl (mk_A0 hA_b6_)) rfl (mk_nh rfl _) ho3 ?_
  refine en_CI_mono h (fun x8 M9 h => ?_) (fun _ _ h => h)
  intro ho10
  replace h := h ho10
  refine en_istore_n (ls' := [mm_r 0, mm_i l1, mm_i x8]) mc43_13 (Nat.le_of_ble_eq_true rfl) rfl ?_
  refine en_aload_n mc43_14 rfl ?_
  refine en_getR (b := 2) mv43 mc43_15 (lk_f6_18) (⟨rfl, by decide⟩ : mt_kd[0]? = some (.inl 6) ∧ 0 < 99) rfl (mk_fc ho10 (by decide +kernel)) ?_
  refine en_callV (lz := [mm_r 2]) mv43 mc43_18 rfl rfl (lk_m6_76) mv18 rfl (by decide) rfl (mk_cokV rfl (⟨rfl, by decide⟩ : mt_kd[2]? = some (.inl 2) ∧ 2 < 99)) rfl (mk_nh rfl _) ho10 ?_
  refine en_CV_mono h (fun M12 h => ?_) (fun _ _ h => h)
  intro ho13
  replace h := h ho13
  refine en_aload_n mc43_21 rfl ?_
  refine en_iload_n mc43_22 rfl ?_
  refine en_callI (lz := [mm_r 0, mm_i l1, mm_u]) mv43 mc43_23 rfl rfl (lk_m6_83) mv30 rfl (by decide) rfl (mk_cokV rfl (⟨rfl, by decide⟩ : mt_kd[0]? = some (.inl 6) ∧ 0 < 99)) rfl (mk_nh rfl _) ho13 ?_
  refine en_CI_mono h (fun x14 M15 h => ?_) (fun _ _ h => h)
  intro ho16
  replace h := h ho16
  refine en_pop mc43_26 rfl ?_
  refine en_iload_n mc43_27 rfl ?_
  exact en_iret mv43 mc43_28 rfl h
/-! 45: CellAreasModel.bandEnd(I)I -/
theorem mc45_0 : mr_C 45 0 = some (.bipush 102, 2) := rfl
theorem mc45_2 : mr_C 45 2 = some (.iload_n 1, 1) := rfl
theorem mc45_3 : mr_C 45 3 = some (.imul, 1) := rfl
theorem mc45_4 : mr_C 45 4 = some (.aload_n 0, 1) := rfl
theorem mc45_5 : mr_C 45 5 = some (.getfield 22, 3) := rfl
theorem mc45_8 : mr_C 45 8 = some (.iload_n 1, 1) := rfl
theorem mc45_9 : mr_C 45 9 = some (.iaload, 1) := rfl
theorem mc45_10 : mr_C 45 10 = some (.iadd, 1) := rfl
theorem mc45_11 : mr_C 45 11 = some (.ireturn, 1) := rfl
theorem vc45_0 {sc : Nat × (Int → Int)} {Q : mm_R → mm_M → Prop} {M : mm_M} {l1 : Int} (ho : mr_ok M)
    (h : 0 ≤ l1 ∧ (l1 < 9 ∧ (Q (.inl (some (mm_i ((102 * l1) + (M.1 77 l1))))) M))) : en_R sc 45 0 [mm_r 72, mm_i l1] [] M Q := by
  obtain ⟨g1, h⟩ := h
  obtain ⟨g2, h⟩ := h
  refine en_bipush mc45_0 (by decide) ?_
  refine en_iload_n mc45_2 rfl ?_
  refine en_imul mc45_3 ?_
  refine en_aload_n mc45_4 rfl ?_
  refine en_getR (b := 77) mv45 mc45_5 (lk_f7_22) (⟨rfl, by decide⟩ : mt_kd[72]? = some (.inl 7) ∧ 72 < 99) rfl (mk_fc ho (by decide +kernel)) ?_
  refine en_iload_n mc45_8 rfl ?_
  refine en_iald mc45_9 (⟨rfl, by decide, by decide⟩ : mt_kd[77]? = some (.inr (.int, 9)) ∧ 77 < 99 ∧ 9 < 2147483648) g1 g2 ?_
  refine en_iadd mc45_10 ?_
  exact en_iret mv45 mc45_11 rfl h
/-! 46: CellAreasModel.cellsOf(I)I -/
theorem mc46_0 : mr_C 46 0 = some (.iconst 0, 1) := rfl
theorem mc46_1 : mr_C 46 1 = some (.istore_n 2, 1) := rfl
theorem mc46_2 : mr_C 46 2 = some (.bipush 102, 2) := rfl
theorem mc46_4 : mr_C 46 4 = some (.iload_n 1, 1) := rfl
theorem mc46_5 : mr_C 46 5 = some (.imul, 1) := rfl
theorem mc46_6 : mr_C 46 6 = some (.istore_n 3, 1) := rfl
theorem mc46_7 : mr_C 46 7 = some (.iload_n 3, 1) := rfl
theorem mc46_8 : mr_C 46 8 = some (.aload_n 0, 1) := rfl
theorem mc46_9 : mr_C 46 9 = some (.iload_n 1, 1) := rfl
theorem mc46_10 : mr_C 46 10 = some (.invokevirtual 107, 3) := rfl
theorem mc46_13 : mr_C 46 13 = some (.if_icmp .ge (73), 3) := rfl
theorem mc46_16 : mr_C 46 16 = some (.aload_n 0, 1) := rfl
theorem mc46_17 : mr_C 46 17 = some (.getfield 16, 3) := rfl
theorem mc46_20 : mr_C 46 20 = some (.iload_n 3, 1) := rfl
theorem mc46_21 : mr_C 46 21 = some (.iaload, 1) := rfl
theorem mc46_22 : mr_C 46 22 = some (.istore 4, 2) := rfl
theorem mc46_24 : mr_C 46 24 = some (.iload 4, 2) := rfl
theorem mc46_26 : mr_C 46 26 = some (.aload_n 0, 1) := rfl
theorem mc46_27 : mr_C 46 27 = some (.getfield 16, 3) := rfl
theorem mc46_30 : mr_C 46 30 = some (.iload_n 3, 1) := rfl
theorem mc46_31 : mr_C 46 31 = some (.iaload, 1) := rfl
theorem mc46_32 : mr_C 46 32 = some (.aload_n 0, 1) := rfl
theorem mc46_33 : mr_C 46 33 = some (.getfield 19, 3) := rfl
theorem mc46_36 : mr_C 46 36 = some (.iload_n 3, 1) := rfl
theorem mc46_37 : mr_C 46 37 = some (.iaload, 1) := rfl
theorem mc46_38 : mr_C 46 38 = some (.iadd, 1) := rfl
theorem mc46_39 : mr_C 46 39 = some (.if_icmp .ge (41), 3) := rfl
theorem mc46_42 : mr_C 46 42 = some (.iload_n 2, 1) := rfl
theorem mc46_43 : mr_C 46 43 = some (.aload_n 0, 1) := rfl
theorem mc46_44 : mr_C 46 44 = some (.getfield 28, 3) := rfl
theorem mc46_47 : mr_C 46 47 = some (.iload 4, 2) := rfl
theorem mc46_49 : mr_C 46 49 = some (.iaload, 1) := rfl
theorem mc46_50 : mr_C 46 50 = some (.aload_n 0, 1) := rfl
theorem mc46_51 : mr_C 46 51 = some (.getfield 25, 3) := rfl
theorem mc46_54 : mr_C 46 54 = some (.iload 4, 2) := rfl
theorem mc46_56 : mr_C 46 56 = some (.iaload, 1) := rfl
theorem mc46_57 : mr_C 46 57 = some (.isub, 1) := rfl
theorem mc46_58 : mr_C 46 58 = some (.aload_n 0, 1) := rfl
theorem mc46_59 : mr_C 46 59 = some (.getfield 13, 3) := rfl
theorem mc46_62 : mr_C 46 62 = some (.iload_n 3, 1) := rfl
theorem mc46_63 : mr_C 46 63 = some (.iaload, 1) := rfl
theorem mc46_64 : mr_C 46 64 = some (.aload_n 0, 1) := rfl
theorem mc46_65 : mr_C 46 65 = some (.getfield 7, 3) := rfl
theorem mc46_68 : mr_C 46 68 = some (.iload_n 3, 1) := rfl
theorem mc46_69 : mr_C 46 69 = some (.iaload, 1) := rfl
theorem mc46_70 : mr_C 46 70 = some (.isub, 1) := rfl
theorem mc46_71 : mr_C 46 71 = some (.imul, 1) := rfl
theorem mc46_72 : mr_C 46 72 = some (.iadd, 1) := by decide +kernel
theorem mc46_73 : mr_C 46 73 = some (.istore_n 2, 1) := by decide +kernel
theorem mc46_74 : mr_C 46 74 = some (.iinc 4 (1), 3) := by decide +kernel
theorem mc46_77 : mr_C 46 77 = some (.goto (-53), 3) := by decide +kernel
theorem mc46_80 : mr_C 46 80 = some (.iinc 3 (1), 3) := by decide +kernel
theorem mc46_83 : mr_C 46 83 = some (.goto (-76), 3) := by decide +kernel
theorem mc46_86 : mr_C 46 86 = some (.iload_n 2, 1) := by decide +kernel
theorem mc46_87 : mr_C 46 87 = some (.ireturn, 1) := by decide +kernel
theorem vc46_0 {sc : Nat × (Int → Int)} {Q : mm_R → mm_M → Prop} {M : mm_M} {l1 : Int} (ho : mr_ok M)
    (h : en_R sc 46 7 [mm_r 72, mm_i l1, mm_i 0, mm_i (102 * l1), mm_u] [] M Q) : en_R sc 46 0 [mm_r 72, mm_i l1, mm_u, mm_u, mm_u] [] M Q := by
  refine en_iconst mc46_0 ?_
  refine en_istore_n (ls' := [mm_r 72, mm_i l1, mm_i 0, mm_u, mm_u]) mc46_1 (Nat.le_of_ble_eq_true rfl) rfl ?_
  refine en_bipush mc46_2 (by decide) ?_
  refine en_iload_n mc46_4 rfl ?_
  refine en_imul mc46_5 ?_
  refine en_istore_n (ls' := [mm_r 72, mm_i l1, mm_i 0, mm_i (102 * l1), mm_u]) mc46_6 (Nat.le_of_ble_eq_true rfl) rfl ?_
  exact h
theorem vc46_7 {sc : Nat × (Int → Int)} {Q : mm_R → mm_M → Prop} {M : mm_M} {l1 : Int} {l2 : Int} {l3 : Int} {l4 : mm_V} (ho : mr_ok M) (hg_l3 : mr_rg l3)
    (h : en_CI sc 45 [mm_r 72, mm_i l1] M (fun x1 M2 => mr_ok M2 → mr_rg x1 ∧ ((x1 ≤ l3 → Q (.inl (some (mm_i l2))) M2) ∧ (¬ x1 ≤ l3 → 0 ≤ l3 ∧ (l3 < 918 ∧ (en_R sc 46 24 [mm_r 72, mm_i l1, mm_i l2, mm_i l3, mm_i (M2.1 75 l3)] [] M2 Q))))) (fun e M9 => Q (.inr e) M9)) : en_R sc 46 7 [mm_r 72, mm_i l1, mm_i l2, mm_i l3, l4] [] M Q := by
  refine en_iload_n mc46_7 rfl ?_
  refine en_aload_n mc46_8 rfl ?_
  refine en_iload_n mc46_9 rfl ?_
  refine en_callI (lz := [mm_r 72, mm_i l1]) mv46 mc46_10 rfl rfl (lk_m7_107) mv45 rfl (by decide) rfl (mk_cokV rfl (⟨rfl, by decide⟩ : mt_kd[72]? = some (.inl 7) ∧ 72 < 99)) rfl (mk_nh rfl _) ho ?_
  refine en_CI_mono h (fun x1 M2 h => ?_) (fun _ _ h => h)
  intro ho3
  replace h := h ho3
  obtain ⟨g4, h⟩ := h
  refine en_icmp_ge 86 mc46_13 (by decide) hg_l3 g4 (fun q => ?_) (fun q => ?_)
  · replace h := h.1 q
    refine en_iload_n mc46_86 rfl ?_
    exact en_iret mv46 mc46_87 rfl h
  · replace h := h.2 q
    obtain ⟨g5, h⟩ := h
    obtain ⟨g6, h⟩ := h
    refine en_aload_n mc46_16 rfl ?_
    refine en_getR (b := 75) mv46 mc46_17 (lk_f7_16) (⟨rfl, by decide⟩ : mt_kd[72]? = some (.inl 7) ∧ 72 < 99) rfl (mk_fc ho3 (by decide +kernel)) ?_
    refine en_iload_n mc46_20 rfl ?_
    refine en_iald mc46_21 (⟨rfl, by decide, by decide⟩ : mt_kd[75]? = some (.inr (.int, 918)) ∧ 75 < 99 ∧ 918 < 2147483648) g5 g6 ?_
    refine en_istore (ls' := [mm_r 72, mm_i l1, mm_i l2, mm_i l3, mm_i (M2.1 75 l3)]) mc46_22 (Nat.le_of_ble_eq_true rfl) rfl ?_
    exact h
theorem vc46_24 {sc : Nat × (Int → Int)} {Q : mm_R → mm_M → Prop} {M : mm_M} {l1 : Int} {l2 : Int} {l3 : Int} {l4 : Int} (ho : mr_ok M) (hg_l4 : mr_rg l4)
    (h : 0 ≤ l3 ∧ (l3 < 918 ∧ (0 ≤ l3 ∧ (l3 < 918 ∧ (mr_rg ((M.1 75 l3) + (M.1 76 l3)) ∧ ((((M.1 75 l3) + (M.1 76 l3)) ≤ l4 → en_R sc 46 7 [mm_r 72, mm_i l1, mm_i l2, mm_i (l3 + 1), mm_i l4] [] M Q) ∧ (¬ ((M.1 75 l3) + (M.1 76 l3)) ≤ l4 → 0 ≤ l4 ∧ (l4 < 3618 ∧ (0 ≤ l4 ∧ (l4 < 3618 ∧ (0 ≤ l3 ∧ (l3 < 918 ∧ (0 ≤ l3 ∧ (l3 < 918 ∧ (en_R sc 46 24 [mm_r 72, mm_i l1, mm_i (l2 + (((M.1 79 l4) - (M.1 78 l4)) * ((M.1 74 l3) - (M.1 73 l3)))), mm_i l3, mm_i (l4 + 1)] [] M Q))))))))))))))) : en_R sc 46 24 [mm_r 72, mm_i l1, mm_i l2, mm_i l3, mm_i l4] [] M Q := by
  obtain ⟨g1, h⟩ := h
  obtain ⟨g2, h⟩ := h
  obtain ⟨g3, h⟩ := h
  obtain ⟨g4, h⟩ := h
  obtain ⟨g5, h⟩ := h
  refine en_iload mc46_24 rfl ?_
  refine en_aload_n mc46_26 rfl ?_
  refine en_getR (b := 75) mv46 mc46_27 (lk_f7_16) (⟨rfl, by decide⟩ : mt_kd[72]? = some (.inl 7) ∧ 72 < 99) rfl (mk_fc ho (by decide +kernel)) ?_
  refine en_iload_n mc46_30 rfl ?_
  refine en_iald mc46_31 (⟨rfl, by decide, by decide⟩ : mt_kd[75]? = some (.inr (.int, 918)) ∧ 75 < 99 ∧ 918 < 2147483648) g1 g2 ?_
  refine en_aload_n mc46_32 rfl ?_
  refine en_getR (b := 76) mv46 mc46_33 (lk_f7_19) (⟨rfl, by decide⟩ : mt_kd[72]? = some (.inl 7) ∧ 72 < 99) rfl (mk_fc ho (by decide +kernel)) ?_
  refine en_iload_n mc46_36 rfl ?_
  refine en_iald mc46_37 (⟨rfl, by decide, by decide⟩ : mt_kd[76]? = some (.inr (.int, 918)) ∧ 76 < 99 ∧ 918 < 2147483648) g3 g4 ?_
  refine en_iadd mc46_38 ?_
  refine en_icmp_ge 80 mc46_39 (by decide) hg_l4 g5 (fun q => ?_) (fun q => ?_)
  · replace h := h.1 q
    refine en_iinc (ls' := [mm_r 72, mm_i l1, mm_i l2, mm_i (l3 + 1), mm_i l4]) mc46_80 rfl rfl ?_
    refine en_goto 7 mc46_83 (by decide) ?_
    exact h
  · replace h := h.2 q
    obtain ⟨g6, h⟩ := h
    obtain ⟨g7, h⟩ := h
    obtain ⟨g8, h⟩ := h
    obtain ⟨g9, h⟩ := h
    obtain ⟨g10, h⟩ := h
    obtain ⟨g11, h⟩ := h
    obtain ⟨g12, h⟩ := h
    obtain ⟨g13, h⟩ := h
    refine en_iload_n mc46_42 rfl ?_
    refine en_aload_n mc46_43 rfl ?_
    refine en_getR (b := 79) mv46 mc46_44 (lk_f7_28) (⟨rfl, by decide⟩ : mt_kd[72]? = some (.inl 7) ∧ 72 < 99) rfl (mk_fc ho (by decide +kernel)) ?_
    refine en_iload mc46_47 rfl ?_
    refine en_iald mc46_49 (⟨rfl, by decide, by decide⟩ : mt_kd[79]? = some (.inr (.int, 3618)) ∧ 79 < 99 ∧ 3618 < 2147483648) g6 g7 ?_
    refine en_aload_n mc46_50 rfl ?_
    refine en_getR (b := 78) mv46 mc46_51 (lk_f7_25) (⟨rfl, by decide⟩ : mt_kd[72]? = some (.inl 7) ∧ 72 < 99) rfl (mk_fc ho (by decide +kernel)) ?_
    refine en_iload mc46_54 rfl ?_
    refine en_iald mc46_56 (⟨rfl, by decide, by decide⟩ : mt_kd[78]? = some (.inr (.int, 3618)) ∧ 78 < 99 ∧ 3618 < 2147483648) g8 g9 ?_
    refine en_isub mc46_57 ?_
    refine en_aload_n mc46_58 rfl ?_
    refine en_getR (b := 74) mv46 mc46_59 (lk_f7_13) (⟨rfl, by decide⟩ : mt_kd[72]? = some (.inl 7) ∧ 72 < 99) rfl (mk_fc ho (by decide +kernel)) ?_
    refine en_iload_n mc46_62 rfl ?_
    refine en_iald mc46_63 (⟨rfl, by decide, by decide⟩ : mt_kd[74]? = some (.inr (.int, 918)) ∧ 74 < 99 ∧ 918 < 2147483648) g10 g11 ?_
    refine en_aload_n mc46_64 rfl ?_
    refine en_getR (b := 73) mv46 mc46_65 (lk_f7_7) (⟨rfl, by decide⟩ : mt_kd[72]? = some (.inl 7) ∧ 72 < 99) rfl (mk_fc ho (by decide +kernel)) ?_
    refine en_iload_n mc46_68 rfl ?_
    refine en_iald mc46_69 (⟨rfl, by decide, by decide⟩ : mt_kd[73]? = some (.inr (.int, 918)) ∧ 73 < 99 ∧ 918 < 2147483648) g12 g13 ?_
    refine en_isub mc46_70 ?_
    refine en_imul mc46_71 ?_
    refine en_iadd mc46_72 ?_
    refine en_istore_n (ls' := [mm_r 72, mm_i l1, mm_i (l2 + (((M.1 79 l4) - (M.1 78 l4)) * ((M.1 74 l3) - (M.1 73 l3)))), mm_i l3, mm_i l4]) mc46_73 (Nat.le_of_ble_eq_true rfl) rfl ?_
    refine en_iinc (ls' := [mm_r 72, mm_i l1, mm_i (l2 + (((M.1 79 l4) - (M.1 78 l4)) * ((M.1 74 l3) - (M.1 73 l3)))), mm_i l3, mm_i (l4 + 1)]) mc46_74 rfl rfl ?_
    refine en_goto 24 mc46_77 (by decide) ?_
    exact h
/-! 47: CellAreasModel.clear(I)I -/
theorem mc47_0 : mr_C 47 0 = some (.aload_n 0, 1) := rfl
theorem mc47_1 : mr_C 47 1 = some (.aload_n 0, 1) := rfl
theorem mc47_2 : mr_C 47 2 = some (.iload_n 1, 1) := rfl
theorem mc47_3 : mr_C 47 3 = some (.invokevirtual 131, 3) := rfl
theorem mc47_6 : mr_C 47 6 = some (.ifCond .eq (7), 3) := rfl
theorem mc47_9 : mr_C 47 9 = some (.iconst 0, 1) := rfl
theorem mc47_10 : mr_C 47 10 = some (.goto 4, 3) := rfl
theorem mc47_13 : mr_C 47 13 = some (.iconst 1, 1) := rfl
theorem mc47_14 : mr_C 47 14 = some (.putfield 89, 3) := rfl
theorem mc47_17 : mr_C 47 17 = some (.aload_n 0, 1) := rfl
theorem mc47_18 : mr_C 47 18 = some (.getfield 89, 3) := rfl
theorem mc47_21 : mr_C 47 21 = some (.ifCond .le (5), 3) := rfl
theorem mc47_24 : mr_C 47 24 = some (.iconst 0, 1) := rfl
theorem mc47_25 : mr_C 47 25 = some (.ireturn, 1) := rfl
theorem mc47_26 : mr_C 47 26 = some (.aload_n 0, 1) := rfl
theorem mc47_27 : mr_C 47 27 = some (.iload_n 1, 1) := rfl
theorem mc47_28 : mr_C 47 28 = some (.invokevirtual 148, 3) := rfl
theorem mc47_31 : mr_C 47 31 = some (.istore_n 2, 1) := rfl
theorem mc47_32 : mr_C 47 32 = some (.aload_n 0, 1) := rfl
theorem mc47_33 : mr_C 47 33 = some (.getfield 22, 3) := rfl
theorem mc47_36 : mr_C 47 36 = some (.iload_n 1, 1) := rfl
theorem mc47_37 : mr_C 47 37 = some (.iconst 0, 1) := rfl
theorem mc47_38 : mr_C 47 38 = some (.iastore, 1) := rfl
theorem mc47_39 : mr_C 47 39 = some (.aload_n 0, 1) := rfl
theorem mc47_40 : mr_C 47 40 = some (.getfield 31, 3) := rfl
theorem mc47_43 : mr_C 47 43 = some (.iload_n 1, 1) := rfl
theorem mc47_44 : mr_C 47 44 = some (.iconst 0, 1) := rfl
theorem mc47_45 : mr_C 47 45 = some (.iastore, 1) := rfl
theorem mc47_46 : mr_C 47 46 = some (.iload_n 2, 1) := rfl
theorem mc47_47 : mr_C 47 47 = some (.ireturn, 1) := rfl
theorem vc47_0 {sc : Nat × (Int → Int)} {Q : mm_R → mm_M → Prop} {M : mm_M} {l1 : Int} (ho : mr_ok M)
    (h : en_CI sc 34 [mm_r 72, mm_i l1] M (fun x1 M2 => mr_ok M2 → mr_rg x1 ∧ ((x1 = 0 → en_R sc 47 14 [mm_r 72, mm_i l1, mm_u] [mm_i 1, mm_r 72] M2 Q) ∧ (¬ x1 = 0 → en_R sc 47 14 [mm_r 72, mm_i l1, mm_u] [mm_i 0, mm_r 72] M2 Q))) (fun e M9 => Q (.inr e) M9)) : en_R sc 47 0 [mm_r 72, mm_i l1, mm_u] [] M Q := by
  refine en_aload_n mc47_0 rfl ?_
  refine en_aload_n mc47_1 rfl ?_
  refine en_iload_n mc47_2 rfl ?_
  refine en_callI (lz := [mm_r 72, mm_i l1]) mv47 mc47_3 rfl rfl (lk_m7_131) mv34 rfl (by decide) rfl (mk_cokV rfl (⟨rfl, by decide⟩ : mt_kd[72]? = some (.inl 7) ∧ 72 < 99)) rfl (mk_nh rfl _) ho ?_
  refine en_CI_mono h (fun x1 M2 h => ?_) (fun _ _ h => h)
  intro ho3
  replace h := h ho3
  obtain ⟨g4, h⟩ := h
  refine en_if_eq 13 mc47_6 (by decide) g4 (fun q => ?_) (fun q => ?_)
  · replace h := h.1 q
    refine en_iconst mc47_13 ?_
    exact h
  · replace h := h.2 q
    refine en_iconst mc47_9 ?_
    refine en_goto 14 mc47_10 (by decide) ?_
    exact h
theorem vc47_14 {sc : Nat × (Int → Int)} {Q : mm_R → mm_M → Prop} {M : mm_M} {l1 : Int} {s1 : Int} (ho : mr_ok M) (hg_s1 : mr_rg s1)
    (h : (((mm_putN M 72 0 s1).1 72 0) ≤ 0 → en_CI sc 46 [mm_r 72, mm_i l1, mm_u, mm_u, mm_u] (mm_putN M 72 0 s1) (fun x1 M2 => mr_ok M2 → 0 ≤ l1 ∧ (l1 < 9 ∧ (0 ≤ l1 ∧ (l1 < 9 ∧ (Q (.inl (some (mm_i x1))) (mm_putN (mm_putN M2 77 l1 0) 80 l1 0)))))) (fun e M9 => Q (.inr e) M9)) ∧ (¬ ((mm_putN M 72 0 s1).1 72 0) ≤ 0 → Q (.inl (some (mm_i 0))) (mm_putN M 72 0 s1))) : en_R sc 47 14 [mm_r 72, mm_i l1, mm_u] [mm_i s1, mm_r 72] M Q := by
  refine en_putI mv47 mc47_14 (lk_f7_89) (⟨rfl, by decide⟩ : mt_kd[72]? = some (.inl 7) ∧ 72 < 99) rfl rfl hg_s1 ?_
  refine en_aload_n mc47_17 rfl ?_
  refine en_getI mv47 mc47_18 (lk_f7_89) (⟨rfl, by decide⟩ : mt_kd[72]? = some (.inl 7) ∧ 72 < 99) (Or.inl rfl) ?_
  refine en_if_le 26 mc47_21 (by decide) ((mr_ok_putI (a := 72) (k := 0) ho hg_s1).2.1 72 0 (by unfold mr_lg; omega)) (fun q => ?_) (fun q => ?_)
  · replace h := h.1 q
    refine en_aload_n mc47_26 rfl ?_
    refine en_iload_n mc47_27 rfl ?_
    refine en_callI (lz := [mm_r 72, mm_i l1, mm_u, mm_u, mm_u]) mv47 mc47_28 rfl rfl (lk_m7_148) mv46 rfl (by decide) rfl (mk_cokV rfl (⟨rfl, by decide⟩ : mt_kd[72]? = some (.inl 7) ∧ 72 < 99)) rfl (mk_nh rfl _) (mr_ok_putI (a := 72) (k := 0) ho hg_s1) ?_
    refine en_CI_mono h (fun x1 M2 h => ?_) (fun _ _ h => h)
    intro ho3
    replace h := h ho3
    obtain ⟨g4, h⟩ := h
    obtain ⟨g5, h⟩ := h
    obtain ⟨g6, h⟩ := h
    obtain ⟨g7, h⟩ := h
    refine en_istore_n (ls' := [mm_r 72, mm_i l1, mm_i x1]) mc47_31 (Nat.le_of_ble_eq_true rfl) rfl ?_
    refine en_aload_n mc47_32 rfl ?_
    refine en_getR (b := 77) mv47 mc47_33 (lk_f7_22) (⟨rfl, by decide⟩ : mt_kd[72]? = some (.inl 7) ∧ 72 < 99) rfl (mk_fc ho3 (by decide +kernel)) ?_
    refine en_iload_n mc47_36 rfl ?_
    refine en_iconst mc47_37 ?_
    refine en_iast mc47_38 (⟨rfl, by decide, by decide⟩ : mt_kd[77]? = some (.inr (.int, 9)) ∧ 77 < 99 ∧ 9 < 2147483648) g4 g5 (⟨by decide, by decide⟩ : mr_rg 0) ?_
    refine en_aload_n mc47_39 rfl ?_
    refine en_getR (b := 80) mv47 mc47_40 (lk_f7_31) (⟨rfl, by decide⟩ : mt_kd[72]? = some (.inl 7) ∧ 72 < 99) rfl (mk_fc (mr_ok_putI (a := 77) (k := l1) ho3 (⟨by decide, by decide⟩ : mr_rg 0)) (by decide +kernel)) ?_
    refine en_iload_n mc47_43 rfl ?_
    refine en_iconst mc47_44 ?_
    refine en_iast mc47_45 (⟨rfl, by decide, by decide⟩ : mt_kd[80]? = some (.inr (.int, 9)) ∧ 80 < 99 ∧ 9 < 2147483648) g6 g7 (⟨by decide, by decide⟩ : mr_rg 0) ?_
    refine en_iload_n mc47_46 rfl ?_
    exact en_iret mv47 mc47_47 rfl h
  · replace h := h.2 q
    refine en_iconst mc47_24 ?_
    exact en_iret mv47 mc47_25 rfl h
/-! 48: CellAreas$Area.markRows(LCellAreas$Row;I)V -/
theorem mc48_0 : mr_C 48 0 = some (.iconst 0, 1) := rfl
theorem mc48_1 : mr_C 48 1 = some (.istore_n 3, 1) := rfl
theorem mc48_2 : mr_C 48 2 = some (.iload_n 3, 1) := rfl
theorem mc48_3 : mr_C 48 3 = some (.aload_n 0, 1) := rfl
theorem mc48_4 : mr_C 48 4 = some (.getfield 9, 3) := rfl
theorem mc48_7 : mr_C 48 7 = some (.if_icmp .ge (53), 3) := rfl
theorem mc48_10 : mr_C 48 10 = some (.aload_n 1, 1) := rfl
theorem mc48_11 : mr_C 48 11 = some (.aload_n 0, 1) := rfl
theorem mc48_12 : mr_C 48 12 = some (.getfield 15, 3) := rfl
theorem mc48_15 : mr_C 48 15 = some (.iload_n 3, 1) := rfl
theorem mc48_16 : mr_C 48 16 = some (.iaload, 1) := rfl
theorem mc48_17 : mr_C 48 17 = some (.iload_n 2, 1) := rfl
theorem mc48_18 : mr_C 48 18 = some (.iadd, 1) := rfl
theorem mc48_19 : mr_C 48 19 = some (.aload_n 0, 1) := rfl
theorem mc48_20 : mr_C 48 20 = some (.getfield 15, 3) := rfl
theorem mc48_23 : mr_C 48 23 = some (.iload_n 3, 1) := rfl
theorem mc48_24 : mr_C 48 24 = some (.iaload, 1) := rfl
theorem mc48_25 : mr_C 48 25 = some (.iload_n 2, 1) := rfl
theorem mc48_26 : mr_C 48 26 = some (.iadd, 1) := rfl
theorem mc48_27 : mr_C 48 27 = some (.iconst 1, 1) := rfl
theorem mc48_28 : mr_C 48 28 = some (.iadd, 1) := rfl
theorem mc48_29 : mr_C 48 29 = some (.invokevirtual 42, 3) := rfl
theorem mc48_32 : mr_C 48 32 = some (.aload_n 1, 1) := rfl
theorem mc48_33 : mr_C 48 33 = some (.aload_n 0, 1) := rfl
theorem mc48_34 : mr_C 48 34 = some (.getfield 19, 3) := rfl
theorem mc48_37 : mr_C 48 37 = some (.iload_n 3, 1) := rfl
theorem mc48_38 : mr_C 48 38 = some (.iaload, 1) := rfl
theorem mc48_39 : mr_C 48 39 = some (.iload_n 2, 1) := rfl
theorem mc48_40 : mr_C 48 40 = some (.iadd, 1) := rfl
theorem mc48_41 : mr_C 48 41 = some (.aload_n 0, 1) := rfl
theorem mc48_42 : mr_C 48 42 = some (.getfield 19, 3) := rfl
theorem mc48_45 : mr_C 48 45 = some (.iload_n 3, 1) := rfl
theorem mc48_46 : mr_C 48 46 = some (.iaload, 1) := rfl
theorem mc48_47 : mr_C 48 47 = some (.iload_n 2, 1) := rfl
theorem mc48_48 : mr_C 48 48 = some (.iadd, 1) := rfl
theorem mc48_49 : mr_C 48 49 = some (.iconst 1, 1) := rfl
theorem mc48_50 : mr_C 48 50 = some (.iadd, 1) := rfl
theorem mc48_51 : mr_C 48 51 = some (.invokevirtual 42, 3) := rfl
theorem mc48_54 : mr_C 48 54 = some (.iinc 3 (1), 3) := rfl
theorem mc48_57 : mr_C 48 57 = some (.goto (-55), 3) := rfl
theorem mc48_60 : mr_C 48 60 = some (.return_, 1) := rfl
theorem vc48_0 {sc : Nat × (Int → Int)} {Q : mm_R → mm_M → Prop} {M : mm_M} {l0 : Nat} {l1 : Nat} {l2 : Int} (ho : mr_ok M)
    (h : en_R sc 48 2 [mm_r l0, mm_r l1, mm_i l2, mm_i 0] [] M Q) : en_R sc 48 0 [mm_r l0, mm_r l1, mm_i l2, mm_u] [] M Q := by
  refine en_iconst mc48_0 ?_
  refine en_istore_n (ls' := [mm_r l0, mm_r l1, mm_i l2, mm_i 0]) mc48_1 (Nat.le_of_ble_eq_true rfl) rfl ?_
  exact h
theorem vc48_2 {sc : Nat × (Int → Int)} {Q : mm_R → mm_M → Prop} {M : mm_M} {l0 : Nat} {l1 : Nat} {l2 : Int} {l3 : Int} (ho : mr_ok M) (hA_l0 : mr_A l0) (hg_l3 : mr_rg l3) (hR_l1 : mr_Rw l1)
    (h : ((M.1 l0 0) ≤ l3 → Q (.inl none) M) ∧ (¬ (M.1 l0 0) ≤ l3 → 0 ≤ l3 ∧ (l3 < 100 ∧ (0 ≤ l3 ∧ (l3 < 100 ∧ (en_CV sc 17 [mm_r l1, mm_i ((M.1 (l0 + 1) l3) + l2), mm_i (((M.1 (l0 + 1) l3) + l2) + 1)] M (fun M6 => mr_ok M6 → 0 ≤ l3 ∧ (l3 < 100 ∧ (0 ≤ l3 ∧ (l3 < 100 ∧ (en_CV sc 17 [mm_r l1, mm_i ((M6.1 (l0 + 2) l3) + l2), mm_i (((M6.1 (l0 + 2) l3) + l2) + 1)] M6 (fun M13 => mr_ok M13 → en_R sc 48 2 [mm_r l0, mm_r l1, mm_i l2, mm_i (l3 + 1)] [] M13 Q) (fun e M9 => Q (.inr e) M9)))))) (fun e M9 => Q (.inr e) M9))))))) : en_R sc 48 2 [mm_r l0, mm_r l1, mm_i l2, mm_i l3] [] M Q := by
  refine en_iload_n mc48_2 rfl ?_
  refine en_aload_n mc48_3 rfl ?_
  refine en_getI mv48 mc48_4 (lk_f0_9) (mk_A0 hA_l0) (Or.inl rfl) ?_
  refine en_icmp_ge 60 mc48_7 (by decide) hg_l3 (ho.2.1 l0 0 (mk_nA0 hA_l0 _)) (fun q => ?_) (fun q => ?_)
  · replace h := h.1 q
    exact en_vret mv48 mc48_60 rfl h
  · replace h := h.2 q
    obtain ⟨g1, h⟩ := h
    obtain ⟨g2, h⟩ := h
    obtain ⟨g3, h⟩ := h
    obtain ⟨g4, h⟩ := h
    refine en_aload_n mc48_10 rfl ?_
    refine en_aload_n mc48_11 rfl ?_
    refine en_getR (b := (l0 + 1)) mv48 mc48_12 (lk_f0_15) (mk_A0 hA_l0) rfl (mk_fA1 hA_l0 ho) ?_
    refine en_iload_n mc48_15 rfl ?_
    refine en_iald mc48_16 (mk_A1 hA_l0) g1 g2 ?_
    refine en_iload_n mc48_17 rfl ?_
    refine en_iadd mc48_18 ?_
    refine en_aload_n mc48_19 rfl ?_
    refine en_getR (b := (l0 + 1)) mv48 mc48_20 (lk_f0_15) (mk_A0 hA_l0) rfl (mk_fA1 hA_l0 ho) ?_
    refine en_iload_n mc48_23 rfl ?_
    refine en_iald mc48_24 (mk_A1 hA_l0) g3 g4 ?_
    refine en_iload_n mc48_25 rfl ?_
    refine en_iadd mc48_26 ?_
    refine en_iconst mc48_27 ?_
    refine en_iadd mc48_28 ?_
    refine en_callV (lz := [mm_r l1, mm_i ((M.1 (l0 + 1) l3) + l2), mm_i (((M.1 (l0 + 1) l3) + l2) + 1)]) mv48 mc48_29 rfl rfl (lk_m0_42) mv17 rfl (by decide) rfl (mk_cokV rfl (mk_R0 hR_l1)) rfl (mk_nh rfl _) ho ?_
    refine en_CV_mono h (fun M6 h => ?_) (fun _ _ h => h)
    intro ho7
    replace h := h ho7
    obtain ⟨g8, h⟩ := h
    obtain ⟨g9, h⟩ := h
    obtain ⟨g10, h⟩ := h
    obtain ⟨g11, h⟩ := h
    refine en_aload_n mc48_32 rfl ?_
    refine en_aload_n mc48_33 rfl ?_
    refine en_getR (b := (l0 + 2)) mv48 mc48_34 (lk_f0_19) (mk_A0 hA_l0) rfl (mk_fA2 hA_l0 ho7) ?_
    refine en_iload_n mc48_37 rfl ?_
    refine en_iald mc48_38 (mk_A2 hA_l0) g8 g9 ?_
    refine en_iload_n mc48_39 rfl ?_
    refine en_iadd mc48_40 ?_
    refine en_aload_n mc48_41 rfl ?_
    refine en_getR (b := (l0 + 2)) mv48 mc48_42 (lk_f0_19) (mk_A0 hA_l0) rfl (mk_fA2 hA_l0 ho7) ?_
    refine en_iload_n mc48_45 rfl ?_
    refine en_iald mc48_46 (mk_A2 hA_l0) g10 g11 ?_
    refine en_iload_n mc48_47 rfl ?_
    refine en_iadd mc48_48 ?_
    refine en_iconst mc48_49 ?_
    refine en_iadd mc48_50 ?_
    refine en_callV (lz := [mm_r l1, mm_i ((M6.1 (l0 + 2) l3) + l2), mm_i (((M6.1 (l0 + 2) l3) + l2) + 1)]) mv48 mc48_51 rfl rfl (lk_m0_42) mv17 rfl (by decide) rfl (mk_cokV rfl (mk_R0 hR_l1)) rfl (mk_nh rfl _) ho7 ?_
    refine en_CV_mono h (fun M13 h => ?_) (fun _ _ h => h)
    intro ho14
    replace h := h ho14
    refine en_iinc (ls' := [mm_r l0, mm_r l1, mm_i l2, mm_i (l3 + 1)]) mc48_54 rfl rfl ?_
    refine en_goto 2 mc48_57 (by decide) ?_
    exact h
/-! 49: CellAreas$Area.bandAt(I)I -/
theorem mc49_0 : mr_C 49 0 = some (.iconst 0, 1) := rfl
theorem mc49_1 : mr_C 49 1 = some (.istore_n 2, 1) := rfl
theorem mc49_2 : mr_C 49 2 = some (.aload_n 0, 1) := rfl
theorem mc49_3 : mr_C 49 3 = some (.getfield 9, 3) := rfl
theorem mc49_6 : mr_C 49 6 = some (.istore_n 3, 1) := rfl
theorem mc49_7 : mr_C 49 7 = some (.iload_n 2, 1) := rfl
theorem mc49_8 : mr_C 49 8 = some (.iload_n 3, 1) := rfl
theorem mc49_9 : mr_C 49 9 = some (.if_icmp .ge (35), 3) := rfl
theorem mc49_12 : mr_C 49 12 = some (.iload_n 2, 1) := rfl
theorem mc49_13 : mr_C 49 13 = some (.iload_n 3, 1) := rfl
theorem mc49_14 : mr_C 49 14 = some (.iadd, 1) := rfl
theorem mc49_15 : mr_C 49 15 = some (.iconst 2, 1) := rfl
theorem mc49_16 : mr_C 49 16 = some (.idiv, 1) := rfl
theorem mc49_17 : mr_C 49 17 = some (.istore 4, 2) := rfl
theorem mc49_19 : mr_C 49 19 = some (.aload_n 0, 1) := rfl
theorem mc49_20 : mr_C 49 20 = some (.getfield 19, 3) := rfl
theorem mc49_23 : mr_C 49 23 = some (.iload 4, 2) := rfl
theorem mc49_25 : mr_C 49 25 = some (.iaload, 1) := rfl
theorem mc49_26 : mr_C 49 26 = some (.iload_n 1, 1) := rfl
theorem mc49_27 : mr_C 49 27 = some (.if_icmp .le (9), 3) := rfl
theorem mc49_30 : mr_C 49 30 = some (.iload 4, 2) := rfl
theorem mc49_32 : mr_C 49 32 = some (.istore_n 3, 1) := rfl
theorem mc49_33 : mr_C 49 33 = some (.goto 8, 3) := rfl
theorem mc49_36 : mr_C 49 36 = some (.iload 4, 2) := rfl
theorem mc49_38 : mr_C 49 38 = some (.iconst 1, 1) := rfl
theorem mc49_39 : mr_C 49 39 = some (.iadd, 1) := rfl
theorem mc49_40 : mr_C 49 40 = some (.istore_n 2, 1) := rfl
theorem mc49_41 : mr_C 49 41 = some (.goto (-34), 3) := rfl
theorem mc49_44 : mr_C 49 44 = some (.iload_n 2, 1) := rfl
theorem mc49_45 : mr_C 49 45 = some (.aload_n 0, 1) := rfl
theorem mc49_46 : mr_C 49 46 = some (.getfield 9, 3) := rfl
theorem mc49_49 : mr_C 49 49 = some (.if_icmp .ge (17), 3) := rfl
theorem mc49_52 : mr_C 49 52 = some (.aload_n 0, 1) := rfl
theorem mc49_53 : mr_C 49 53 = some (.getfield 15, 3) := rfl
theorem mc49_56 : mr_C 49 56 = some (.iload_n 2, 1) := rfl
theorem mc49_57 : mr_C 49 57 = some (.iaload, 1) := rfl
theorem mc49_58 : mr_C 49 58 = some (.iload_n 1, 1) := rfl
theorem mc49_59 : mr_C 49 59 = some (.if_icmp .gt (7), 3) := rfl
theorem mc49_62 : mr_C 49 62 = some (.iload_n 2, 1) := rfl
theorem mc49_63 : mr_C 49 63 = some (.goto 4, 3) := rfl
theorem mc49_66 : mr_C 49 66 = some (.iconst (-1), 1) := rfl
theorem mc49_67 : mr_C 49 67 = some (.ireturn, 1) := rfl
theorem vc49_0 {sc : Nat × (Int → Int)} {Q : mm_R → mm_M → Prop} {M : mm_M} {l0 : Nat} {l1 : Int} (ho : mr_ok M) (hA_l0 : mr_A l0)
    (h : en_R sc 49 7 [mm_r l0, mm_i l1, mm_i 0, mm_i (M.1 l0 0), mm_u] [] M Q) : en_R sc 49 0 [mm_r l0, mm_i l1, mm_u, mm_u, mm_u] [] M Q := by
  refine en_iconst mc49_0 ?_
  refine en_istore_n (ls' := [mm_r l0, mm_i l1, mm_i 0, mm_u, mm_u]) mc49_1 (Nat.le_of_ble_eq_true rfl) rfl ?_
  refine en_aload_n mc49_2 rfl ?_
  refine en_getI mv49 mc49_3 (lk_f0_9) (mk_A0 hA_l0) (Or.inl rfl) ?_
  refine en_istore_n (ls' := [mm_r l0, mm_i l1, mm_i 0, mm_i (M.1 l0 0), mm_u]) mc49_6 (Nat.le_of_ble_eq_true rfl) rfl ?_
  exact h
theorem vc49_7 {sc : Nat × (Int → Int)} {Q : mm_R → mm_M → Prop} {M : mm_M} {l0 : Nat} {l1 : Int} {l2 : Int} {l3 : Int} {l4 : mm_V} (ho : mr_ok M) (hg_l2 : mr_rg l2) (hg_l3 : mr_rg l3) (hA_l0 : mr_A l0) (hg_l1 : mr_rg l1)
    (h : (l3 ≤ l2 → ((M.1 l0 0) ≤ l2 → Q (.inl (some (mm_i (-1)))) M) ∧ (¬ (M.1 l0 0) ≤ l2 → 0 ≤ l2 ∧ (l2 < 100 ∧ ((l1 < (M.1 (l0 + 1) l2) → Q (.inl (some (mm_i (-1)))) M) ∧ (¬ l1 < (M.1 (l0 + 1) l2) → Q (.inl (some (mm_i l2))) M))))) ∧ (¬ l3 ≤ l2 → mr_rg (l2 + l3) ∧ (0 ≤ (l2 + l3) ∧ (0 ≤ ((l2 + l3) / 2) ∧ (((l2 + l3) / 2) < 100 ∧ (((M.1 (l0 + 2) ((l2 + l3) / 2)) ≤ l1 → en_R sc 49 7 [mm_r l0, mm_i l1, mm_i (((l2 + l3) / 2) + 1), mm_i l3, mm_i ((l2 + l3) / 2)] [] M Q) ∧ (¬ (M.1 (l0 + 2) ((l2 + l3) / 2)) ≤ l1 → en_R sc 49 7 [mm_r l0, mm_i l1, mm_i l2, mm_i ((l2 + l3) / 2), mm_i ((l2 + l3) / 2)] [] M Q))))))) : en_R sc 49 7 [mm_r l0, mm_i l1, mm_i l2, mm_i l3, l4] [] M Q := by
  refine en_iload_n mc49_7 rfl ?_
  refine en_iload_n mc49_8 rfl ?_
  refine en_icmp_ge 44 mc49_9 (by decide) hg_l2 hg_l3 (fun q => ?_) (fun q => ?_)
  · replace h := h.1 q
    refine en_iload_n mc49_44 rfl ?_
    refine en_aload_n mc49_45 rfl ?_
    refine en_getI mv49 mc49_46 (lk_f0_9) (mk_A0 hA_l0) (Or.inl rfl) ?_
    refine en_icmp_ge 66 mc49_49 (by decide) hg_l2 (ho.2.1 l0 0 (mk_nA0 hA_l0 _)) (fun q => ?_) (fun q => ?_)
    · replace h := h.1 q
      refine en_iconst mc49_66 ?_
      exact en_iret mv49 mc49_67 rfl h
    · replace h := h.2 q
      obtain ⟨g1, h⟩ := h
      obtain ⟨g2, h⟩ := h
      refine en_aload_n mc49_52 rfl ?_
      refine en_getR (b := (l0 + 1)) mv49 mc49_53 (lk_f0_15) (mk_A0 hA_l0) rfl (mk_fA1 hA_l0 ho) ?_
      refine en_iload_n mc49_56 rfl ?_
      refine en_iald mc49_57 (mk_A1 hA_l0) g1 g2 ?_
      refine en_iload_n mc49_58 rfl ?_
      refine en_icmp_gt 66 mc49_59 (by decide) (ho.2.1 (l0 + 1) l2 ((mk_nA1 hA_l0) _)) hg_l1 (fun q => ?_) (fun q => ?_)
      · replace h := h.1 q
        refine en_iconst mc49_66 ?_
        exact en_iret mv49 mc49_67 rfl h
      · replace h := h.2 q
        refine en_iload_n mc49_62 rfl ?_
        refine en_goto 67 mc49_63 (by decide) ?_
        exact en_iret mv49 mc49_67 rfl h
  · replace h := h.2 q
    obtain ⟨g3, h⟩ := h
    obtain ⟨g4, h⟩ := h
    obtain ⟨g5, h⟩ := h
    obtain ⟨g6, h⟩ := h
    refine en_iload_n mc49_12 rfl ?_
    refine en_iload_n mc49_13 rfl ?_
    refine en_iadd mc49_14 ?_
    refine en_iconst mc49_15 ?_
    refine en_idiv mc49_16 g3 (⟨by decide, by decide⟩ : mr_rg 2) g4 (by decide) ?_
    refine en_istore (ls' := [mm_r l0, mm_i l1, mm_i l2, mm_i l3, mm_i ((l2 + l3) / 2)]) mc49_17 (Nat.le_of_ble_eq_true rfl) rfl ?_
    refine en_aload_n mc49_19 rfl ?_
    refine en_getR (b := (l0 + 2)) mv49 mc49_20 (lk_f0_19) (mk_A0 hA_l0) rfl (mk_fA2 hA_l0 ho) ?_
    refine en_iload mc49_23 rfl ?_
    refine en_iald mc49_25 (mk_A2 hA_l0) g5 g6 ?_
    refine en_iload_n mc49_26 rfl ?_
    refine en_icmp_le 36 mc49_27 (by decide) (ho.2.1 (l0 + 2) ((l2 + l3) / 2) ((mk_nA2 hA_l0) _)) hg_l1 (fun q => ?_) (fun q => ?_)
    · replace h := h.1 q
      refine en_iload mc49_36 rfl ?_
      refine en_iconst mc49_38 ?_
      refine en_iadd mc49_39 ?_
      refine en_istore_n (ls' := [mm_r l0, mm_i l1, mm_i (((l2 + l3) / 2) + 1), mm_i l3, mm_i ((l2 + l3) / 2)]) mc49_40 (Nat.le_of_ble_eq_true rfl) rfl ?_
      refine en_goto 7 mc49_41 (by decide) ?_
      exact h
    · replace h := h.2 q
      refine en_iload mc49_30 rfl ?_
      refine en_istore_n (ls' := [mm_r l0, mm_i l1, mm_i l2, mm_i ((l2 + l3) / 2), mm_i ((l2 + l3) / 2)]) mc49_32 (Nat.le_of_ble_eq_true rfl) rfl ?_
      refine en_goto 41 mc49_33 (by decide) ?_
      refine en_goto 7 mc49_41 (by decide) ?_
      exact h
/-! 50: CellAreas$Area.startOf(I)I -/
theorem mc50_0 : mr_C 50 0 = some (.iload_n 1, 1) := rfl
theorem mc50_1 : mr_C 50 1 = some (.iconst (-1), 1) := rfl
theorem mc50_2 : mr_C 50 2 = some (.if_icmp .ne (7), 3) := rfl
theorem mc50_5 : mr_C 50 5 = some (.iconst 0, 1) := rfl
theorem mc50_6 : mr_C 50 6 = some (.goto 9, 3) := rfl
theorem mc50_9 : mr_C 50 9 = some (.aload_n 0, 1) := rfl
theorem mc50_10 : mr_C 50 10 = some (.getfield 22, 3) := rfl
theorem mc50_13 : mr_C 50 13 = some (.iload_n 1, 1) := rfl
theorem mc50_14 : mr_C 50 14 = some (.iaload, 1) := rfl
theorem mc50_15 : mr_C 50 15 = some (.ireturn, 1) := rfl
theorem vc50_0 {sc : Nat × (Int → Int)} {Q : mm_R → mm_M → Prop} {M : mm_M} {l0 : Nat} {l1 : Int} (ho : mr_ok M) (hg_l1 : mr_rg l1) (hA_l0 : mr_A l0)
    (h : (l1 ≠ (-1) → 0 ≤ l1 ∧ (l1 < 101 ∧ (Q (.inl (some (mm_i (M.1 (l0 + 3) l1)))) M))) ∧ (¬ (l1 ≠ (-1)) → Q (.inl (some (mm_i 0))) M)) : en_R sc 50 0 [mm_r l0, mm_i l1] [] M Q := by
  refine en_iload_n mc50_0 rfl ?_
  refine en_iconst mc50_1 ?_
  refine en_icmp_ne 9 mc50_2 (by decide) hg_l1 (⟨by decide, by decide⟩ : mr_rg (-1)) (fun q => ?_) (fun q => ?_)
  · replace h := h.1 q
    obtain ⟨g1, h⟩ := h
    obtain ⟨g2, h⟩ := h
    refine en_aload_n mc50_9 rfl ?_
    refine en_getR (b := (l0 + 3)) mv50 mc50_10 (lk_f0_22) (mk_A0 hA_l0) rfl (mk_fA3 hA_l0 ho) ?_
    refine en_iload_n mc50_13 rfl ?_
    refine en_iald mc50_14 (mk_A3 hA_l0) g1 g2 ?_
    exact en_iret mv50 mc50_15 rfl h
  · replace h := h.2 q
    refine en_iconst mc50_5 ?_
    refine en_goto 15 mc50_6 (by decide) ?_
    exact en_iret mv50 mc50_15 rfl h
/-! 51: CellAreas$Area.endOf(I)I -/
theorem mc51_0 : mr_C 51 0 = some (.iload_n 1, 1) := rfl
theorem mc51_1 : mr_C 51 1 = some (.iconst (-1), 1) := rfl
theorem mc51_2 : mr_C 51 2 = some (.if_icmp .ne (7), 3) := rfl
theorem mc51_5 : mr_C 51 5 = some (.iconst 0, 1) := rfl
theorem mc51_6 : mr_C 51 6 = some (.goto 11, 3) := rfl
theorem mc51_9 : mr_C 51 9 = some (.aload_n 0, 1) := rfl
theorem mc51_10 : mr_C 51 10 = some (.getfield 22, 3) := rfl
theorem mc51_13 : mr_C 51 13 = some (.iload_n 1, 1) := rfl
theorem mc51_14 : mr_C 51 14 = some (.iconst 1, 1) := rfl
theorem mc51_15 : mr_C 51 15 = some (.iadd, 1) := rfl
theorem mc51_16 : mr_C 51 16 = some (.iaload, 1) := rfl
theorem mc51_17 : mr_C 51 17 = some (.ireturn, 1) := rfl
theorem vc51_0 {sc : Nat × (Int → Int)} {Q : mm_R → mm_M → Prop} {M : mm_M} {l0 : Nat} {l1 : Int} (ho : mr_ok M) (hg_l1 : mr_rg l1) (hA_l0 : mr_A l0)
    (h : (l1 ≠ (-1) → 0 ≤ (l1 + 1) ∧ ((l1 + 1) < 101 ∧ (Q (.inl (some (mm_i (M.1 (l0 + 3) (l1 + 1))))) M))) ∧ (¬ (l1 ≠ (-1)) → Q (.inl (some (mm_i 0))) M)) : en_R sc 51 0 [mm_r l0, mm_i l1] [] M Q := by
  refine en_iload_n mc51_0 rfl ?_
  refine en_iconst mc51_1 ?_
  refine en_icmp_ne 9 mc51_2 (by decide) hg_l1 (⟨by decide, by decide⟩ : mr_rg (-1)) (fun q => ?_) (fun q => ?_)
  · replace h := h.1 q
    obtain ⟨g1, h⟩ := h
    obtain ⟨g2, h⟩ := h
    refine en_aload_n mc51_9 rfl ?_
    refine en_getR (b := (l0 + 3)) mv51 mc51_10 (lk_f0_22) (mk_A0 hA_l0) rfl (mk_fA3 hA_l0 ho) ?_
    refine en_iload_n mc51_13 rfl ?_
    refine en_iconst mc51_14 ?_
    refine en_iadd mc51_15 ?_
    refine en_iald mc51_16 (mk_A3 hA_l0) g1 g2 ?_
    exact en_iret mv51 mc51_17 rfl h
  · replace h := h.2 q
    refine en_iconst mc51_5 ?_
    refine en_goto 17 mc51_6 (by decide) ?_
    exact en_iret mv51 mc51_17 rfl h
/-! 52: CellAreas$Area.layBand(ILCellAreas$Row;II)V -/
theorem mc52_0 : mr_C 52 0 = some (.aload_n 0, 1) := rfl
theorem mc52_1 : mr_C 52 1 = some (.iload_n 1, 1) := rfl
theorem mc52_2 : mr_C 52 2 = some (.invokevirtual 39, 3) := rfl
theorem mc52_5 : mr_C 52 5 = some (.istore 5, 2) := rfl
theorem mc52_7 : mr_C 52 7 = some (.iload 5, 2) := rfl
theorem mc52_9 : mr_C 52 9 = some (.aload_n 0, 1) := rfl
theorem mc52_10 : mr_C 52 10 = some (.iload_n 1, 1) := rfl
theorem mc52_11 : mr_C 52 11 = some (.invokevirtual 35, 3) := rfl
theorem mc52_14 : mr_C 52 14 = some (.if_icmp .ge (32), 3) := rfl
theorem mc52_17 : mr_C 52 17 = some (.aload_n 2, 1) := rfl
theorem mc52_18 : mr_C 52 18 = some (.aload_n 0, 1) := rfl
theorem mc52_19 : mr_C 52 19 = some (.getfield 25, 3) := rfl
theorem mc52_22 : mr_C 52 22 = some (.iload 5, 2) := rfl
theorem mc52_24 : mr_C 52 24 = some (.iaload, 1) := rfl
theorem mc52_25 : mr_C 52 25 = some (.iload_n 3, 1) := rfl
theorem mc52_26 : mr_C 52 26 = some (.isub, 1) := rfl
theorem mc52_27 : mr_C 52 27 = some (.aload_n 0, 1) := rfl
theorem mc52_28 : mr_C 52 28 = some (.getfield 28, 3) := rfl
theorem mc52_31 : mr_C 52 31 = some (.iload 5, 2) := rfl
theorem mc52_33 : mr_C 52 33 = some (.iaload, 1) := rfl
theorem mc52_34 : mr_C 52 34 = some (.iload 4, 2) := rfl
theorem mc52_36 : mr_C 52 36 = some (.iadd, 1) := rfl
theorem mc52_37 : mr_C 52 37 = some (.invokevirtual 42, 3) := rfl
theorem mc52_40 : mr_C 52 40 = some (.iinc 5 (1), 3) := rfl
theorem mc52_43 : mr_C 52 43 = some (.goto (-36), 3) := rfl
theorem mc52_46 : mr_C 52 46 = some (.return_, 1) := rfl
theorem vc52_0 {sc : Nat × (Int → Int)} {Q : mm_R → mm_M → Prop} {M : mm_M} {l0 : Nat} {l1 : Int} {l2 : Nat} {l3 : Int} {l4 : Int} (ho : mr_ok M) (hA_l0 : mr_A l0)
    (h : en_CI sc 50 [mm_r l0, mm_i l1] M (fun x1 M2 => mr_ok M2 → en_R sc 52 7 [mm_r l0, mm_i l1, mm_r l2, mm_i l3, mm_i l4, mm_i x1] [] M2 Q) (fun e M9 => Q (.inr e) M9)) : en_R sc 52 0 [mm_r l0, mm_i l1, mm_r l2, mm_i l3, mm_i l4, mm_u] [] M Q := by
  refine en_aload_n mc52_0 rfl ?_
  refine en_iload_n mc52_1 rfl ?_
  refine en_callI (lz := [mm_r l0, mm_i l1]) mv52 mc52_2 rfl rfl (lk_m0_39) mv50 rfl (by decide) rfl (mk_cokV rfl (mk_A0 hA_l0)) rfl (mk_nh rfl _) ho ?_
  refine en_CI_mono h (fun x1 M2 h => ?_) (fun _ _ h => h)
  intro ho3
  replace h := h ho3
  refine en_istore (ls' := [mm_r l0, mm_i l1, mm_r l2, mm_i l3, mm_i l4, mm_i x1]) mc52_5 (Nat.le_of_ble_eq_true rfl) rfl ?_
  exact h
theorem vc52_7 {sc : Nat × (Int → Int)} {Q : mm_R → mm_M → Prop} {M : mm_M} {l0 : Nat} {l1 : Int} {l2 : Nat} {l3 : Int} {l4 : Int} {l5 : Int} (ho : mr_ok M) (hA_l0 : mr_A l0) (hg_l5 : mr_rg l5) (hR_l2 : mr_Rw l2)
    (h : en_CI sc 51 [mm_r l0, mm_i l1] M (fun x1 M2 => mr_ok M2 → mr_rg x1 ∧ ((x1 ≤ l5 → Q (.inl none) M2) ∧ (¬ x1 ≤ l5 → 0 ≤ l5 ∧ (l5 < 400 ∧ (0 ≤ l5 ∧ (l5 < 400 ∧ (en_CV sc 17 [mm_r l2, mm_i ((M2.1 (l0 + 4) l5) - l3), mm_i ((M2.1 (l0 + 5) l5) + l4)] M2 (fun M10 => mr_ok M10 → en_R sc 52 7 [mm_r l0, mm_i l1, mm_r l2, mm_i l3, mm_i l4, mm_i (l5 + 1)] [] M10 Q) (fun e M9 => Q (.inr e) M9)))))))) (fun e M9 => Q (.inr e) M9)) : en_R sc 52 7 [mm_r l0, mm_i l1, mm_r l2, mm_i l3, mm_i l4, mm_i l5] [] M Q := by
  refine en_iload mc52_7 rfl ?_
  refine en_aload_n mc52_9 rfl ?_
  refine en_iload_n mc52_10 rfl ?_
  refine en_callI (lz := [mm_r l0, mm_i l1]) mv52 mc52_11 rfl rfl (lk_m0_35) mv51 rfl (by decide) rfl (mk_cokV rfl (mk_A0 hA_l0)) rfl (mk_nh rfl _) ho ?_
  refine en_CI_mono h (fun x1 M2 h => ?_) (fun _ _ h => h)
  intro ho3
  replace h := h ho3
  obtain ⟨g4, h⟩ := h
  refine en_icmp_ge 46 mc52_14 (by decide) hg_l5 g4 (fun q => ?_) (fun q => ?_)
  · replace h := h.1 q
    exact en_vret mv52 mc52_46 rfl h
  · replace h := h.2 q
    obtain ⟨g5, h⟩ := h
    obtain ⟨g6, h⟩ := h
    obtain ⟨g7, h⟩ := h
    obtain ⟨g8, h⟩ := h
    refine en_aload_n mc52_17 rfl ?_
    refine en_aload_n mc52_18 rfl ?_
    refine en_getR (b := (l0 + 4)) mv52 mc52_19 (lk_f0_25) (mk_A0 hA_l0) rfl (mk_fA4 hA_l0 ho3) ?_
    refine en_iload mc52_22 rfl ?_
    refine en_iald mc52_24 (mk_A4 hA_l0) g5 g6 ?_
    refine en_iload_n mc52_25 rfl ?_
    refine en_isub mc52_26 ?_
    refine en_aload_n mc52_27 rfl ?_
    refine en_getR (b := (l0 + 5)) mv52 mc52_28 (lk_f0_28) (mk_A0 hA_l0) rfl (mk_fA5 hA_l0 ho3) ?_
    refine en_iload mc52_31 rfl ?_
    refine en_iald mc52_33 (mk_A5 hA_l0) g7 g8 ?_
    refine en_iload mc52_34 rfl ?_
    refine en_iadd mc52_36 ?_
    refine en_callV (lz := [mm_r l2, mm_i ((M2.1 (l0 + 4) l5) - l3), mm_i ((M2.1 (l0 + 5) l5) + l4)]) mv52 mc52_37 rfl rfl (lk_m0_42) mv17 rfl (by decide) rfl (mk_cokV rfl (mk_R0 hR_l2)) rfl (mk_nh rfl _) ho3 ?_
    refine en_CV_mono h (fun M10 h => ?_) (fun _ _ h => h)
    intro ho11
    replace h := h ho11
    refine en_iinc (ls' := [mm_r l0, mm_i l1, mm_r l2, mm_i l3, mm_i l4, mm_i (l5 + 1)]) mc52_40 rfl rfl ?_
    refine en_goto 7 mc52_43 (by decide) ?_
    exact h
/-! 53: CellAreas.layRow(LCellAreas$Area;ILCellAreas$Row;)V -/
theorem mc53_0 : mr_C 53 0 = some (.aload_n 2, 1) := rfl
theorem mc53_1 : mr_C 53 1 = some (.invokevirtual 69, 3) := rfl
theorem mc53_4 : mr_C 53 4 = some (.aload_n 0, 1) := rfl
theorem mc53_5 : mr_C 53 5 = some (.aload_n 0, 1) := rfl
theorem mc53_6 : mr_C 53 6 = some (.iload_n 1, 1) := rfl
theorem mc53_7 : mr_C 53 7 = some (.invokevirtual 165, 3) := rfl
theorem mc53_10 : mr_C 53 10 = some (.aload_n 2, 1) := rfl
theorem mc53_11 : mr_C 53 11 = some (.iconst 0, 1) := rfl
theorem mc53_12 : mr_C 53 12 = some (.iconst 0, 1) := rfl
theorem mc53_13 : mr_C 53 13 = some (.invokevirtual 121, 3) := rfl
theorem mc53_16 : mr_C 53 16 = some (.return_, 1) := rfl
theorem vc53_0 {sc : Nat × (Int → Int)} {Q : mm_R → mm_M → Prop} {M : mm_M} {l0 : Nat} {l1 : Int} {l2 : Nat} (ho : mr_ok M) (hR_l2 : mr_Rw l2) (hA_l0 : mr_A l0)
    (h : en_CV sc 12 [mm_r l2] M (fun M2 => mr_ok M2 → en_CI sc 49 [mm_r l0, mm_i l1, mm_u, mm_u, mm_u] M2 (fun x4 M5 => mr_ok M5 → en_CV sc 52 [mm_r l0, mm_i x4, mm_r l2, mm_i 0, mm_i 0, mm_u] M5 (fun M8 => mr_ok M8 → Q (.inl none) M8) (fun e M9 => Q (.inr e) M9)) (fun e M9 => Q (.inr e) M9)) (fun e M9 => Q (.inr e) M9)) : en_R sc 53 0 [mm_r l0, mm_i l1, mm_r l2] [] M Q := by
  refine en_aload_n mc53_0 rfl ?_
  refine en_callV (lz := [mm_r l2]) mv53 mc53_1 rfl rfl (lk_m6_69) mv12 rfl (by decide) rfl (mk_cokV rfl (mk_R0 hR_l2)) rfl (mk_nh rfl _) ho ?_
  refine en_CV_mono h (fun M2 h => ?_) (fun _ _ h => h)
  intro ho3
  replace h := h ho3
  refine en_aload_n mc53_4 rfl ?_
  refine en_aload_n mc53_5 rfl ?_
  refine en_iload_n mc53_6 rfl ?_
  refine en_callI (lz := [mm_r l0, mm_i l1, mm_u, mm_u, mm_u]) mv53 mc53_7 rfl rfl (lk_m6_165) mv49 rfl (by decide) rfl (mk_cokV rfl (mk_A0 hA_l0)) rfl (mk_nh rfl _) ho3 ?_
  refine en_CI_mono h (fun x4 M5 h => ?_) (fun _ _ h => h)
  intro ho6
  replace h := h ho6
  refine en_aload_n mc53_10 rfl ?_
  refine en_iconst mc53_11 ?_
  refine en_iconst mc53_12 ?_
  refine en_callV (lz := [mm_r l0, mm_i x4, mm_r l2, mm_i 0, mm_i 0, mm_u]) mv53 mc53_13 rfl rfl (lk_m6_121) mv52 rfl (by decide) rfl (mk_cokV rfl (mk_A0 hA_l0)) rfl (mk_nh rfl _) ho6 ?_
  refine en_CV_mono h (fun M8 h => ?_) (fun _ _ h => h)
  intro ho9
  replace h := h ho9
  exact en_vret mv53 mc53_16 rfl h
/-! 54: CellAreas$Row.mixWords(JJI)J -/
theorem mc54_0 : mr_C 54 0 = some (.iload 4, 2) := rfl
theorem mc54_2 : mr_C 54 2 = some (.tableswitch (42) (0) (2) #[26, 30, 34], 26) := rfl
theorem mc54_28 : mr_C 54 28 = some (.lload_n 0, 1) := rfl
theorem mc54_29 : mr_C 54 29 = some (.lload_n 2, 1) := rfl
theorem mc54_30 : mr_C 54 30 = some (.lor, 1) := rfl
theorem mc54_31 : mr_C 54 31 = some (.lreturn, 1) := rfl
theorem mc54_32 : mr_C 54 32 = some (.lload_n 0, 1) := rfl
theorem mc54_33 : mr_C 54 33 = some (.lload_n 2, 1) := rfl
theorem mc54_34 : mr_C 54 34 = some (.land, 1) := rfl
theorem mc54_35 : mr_C 54 35 = some (.lreturn, 1) := rfl
theorem mc54_36 : mr_C 54 36 = some (.lload_n 0, 1) := rfl
theorem mc54_37 : mr_C 54 37 = some (.lload_n 2, 1) := rfl
theorem mc54_38 : mr_C 54 38 = some (.ldc2_w 38, 3) := rfl
theorem mc54_41 : mr_C 54 41 = some (.lxor, 1) := rfl
theorem mc54_42 : mr_C 54 42 = some (.land, 1) := rfl
theorem mc54_43 : mr_C 54 43 = some (.lreturn, 1) := rfl
theorem mc54_44 : mr_C 54 44 = some (.lload_n 0, 1) := rfl
theorem mc54_45 : mr_C 54 45 = some (.lload_n 2, 1) := rfl
theorem mc54_46 : mr_C 54 46 = some (.lxor, 1) := rfl
theorem mc54_47 : mr_C 54 47 = some (.lreturn, 1) := rfl
theorem vc54_0 {sc : Nat × (Int → Int)} {Q : mm_R → mm_M → Prop} {M : mm_M} {l0 : Int} {l2 : Int} {l4 : Int} (ho : mr_ok M) (hg_l4 : mr_rg l4)
    (h : (l4 = 0 → Q (.inl (some (mm_j (mr_or l0 l2)))) M) ∧ (l4 = 1 → Q (.inl (some (mm_j (mr_and l0 l2)))) M) ∧ (l4 = 2 → Q (.inl (some (mm_j (mr_and l0 (mr_xor l2 (-1)))))) M) ∧ (l4 ≠ 0 → l4 ≠ 1 → l4 ≠ 2 → Q (.inl (some (mm_j (mr_xor l0 l2)))) M)) : en_R sc 54 0 [mm_j l0, mm_u, mm_j l2, mm_u, mm_i l4] [] M Q := by
  refine en_iload mc54_0 rfl ?_
  by_cases q0 : l4 = 0
  · replace h := h.1 q0
    refine en_tsw 28 mc54_2 hg_l4 (by first | (rw [q0]; done) | (rw [q0]; rfl)) (by decide) ?_
    refine en_lload_n mc54_28 rfl ?_
    refine en_lload_n mc54_29 rfl ?_
    refine en_lor mc54_30 ?_
    exact en_lret mv54 mc54_31 rfl h
  by_cases q1 : l4 = 1
  · replace h := h.2.1 q1
    refine en_tsw 32 mc54_2 hg_l4 (by first | (rw [q1]; done) | (rw [q1]; rfl)) (by decide) ?_
    refine en_lload_n mc54_32 rfl ?_
    refine en_lload_n mc54_33 rfl ?_
    refine en_land mc54_34 ?_
    exact en_lret mv54 mc54_35 rfl h
  by_cases q2 : l4 = 2
  · replace h := h.2.2.1 q2
    refine en_tsw 36 mc54_2 hg_l4 (by first | (rw [q2]; done) | (rw [q2]; rfl)) (by decide) ?_
    refine en_lload_n mc54_36 rfl ?_
    refine en_lload_n mc54_37 rfl ?_
    refine en_ldc2 mv54 mc54_38 rfl ?_
    refine en_lxor mc54_41 ?_
    refine en_land mc54_42 ?_
    exact en_lret mv54 mc54_43 rfl h
  replace h := h.2.2.2 q0 q1 q2
  refine en_tsw 44 mc54_2 hg_l4 (by rw [if_pos (by omega)]) (by decide) ?_
  refine en_lload_n mc54_44 rfl ?_
  refine en_lload_n mc54_45 rfl ?_
  refine en_lxor mc54_46 ?_
  exact en_lret mv54 mc54_47 rfl h
/-! 55: CellAreas$Row.mix(LCellAreas$Row;I)V -/
theorem mc55_0 : mr_C 55 0 = some (.iconst 0, 1) := rfl
theorem mc55_1 : mr_C 55 1 = some (.istore_n 3, 1) := rfl
theorem mc55_2 : mr_C 55 2 = some (.iload_n 3, 1) := rfl
theorem mc55_3 : mr_C 55 3 = some (.bipush 32, 2) := rfl
theorem mc55_5 : mr_C 55 5 = some (.if_icmp .ge (31), 3) := rfl
theorem mc55_8 : mr_C 55 8 = some (.aload_n 0, 1) := rfl
theorem mc55_9 : mr_C 55 9 = some (.getfield 11, 3) := rfl
theorem mc55_12 : mr_C 55 12 = some (.iload_n 3, 1) := rfl
theorem mc55_13 : mr_C 55 13 = some (.aload_n 0, 1) := rfl
theorem mc55_14 : mr_C 55 14 = some (.getfield 11, 3) := rfl
theorem mc55_17 : mr_C 55 17 = some (.iload_n 3, 1) := rfl
theorem mc55_18 : mr_C 55 18 = some (.laload, 1) := rfl
theorem mc55_19 : mr_C 55 19 = some (.aload_n 1, 1) := rfl
theorem mc55_20 : mr_C 55 20 = some (.getfield 11, 3) := rfl
theorem mc55_23 : mr_C 55 23 = some (.iload_n 3, 1) := rfl
theorem mc55_24 : mr_C 55 24 = some (.laload, 1) := rfl
theorem mc55_25 : mr_C 55 25 = some (.iload_n 2, 1) := rfl
theorem mc55_26 : mr_C 55 26 = some (.invokestatic 40, 3) := rfl
theorem mc55_29 : mr_C 55 29 = some (.lastore, 1) := rfl
theorem mc55_30 : mr_C 55 30 = some (.iinc 3 (1), 3) := rfl
theorem mc55_33 : mr_C 55 33 = some (.goto (-31), 3) := rfl
theorem mc55_36 : mr_C 55 36 = some (.return_, 1) := rfl
theorem vc55_0 {sc : Nat × (Int → Int)} {Q : mm_R → mm_M → Prop} {M : mm_M} {l0 : Nat} {l1 : Nat} {l2 : Int} (ho : mr_ok M)
    (h : en_R sc 55 2 [mm_r l0, mm_r l1, mm_i l2, mm_i 0] [] M Q) : en_R sc 55 0 [mm_r l0, mm_r l1, mm_i l2, mm_u] [] M Q := by
  refine en_iconst mc55_0 ?_
  refine en_istore_n (ls' := [mm_r l0, mm_r l1, mm_i l2, mm_i 0]) mc55_1 (Nat.le_of_ble_eq_true rfl) rfl ?_
  exact h
theorem vc55_2 {sc : Nat × (Int → Int)} {Q : mm_R → mm_M → Prop} {M : mm_M} {l0 : Nat} {l1 : Nat} {l2 : Int} {l3 : Int} (ho : mr_ok M) (hg_l3 : mr_rg l3) (hR_l0 : mr_Rw l0) (hR_l1 : mr_Rw l1)
    (h : (32 ≤ l3 → Q (.inl none) M) ∧ (¬ 32 ≤ l3 → 0 ≤ l3 ∧ (l3 < 32 ∧ (0 ≤ l3 ∧ (l3 < 32 ∧ (en_CJ sc 54 [mm_j (M.1 (l0 + 1) l3), mm_u, mm_j (M.1 (l1 + 1) l3), mm_u, mm_i l2] M (fun x5 M6 => mr_ok M6 → 0 ≤ l3 ∧ (l3 < 32 ∧ (mr_rj x5 ∧ (en_R sc 55 2 [mm_r l0, mm_r l1, mm_i l2, mm_i (l3 + 1)] [] (mm_putN M6 (l0 + 1) l3 x5) Q)))) (fun e M9 => Q (.inr e) M9))))))) : en_R sc 55 2 [mm_r l0, mm_r l1, mm_i l2, mm_i l3] [] M Q := by
  refine en_iload_n mc55_2 rfl ?_
  refine en_bipush mc55_3 (by decide) ?_
  refine en_icmp_ge 36 mc55_5 (by decide) hg_l3 (⟨by decide, by decide⟩ : mr_rg 32) (fun q => ?_) (fun q => ?_)
  · replace h := h.1 q
    exact en_vret mv55 mc55_36 rfl h
  · replace h := h.2 q
    obtain ⟨g1, h⟩ := h
    obtain ⟨g2, h⟩ := h
    obtain ⟨g3, h⟩ := h
    obtain ⟨g4, h⟩ := h
    refine en_aload_n mc55_8 rfl ?_
    refine en_getR (b := (l0 + 1)) mv55 mc55_9 (lk_f5_11) (mk_R0 hR_l0) rfl (mk_fR hR_l0 ho) ?_
    refine en_iload_n mc55_12 rfl ?_
    refine en_aload_n mc55_13 rfl ?_
    refine en_getR (b := (l0 + 1)) mv55 mc55_14 (lk_f5_11) (mk_R0 hR_l0) rfl (mk_fR hR_l0 ho) ?_
    refine en_iload_n mc55_17 rfl ?_
    refine en_lald mc55_18 (mk_R1 hR_l0) g1 g2 ?_
    refine en_aload_n mc55_19 rfl ?_
    refine en_getR (b := (l1 + 1)) mv55 mc55_20 (lk_f5_11) (mk_R0 hR_l1) rfl (mk_fR hR_l1 ho) ?_
    refine en_iload_n mc55_23 rfl ?_
    refine en_lald mc55_24 (mk_R1 hR_l1) g3 g4 ?_
    refine en_iload_n mc55_25 rfl ?_
    refine en_callJ (lz := [mm_j (M.1 (l0 + 1) l3), mm_u, mm_j (M.1 (l1 + 1) l3), mm_u, mm_i l2]) mv55 mc55_26 rfl rfl (lk_m5_40) mv54 rfl (by decide) rfl (mk_cokS rfl) rfl (mk_nh rfl _) ho ?_
    refine en_CJ_mono h (fun x5 M6 h => ?_) (fun _ _ h => h)
    intro ho7
    replace h := h ho7
    obtain ⟨g8, h⟩ := h
    obtain ⟨g9, h⟩ := h
    obtain ⟨g10, h⟩ := h
    refine en_last mc55_29 (mk_R1 hR_l0) g8 g9 g10 ?_
    refine en_iinc (ls' := [mm_r l0, mm_r l1, mm_i l2, mm_i (l3 + 1)]) mc55_30 rfl rfl ?_
    refine en_goto 2 mc55_33 (by decide) ?_
    exact h
/-! 56: CellAreas.combine(IIII)I -/
theorem mc56_0 : mr_C 56 0 = some (.iload_n 1, 1) := rfl
theorem mc56_1 : mr_C 56 1 = some (.invokestatic 61, 3) := rfl
theorem mc56_4 : mr_C 56 4 = some (.iload_n 2, 1) := rfl
theorem mc56_5 : mr_C 56 5 = some (.invokestatic 61, 3) := rfl
theorem mc56_8 : mr_C 56 8 = some (.iload_n 3, 1) := rfl
theorem mc56_9 : mr_C 56 9 = some (.invokestatic 61, 3) := rfl
theorem mc56_12 : mr_C 56 12 = some (.iload 4, 2) := rfl
theorem mc56_14 : mr_C 56 14 = some (.iconst 0, 1) := rfl
theorem mc56_15 : mr_C 56 15 = some (.iconst 3, 1) := rfl
theorem mc56_16 : mr_C 56 16 = some (.invokestatic 65, 3) := rfl
theorem mc56_19 : mr_C 56 19 = some (.aload_n 0, 1) := rfl
theorem mc56_20 : mr_C 56 20 = some (.getfield 32, 3) := rfl
theorem mc56_23 : mr_C 56 23 = some (.invokevirtual 69, 3) := rfl
theorem mc56_26 : mr_C 56 26 = some (.aload_n 0, 1) := rfl
theorem mc56_27 : mr_C 56 27 = some (.getfield 11, 3) := rfl
theorem mc56_30 : mr_C 56 30 = some (.iload_n 2, 1) := rfl
theorem mc56_31 : mr_C 56 31 = some (.aaload, 1) := rfl
theorem mc56_32 : mr_C 56 32 = some (.aload_n 0, 1) := rfl
theorem mc56_33 : mr_C 56 33 = some (.getfield 32, 3) := rfl
theorem mc56_36 : mr_C 56 36 = some (.iconst 0, 1) := rfl
theorem mc56_37 : mr_C 56 37 = some (.invokevirtual 91, 3) := rfl
theorem mc56_40 : mr_C 56 40 = some (.aload_n 0, 1) := rfl
theorem mc56_41 : mr_C 56 41 = some (.getfield 11, 3) := rfl
theorem mc56_44 : mr_C 56 44 = some (.iload_n 3, 1) := rfl
theorem mc56_45 : mr_C 56 45 = some (.aaload, 1) := rfl
theorem mc56_46 : mr_C 56 46 = some (.aload_n 0, 1) := rfl
theorem mc56_47 : mr_C 56 47 = some (.getfield 32, 3) := rfl
theorem mc56_50 : mr_C 56 50 = some (.iconst 0, 1) := rfl
theorem mc56_51 : mr_C 56 51 = some (.invokevirtual 91, 3) := rfl
theorem mc56_54 : mr_C 56 54 = some (.aload_n 0, 1) := rfl
theorem mc56_55 : mr_C 56 55 = some (.getfield 18, 3) := rfl
theorem mc56_58 : mr_C 56 58 = some (.invokevirtual 76, 3) := rfl
theorem mc56_61 : mr_C 56 61 = some (.sipush (-1000), 3) := rfl
theorem mc56_64 : mr_C 56 64 = some (.istore 6, 2) := rfl
theorem mc56_66 : mr_C 56 66 = some (.iload 6, 2) := rfl
theorem mc56_68 : mr_C 56 68 = some (.sipush 1000, 3) := rfl
theorem mc56_71 : mr_C 56 71 = some (.if_icmp .ge (98), 3) := rfl
theorem mc56_74 : mr_C 56 74 = some (.aload_n 0, 1) := rfl
theorem mc56_75 : mr_C 56 75 = some (.getfield 18, 3) := rfl
theorem mc56_78 : mr_C 56 78 = some (.getfield 95, 3) := rfl
theorem mc56_81 : mr_C 56 81 = some (.ifCond .ne (88), 3) := rfl
theorem mc56_84 : mr_C 56 84 = some (.iload 6, 2) := rfl
theorem mc56_86 : mr_C 56 86 = some (.iconst 1, 1) := by decide +kernel
theorem mc56_87 : mr_C 56 87 = some (.iadd, 1) := by decide +kernel
theorem mc56_88 : mr_C 56 88 = some (.aload_n 0, 1) := by decide +kernel
theorem mc56_89 : mr_C 56 89 = some (.getfield 32, 3) := by decide +kernel
theorem mc56_92 : mr_C 56 92 = some (.iload 6, 2) := by decide +kernel
theorem mc56_94 : mr_C 56 94 = some (.iconst 1, 1) := by decide +kernel
theorem mc56_95 : mr_C 56 95 = some (.iadd, 1) := by decide +kernel
theorem mc56_96 : mr_C 56 96 = some (.invokevirtual 99, 3) := by decide +kernel
theorem mc56_99 : mr_C 56 99 = some (.invokestatic 102, 3) := by decide +kernel
theorem mc56_102 : mr_C 56 102 = some (.istore 5, 2) := by decide +kernel
theorem mc56_104 : mr_C 56 104 = some (.aload_n 0, 1) := by decide +kernel
theorem mc56_105 : mr_C 56 105 = some (.getfield 11, 3) := by decide +kernel
theorem mc56_108 : mr_C 56 108 = some (.iload_n 2, 1) := by decide +kernel
theorem mc56_109 : mr_C 56 109 = some (.aaload, 1) := by decide +kernel
theorem mc56_110 : mr_C 56 110 = some (.iload 6, 2) := by decide +kernel
theorem mc56_112 : mr_C 56 112 = some (.aload_n 0, 1) := by decide +kernel
theorem mc56_113 : mr_C 56 113 = some (.getfield 25, 3) := by decide +kernel
theorem mc56_116 : mr_C 56 116 = some (.invokestatic 108, 3) := by decide +kernel
theorem mc56_119 : mr_C 56 119 = some (.aload_n 0, 1) := by decide +kernel
theorem mc56_120 : mr_C 56 120 = some (.getfield 11, 3) := by decide +kernel
theorem mc56_123 : mr_C 56 123 = some (.iload_n 3, 1) := by decide +kernel
theorem mc56_124 : mr_C 56 124 = some (.aaload, 1) := by decide +kernel
theorem mc56_125 : mr_C 56 125 = some (.iload 6, 2) := by decide +kernel
theorem mc56_127 : mr_C 56 127 = some (.aload_n 0, 1) := by decide +kernel
theorem mc56_128 : mr_C 56 128 = some (.getfield 29, 3) := by decide +kernel
theorem mc56_131 : mr_C 56 131 = some (.invokestatic 108, 3) := by decide +kernel
theorem mc56_134 : mr_C 56 134 = some (.aload_n 0, 1) := by decide +kernel
theorem mc56_135 : mr_C 56 135 = some (.getfield 25, 3) := by decide +kernel
theorem mc56_138 : mr_C 56 138 = some (.aload_n 0, 1) := by decide +kernel
theorem mc56_139 : mr_C 56 139 = some (.getfield 29, 3) := by decide +kernel
theorem mc56_142 : mr_C 56 142 = some (.iload 4, 2) := by decide +kernel
theorem mc56_144 : mr_C 56 144 = some (.invokevirtual 112, 3) := by decide +kernel
theorem mc56_147 : mr_C 56 147 = some (.aload_n 0, 1) := by decide +kernel
theorem mc56_148 : mr_C 56 148 = some (.getfield 18, 3) := by decide +kernel
theorem mc56_151 : mr_C 56 151 = some (.iload 6, 2) := by decide +kernel
theorem mc56_153 : mr_C 56 153 = some (.iload 5, 2) := by decide +kernel
theorem mc56_155 : mr_C 56 155 = some (.aload_n 0, 1) := by decide +kernel
theorem mc56_156 : mr_C 56 156 = some (.getfield 25, 3) := by decide +kernel
theorem mc56_159 : mr_C 56 159 = some (.invokevirtual 79, 3) := by decide +kernel
theorem mc56_162 : mr_C 56 162 = some (.iload 5, 2) := by decide +kernel
theorem mc56_164 : mr_C 56 164 = some (.istore 6, 2) := by decide +kernel
theorem mc56_166 : mr_C 56 166 = some (.goto (-100), 3) := by decide +kernel
theorem mc56_169 : mr_C 56 169 = some (.aload_n 0, 1) := by decide +kernel
theorem mc56_170 : mr_C 56 170 = some (.iload_n 1, 1) := by decide +kernel
theorem mc56_171 : mr_C 56 171 = some (.invokevirtual 83, 3) := by decide +kernel
theorem mc56_174 : mr_C 56 174 = some (.ireturn, 1) := by decide +kernel
theorem vc56_0 {sc : Nat × (Int → Int)} {Q : mm_R → mm_M → Prop} {M : mm_M} {l1 : Int} {l2 : Int} {l3 : Int} {l4 : Int} (ho : mr_ok M)
    (h : en_CV sc 9 [mm_i l1] M (fun M2 => mr_ok M2 → en_CV sc 9 [mm_i l2] M2 (fun M5 => mr_ok M5 → en_CV sc 9 [mm_i l3] M5 (fun M8 => mr_ok M8 → en_CV sc 10 [mm_i l4, mm_i 0, mm_i 3] M8 (fun M11 => mr_ok M11 → en_CV sc 12 [mm_r 15] M11 (fun M14 => mr_ok M14 → 0 ≤ l2 ∧ (l2 < 8 ∧ (∃ b18, M14.2.1 1 l2 = some b18 ∧ mr_A b18 ∧ (en_CV sc 48 [mm_r b18, mm_r 15, mm_i 0, mm_u] M14 (fun M21 => mr_ok M21 → 0 ≤ l3 ∧ (l3 < 8 ∧ (∃ b25, M21.2.1 1 l3 = some b25 ∧ mr_A b25 ∧ (en_CV sc 48 [mm_r b25, mm_r 15, mm_i 0, mm_u] M21 (fun M28 => mr_ok M28 → en_CV sc 18 [mm_r 2] M28 (fun M31 => mr_ok M31 → en_R sc 56 66 [mm_r 0, mm_i l1, mm_i l2, mm_i l3, mm_i l4, mm_u, mm_i (-1000)] [] M31 Q) (fun e M9 => Q (.inr e) M9)) (fun e M9 => Q (.inr e) M9))))) (fun e M9 => Q (.inr e) M9))))) (fun e M9 => Q (.inr e) M9)) (fun e M9 => Q (.inr e) M9)) (fun e M9 => Q (.inr e) M9)) (fun e M9 => Q (.inr e) M9)) (fun e M9 => Q (.inr e) M9)) : en_R sc 56 0 [mm_r 0, mm_i l1, mm_i l2, mm_i l3, mm_i l4, mm_u, mm_u] [] M Q := by
  refine en_iload_n mc56_0 rfl ?_
  refine en_callV (lz := [mm_i l1]) mv56 mc56_1 rfl rfl (lk_m6_61) mv9 rfl (by decide) rfl (mk_cokS rfl) rfl (mk_nh rfl _) ho ?_
  refine en_CV_mono h (fun M2 h => ?_) (fun _ _ h => h)
  intro ho3
  replace h := h ho3
  refine en_iload_n mc56_4 rfl ?_
  refine en_callV (lz := [mm_i l2]) mv56 mc56_5 rfl rfl (lk_m6_61) mv9 rfl (by decide) rfl (mk_cokS rfl) rfl (mk_nh rfl _) ho3 ?_
  refine en_CV_mono h (fun M5 h => ?_) (fun _ _ h => h)
  intro ho6
  replace h := h ho6
  refine en_iload_n mc56_8 rfl ?_
  refine en_callV (lz := [mm_i l3]) mv56 mc56_9 rfl rfl (lk_m6_61) mv9 rfl (by decide) rfl (mk_cokS rfl) rfl (mk_nh rfl _) ho6 ?_
  refine en_CV_mono h (fun M8 h => ?_) (fun _ _ h => h)
  intro ho9
  replace h := h ho9
  refine en_iload mc56_12 rfl ?_
  refine en_iconst mc56_14 ?_
  refine en_iconst mc56_15 ?_
  refine en_callV (lz := [mm_i l4, mm_i 0, mm_i 3]) mv56 mc56_16 rfl rfl (lk_m6_65) mv10 rfl (by decide) rfl (mk_cokS rfl) rfl (mk_nh rfl _) ho9 ?_
  refine en_CV_mono h (fun M11 h => ?_) (fun _ _ h => h)
  intro ho12
  replace h := h ho12
  refine en_aload_n mc56_19 rfl ?_
  refine en_getR (b := 15) mv56 mc56_20 (lk_f6_32) (⟨rfl, by decide⟩ : mt_kd[0]? = some (.inl 6) ∧ 0 < 99) rfl (mk_fc ho12 (by decide +kernel)) ?_
  refine en_callV (lz := [mm_r 15]) mv56 mc56_23 rfl rfl (lk_m6_69) mv12 rfl (by decide) rfl (mk_cokV rfl (mk_R0 (by unfold mr_Rw; decide : mr_Rw 15))) rfl (mk_nh rfl _) ho12 ?_
  refine en_CV_mono h (fun M14 h => ?_) (fun _ _ h => h)
  intro ho15
  replace h := h ho15
  obtain ⟨g16, h⟩ := h
  obtain ⟨g17, h⟩ := h
  refine en_aload_n mc56_26 rfl ?_
  refine en_getR (b := 1) mv56 mc56_27 (lk_f6_11) (⟨rfl, by decide⟩ : mt_kd[0]? = some (.inl 6) ∧ 0 < 99) rfl (mk_fc ho15 (by decide +kernel)) ?_
  refine en_iload_n mc56_30 rfl ?_
  obtain ⟨b18, g19, hA_b18_, h⟩ := h
  refine en_aald mc56_31 g16 g17 g19 ?_
  refine en_aload_n mc56_32 rfl ?_
  refine en_getR (b := 15) mv56 mc56_33 (lk_f6_32) (⟨rfl, by decide⟩ : mt_kd[0]? = some (.inl 6) ∧ 0 < 99) rfl (mk_fc ho15 (by decide +kernel)) ?_
  refine en_iconst mc56_36 ?_
  refine en_callV (lz := [mm_r b18, mm_r 15, mm_i 0, mm_u]) mv56 mc56_37 rfl rfl (lk_m6_91) mv48 rfl (by decide) rfl (mk_cokV rfl (mk_A0 hA_b18_)) rfl (mk_nh rfl _) ho15 ?_
  refine en_CV_mono h (fun M21 h => ?_) (fun _ _ h => h)
  intro ho22
  replace h := h ho22
  obtain ⟨g23, h⟩ := h
  obtain ⟨g24, h⟩ := h
  refine en_aload_n mc56_40 rfl ?_
  refine en_getR (b := 1) mv56 mc56_41 (lk_f6_11) (⟨rfl, by decide⟩ : mt_kd[0]? = some (.inl 6) ∧ 0 < 99) rfl (mk_fc ho22 (by decide +kernel)) ?_
  refine en_iload_n mc56_44 rfl ?_
  obtain ⟨b25, g26, hA_b25_, h⟩ := h
  refine en_aald mc56_45 g23 g24 g26 ?_
  refine en_aload_n mc56_46 rfl ?_
  refine en_getR (b := 15) mv56 mc56_47 (lk_f6_32) (⟨rfl, by decide⟩ : mt_kd[0]? = some (.inl 6) ∧ 0 < 99) rfl (mk_fc ho22 (by decide +kernel)) ?_
  refine en_iconst mc56_50 ?_
  refine en_callV (lz := [mm_r b25, mm_r 15, mm_i 0, mm_u]) mv56 mc56_51 rfl rfl (lk_m6_91) mv48 rfl (by decide) rfl (mk_cokV rfl (mk_A0 hA_b25_)) rfl (mk_nh rfl _) ho22 ?_
  refine en_CV_mono h (fun M28 h => ?_) (fun _ _ h => h)
  intro ho29
  replace h := h ho29
  refine en_aload_n mc56_54 rfl ?_
  refine en_getR (b := 2) mv56 mc56_55 (lk_f6_18) (⟨rfl, by decide⟩ : mt_kd[0]? = some (.inl 6) ∧ 0 < 99) rfl (mk_fc ho29 (by decide +kernel)) ?_
  refine en_callV (lz := [mm_r 2]) mv56 mc56_58 rfl rfl (lk_m6_76) mv18 rfl (by decide) rfl (mk_cokV rfl (⟨rfl, by decide⟩ : mt_kd[2]? = some (.inl 2) ∧ 2 < 99)) rfl (mk_nh rfl _) ho29 ?_
  refine en_CV_mono h (fun M31 h => ?_) (fun _ _ h => h)
  intro ho32
  replace h := h ho32
  refine en_sipush mc56_61 (by decide) ?_
  refine en_istore (ls' := [mm_r 0, mm_i l1, mm_i l2, mm_i l3, mm_i l4, mm_u, mm_i (-1000)]) mc56_64 (Nat.le_of_ble_eq_true rfl) rfl ?_
  exact h
theorem vc56_66 {sc : Nat × (Int → Int)} {Q : mm_R → mm_M → Prop} {M : mm_M} {l1 : Int} {l2 : Int} {l3 : Int} {l4 : Int} {l5 : mm_V} {l6 : Int} (ho : mr_ok M) (hg_l6 : mr_rg l6)
    (h : (1000 ≤ l6 → en_R sc 56 169 [mm_r 0, mm_i l1, mm_i l2, mm_i l3, mm_i l4, l5, mm_i l6] [] M Q) ∧ (¬ 1000 ≤ l6 → ((M.1 2 2) ≠ 0 → en_R sc 56 169 [mm_r 0, mm_i l1, mm_i l2, mm_i l3, mm_i l4, l5, mm_i l6] [] M Q) ∧ (¬ ((M.1 2 2) ≠ 0) → en_CI sc 22 [mm_r 15, mm_i (l6 + 1)] M (fun x1 M2 => mr_ok M2 → mr_rg (l6 + 1) ∧ (mr_rg x1 ∧ (0 ≤ l2 ∧ (l2 < 8 ∧ (∃ b8, M2.2.1 1 l2 = some b8 ∧ mr_A b8 ∧ (en_CV sc 53 [mm_r b8, mm_i l6, mm_r 11] M2 (fun M11 => mr_ok M11 → 0 ≤ l3 ∧ (l3 < 8 ∧ (∃ b15, M11.2.1 1 l3 = some b15 ∧ mr_A b15 ∧ (en_CV sc 53 [mm_r b15, mm_i l6, mm_r 13] M11 (fun M18 => mr_ok M18 → en_CV sc 55 [mm_r 11, mm_r 13, mm_i l4, mm_u] M18 (fun M21 => mr_ok M21 → en_CV sc 29 [mm_r 2, mm_i l6, mm_i (max (l6 + 1) x1), mm_r 11, mm_u] M21 (fun M24 => mr_ok M24 → en_R sc 56 66 [mm_r 0, mm_i l1, mm_i l2, mm_i l3, mm_i l4, mm_i (max (l6 + 1) x1), mm_i (max (l6 + 1) x1)] [] M24 Q) (fun e M9 => Q (.inr e) M9)) (fun e M9 => Q (.inr e) M9)) (fun e M9 => Q (.inr e) M9))))) (fun e M9 => Q (.inr e) M9))))))) (fun e M9 => Q (.inr e) M9)))) : en_R sc 56 66 [mm_r 0, mm_i l1, mm_i l2, mm_i l3, mm_i l4, l5, mm_i l6] [] M Q := by
  refine en_iload mc56_66 rfl ?_
  refine en_sipush mc56_68 (by decide) ?_
  refine en_icmp_ge 169 mc56_71 (by decide) hg_l6 (⟨by decide, by decide⟩ : mr_rg 1000) (fun q => ?_) (fun q => ?_)
  · replace h := h.1 q
    exact h
  · replace h := h.2 q
    refine en_aload_n mc56_74 rfl ?_
    refine en_getR (b := 2) mv56 mc56_75 (lk_f6_18) (⟨rfl, by decide⟩ : mt_kd[0]? = some (.inl 6) ∧ 0 < 99) rfl (mk_fc ho (by decide +kernel)) ?_
    refine en_getI mv56 mc56_78 (lk_f6_95) (⟨rfl, by decide⟩ : mt_kd[2]? = some (.inl 2) ∧ 2 < 99) (Or.inr rfl) ?_
    refine en_if_ne 169 mc56_81 (by decide) (ho.2.1 2 2 (by unfold mr_lg; omega)) (fun q => ?_) (fun q => ?_)
    · replace h := h.1 q
      exact h
    · replace h := h.2 q
      refine en_iload mc56_84 rfl ?_
      refine en_iconst mc56_86 ?_
      refine en_iadd mc56_87 ?_
      refine en_aload_n mc56_88 rfl ?_
      refine en_getR (b := 15) mv56 mc56_89 (lk_f6_32) (⟨rfl, by decide⟩ : mt_kd[0]? = some (.inl 6) ∧ 0 < 99) rfl (mk_fc ho (by decide +kernel)) ?_
      refine en_iload mc56_92 rfl ?_
      refine en_iconst mc56_94 ?_
      refine en_iadd mc56_95 ?_
      refine en_callI (lz := [mm_r 15, mm_i (l6 + 1)]) mv56 mc56_96 rfl rfl (lk_m6_99) mv22 rfl (by decide) rfl (mk_cokV rfl (mk_R0 (by unfold mr_Rw; decide : mr_Rw 15))) rfl (mk_nh rfl _) ho ?_
      refine en_CI_mono h (fun x1 M2 h => ?_) (fun _ _ h => h)
      intro ho3
      replace h := h ho3
      obtain ⟨g4, h⟩ := h
      obtain ⟨g5, h⟩ := h
      obtain ⟨g6, h⟩ := h
      obtain ⟨g7, h⟩ := h
      refine en_max mv56 mc56_99 (lk_m6_102) mv13 rfl ⟨Nat.le_of_ble_eq_true rfl, Nat.le_of_ble_eq_true rfl⟩ g4 g5 ?_
      refine en_istore (ls' := [mm_r 0, mm_i l1, mm_i l2, mm_i l3, mm_i l4, mm_i (max (l6 + 1) x1), mm_i l6]) mc56_102 (Nat.le_of_ble_eq_true rfl) rfl ?_
      refine en_aload_n mc56_104 rfl ?_
      refine en_getR (b := 1) mv56 mc56_105 (lk_f6_11) (⟨rfl, by decide⟩ : mt_kd[0]? = some (.inl 6) ∧ 0 < 99) rfl (mk_fc ho3 (by decide +kernel)) ?_
      refine en_iload_n mc56_108 rfl ?_
      obtain ⟨b8, g9, hA_b8_, h⟩ := h
      refine en_aald mc56_109 g6 g7 g9 ?_
      refine en_iload mc56_110 rfl ?_
      refine en_aload_n mc56_112 rfl ?_
      refine en_getR (b := 11) mv56 mc56_113 (lk_f6_25) (⟨rfl, by decide⟩ : mt_kd[0]? = some (.inl 6) ∧ 0 < 99) rfl (mk_fc ho3 (by decide +kernel)) ?_
      refine en_callV (lz := [mm_r b8, mm_i l6, mm_r 11]) mv56 mc56_116 rfl rfl (lk_m6_108) mv53 rfl (by decide) rfl (mk_cokS rfl) rfl (mk_nh rfl _) ho3 ?_
      refine en_CV_mono h (fun M11 h => ?_) (fun _ _ h => h)
      intro ho12
      replace h := h ho12
      obtain ⟨g13, h⟩ := h
      obtain ⟨g14, h⟩ := h
      refine en_aload_n mc56_119 rfl ?_
      refine en_getR (b := 1) mv56 mc56_120 (lk_f6_11) (⟨rfl, by decide⟩ : mt_kd[0]? = some (.inl 6) ∧ 0 < 99) rfl (mk_fc ho12 (by decide +kernel)) ?_
      refine en_iload_n mc56_123 rfl ?_
      obtain ⟨b15, g16, hA_b15_, h⟩ := h
      refine en_aald mc56_124 g13 g14 g16 ?_
      refine en_iload mc56_125 rfl ?_
      refine en_aload_n mc56_127 rfl ?_
      refine en_getR (b := 13) mv56 mc56_128 (lk_f6_29) (⟨rfl, by decide⟩ : mt_kd[0]? = some (.inl 6) ∧ 0 < 99) rfl (mk_fc ho12 (by decide +kernel)) ?_
      refine en_callV (lz := [mm_r b15, mm_i l6, mm_r 13]) mv56 mc56_131 rfl rfl (lk_m6_108) mv53 rfl (by decide) rfl (mk_cokS rfl) rfl (mk_nh rfl _) ho12 ?_
      refine en_CV_mono h (fun M18 h => ?_) (fun _ _ h => h)
      intro ho19
      replace h := h ho19
      refine en_aload_n mc56_134 rfl ?_
      refine en_getR (b := 11) mv56 mc56_135 (lk_f6_25) (⟨rfl, by decide⟩ : mt_kd[0]? = some (.inl 6) ∧ 0 < 99) rfl (mk_fc ho19 (by decide +kernel)) ?_
      refine en_aload_n mc56_138 rfl ?_
      refine en_getR (b := 13) mv56 mc56_139 (lk_f6_29) (⟨rfl, by decide⟩ : mt_kd[0]? = some (.inl 6) ∧ 0 < 99) rfl (mk_fc ho19 (by decide +kernel)) ?_
      refine en_iload mc56_142 rfl ?_
      refine en_callV (lz := [mm_r 11, mm_r 13, mm_i l4, mm_u]) mv56 mc56_144 rfl rfl (lk_m6_112) mv55 rfl (by decide) rfl (mk_cokV rfl (mk_R0 (by unfold mr_Rw; decide : mr_Rw 11))) rfl (mk_nh rfl _) ho19 ?_
      refine en_CV_mono h (fun M21 h => ?_) (fun _ _ h => h)
      intro ho22
      replace h := h ho22
      refine en_aload_n mc56_147 rfl ?_
      refine en_getR (b := 2) mv56 mc56_148 (lk_f6_18) (⟨rfl, by decide⟩ : mt_kd[0]? = some (.inl 6) ∧ 0 < 99) rfl (mk_fc ho22 (by decide +kernel)) ?_
      refine en_iload mc56_151 rfl ?_
      refine en_iload mc56_153 rfl ?_
      refine en_aload_n mc56_155 rfl ?_
      refine en_getR (b := 11) mv56 mc56_156 (lk_f6_25) (⟨rfl, by decide⟩ : mt_kd[0]? = some (.inl 6) ∧ 0 < 99) rfl (mk_fc ho22 (by decide +kernel)) ?_
      refine en_callV (lz := [mm_r 2, mm_i l6, mm_i (max (l6 + 1) x1), mm_r 11, mm_u]) mv56 mc56_159 rfl rfl (lk_m6_79) mv29 rfl (by decide) rfl (mk_cokV rfl (⟨rfl, by decide⟩ : mt_kd[2]? = some (.inl 2) ∧ 2 < 99)) rfl (mk_nh rfl _) ho22 ?_
      refine en_CV_mono h (fun M24 h => ?_) (fun _ _ h => h)
      intro ho25
      replace h := h ho25
      refine en_iload mc56_162 rfl ?_
      refine en_istore (ls' := [mm_r 0, mm_i l1, mm_i l2, mm_i l3, mm_i l4, mm_i (max (l6 + 1) x1), mm_i (max (l6 + 1) x1)]) mc56_164 (Nat.le_of_ble_eq_true rfl) rfl ?_
      refine en_goto 66 mc56_166 (by decide) ?_
      exact h
theorem vc56_169 {sc : Nat × (Int → Int)} {Q : mm_R → mm_M → Prop} {M : mm_M} {l1 : Int} {l2 : Int} {l3 : Int} {l4 : Int} {l5 : mm_V} {l6 : Int} (ho : mr_ok M)
    (h : en_CI sc 30 [mm_r 0, mm_i l1, mm_u] M (fun x1 M2 => mr_ok M2 → Q (.inl (some (mm_i x1))) M2) (fun e M9 => Q (.inr e) M9)) : en_R sc 56 169 [mm_r 0, mm_i l1, mm_i l2, mm_i l3, mm_i l4, l5, mm_i l6] [] M Q := by
  refine en_aload_n mc56_169 rfl ?_
  refine en_iload_n mc56_170 rfl ?_
  refine en_callI (lz := [mm_r 0, mm_i l1, mm_u]) mv56 mc56_171 rfl rfl (lk_m6_83) mv30 rfl (by decide) rfl (mk_cokV rfl (⟨rfl, by decide⟩ : mt_kd[0]? = some (.inl 6) ∧ 0 < 99)) rfl (mk_nh rfl _) ho ?_
  refine en_CI_mono h (fun x1 M2 h => ?_) (fun _ _ h => h)
  intro ho3
  replace h := h ho3
  exact en_iret mv56 mc56_174 rfl h
/-! 58: CellAreasModel.cut(I)V -/
theorem mc58_0 : mr_C 58 0 = some (.iload_n 1, 1) := rfl
theorem mc58_1 : mr_C 58 1 = some (.sipush (-1000), 3) := rfl
theorem mc58_4 : mr_C 58 4 = some (.if_icmp .ge (9), 3) := rfl
theorem mc58_7 : mr_C 58 7 = some (.sipush (-1000), 3) := rfl
theorem mc58_10 : mr_C 58 10 = some (.goto 17, 3) := rfl
theorem mc58_13 : mr_C 58 13 = some (.iload_n 1, 1) := rfl
theorem mc58_14 : mr_C 58 14 = some (.sipush 1000, 3) := rfl
theorem mc58_17 : mr_C 58 17 = some (.if_icmp .le (9), 3) := rfl
theorem mc58_20 : mr_C 58 20 = some (.sipush 1000, 3) := rfl
theorem mc58_23 : mr_C 58 23 = some (.goto 4, 3) := rfl
theorem mc58_26 : mr_C 58 26 = some (.iload_n 1, 1) := rfl
theorem mc58_27 : mr_C 58 27 = some (.istore_n 2, 1) := rfl
theorem mc58_28 : mr_C 58 28 = some (.aload_n 0, 1) := rfl
theorem mc58_29 : mr_C 58 29 = some (.getfield 97, 3) := rfl
theorem mc58_32 : mr_C 58 32 = some (.istore_n 3, 1) := rfl
theorem mc58_33 : mr_C 58 33 = some (.iload_n 3, 1) := rfl
theorem mc58_34 : mr_C 58 34 = some (.ifCond .le (21), 3) := rfl
theorem mc58_37 : mr_C 58 37 = some (.aload_n 0, 1) := rfl
theorem mc58_38 : mr_C 58 38 = some (.getfield 52, 3) := rfl
theorem mc58_41 : mr_C 58 41 = some (.iload_n 3, 1) := rfl
theorem mc58_42 : mr_C 58 42 = some (.iconst 1, 1) := rfl
theorem mc58_43 : mr_C 58 43 = some (.isub, 1) := rfl
theorem mc58_44 : mr_C 58 44 = some (.iaload, 1) := rfl
theorem mc58_45 : mr_C 58 45 = some (.iload_n 2, 1) := rfl
theorem mc58_46 : mr_C 58 46 = some (.if_icmp .le (9), 3) := rfl
theorem mc58_49 : mr_C 58 49 = some (.iinc 3 (-1), 3) := rfl
theorem mc58_52 : mr_C 58 52 = some (.goto (-19), 3) := rfl
theorem mc58_55 : mr_C 58 55 = some (.iload_n 3, 1) := rfl
theorem mc58_56 : mr_C 58 56 = some (.ifCond .le (16), 3) := rfl
theorem mc58_59 : mr_C 58 59 = some (.aload_n 0, 1) := rfl
theorem mc58_60 : mr_C 58 60 = some (.getfield 52, 3) := rfl
theorem mc58_63 : mr_C 58 63 = some (.iload_n 3, 1) := rfl
theorem mc58_64 : mr_C 58 64 = some (.iconst 1, 1) := rfl
theorem mc58_65 : mr_C 58 65 = some (.isub, 1) := rfl
theorem mc58_66 : mr_C 58 66 = some (.iaload, 1) := rfl
theorem mc58_67 : mr_C 58 67 = some (.iload_n 2, 1) := rfl
theorem mc58_68 : mr_C 58 68 = some (.if_icmp .ne (4), 3) := rfl
theorem mc58_71 : mr_C 58 71 = some (.return_, 1) := rfl
theorem mc58_72 : mr_C 58 72 = some (.aload_n 0, 1) := rfl
theorem mc58_73 : mr_C 58 73 = some (.getfield 97, 3) := rfl
theorem mc58_76 : mr_C 58 76 = some (.istore 4, 2) := rfl
theorem mc58_78 : mr_C 58 78 = some (.iload 4, 2) := by decide +kernel
theorem mc58_80 : mr_C 58 80 = some (.iload_n 3, 1) := by decide +kernel
theorem mc58_81 : mr_C 58 81 = some (.if_icmp .le (25), 3) := by decide +kernel
theorem mc58_84 : mr_C 58 84 = some (.aload_n 0, 1) := by decide +kernel
theorem mc58_85 : mr_C 58 85 = some (.getfield 52, 3) := by decide +kernel
theorem mc58_88 : mr_C 58 88 = some (.iload 4, 2) := by decide +kernel
theorem mc58_90 : mr_C 58 90 = some (.aload_n 0, 1) := by decide +kernel
theorem mc58_91 : mr_C 58 91 = some (.getfield 52, 3) := by decide +kernel
theorem mc58_94 : mr_C 58 94 = some (.iload 4, 2) := by decide +kernel
theorem mc58_96 : mr_C 58 96 = some (.iconst 1, 1) := by decide +kernel
theorem mc58_97 : mr_C 58 97 = some (.isub, 1) := by decide +kernel
theorem mc58_98 : mr_C 58 98 = some (.iaload, 1) := by decide +kernel
theorem mc58_99 : mr_C 58 99 = some (.iastore, 1) := by decide +kernel
theorem mc58_100 : mr_C 58 100 = some (.iinc 4 (-1), 3) := by decide +kernel
theorem mc58_103 : mr_C 58 103 = some (.goto (-25), 3) := by decide +kernel
theorem mc58_106 : mr_C 58 106 = some (.aload_n 0, 1) := by decide +kernel
theorem mc58_107 : mr_C 58 107 = some (.getfield 52, 3) := by decide +kernel
theorem mc58_110 : mr_C 58 110 = some (.iload_n 3, 1) := by decide +kernel
theorem mc58_111 : mr_C 58 111 = some (.iload_n 2, 1) := by decide +kernel
theorem mc58_112 : mr_C 58 112 = some (.iastore, 1) := by decide +kernel
theorem mc58_113 : mr_C 58 113 = some (.aload_n 0, 1) := by decide +kernel
theorem mc58_114 : mr_C 58 114 = some (.dup, 1) := by decide +kernel
theorem mc58_115 : mr_C 58 115 = some (.getfield 97, 3) := by decide +kernel
theorem mc58_118 : mr_C 58 118 = some (.iconst 1, 1) := by decide +kernel
theorem mc58_119 : mr_C 58 119 = some (.iadd, 1) := by decide +kernel
theorem mc58_120 : mr_C 58 120 = some (.putfield 97, 3) := by decide +kernel
theorem mc58_123 : mr_C 58 123 = some (.return_, 1) := by decide +kernel
theorem vc58_0 {sc : Nat × (Int → Int)} {Q : mm_R → mm_M → Prop} {M : mm_M} {l1 : Int} (ho : mr_ok M) (hg_l1 : mr_rg l1)
    (h : ((-1000) ≤ l1 → (l1 ≤ 1000 → en_R sc 58 33 [mm_r 72, mm_i l1, mm_i l1, mm_i (M.1 72 19), mm_u] [] M Q) ∧ (¬ l1 ≤ 1000 → en_R sc 58 33 [mm_r 72, mm_i l1, mm_i 1000, mm_i (M.1 72 19), mm_u] [] M Q)) ∧ (¬ (-1000) ≤ l1 → en_R sc 58 33 [mm_r 72, mm_i l1, mm_i (-1000), mm_i (M.1 72 19), mm_u] [] M Q)) : en_R sc 58 0 [mm_r 72, mm_i l1, mm_u, mm_u, mm_u] [] M Q := by
  refine en_iload_n mc58_0 rfl ?_
  refine en_sipush mc58_1 (by decide) ?_
  refine en_icmp_ge 13 mc58_4 (by decide) hg_l1 (⟨by decide, by decide⟩ : mr_rg (-1000)) (fun q => ?_) (fun q => ?_)
  · replace h := h.1 q
    refine en_iload_n mc58_13 rfl ?_
    refine en_sipush mc58_14 (by decide) ?_
    refine en_icmp_le 26 mc58_17 (by decide) hg_l1 (⟨by decide, by decide⟩ : mr_rg 1000) (fun q => ?_) (fun q => ?_)
    · replace h := h.1 q
      refine en_iload_n mc58_26 rfl ?_
      refine en_istore_n (ls' := [mm_r 72, mm_i l1, mm_i l1, mm_u, mm_u]) mc58_27 (Nat.le_of_ble_eq_true rfl) rfl ?_
      refine en_aload_n mc58_28 rfl ?_
      refine en_getI mv58 mc58_29 (lk_f7_97) (⟨rfl, by decide⟩ : mt_kd[72]? = some (.inl 7) ∧ 72 < 99) (Or.inl rfl) ?_
      refine en_istore_n (ls' := [mm_r 72, mm_i l1, mm_i l1, mm_i (M.1 72 19), mm_u]) mc58_32 (Nat.le_of_ble_eq_true rfl) rfl ?_
      exact h
    · replace h := h.2 q
      refine en_sipush mc58_20 (by decide) ?_
      refine en_goto 27 mc58_23 (by decide) ?_
      refine en_istore_n (ls' := [mm_r 72, mm_i l1, mm_i 1000, mm_u, mm_u]) mc58_27 (Nat.le_of_ble_eq_true rfl) rfl ?_
      refine en_aload_n mc58_28 rfl ?_
      refine en_getI mv58 mc58_29 (lk_f7_97) (⟨rfl, by decide⟩ : mt_kd[72]? = some (.inl 7) ∧ 72 < 99) (Or.inl rfl) ?_
      refine en_istore_n (ls' := [mm_r 72, mm_i l1, mm_i 1000, mm_i (M.1 72 19), mm_u]) mc58_32 (Nat.le_of_ble_eq_true rfl) rfl ?_
      exact h
  · replace h := h.2 q
    refine en_sipush mc58_7 (by decide) ?_
    refine en_goto 27 mc58_10 (by decide) ?_
    refine en_istore_n (ls' := [mm_r 72, mm_i l1, mm_i (-1000), mm_u, mm_u]) mc58_27 (Nat.le_of_ble_eq_true rfl) rfl ?_
    refine en_aload_n mc58_28 rfl ?_
    refine en_getI mv58 mc58_29 (lk_f7_97) (⟨rfl, by decide⟩ : mt_kd[72]? = some (.inl 7) ∧ 72 < 99) (Or.inl rfl) ?_
    refine en_istore_n (ls' := [mm_r 72, mm_i l1, mm_i (-1000), mm_i (M.1 72 19), mm_u]) mc58_32 (Nat.le_of_ble_eq_true rfl) rfl ?_
    exact h
theorem vc58_33 {sc : Nat × (Int → Int)} {Q : mm_R → mm_M → Prop} {M : mm_M} {l1 : Int} {l2 : Int} {l3 : Int} (ho : mr_ok M) (hg_l3 : mr_rg l3) (hg_l2 : mr_rg l2)
    (h : (l3 ≤ 0 → en_R sc 58 55 [mm_r 72, mm_i l1, mm_i l2, mm_i l3, mm_u] [] M Q) ∧ (¬ l3 ≤ 0 → 0 ≤ (l3 - 1) ∧ ((l3 - 1) < 1700 ∧ (((M.1 87 (l3 - 1)) ≤ l2 → en_R sc 58 55 [mm_r 72, mm_i l1, mm_i l2, mm_i l3, mm_u] [] M Q) ∧ (¬ (M.1 87 (l3 - 1)) ≤ l2 → en_R sc 58 33 [mm_r 72, mm_i l1, mm_i l2, mm_i (l3 + (-1)), mm_u] [] M Q))))) : en_R sc 58 33 [mm_r 72, mm_i l1, mm_i l2, mm_i l3, mm_u] [] M Q := by
  refine en_iload_n mc58_33 rfl ?_
  refine en_if_le 55 mc58_34 (by decide) hg_l3 (fun q => ?_) (fun q => ?_)
  · replace h := h.1 q
    exact h
  · replace h := h.2 q
    obtain ⟨g1, h⟩ := h
    obtain ⟨g2, h⟩ := h
    refine en_aload_n mc58_37 rfl ?_
    refine en_getR (b := 87) mv58 mc58_38 (lk_f7_52) (⟨rfl, by decide⟩ : mt_kd[72]? = some (.inl 7) ∧ 72 < 99) rfl (mk_fc ho (by decide +kernel)) ?_
    refine en_iload_n mc58_41 rfl ?_
    refine en_iconst mc58_42 ?_
    refine en_isub mc58_43 ?_
    refine en_iald mc58_44 (⟨rfl, by decide, by decide⟩ : mt_kd[87]? = some (.inr (.int, 1700)) ∧ 87 < 99 ∧ 1700 < 2147483648) g1 g2 ?_
    refine en_iload_n mc58_45 rfl ?_
    refine en_icmp_le 55 mc58_46 (by decide) (ho.2.1 87 (l3 - 1) (by unfold mr_lg; omega)) hg_l2 (fun q => ?_) (fun q => ?_)
    · replace h := h.1 q
      exact h
    · replace h := h.2 q
      refine en_iinc (ls' := [mm_r 72, mm_i l1, mm_i l2, mm_i (l3 + (-1)), mm_u]) mc58_49 rfl rfl ?_
      refine en_goto 33 mc58_52 (by decide) ?_
      exact h
theorem vc58_55 {sc : Nat × (Int → Int)} {Q : mm_R → mm_M → Prop} {M : mm_M} {l1 : Int} {l2 : Int} {l3 : Int} (ho : mr_ok M) (hg_l3 : mr_rg l3) (hg_l2 : mr_rg l2)
    (h : (l3 ≤ 0 → en_R sc 58 78 [mm_r 72, mm_i l1, mm_i l2, mm_i l3, mm_i (M.1 72 19)] [] M Q) ∧ (¬ l3 ≤ 0 → 0 ≤ (l3 - 1) ∧ ((l3 - 1) < 1700 ∧ (((M.1 87 (l3 - 1)) ≠ l2 → en_R sc 58 78 [mm_r 72, mm_i l1, mm_i l2, mm_i l3, mm_i (M.1 72 19)] [] M Q) ∧ (¬ ((M.1 87 (l3 - 1)) ≠ l2) → Q (.inl none) M))))) : en_R sc 58 55 [mm_r 72, mm_i l1, mm_i l2, mm_i l3, mm_u] [] M Q := by
  refine en_iload_n mc58_55 rfl ?_
  refine en_if_le 72 mc58_56 (by decide) hg_l3 (fun q => ?_) (fun q => ?_)
  · replace h := h.1 q
    refine en_aload_n mc58_72 rfl ?_
    refine en_getI mv58 mc58_73 (lk_f7_97) (⟨rfl, by decide⟩ : mt_kd[72]? = some (.inl 7) ∧ 72 < 99) (Or.inl rfl) ?_
    refine en_istore (ls' := [mm_r 72, mm_i l1, mm_i l2, mm_i l3, mm_i (M.1 72 19)]) mc58_76 (Nat.le_of_ble_eq_true rfl) rfl ?_
    exact h
  · replace h := h.2 q
    obtain ⟨g1, h⟩ := h
    obtain ⟨g2, h⟩ := h
    refine en_aload_n mc58_59 rfl ?_
    refine en_getR (b := 87) mv58 mc58_60 (lk_f7_52) (⟨rfl, by decide⟩ : mt_kd[72]? = some (.inl 7) ∧ 72 < 99) rfl (mk_fc ho (by decide +kernel)) ?_
    refine en_iload_n mc58_63 rfl ?_
    refine en_iconst mc58_64 ?_
    refine en_isub mc58_65 ?_
    refine en_iald mc58_66 (⟨rfl, by decide, by decide⟩ : mt_kd[87]? = some (.inr (.int, 1700)) ∧ 87 < 99 ∧ 1700 < 2147483648) g1 g2 ?_
    refine en_iload_n mc58_67 rfl ?_
    refine en_icmp_ne 72 mc58_68 (by decide) (ho.2.1 87 (l3 - 1) (by unfold mr_lg; omega)) hg_l2 (fun q => ?_) (fun q => ?_)
    · replace h := h.1 q
      refine en_aload_n mc58_72 rfl ?_
      refine en_getI mv58 mc58_73 (lk_f7_97) (⟨rfl, by decide⟩ : mt_kd[72]? = some (.inl 7) ∧ 72 < 99) (Or.inl rfl) ?_
      refine en_istore (ls' := [mm_r 72, mm_i l1, mm_i l2, mm_i l3, mm_i (M.1 72 19)]) mc58_76 (Nat.le_of_ble_eq_true rfl) rfl ?_
      exact h
    · replace h := h.2 q
      exact en_vret mv58 mc58_71 rfl h
theorem vc58_78 {sc : Nat × (Int → Int)} {Q : mm_R → mm_M → Prop} {M : mm_M} {l1 : Int} {l2 : Int} {l3 : Int} {l4 : Int} (ho : mr_ok M) (hg_l4 : mr_rg l4) (hg_l3 : mr_rg l3) (hg_l2 : mr_rg l2)
    (h : (l4 ≤ l3 → 0 ≤ l3 ∧ (l3 < 1700 ∧ (mr_rg (((mm_putN M 87 l3 l2).1 72 19) + 1) ∧ (Q (.inl none) (mm_putN (mm_putN M 87 l3 l2) 72 19 (((mm_putN M 87 l3 l2).1 72 19) + 1)))))) ∧ (¬ l4 ≤ l3 → 0 ≤ (l4 - 1) ∧ ((l4 - 1) < 1700 ∧ (0 ≤ l4 ∧ (l4 < 1700 ∧ (en_R sc 58 78 [mm_r 72, mm_i l1, mm_i l2, mm_i l3, mm_i (l4 + (-1))] [] (mm_putN M 87 l4 (M.1 87 (l4 - 1))) Q)))))) : en_R sc 58 78 [mm_r 72, mm_i l1, mm_i l2, mm_i l3, mm_i l4] [] M Q := by
  refine en_iload mc58_78 rfl ?_
  refine en_iload_n mc58_80 rfl ?_
  refine en_icmp_le 106 mc58_81 (by decide) hg_l4 hg_l3 (fun q => ?_) (fun q => ?_)
  · replace h := h.1 q
    obtain ⟨g1, h⟩ := h
    obtain ⟨g2, h⟩ := h
    obtain ⟨g3, h⟩ := h
    refine en_aload_n mc58_106 rfl ?_
    refine en_getR (b := 87) mv58 mc58_107 (lk_f7_52) (⟨rfl, by decide⟩ : mt_kd[72]? = some (.inl 7) ∧ 72 < 99) rfl (mk_fc ho (by decide +kernel)) ?_
    refine en_iload_n mc58_110 rfl ?_
    refine en_iload_n mc58_111 rfl ?_
    refine en_iast mc58_112 (⟨rfl, by decide, by decide⟩ : mt_kd[87]? = some (.inr (.int, 1700)) ∧ 87 < 99 ∧ 1700 < 2147483648) g1 g2 hg_l2 ?_
    refine en_aload_n mc58_113 rfl ?_
    refine en_dup mc58_114 rfl ?_
    refine en_getI mv58 mc58_115 (lk_f7_97) (⟨rfl, by decide⟩ : mt_kd[72]? = some (.inl 7) ∧ 72 < 99) (Or.inl rfl) ?_
    refine en_iconst mc58_118 ?_
    refine en_iadd mc58_119 ?_
    refine en_putI mv58 mc58_120 (lk_f7_97) (⟨rfl, by decide⟩ : mt_kd[72]? = some (.inl 7) ∧ 72 < 99) rfl rfl g3 ?_
    exact en_vret mv58 mc58_123 rfl h
  · replace h := h.2 q
    obtain ⟨g4, h⟩ := h
    obtain ⟨g5, h⟩ := h
    obtain ⟨g6, h⟩ := h
    obtain ⟨g7, h⟩ := h
    refine en_aload_n mc58_84 rfl ?_
    refine en_getR (b := 87) mv58 mc58_85 (lk_f7_52) (⟨rfl, by decide⟩ : mt_kd[72]? = some (.inl 7) ∧ 72 < 99) rfl (mk_fc ho (by decide +kernel)) ?_
    refine en_iload mc58_88 rfl ?_
    refine en_aload_n mc58_90 rfl ?_
    refine en_getR (b := 87) mv58 mc58_91 (lk_f7_52) (⟨rfl, by decide⟩ : mt_kd[72]? = some (.inl 7) ∧ 72 < 99) rfl (mk_fc ho (by decide +kernel)) ?_
    refine en_iload mc58_94 rfl ?_
    refine en_iconst mc58_96 ?_
    refine en_isub mc58_97 ?_
    refine en_iald mc58_98 (⟨rfl, by decide, by decide⟩ : mt_kd[87]? = some (.inr (.int, 1700)) ∧ 87 < 99 ∧ 1700 < 2147483648) g4 g5 ?_
    refine en_iast mc58_99 (⟨rfl, by decide, by decide⟩ : mt_kd[87]? = some (.inr (.int, 1700)) ∧ 87 < 99 ∧ 1700 < 2147483648) g6 g7 (ho.2.1 87 (l4 - 1) (by unfold mr_lg; omega)) ?_
    refine en_iinc (ls' := [mm_r 72, mm_i l1, mm_i l2, mm_i l3, mm_i (l4 + (-1))]) mc58_100 rfl rfl ?_
    refine en_goto 78 mc58_103 (by decide) ?_
    exact h
/-! 59: CellAreasModel.cutBands(I)V -/
theorem mc59_0 : mr_C 59 0 = some (.bipush 102, 2) := rfl
theorem mc59_2 : mr_C 59 2 = some (.iload_n 1, 1) := rfl
theorem mc59_3 : mr_C 59 3 = some (.imul, 1) := rfl
theorem mc59_4 : mr_C 59 4 = some (.istore_n 2, 1) := rfl
theorem mc59_5 : mr_C 59 5 = some (.iload_n 2, 1) := rfl
theorem mc59_6 : mr_C 59 6 = some (.aload_n 0, 1) := rfl
theorem mc59_7 : mr_C 59 7 = some (.iload_n 1, 1) := rfl
theorem mc59_8 : mr_C 59 8 = some (.invokevirtual 107, 3) := rfl
theorem mc59_11 : mr_C 59 11 = some (.if_icmp .ge (29), 3) := rfl
theorem mc59_14 : mr_C 59 14 = some (.aload_n 0, 1) := rfl
theorem mc59_15 : mr_C 59 15 = some (.aload_n 0, 1) := rfl
theorem mc59_16 : mr_C 59 16 = some (.getfield 7, 3) := rfl
theorem mc59_19 : mr_C 59 19 = some (.iload_n 2, 1) := rfl
theorem mc59_20 : mr_C 59 20 = some (.iaload, 1) := rfl
theorem mc59_21 : mr_C 59 21 = some (.invokevirtual 151, 3) := rfl
theorem mc59_24 : mr_C 59 24 = some (.aload_n 0, 1) := rfl
theorem mc59_25 : mr_C 59 25 = some (.aload_n 0, 1) := rfl
theorem mc59_26 : mr_C 59 26 = some (.getfield 13, 3) := rfl
theorem mc59_29 : mr_C 59 29 = some (.iload_n 2, 1) := rfl
theorem mc59_30 : mr_C 59 30 = some (.iaload, 1) := rfl
theorem mc59_31 : mr_C 59 31 = some (.invokevirtual 151, 3) := rfl
theorem mc59_34 : mr_C 59 34 = some (.iinc 2 (1), 3) := rfl
theorem mc59_37 : mr_C 59 37 = some (.goto (-32), 3) := rfl
theorem mc59_40 : mr_C 59 40 = some (.return_, 1) := rfl
theorem vc59_0 {sc : Nat × (Int → Int)} {Q : mm_R → mm_M → Prop} {M : mm_M} {l1 : Int} (ho : mr_ok M)
    (h : en_R sc 59 5 [mm_r 72, mm_i l1, mm_i (102 * l1)] [] M Q) : en_R sc 59 0 [mm_r 72, mm_i l1, mm_u] [] M Q := by
  refine en_bipush mc59_0 (by decide) ?_
  refine en_iload_n mc59_2 rfl ?_
  refine en_imul mc59_3 ?_
  refine en_istore_n (ls' := [mm_r 72, mm_i l1, mm_i (102 * l1)]) mc59_4 (Nat.le_of_ble_eq_true rfl) rfl ?_
  exact h
theorem vc59_5 {sc : Nat × (Int → Int)} {Q : mm_R → mm_M → Prop} {M : mm_M} {l1 : Int} {l2 : Int} (ho : mr_ok M) (hg_l2 : mr_rg l2)
    (h : en_CI sc 45 [mm_r 72, mm_i l1] M (fun x1 M2 => mr_ok M2 → mr_rg x1 ∧ ((x1 ≤ l2 → Q (.inl none) M2) ∧ (¬ x1 ≤ l2 → 0 ≤ l2 ∧ (l2 < 918 ∧ (en_CV sc 58 [mm_r 72, mm_i (M2.1 73 l2), mm_u, mm_u, mm_u] M2 (fun M8 => mr_ok M8 → 0 ≤ l2 ∧ (l2 < 918 ∧ (en_CV sc 58 [mm_r 72, mm_i (M8.1 74 l2), mm_u, mm_u, mm_u] M8 (fun M13 => mr_ok M13 → en_R sc 59 5 [mm_r 72, mm_i l1, mm_i (l2 + 1)] [] M13 Q) (fun e M9 => Q (.inr e) M9)))) (fun e M9 => Q (.inr e) M9)))))) (fun e M9 => Q (.inr e) M9)) : en_R sc 59 5 [mm_r 72, mm_i l1, mm_i l2] [] M Q := by
  refine en_iload_n mc59_5 rfl ?_
  refine en_aload_n mc59_6 rfl ?_
  refine en_iload_n mc59_7 rfl ?_
  refine en_callI (lz := [mm_r 72, mm_i l1]) mv59 mc59_8 rfl rfl (lk_m7_107) mv45 rfl (by decide) rfl (mk_cokV rfl (⟨rfl, by decide⟩ : mt_kd[72]? = some (.inl 7) ∧ 72 < 99)) rfl (mk_nh rfl _) ho ?_
  refine en_CI_mono h (fun x1 M2 h => ?_) (fun _ _ h => h)
  intro ho3
  replace h := h ho3
  obtain ⟨g4, h⟩ := h
  refine en_icmp_ge 40 mc59_11 (by decide) hg_l2 g4 (fun q => ?_) (fun q => ?_)
  · replace h := h.1 q
    exact en_vret mv59 mc59_40 rfl h
  · replace h := h.2 q
    obtain ⟨g5, h⟩ := h
    obtain ⟨g6, h⟩ := h
    refine en_aload_n mc59_14 rfl ?_
    refine en_aload_n mc59_15 rfl ?_
    refine en_getR (b := 73) mv59 mc59_16 (lk_f7_7) (⟨rfl, by decide⟩ : mt_kd[72]? = some (.inl 7) ∧ 72 < 99) rfl (mk_fc ho3 (by decide +kernel)) ?_
    refine en_iload_n mc59_19 rfl ?_
    refine en_iald mc59_20 (⟨rfl, by decide, by decide⟩ : mt_kd[73]? = some (.inr (.int, 918)) ∧ 73 < 99 ∧ 918 < 2147483648) g5 g6 ?_
    refine en_callV (lz := [mm_r 72, mm_i (M2.1 73 l2), mm_u, mm_u, mm_u]) mv59 mc59_21 rfl rfl (lk_m7_151) mv58 rfl (by decide) rfl (mk_cokV rfl (⟨rfl, by decide⟩ : mt_kd[72]? = some (.inl 7) ∧ 72 < 99)) rfl (mk_nh rfl _) ho3 ?_
    refine en_CV_mono h (fun M8 h => ?_) (fun _ _ h => h)
    intro ho9
    replace h := h ho9
    obtain ⟨g10, h⟩ := h
    obtain ⟨g11, h⟩ := h
    refine en_aload_n mc59_24 rfl ?_
    refine en_aload_n mc59_25 rfl ?_
    refine en_getR (b := 74) mv59 mc59_26 (lk_f7_13) (⟨rfl, by decide⟩ : mt_kd[72]? = some (.inl 7) ∧ 72 < 99) rfl (mk_fc ho9 (by decide +kernel)) ?_
    refine en_iload_n mc59_29 rfl ?_
    refine en_iald mc59_30 (⟨rfl, by decide, by decide⟩ : mt_kd[74]? = some (.inr (.int, 918)) ∧ 74 < 99 ∧ 918 < 2147483648) g10 g11 ?_
    refine en_callV (lz := [mm_r 72, mm_i (M8.1 74 l2), mm_u, mm_u, mm_u]) mv59 mc59_31 rfl rfl (lk_m7_151) mv58 rfl (by decide) rfl (mk_cokV rfl (⟨rfl, by decide⟩ : mt_kd[72]? = some (.inl 7) ∧ 72 < 99)) rfl (mk_nh rfl _) ho9 ?_
    refine en_CV_mono h (fun M13 h => ?_) (fun _ _ h => h)
    intro ho14
    replace h := h ho14
    refine en_iinc (ls' := [mm_r 72, mm_i l1, mm_i (l2 + 1)]) mc59_34 rfl rfl ?_
    refine en_goto 5 mc59_37 (by decide) ?_
    exact h
/-! 60: CellAreasModel.bandAt(II)I -/
theorem mc60_0 : mr_C 60 0 = some (.iconst (-1), 1) := rfl
theorem mc60_1 : mr_C 60 1 = some (.istore_n 3, 1) := rfl
theorem mc60_2 : mr_C 60 2 = some (.bipush 102, 2) := rfl
theorem mc60_4 : mr_C 60 4 = some (.iload_n 1, 1) := rfl
theorem mc60_5 : mr_C 60 5 = some (.imul, 1) := rfl
theorem mc60_6 : mr_C 60 6 = some (.istore 4, 2) := rfl
theorem mc60_8 : mr_C 60 8 = some (.iload 4, 2) := rfl
theorem mc60_10 : mr_C 60 10 = some (.aload_n 0, 1) := rfl
theorem mc60_11 : mr_C 60 11 = some (.iload_n 1, 1) := rfl
theorem mc60_12 : mr_C 60 12 = some (.invokevirtual 107, 3) := rfl
theorem mc60_15 : mr_C 60 15 = some (.if_icmp .ge (38), 3) := rfl
theorem mc60_18 : mr_C 60 18 = some (.aload_n 0, 1) := rfl
theorem mc60_19 : mr_C 60 19 = some (.getfield 7, 3) := rfl
theorem mc60_22 : mr_C 60 22 = some (.iload 4, 2) := rfl
theorem mc60_24 : mr_C 60 24 = some (.iaload, 1) := rfl
theorem mc60_25 : mr_C 60 25 = some (.iload_n 2, 1) := rfl
theorem mc60_26 : mr_C 60 26 = some (.if_icmp .gt (19), 3) := rfl
theorem mc60_29 : mr_C 60 29 = some (.iload_n 2, 1) := rfl
theorem mc60_30 : mr_C 60 30 = some (.aload_n 0, 1) := rfl
theorem mc60_31 : mr_C 60 31 = some (.getfield 13, 3) := rfl
theorem mc60_34 : mr_C 60 34 = some (.iload 4, 2) := rfl
theorem mc60_36 : mr_C 60 36 = some (.iaload, 1) := rfl
theorem mc60_37 : mr_C 60 37 = some (.if_icmp .ge (8), 3) := rfl
theorem mc60_40 : mr_C 60 40 = some (.iload 4, 2) := rfl
theorem mc60_42 : mr_C 60 42 = some (.goto 4, 3) := rfl
theorem mc60_45 : mr_C 60 45 = some (.iload_n 3, 1) := rfl
theorem mc60_46 : mr_C 60 46 = some (.istore_n 3, 1) := rfl
theorem mc60_47 : mr_C 60 47 = some (.iinc 4 (1), 3) := rfl
theorem mc60_50 : mr_C 60 50 = some (.goto (-42), 3) := rfl
theorem mc60_53 : mr_C 60 53 = some (.iload_n 3, 1) := rfl
theorem mc60_54 : mr_C 60 54 = some (.ireturn, 1) := rfl
theorem vc60_0 {sc : Nat × (Int → Int)} {Q : mm_R → mm_M → Prop} {M : mm_M} {l1 : Int} {l2 : Int} (ho : mr_ok M)
    (h : en_R sc 60 8 [mm_r 72, mm_i l1, mm_i l2, mm_i (-1), mm_i (102 * l1)] [] M Q) : en_R sc 60 0 [mm_r 72, mm_i l1, mm_i l2, mm_u, mm_u] [] M Q := by
  refine en_iconst mc60_0 ?_
  refine en_istore_n (ls' := [mm_r 72, mm_i l1, mm_i l2, mm_i (-1), mm_u]) mc60_1 (Nat.le_of_ble_eq_true rfl) rfl ?_
  refine en_bipush mc60_2 (by decide) ?_
  refine en_iload_n mc60_4 rfl ?_
  refine en_imul mc60_5 ?_
  refine en_istore (ls' := [mm_r 72, mm_i l1, mm_i l2, mm_i (-1), mm_i (102 * l1)]) mc60_6 (Nat.le_of_ble_eq_true rfl) rfl ?_
  exact h
theorem vc60_8 {sc : Nat × (Int → Int)} {Q : mm_R → mm_M → Prop} {M : mm_M} {l1 : Int} {l2 : Int} {l3 : Int} {l4 : Int} (ho : mr_ok M) (hg_l4 : mr_rg l4) (hg_l2 : mr_rg l2)
    (h : en_CI sc 45 [mm_r 72, mm_i l1] M (fun x1 M2 => mr_ok M2 → mr_rg x1 ∧ ((x1 ≤ l4 → Q (.inl (some (mm_i l3))) M2) ∧ (¬ x1 ≤ l4 → 0 ≤ l4 ∧ (l4 < 918 ∧ ((l2 < (M2.1 73 l4) → en_R sc 60 8 [mm_r 72, mm_i l1, mm_i l2, mm_i l3, mm_i (l4 + 1)] [] M2 Q) ∧ (¬ l2 < (M2.1 73 l4) → 0 ≤ l4 ∧ (l4 < 918 ∧ (((M2.1 74 l4) ≤ l2 → en_R sc 60 8 [mm_r 72, mm_i l1, mm_i l2, mm_i l3, mm_i (l4 + 1)] [] M2 Q) ∧ (¬ (M2.1 74 l4) ≤ l2 → en_R sc 60 8 [mm_r 72, mm_i l1, mm_i l2, mm_i l4, mm_i (l4 + 1)] [] M2 Q))))))))) (fun e M9 => Q (.inr e) M9)) : en_R sc 60 8 [mm_r 72, mm_i l1, mm_i l2, mm_i l3, mm_i l4] [] M Q := by
  refine en_iload mc60_8 rfl ?_
  refine en_aload_n mc60_10 rfl ?_
  refine en_iload_n mc60_11 rfl ?_
  refine en_callI (lz := [mm_r 72, mm_i l1]) mv60 mc60_12 rfl rfl (lk_m7_107) mv45 rfl (by decide) rfl (mk_cokV rfl (⟨rfl, by decide⟩ : mt_kd[72]? = some (.inl 7) ∧ 72 < 99)) rfl (mk_nh rfl _) ho ?_
  refine en_CI_mono h (fun x1 M2 h => ?_) (fun _ _ h => h)
  intro ho3
  replace h := h ho3
  obtain ⟨g4, h⟩ := h
  refine en_icmp_ge 53 mc60_15 (by decide) hg_l4 g4 (fun q => ?_) (fun q => ?_)
  · replace h := h.1 q
    refine en_iload_n mc60_53 rfl ?_
    exact en_iret mv60 mc60_54 rfl h
  · replace h := h.2 q
    obtain ⟨g5, h⟩ := h
    obtain ⟨g6, h⟩ := h
    refine en_aload_n mc60_18 rfl ?_
    refine en_getR (b := 73) mv60 mc60_19 (lk_f7_7) (⟨rfl, by decide⟩ : mt_kd[72]? = some (.inl 7) ∧ 72 < 99) rfl (mk_fc ho3 (by decide +kernel)) ?_
    refine en_iload mc60_22 rfl ?_
    refine en_iald mc60_24 (⟨rfl, by decide, by decide⟩ : mt_kd[73]? = some (.inr (.int, 918)) ∧ 73 < 99 ∧ 918 < 2147483648) g5 g6 ?_
    refine en_iload_n mc60_25 rfl ?_
    refine en_icmp_gt 45 mc60_26 (by decide) (ho3.2.1 73 l4 (by unfold mr_lg; omega)) hg_l2 (fun q => ?_) (fun q => ?_)
    · replace h := h.1 q
      refine en_iload_n mc60_45 rfl ?_
      refine en_istore_n (ls' := [mm_r 72, mm_i l1, mm_i l2, mm_i l3, mm_i l4]) mc60_46 (Nat.le_of_ble_eq_true rfl) rfl ?_
      refine en_iinc (ls' := [mm_r 72, mm_i l1, mm_i l2, mm_i l3, mm_i (l4 + 1)]) mc60_47 rfl rfl ?_
      refine en_goto 8 mc60_50 (by decide) ?_
      exact h
    · replace h := h.2 q
      obtain ⟨g7, h⟩ := h
      obtain ⟨g8, h⟩ := h
      refine en_iload_n mc60_29 rfl ?_
      refine en_aload_n mc60_30 rfl ?_
      refine en_getR (b := 74) mv60 mc60_31 (lk_f7_13) (⟨rfl, by decide⟩ : mt_kd[72]? = some (.inl 7) ∧ 72 < 99) rfl (mk_fc ho3 (by decide +kernel)) ?_
      refine en_iload mc60_34 rfl ?_
      refine en_iald mc60_36 (⟨rfl, by decide, by decide⟩ : mt_kd[74]? = some (.inr (.int, 918)) ∧ 74 < 99 ∧ 918 < 2147483648) g7 g8 ?_
      refine en_icmp_ge 45 mc60_37 (by decide) hg_l2 (ho3.2.1 74 l4 (by unfold mr_lg; omega)) (fun q => ?_) (fun q => ?_)
      · replace h := h.1 q
        refine en_iload_n mc60_45 rfl ?_
        refine en_istore_n (ls' := [mm_r 72, mm_i l1, mm_i l2, mm_i l3, mm_i l4]) mc60_46 (Nat.le_of_ble_eq_true rfl) rfl ?_
        refine en_iinc (ls' := [mm_r 72, mm_i l1, mm_i l2, mm_i l3, mm_i (l4 + 1)]) mc60_47 rfl rfl ?_
        refine en_goto 8 mc60_50 (by decide) ?_
        exact h
      · replace h := h.2 q
        refine en_iload mc60_40 rfl ?_
        refine en_goto 46 mc60_42 (by decide) ?_
        refine en_istore_n (ls' := [mm_r 72, mm_i l1, mm_i l2, mm_i l4, mm_i l4]) mc60_46 (Nat.le_of_ble_eq_true rfl) rfl ?_
        refine en_iinc (ls' := [mm_r 72, mm_i l1, mm_i l2, mm_i l4, mm_i (l4 + 1)]) mc60_47 rfl rfl ?_
        refine en_goto 8 mc60_50 (by decide) ?_
        exact h
/-! 61: CellAreasModel.loadOne(II)V -/
theorem mc61_0 : mr_C 61 0 = some (.aload_n 0, 1) := rfl
theorem mc61_1 : mr_C 61 1 = some (.iload_n 1, 1) := rfl
theorem mc61_2 : mr_C 61 2 = some (.iload_n 2, 1) := rfl
theorem mc61_3 : mr_C 61 3 = some (.invokevirtual 111, 3) := rfl
theorem mc61_6 : mr_C 61 6 = some (.istore_n 3, 1) := rfl
theorem mc61_7 : mr_C 61 7 = some (.aload_n 0, 1) := rfl
theorem mc61_8 : mr_C 61 8 = some (.iload_n 3, 1) := rfl
theorem mc61_9 : mr_C 61 9 = some (.ifCond .ge (7), 3) := rfl
theorem mc61_12 : mr_C 61 12 = some (.iconst 0, 1) := rfl
theorem mc61_13 : mr_C 61 13 = some (.goto 9, 3) := rfl
theorem mc61_16 : mr_C 61 16 = some (.aload_n 0, 1) := rfl
theorem mc61_17 : mr_C 61 17 = some (.getfield 19, 3) := rfl
theorem mc61_20 : mr_C 61 20 = some (.iload_n 3, 1) := rfl
theorem mc61_21 : mr_C 61 21 = some (.iaload, 1) := rfl
theorem mc61_22 : mr_C 61 22 = some (.putfield 115, 3) := rfl
theorem mc61_25 : mr_C 61 25 = some (.iconst 0, 1) := rfl
theorem mc61_26 : mr_C 61 26 = some (.istore 4, 2) := rfl
theorem mc61_28 : mr_C 61 28 = some (.iload 4, 2) := rfl
theorem mc61_30 : mr_C 61 30 = some (.aload_n 0, 1) := rfl
theorem mc61_31 : mr_C 61 31 = some (.getfield 115, 3) := rfl
theorem mc61_34 : mr_C 61 34 = some (.if_icmp .ge (51), 3) := rfl
theorem mc61_37 : mr_C 61 37 = some (.aload_n 0, 1) := rfl
theorem mc61_38 : mr_C 61 38 = some (.getfield 34, 3) := rfl
theorem mc61_41 : mr_C 61 41 = some (.iload 4, 2) := rfl
theorem mc61_43 : mr_C 61 43 = some (.aload_n 0, 1) := rfl
theorem mc61_44 : mr_C 61 44 = some (.getfield 25, 3) := rfl
theorem mc61_47 : mr_C 61 47 = some (.aload_n 0, 1) := rfl
theorem mc61_48 : mr_C 61 48 = some (.getfield 16, 3) := rfl
theorem mc61_51 : mr_C 61 51 = some (.iload_n 3, 1) := rfl
theorem mc61_52 : mr_C 61 52 = some (.iaload, 1) := rfl
theorem mc61_53 : mr_C 61 53 = some (.iload 4, 2) := rfl
theorem mc61_55 : mr_C 61 55 = some (.iadd, 1) := rfl
theorem mc61_56 : mr_C 61 56 = some (.iaload, 1) := rfl
theorem mc61_57 : mr_C 61 57 = some (.iastore, 1) := rfl
theorem mc61_58 : mr_C 61 58 = some (.aload_n 0, 1) := rfl
theorem mc61_59 : mr_C 61 59 = some (.getfield 37, 3) := rfl
theorem mc61_62 : mr_C 61 62 = some (.iload 4, 2) := rfl
theorem mc61_64 : mr_C 61 64 = some (.aload_n 0, 1) := rfl
theorem mc61_65 : mr_C 61 65 = some (.getfield 28, 3) := rfl
theorem mc61_68 : mr_C 61 68 = some (.aload_n 0, 1) := rfl
theorem mc61_69 : mr_C 61 69 = some (.getfield 16, 3) := by decide +kernel
theorem mc61_72 : mr_C 61 72 = some (.iload_n 3, 1) := by decide +kernel
theorem mc61_73 : mr_C 61 73 = some (.iaload, 1) := by decide +kernel
theorem mc61_74 : mr_C 61 74 = some (.iload 4, 2) := by decide +kernel
theorem mc61_76 : mr_C 61 76 = some (.iadd, 1) := by decide +kernel
theorem mc61_77 : mr_C 61 77 = some (.iaload, 1) := by decide +kernel
theorem mc61_78 : mr_C 61 78 = some (.iastore, 1) := by decide +kernel
theorem mc61_79 : mr_C 61 79 = some (.iinc 4 (1), 3) := by decide +kernel
theorem mc61_82 : mr_C 61 82 = some (.goto (-54), 3) := by decide +kernel
theorem mc61_85 : mr_C 61 85 = some (.return_, 1) := by decide +kernel
theorem vc61_0 {sc : Nat × (Int → Int)} {Q : mm_R → mm_M → Prop} {M : mm_M} {l1 : Int} {l2 : Int} (ho : mr_ok M)
    (h : en_CI sc 60 [mm_r 72, mm_i l1, mm_i l2, mm_u, mm_u] M (fun x1 M2 => mr_ok M2 → mr_rg x1 ∧ ((0 ≤ x1 → 0 ≤ x1 ∧ (x1 < 918 ∧ (en_R sc 61 28 [mm_r 72, mm_i l1, mm_i l2, mm_i x1, mm_i 0] [] (mm_putN M2 72 11 (M2.1 76 x1)) Q))) ∧ (¬ 0 ≤ x1 → en_R sc 61 28 [mm_r 72, mm_i l1, mm_i l2, mm_i x1, mm_i 0] [] (mm_putN M2 72 11 0) Q))) (fun e M9 => Q (.inr e) M9)) : en_R sc 61 0 [mm_r 72, mm_i l1, mm_i l2, mm_u, mm_u] [] M Q := by
  refine en_aload_n mc61_0 rfl ?_
  refine en_iload_n mc61_1 rfl ?_
  refine en_iload_n mc61_2 rfl ?_
  refine en_callI (lz := [mm_r 72, mm_i l1, mm_i l2, mm_u, mm_u]) mv61 mc61_3 rfl rfl (lk_m7_111) mv60 rfl (by decide) rfl (mk_cokV rfl (⟨rfl, by decide⟩ : mt_kd[72]? = some (.inl 7) ∧ 72 < 99)) rfl (mk_nh rfl _) ho ?_
  refine en_CI_mono h (fun x1 M2 h => ?_) (fun _ _ h => h)
  intro ho3
  replace h := h ho3
  obtain ⟨g4, h⟩ := h
  refine en_istore_n (ls' := [mm_r 72, mm_i l1, mm_i l2, mm_i x1, mm_u]) mc61_6 (Nat.le_of_ble_eq_true rfl) rfl ?_
  refine en_aload_n mc61_7 rfl ?_
  refine en_iload_n mc61_8 rfl ?_
  refine en_if_ge 16 mc61_9 (by decide) g4 (fun q => ?_) (fun q => ?_)
  · replace h := h.1 q
    obtain ⟨g5, h⟩ := h
    obtain ⟨g6, h⟩ := h
    refine en_aload_n mc61_16 rfl ?_
    refine en_getR (b := 76) mv61 mc61_17 (lk_f7_19) (⟨rfl, by decide⟩ : mt_kd[72]? = some (.inl 7) ∧ 72 < 99) rfl (mk_fc ho3 (by decide +kernel)) ?_
    refine en_iload_n mc61_20 rfl ?_
    refine en_iald mc61_21 (⟨rfl, by decide, by decide⟩ : mt_kd[76]? = some (.inr (.int, 918)) ∧ 76 < 99 ∧ 918 < 2147483648) g5 g6 ?_
    refine en_putI mv61 mc61_22 (lk_f7_115) (⟨rfl, by decide⟩ : mt_kd[72]? = some (.inl 7) ∧ 72 < 99) rfl rfl (ho3.2.1 76 x1 (by unfold mr_lg; omega)) ?_
    refine en_iconst mc61_25 ?_
    refine en_istore (ls' := [mm_r 72, mm_i l1, mm_i l2, mm_i x1, mm_i 0]) mc61_26 (Nat.le_of_ble_eq_true rfl) rfl ?_
    exact h
  · replace h := h.2 q
    refine en_iconst mc61_12 ?_
    refine en_goto 22 mc61_13 (by decide) ?_
    refine en_putI mv61 mc61_22 (lk_f7_115) (⟨rfl, by decide⟩ : mt_kd[72]? = some (.inl 7) ∧ 72 < 99) rfl rfl (⟨by decide, by decide⟩ : mr_rg 0) ?_
    refine en_iconst mc61_25 ?_
    refine en_istore (ls' := [mm_r 72, mm_i l1, mm_i l2, mm_i x1, mm_i 0]) mc61_26 (Nat.le_of_ble_eq_true rfl) rfl ?_
    exact h
theorem vc61_28 {sc : Nat × (Int → Int)} {Q : mm_R → mm_M → Prop} {M : mm_M} {l1 : Int} {l2 : Int} {l3 : Int} {l4 : Int} (ho : mr_ok M) (hg_l4 : mr_rg l4)
    (h : ((M.1 72 11) ≤ l4 → Q (.inl none) M) ∧ (¬ (M.1 72 11) ≤ l4 → 0 ≤ l3 ∧ (l3 < 918 ∧ (0 ≤ ((M.1 75 l3) + l4) ∧ (((M.1 75 l3) + l4) < 3618 ∧ (0 ≤ l4 ∧ (l4 < 1200 ∧ (0 ≤ l3 ∧ (l3 < 918 ∧ (0 ≤ (((mm_putN M 81 l4 (M.1 78 ((M.1 75 l3) + l4))).1 75 l3) + l4) ∧ ((((mm_putN M 81 l4 (M.1 78 ((M.1 75 l3) + l4))).1 75 l3) + l4) < 3618 ∧ (0 ≤ l4 ∧ (l4 < 1200 ∧ (en_R sc 61 28 [mm_r 72, mm_i l1, mm_i l2, mm_i l3, mm_i (l4 + 1)] [] (mm_putN (mm_putN M 81 l4 (M.1 78 ((M.1 75 l3) + l4))) 82 l4 ((mm_putN M 81 l4 (M.1 78 ((M.1 75 l3) + l4))).1 79 (((mm_putN M 81 l4 (M.1 78 ((M.1 75 l3) + l4))).1 75 l3) + l4))) Q)))))))))))))) : en_R sc 61 28 [mm_r 72, mm_i l1, mm_i l2, mm_i l3, mm_i l4] [] M Q := by
  refine en_iload mc61_28 rfl ?_
  refine en_aload_n mc61_30 rfl ?_
  refine en_getI mv61 mc61_31 (lk_f7_115) (⟨rfl, by decide⟩ : mt_kd[72]? = some (.inl 7) ∧ 72 < 99) (Or.inl rfl) ?_
  refine en_icmp_ge 85 mc61_34 (by decide) hg_l4 (ho.2.1 72 11 (by unfold mr_lg; omega)) (fun q => ?_) (fun q => ?_)
  · replace h := h.1 q
    exact en_vret mv61 mc61_85 rfl h
  · replace h := h.2 q
    obtain ⟨g1, h⟩ := h
    obtain ⟨g2, h⟩ := h
    obtain ⟨g3, h⟩ := h
    obtain ⟨g4, h⟩ := h
    obtain ⟨g5, h⟩ := h
    obtain ⟨g6, h⟩ := h
    obtain ⟨g7, h⟩ := h
    obtain ⟨g8, h⟩ := h
    obtain ⟨g9, h⟩ := h
    obtain ⟨g10, h⟩ := h
    obtain ⟨g11, h⟩ := h
    obtain ⟨g12, h⟩ := h
    refine en_aload_n mc61_37 rfl ?_
    refine en_getR (b := 81) mv61 mc61_38 (lk_f7_34) (⟨rfl, by decide⟩ : mt_kd[72]? = some (.inl 7) ∧ 72 < 99) rfl (mk_fc ho (by decide +kernel)) ?_
    refine en_iload mc61_41 rfl ?_
    refine en_aload_n mc61_43 rfl ?_
    refine en_getR (b := 78) mv61 mc61_44 (lk_f7_25) (⟨rfl, by decide⟩ : mt_kd[72]? = some (.inl 7) ∧ 72 < 99) rfl (mk_fc ho (by decide +kernel)) ?_
    refine en_aload_n mc61_47 rfl ?_
    refine en_getR (b := 75) mv61 mc61_48 (lk_f7_16) (⟨rfl, by decide⟩ : mt_kd[72]? = some (.inl 7) ∧ 72 < 99) rfl (mk_fc ho (by decide +kernel)) ?_
    refine en_iload_n mc61_51 rfl ?_
    refine en_iald mc61_52 (⟨rfl, by decide, by decide⟩ : mt_kd[75]? = some (.inr (.int, 918)) ∧ 75 < 99 ∧ 918 < 2147483648) g1 g2 ?_
    refine en_iload mc61_53 rfl ?_
    refine en_iadd mc61_55 ?_
    refine en_iald mc61_56 (⟨rfl, by decide, by decide⟩ : mt_kd[78]? = some (.inr (.int, 3618)) ∧ 78 < 99 ∧ 3618 < 2147483648) g3 g4 ?_
    refine en_iast mc61_57 (⟨rfl, by decide, by decide⟩ : mt_kd[81]? = some (.inr (.int, 1200)) ∧ 81 < 99 ∧ 1200 < 2147483648) g5 g6 (ho.2.1 78 ((M.1 75 l3) + l4) (by unfold mr_lg; omega)) ?_
    refine en_aload_n mc61_58 rfl ?_
    refine en_getR (b := 82) mv61 mc61_59 (lk_f7_37) (⟨rfl, by decide⟩ : mt_kd[72]? = some (.inl 7) ∧ 72 < 99) rfl (mk_fc (mr_ok_putI (a := 81) (k := l4) ho (ho.2.1 78 ((M.1 75 l3) + l4) (by unfold mr_lg; omega))) (by decide +kernel)) ?_
    refine en_iload mc61_62 rfl ?_
    refine en_aload_n mc61_64 rfl ?_
    refine en_getR (b := 79) mv61 mc61_65 (lk_f7_28) (⟨rfl, by decide⟩ : mt_kd[72]? = some (.inl 7) ∧ 72 < 99) rfl (mk_fc (mr_ok_putI (a := 81) (k := l4) ho (ho.2.1 78 ((M.1 75 l3) + l4) (by unfold mr_lg; omega))) (by decide +kernel)) ?_
    refine en_aload_n mc61_68 rfl ?_
    refine en_getR (b := 75) mv61 mc61_69 (lk_f7_16) (⟨rfl, by decide⟩ : mt_kd[72]? = some (.inl 7) ∧ 72 < 99) rfl (mk_fc (mr_ok_putI (a := 81) (k := l4) ho (ho.2.1 78 ((M.1 75 l3) + l4) (by unfold mr_lg; omega))) (by decide +kernel)) ?_
    refine en_iload_n mc61_72 rfl ?_
    refine en_iald mc61_73 (⟨rfl, by decide, by decide⟩ : mt_kd[75]? = some (.inr (.int, 918)) ∧ 75 < 99 ∧ 918 < 2147483648) g7 g8 ?_
    refine en_iload mc61_74 rfl ?_
    refine en_iadd mc61_76 ?_
    refine en_iald mc61_77 (⟨rfl, by decide, by decide⟩ : mt_kd[79]? = some (.inr (.int, 3618)) ∧ 79 < 99 ∧ 3618 < 2147483648) g9 g10 ?_
    refine en_iast mc61_78 (⟨rfl, by decide, by decide⟩ : mt_kd[82]? = some (.inr (.int, 1200)) ∧ 82 < 99 ∧ 1200 < 2147483648) g11 g12 ((mr_ok_putI (a := 81) (k := l4) ho (ho.2.1 78 ((M.1 75 l3) + l4) (by unfold mr_lg; omega))).2.1 79 (((mm_putN M 81 l4 (M.1 78 ((M.1 75 l3) + l4))).1 75 l3) + l4) (by unfold mr_lg; omega)) ?_
    refine en_iinc (ls' := [mm_r 72, mm_i l1, mm_i l2, mm_i l3, mm_i (l4 + 1)]) mc61_79 rfl rfl ?_
    refine en_goto 28 mc61_82 (by decide) ?_
    exact h
/-! 62: CellAreasModel.loadTwo(II)V -/
theorem mc62_0 : mr_C 62 0 = some (.aload_n 0, 1) := rfl
theorem mc62_1 : mr_C 62 1 = some (.iload_n 1, 1) := rfl
theorem mc62_2 : mr_C 62 2 = some (.iload_n 2, 1) := rfl
theorem mc62_3 : mr_C 62 3 = some (.invokevirtual 111, 3) := rfl
theorem mc62_6 : mr_C 62 6 = some (.istore_n 3, 1) := rfl
theorem mc62_7 : mr_C 62 7 = some (.aload_n 0, 1) := rfl
theorem mc62_8 : mr_C 62 8 = some (.iload_n 3, 1) := rfl
theorem mc62_9 : mr_C 62 9 = some (.ifCond .ge (7), 3) := rfl
theorem mc62_12 : mr_C 62 12 = some (.iconst 0, 1) := rfl
theorem mc62_13 : mr_C 62 13 = some (.goto 9, 3) := rfl
theorem mc62_16 : mr_C 62 16 = some (.aload_n 0, 1) := rfl
theorem mc62_17 : mr_C 62 17 = some (.getfield 19, 3) := rfl
theorem mc62_20 : mr_C 62 20 = some (.iload_n 3, 1) := rfl
theorem mc62_21 : mr_C 62 21 = some (.iaload, 1) := rfl
theorem mc62_22 : mr_C 62 22 = some (.putfield 118, 3) := rfl
theorem mc62_25 : mr_C 62 25 = some (.iconst 0, 1) := rfl
theorem mc62_26 : mr_C 62 26 = some (.istore 4, 2) := rfl
theorem mc62_28 : mr_C 62 28 = some (.iload 4, 2) := rfl
theorem mc62_30 : mr_C 62 30 = some (.aload_n 0, 1) := rfl
theorem mc62_31 : mr_C 62 31 = some (.getfield 118, 3) := rfl
theorem mc62_34 : mr_C 62 34 = some (.if_icmp .ge (51), 3) := rfl
theorem mc62_37 : mr_C 62 37 = some (.aload_n 0, 1) := rfl
theorem mc62_38 : mr_C 62 38 = some (.getfield 40, 3) := rfl
theorem mc62_41 : mr_C 62 41 = some (.iload 4, 2) := rfl
theorem mc62_43 : mr_C 62 43 = some (.aload_n 0, 1) := rfl
theorem mc62_44 : mr_C 62 44 = some (.getfield 25, 3) := rfl
theorem mc62_47 : mr_C 62 47 = some (.aload_n 0, 1) := rfl
theorem mc62_48 : mr_C 62 48 = some (.getfield 16, 3) := rfl
theorem mc62_51 : mr_C 62 51 = some (.iload_n 3, 1) := rfl
theorem mc62_52 : mr_C 62 52 = some (.iaload, 1) := rfl
theorem mc62_53 : mr_C 62 53 = some (.iload 4, 2) := rfl
theorem mc62_55 : mr_C 62 55 = some (.iadd, 1) := rfl
theorem mc62_56 : mr_C 62 56 = some (.iaload, 1) := rfl
theorem mc62_57 : mr_C 62 57 = some (.iastore, 1) := rfl
theorem mc62_58 : mr_C 62 58 = some (.aload_n 0, 1) := rfl
theorem mc62_59 : mr_C 62 59 = some (.getfield 43, 3) := rfl
theorem mc62_62 : mr_C 62 62 = some (.iload 4, 2) := rfl
theorem mc62_64 : mr_C 62 64 = some (.aload_n 0, 1) := rfl
theorem mc62_65 : mr_C 62 65 = some (.getfield 28, 3) := rfl
theorem mc62_68 : mr_C 62 68 = some (.aload_n 0, 1) := by decide +kernel
theorem mc62_69 : mr_C 62 69 = some (.getfield 16, 3) := by decide +kernel
theorem mc62_72 : mr_C 62 72 = some (.iload_n 3, 1) := by decide +kernel
theorem mc62_73 : mr_C 62 73 = some (.iaload, 1) := by decide +kernel
theorem mc62_74 : mr_C 62 74 = some (.iload 4, 2) := by decide +kernel
theorem mc62_76 : mr_C 62 76 = some (.iadd, 1) := by decide +kernel
theorem mc62_77 : mr_C 62 77 = some (.iaload, 1) := by decide +kernel
theorem mc62_78 : mr_C 62 78 = some (.iastore, 1) := by decide +kernel
theorem mc62_79 : mr_C 62 79 = some (.iinc 4 (1), 3) := by decide +kernel
theorem mc62_82 : mr_C 62 82 = some (.goto (-54), 3) := by decide +kernel
theorem mc62_85 : mr_C 62 85 = some (.return_, 1) := by decide +kernel
theorem vc62_0 {sc : Nat × (Int → Int)} {Q : mm_R → mm_M → Prop} {M : mm_M} {l1 : Int} {l2 : Int} (ho : mr_ok M)
    (h : en_CI sc 60 [mm_r 72, mm_i l1, mm_i l2, mm_u, mm_u] M (fun x1 M2 => mr_ok M2 → mr_rg x1 ∧ ((0 ≤ x1 → 0 ≤ x1 ∧ (x1 < 918 ∧ (en_R sc 62 28 [mm_r 72, mm_i l1, mm_i l2, mm_i x1, mm_i 0] [] (mm_putN M2 72 14 (M2.1 76 x1)) Q))) ∧ (¬ 0 ≤ x1 → en_R sc 62 28 [mm_r 72, mm_i l1, mm_i l2, mm_i x1, mm_i 0] [] (mm_putN M2 72 14 0) Q))) (fun e M9 => Q (.inr e) M9)) : en_R sc 62 0 [mm_r 72, mm_i l1, mm_i l2, mm_u, mm_u] [] M Q := by
  refine en_aload_n mc62_0 rfl ?_
  refine en_iload_n mc62_1 rfl ?_
  refine en_iload_n mc62_2 rfl ?_
  refine en_callI (lz := [mm_r 72, mm_i l1, mm_i l2, mm_u, mm_u]) mv62 mc62_3 rfl rfl (lk_m7_111) mv60 rfl (by decide) rfl (mk_cokV rfl (⟨rfl, by decide⟩ : mt_kd[72]? = some (.inl 7) ∧ 72 < 99)) rfl (mk_nh rfl _) ho ?_
  refine en_CI_mono h (fun x1 M2 h => ?_) (fun _ _ h => h)
  intro ho3
  replace h := h ho3
  obtain ⟨g4, h⟩ := h
  refine en_istore_n (ls' := [mm_r 72, mm_i l1, mm_i l2, mm_i x1, mm_u]) mc62_6 (Nat.le_of_ble_eq_true rfl) rfl ?_
  refine en_aload_n mc62_7 rfl ?_
  refine en_iload_n mc62_8 rfl ?_
  refine en_if_ge 16 mc62_9 (by decide) g4 (fun q => ?_) (fun q => ?_)
  · replace h := h.1 q
    obtain ⟨g5, h⟩ := h
    obtain ⟨g6, h⟩ := h
    refine en_aload_n mc62_16 rfl ?_
    refine en_getR (b := 76) mv62 mc62_17 (lk_f7_19) (⟨rfl, by decide⟩ : mt_kd[72]? = some (.inl 7) ∧ 72 < 99) rfl (mk_fc ho3 (by decide +kernel)) ?_
    refine en_iload_n mc62_20 rfl ?_
    refine en_iald mc62_21 (⟨rfl, by decide, by decide⟩ : mt_kd[76]? = some (.inr (.int, 918)) ∧ 76 < 99 ∧ 918 < 2147483648) g5 g6 ?_
    refine en_putI mv62 mc62_22 (lk_f7_118) (⟨rfl, by decide⟩ : mt_kd[72]? = some (.inl 7) ∧ 72 < 99) rfl rfl (ho3.2.1 76 x1 (by unfold mr_lg; omega)) ?_
    refine en_iconst mc62_25 ?_
    refine en_istore (ls' := [mm_r 72, mm_i l1, mm_i l2, mm_i x1, mm_i 0]) mc62_26 (Nat.le_of_ble_eq_true rfl) rfl ?_
    exact h
  · replace h := h.2 q
    refine en_iconst mc62_12 ?_
    refine en_goto 22 mc62_13 (by decide) ?_
    refine en_putI mv62 mc62_22 (lk_f7_118) (⟨rfl, by decide⟩ : mt_kd[72]? = some (.inl 7) ∧ 72 < 99) rfl rfl (⟨by decide, by decide⟩ : mr_rg 0) ?_
    refine en_iconst mc62_25 ?_
    refine en_istore (ls' := [mm_r 72, mm_i l1, mm_i l2, mm_i x1, mm_i 0]) mc62_26 (Nat.le_of_ble_eq_true rfl) rfl ?_
    exact h
theorem vc62_28 {sc : Nat × (Int → Int)} {Q : mm_R → mm_M → Prop} {M : mm_M} {l1 : Int} {l2 : Int} {l3 : Int} {l4 : Int} (ho : mr_ok M) (hg_l4 : mr_rg l4)
    (h : ((M.1 72 14) ≤ l4 → Q (.inl none) M) ∧ (¬ (M.1 72 14) ≤ l4 → 0 ≤ l3 ∧ (l3 < 918 ∧ (0 ≤ ((M.1 75 l3) + l4) ∧ (((M.1 75 l3) + l4) < 3618 ∧ (0 ≤ l4 ∧ (l4 < 1200 ∧ (0 ≤ l3 ∧ (l3 < 918 ∧ (0 ≤ (((mm_putN M 83 l4 (M.1 78 ((M.1 75 l3) + l4))).1 75 l3) + l4) ∧ ((((mm_putN M 83 l4 (M.1 78 ((M.1 75 l3) + l4))).1 75 l3) + l4) < 3618 ∧ (0 ≤ l4 ∧ (l4 < 1200 ∧ (en_R sc 62 28 [mm_r 72, mm_i l1, mm_i l2, mm_i l3, mm_i (l4 + 1)] [] (mm_putN (mm_putN M 83 l4 (M.1 78 ((M.1 75 l3) + l4))) 84 l4 ((mm_putN M 83 l4 (M.1 78 ((M.1 75 l3) + l4))).1 79 (((mm_putN M 83 l4 (M.1 78 ((M.1 75 l3) + l4))).1 75 l3) + l4))) Q)))))))))))))) : en_R sc 62 28 [mm_r 72, mm_i l1, mm_i l2, mm_i l3, mm_i l4] [] M Q := by
  refine en_iload mc62_28 rfl ?_
  refine en_aload_n mc62_30 rfl ?_
  refine en_getI mv62 mc62_31 (lk_f7_118) (⟨rfl, by decide⟩ : mt_kd[72]? = some (.inl 7) ∧ 72 < 99) (Or.inl rfl) ?_
  refine en_icmp_ge 85 mc62_34 (by decide) hg_l4 (ho.2.1 72 14 (by unfold mr_lg; omega)) (fun q => ?_) (fun q => ?_)
  · replace h := h.1 q
    exact en_vret mv62 mc62_85 rfl h
  · replace h := h.2 q
    obtain ⟨g1, h⟩ := h
    obtain ⟨g2, h⟩ := h
    obtain ⟨g3, h⟩ := h
    obtain ⟨g4, h⟩ := h
    obtain ⟨g5, h⟩ := h
    obtain ⟨g6, h⟩ := h
    obtain ⟨g7, h⟩ := h
    obtain ⟨g8, h⟩ := h
    obtain ⟨g9, h⟩ := h
    obtain ⟨g10, h⟩ := h
    obtain ⟨g11, h⟩ := h
    obtain ⟨g12, h⟩ := h
    refine en_aload_n mc62_37 rfl ?_
    refine en_getR (b := 83) mv62 mc62_38 (lk_f7_40) (⟨rfl, by decide⟩ : mt_kd[72]? = some (.inl 7) ∧ 72 < 99) rfl (mk_fc ho (by decide +kernel)) ?_
    refine en_iload mc62_41 rfl ?_
    refine en_aload_n mc62_43 rfl ?_
    refine en_getR (b := 78) mv62 mc62_44 (lk_f7_25) (⟨rfl, by decide⟩ : mt_kd[72]? = some (.inl 7) ∧ 72 < 99) rfl (mk_fc ho (by decide +kernel)) ?_
    refine en_aload_n mc62_47 rfl ?_
    refine en_getR (b := 75) mv62 mc62_48 (lk_f7_16) (⟨rfl, by decide⟩ : mt_kd[72]? = some (.inl 7) ∧ 72 < 99) rfl (mk_fc ho (by decide +kernel)) ?_
    refine en_iload_n mc62_51 rfl ?_
    refine en_iald mc62_52 (⟨rfl, by decide, by decide⟩ : mt_kd[75]? = some (.inr (.int, 918)) ∧ 75 < 99 ∧ 918 < 2147483648) g1 g2 ?_
    refine en_iload mc62_53 rfl ?_
    refine en_iadd mc62_55 ?_
    refine en_iald mc62_56 (⟨rfl, by decide, by decide⟩ : mt_kd[78]? = some (.inr (.int, 3618)) ∧ 78 < 99 ∧ 3618 < 2147483648) g3 g4 ?_
    refine en_iast mc62_57 (⟨rfl, by decide, by decide⟩ : mt_kd[83]? = some (.inr (.int, 1200)) ∧ 83 < 99 ∧ 1200 < 2147483648) g5 g6 (ho.2.1 78 ((M.1 75 l3) + l4) (by unfold mr_lg; omega)) ?_
    refine en_aload_n mc62_58 rfl ?_
    refine en_getR (b := 84) mv62 mc62_59 (lk_f7_43) (⟨rfl, by decide⟩ : mt_kd[72]? = some (.inl 7) ∧ 72 < 99) rfl (mk_fc (mr_ok_putI (a := 83) (k := l4) ho (ho.2.1 78 ((M.1 75 l3) + l4) (by unfold mr_lg; omega))) (by decide +kernel)) ?_
    refine en_iload mc62_62 rfl ?_
    refine en_aload_n mc62_64 rfl ?_
    refine en_getR (b := 79) mv62 mc62_65 (lk_f7_28) (⟨rfl, by decide⟩ : mt_kd[72]? = some (.inl 7) ∧ 72 < 99) rfl (mk_fc (mr_ok_putI (a := 83) (k := l4) ho (ho.2.1 78 ((M.1 75 l3) + l4) (by unfold mr_lg; omega))) (by decide +kernel)) ?_
    refine en_aload_n mc62_68 rfl ?_
    refine en_getR (b := 75) mv62 mc62_69 (lk_f7_16) (⟨rfl, by decide⟩ : mt_kd[72]? = some (.inl 7) ∧ 72 < 99) rfl (mk_fc (mr_ok_putI (a := 83) (k := l4) ho (ho.2.1 78 ((M.1 75 l3) + l4) (by unfold mr_lg; omega))) (by decide +kernel)) ?_
    refine en_iload_n mc62_72 rfl ?_
    refine en_iald mc62_73 (⟨rfl, by decide, by decide⟩ : mt_kd[75]? = some (.inr (.int, 918)) ∧ 75 < 99 ∧ 918 < 2147483648) g7 g8 ?_
    refine en_iload mc62_74 rfl ?_
    refine en_iadd mc62_76 ?_
    refine en_iald mc62_77 (⟨rfl, by decide, by decide⟩ : mt_kd[79]? = some (.inr (.int, 3618)) ∧ 79 < 99 ∧ 3618 < 2147483648) g9 g10 ?_
    refine en_iast mc62_78 (⟨rfl, by decide, by decide⟩ : mt_kd[84]? = some (.inr (.int, 1200)) ∧ 84 < 99 ∧ 1200 < 2147483648) g11 g12 ((mr_ok_putI (a := 83) (k := l4) ho (ho.2.1 78 ((M.1 75 l3) + l4) (by unfold mr_lg; omega))).2.1 79 (((mm_putN M 83 l4 (M.1 78 ((M.1 75 l3) + l4))).1 75 l3) + l4) (by unfold mr_lg; omega)) ?_
    refine en_iinc (ls' := [mm_r 72, mm_i l1, mm_i l2, mm_i l3, mm_i (l4 + 1)]) mc62_79 rfl rfl ?_
    refine en_goto 28 mc62_82 (by decide) ?_
    exact h
/-! 63: CellAreasModel.oneBorder(I)I -/
theorem mc63_0 : mr_C 63 0 = some (.iload_n 1, 1) := rfl
theorem mc63_1 : mr_C 63 1 = some (.iconst 2, 1) := rfl
theorem mc63_2 : mr_C 63 2 = some (.aload_n 0, 1) := rfl
theorem mc63_3 : mr_C 63 3 = some (.getfield 115, 3) := rfl
theorem mc63_6 : mr_C 63 6 = some (.imul, 1) := rfl
theorem mc63_7 : mr_C 63 7 = some (.if_icmp .lt (9), 3) := rfl
theorem mc63_10 : mr_C 63 10 = some (.sipush 1001, 3) := rfl
theorem mc63_13 : mr_C 63 13 = some (.goto 28, 3) := rfl
theorem mc63_16 : mr_C 63 16 = some (.iload_n 1, 1) := rfl
theorem mc63_17 : mr_C 63 17 = some (.iconst 2, 1) := rfl
theorem mc63_18 : mr_C 63 18 = some (.irem, 1) := rfl
theorem mc63_19 : mr_C 63 19 = some (.ifCond .ne (14), 3) := rfl
theorem mc63_22 : mr_C 63 22 = some (.aload_n 0, 1) := rfl
theorem mc63_23 : mr_C 63 23 = some (.getfield 34, 3) := rfl
theorem mc63_26 : mr_C 63 26 = some (.iload_n 1, 1) := rfl
theorem mc63_27 : mr_C 63 27 = some (.iconst 2, 1) := rfl
theorem mc63_28 : mr_C 63 28 = some (.idiv, 1) := rfl
theorem mc63_29 : mr_C 63 29 = some (.iaload, 1) := rfl
theorem mc63_30 : mr_C 63 30 = some (.goto 11, 3) := rfl
theorem mc63_33 : mr_C 63 33 = some (.aload_n 0, 1) := rfl
theorem mc63_34 : mr_C 63 34 = some (.getfield 37, 3) := rfl
theorem mc63_37 : mr_C 63 37 = some (.iload_n 1, 1) := rfl
theorem mc63_38 : mr_C 63 38 = some (.iconst 2, 1) := rfl
theorem mc63_39 : mr_C 63 39 = some (.idiv, 1) := rfl
theorem mc63_40 : mr_C 63 40 = some (.iaload, 1) := rfl
theorem mc63_41 : mr_C 63 41 = some (.ireturn, 1) := rfl
theorem vc63_0 {sc : Nat × (Int → Int)} {Q : mm_R → mm_M → Prop} {M : mm_M} {l1 : Int} (ho : mr_ok M) (hg_l1 : mr_rg l1)
    (h : mr_rg (2 * (M.1 72 11)) ∧ ((l1 < (2 * (M.1 72 11)) → 0 ≤ l1 ∧ (mr_rg (l1 % 2) ∧ (((l1 % 2) ≠ 0 → 0 ≤ l1 ∧ (0 ≤ (l1 / 2) ∧ ((l1 / 2) < 1200 ∧ (Q (.inl (some (mm_i (M.1 82 (l1 / 2))))) M)))) ∧ (¬ ((l1 % 2) ≠ 0) → 0 ≤ l1 ∧ (0 ≤ (l1 / 2) ∧ ((l1 / 2) < 1200 ∧ (Q (.inl (some (mm_i (M.1 81 (l1 / 2))))) M))))))) ∧ (¬ l1 < (2 * (M.1 72 11)) → Q (.inl (some (mm_i 1001))) M))) : en_R sc 63 0 [mm_r 72, mm_i l1] [] M Q := by
  obtain ⟨g1, h⟩ := h
  refine en_iload_n mc63_0 rfl ?_
  refine en_iconst mc63_1 ?_
  refine en_aload_n mc63_2 rfl ?_
  refine en_getI mv63 mc63_3 (lk_f7_115) (⟨rfl, by decide⟩ : mt_kd[72]? = some (.inl 7) ∧ 72 < 99) (Or.inl rfl) ?_
  refine en_imul mc63_6 ?_
  refine en_icmp_lt 16 mc63_7 (by decide) hg_l1 g1 (fun q => ?_) (fun q => ?_)
  · replace h := h.1 q
    obtain ⟨g2, h⟩ := h
    obtain ⟨g3, h⟩ := h
    refine en_iload_n mc63_16 rfl ?_
    refine en_iconst mc63_17 ?_
    refine en_irem mc63_18 hg_l1 (⟨by decide, by decide⟩ : mr_rg 2) g2 (by decide) ?_
    refine en_if_ne 33 mc63_19 (by decide) g3 (fun q => ?_) (fun q => ?_)
    · replace h := h.1 q
      obtain ⟨g4, h⟩ := h
      obtain ⟨g5, h⟩ := h
      obtain ⟨g6, h⟩ := h
      refine en_aload_n mc63_33 rfl ?_
      refine en_getR (b := 82) mv63 mc63_34 (lk_f7_37) (⟨rfl, by decide⟩ : mt_kd[72]? = some (.inl 7) ∧ 72 < 99) rfl (mk_fc ho (by decide +kernel)) ?_
      refine en_iload_n mc63_37 rfl ?_
      refine en_iconst mc63_38 ?_
      refine en_idiv mc63_39 hg_l1 (⟨by decide, by decide⟩ : mr_rg 2) g4 (by decide) ?_
      refine en_iald mc63_40 (⟨rfl, by decide, by decide⟩ : mt_kd[82]? = some (.inr (.int, 1200)) ∧ 82 < 99 ∧ 1200 < 2147483648) g5 g6 ?_
      exact en_iret mv63 mc63_41 rfl h
    · replace h := h.2 q
      obtain ⟨g7, h⟩ := h
      obtain ⟨g8, h⟩ := h
      obtain ⟨g9, h⟩ := h
      refine en_aload_n mc63_22 rfl ?_
      refine en_getR (b := 81) mv63 mc63_23 (lk_f7_34) (⟨rfl, by decide⟩ : mt_kd[72]? = some (.inl 7) ∧ 72 < 99) rfl (mk_fc ho (by decide +kernel)) ?_
      refine en_iload_n mc63_26 rfl ?_
      refine en_iconst mc63_27 ?_
      refine en_idiv mc63_28 hg_l1 (⟨by decide, by decide⟩ : mr_rg 2) g7 (by decide) ?_
      refine en_iald mc63_29 (⟨rfl, by decide, by decide⟩ : mt_kd[81]? = some (.inr (.int, 1200)) ∧ 81 < 99 ∧ 1200 < 2147483648) g8 g9 ?_
      refine en_goto 41 mc63_30 (by decide) ?_
      exact en_iret mv63 mc63_41 rfl h
  · replace h := h.2 q
    refine en_sipush mc63_10 (by decide) ?_
    refine en_goto 41 mc63_13 (by decide) ?_
    exact en_iret mv63 mc63_41 rfl h
/-! 64: CellAreasModel.twoBorder(I)I -/
theorem mc64_0 : mr_C 64 0 = some (.iload_n 1, 1) := rfl
theorem mc64_1 : mr_C 64 1 = some (.iconst 2, 1) := rfl
theorem mc64_2 : mr_C 64 2 = some (.aload_n 0, 1) := rfl
theorem mc64_3 : mr_C 64 3 = some (.getfield 118, 3) := rfl
theorem mc64_6 : mr_C 64 6 = some (.imul, 1) := rfl
theorem mc64_7 : mr_C 64 7 = some (.if_icmp .lt (9), 3) := rfl
theorem mc64_10 : mr_C 64 10 = some (.sipush 1001, 3) := rfl
theorem mc64_13 : mr_C 64 13 = some (.goto 28, 3) := rfl
theorem mc64_16 : mr_C 64 16 = some (.iload_n 1, 1) := rfl
theorem mc64_17 : mr_C 64 17 = some (.iconst 2, 1) := rfl
theorem mc64_18 : mr_C 64 18 = some (.irem, 1) := rfl
theorem mc64_19 : mr_C 64 19 = some (.ifCond .ne (14), 3) := rfl
theorem mc64_22 : mr_C 64 22 = some (.aload_n 0, 1) := rfl
theorem mc64_23 : mr_C 64 23 = some (.getfield 40, 3) := rfl
theorem mc64_26 : mr_C 64 26 = some (.iload_n 1, 1) := rfl
theorem mc64_27 : mr_C 64 27 = some (.iconst 2, 1) := rfl
theorem mc64_28 : mr_C 64 28 = some (.idiv, 1) := rfl
theorem mc64_29 : mr_C 64 29 = some (.iaload, 1) := rfl
theorem mc64_30 : mr_C 64 30 = some (.goto 11, 3) := rfl
theorem mc64_33 : mr_C 64 33 = some (.aload_n 0, 1) := rfl
theorem mc64_34 : mr_C 64 34 = some (.getfield 43, 3) := rfl
theorem mc64_37 : mr_C 64 37 = some (.iload_n 1, 1) := rfl
theorem mc64_38 : mr_C 64 38 = some (.iconst 2, 1) := rfl
theorem mc64_39 : mr_C 64 39 = some (.idiv, 1) := rfl
theorem mc64_40 : mr_C 64 40 = some (.iaload, 1) := rfl
theorem mc64_41 : mr_C 64 41 = some (.ireturn, 1) := rfl
theorem vc64_0 {sc : Nat × (Int → Int)} {Q : mm_R → mm_M → Prop} {M : mm_M} {l1 : Int} (ho : mr_ok M) (hg_l1 : mr_rg l1)
    (h : mr_rg (2 * (M.1 72 14)) ∧ ((l1 < (2 * (M.1 72 14)) → 0 ≤ l1 ∧ (mr_rg (l1 % 2) ∧ (((l1 % 2) ≠ 0 → 0 ≤ l1 ∧ (0 ≤ (l1 / 2) ∧ ((l1 / 2) < 1200 ∧ (Q (.inl (some (mm_i (M.1 84 (l1 / 2))))) M)))) ∧ (¬ ((l1 % 2) ≠ 0) → 0 ≤ l1 ∧ (0 ≤ (l1 / 2) ∧ ((l1 / 2) < 1200 ∧ (Q (.inl (some (mm_i (M.1 83 (l1 / 2))))) M))))))) ∧ (¬ l1 < (2 * (M.1 72 14)) → Q (.inl (some (mm_i 1001))) M))) : en_R sc 64 0 [mm_r 72, mm_i l1] [] M Q := by
  obtain ⟨g1, h⟩ := h
  refine en_iload_n mc64_0 rfl ?_
  refine en_iconst mc64_1 ?_
  refine en_aload_n mc64_2 rfl ?_
  refine en_getI mv64 mc64_3 (lk_f7_118) (⟨rfl, by decide⟩ : mt_kd[72]? = some (.inl 7) ∧ 72 < 99) (Or.inl rfl) ?_
  refine en_imul mc64_6 ?_
  refine en_icmp_lt 16 mc64_7 (by decide) hg_l1 g1 (fun q => ?_) (fun q => ?_)
  · replace h := h.1 q
    obtain ⟨g2, h⟩ := h
    obtain ⟨g3, h⟩ := h
    refine en_iload_n mc64_16 rfl ?_
    refine en_iconst mc64_17 ?_
    refine en_irem mc64_18 hg_l1 (⟨by decide, by decide⟩ : mr_rg 2) g2 (by decide) ?_
    refine en_if_ne 33 mc64_19 (by decide) g3 (fun q => ?_) (fun q => ?_)
    · replace h := h.1 q
      obtain ⟨g4, h⟩ := h
      obtain ⟨g5, h⟩ := h
      obtain ⟨g6, h⟩ := h
      refine en_aload_n mc64_33 rfl ?_
      refine en_getR (b := 84) mv64 mc64_34 (lk_f7_43) (⟨rfl, by decide⟩ : mt_kd[72]? = some (.inl 7) ∧ 72 < 99) rfl (mk_fc ho (by decide +kernel)) ?_
      refine en_iload_n mc64_37 rfl ?_
      refine en_iconst mc64_38 ?_
      refine en_idiv mc64_39 hg_l1 (⟨by decide, by decide⟩ : mr_rg 2) g4 (by decide) ?_
      refine en_iald mc64_40 (⟨rfl, by decide, by decide⟩ : mt_kd[84]? = some (.inr (.int, 1200)) ∧ 84 < 99 ∧ 1200 < 2147483648) g5 g6 ?_
      exact en_iret mv64 mc64_41 rfl h
    · replace h := h.2 q
      obtain ⟨g7, h⟩ := h
      obtain ⟨g8, h⟩ := h
      obtain ⟨g9, h⟩ := h
      refine en_aload_n mc64_22 rfl ?_
      refine en_getR (b := 83) mv64 mc64_23 (lk_f7_40) (⟨rfl, by decide⟩ : mt_kd[72]? = some (.inl 7) ∧ 72 < 99) rfl (mk_fc ho (by decide +kernel)) ?_
      refine en_iload_n mc64_26 rfl ?_
      refine en_iconst mc64_27 ?_
      refine en_idiv mc64_28 hg_l1 (⟨by decide, by decide⟩ : mr_rg 2) g7 (by decide) ?_
      refine en_iald mc64_29 (⟨rfl, by decide, by decide⟩ : mt_kd[83]? = some (.inr (.int, 1200)) ∧ 83 < 99 ∧ 1200 < 2147483648) g8 g9 ?_
      refine en_goto 41 mc64_30 (by decide) ?_
      exact en_iret mv64 mc64_41 rfl h
  · replace h := h.2 q
    refine en_sipush mc64_10 (by decide) ?_
    refine en_goto 41 mc64_13 (by decide) ?_
    exact en_iret mv64 mc64_41 rfl h
/-! 65: CellAreasModel.join(I)V -/
theorem mc65_0 : mr_C 65 0 = some (.aload_n 0, 1) := rfl
theorem mc65_1 : mr_C 65 1 = some (.iconst 0, 1) := rfl
theorem mc65_2 : mr_C 65 2 = some (.putfield 100, 3) := rfl
theorem mc65_5 : mr_C 65 5 = some (.iconst 0, 1) := rfl
theorem mc65_6 : mr_C 65 6 = some (.istore_n 2, 1) := rfl
theorem mc65_7 : mr_C 65 7 = some (.iconst 0, 1) := rfl
theorem mc65_8 : mr_C 65 8 = some (.istore_n 3, 1) := rfl
theorem mc65_9 : mr_C 65 9 = some (.iconst 0, 1) := rfl
theorem mc65_10 : mr_C 65 10 = some (.istore 4, 2) := rfl
theorem mc65_12 : mr_C 65 12 = some (.iconst 0, 1) := rfl
theorem mc65_13 : mr_C 65 13 = some (.istore 5, 2) := rfl
theorem mc65_15 : mr_C 65 15 = some (.iload_n 2, 1) := rfl
theorem mc65_16 : mr_C 65 16 = some (.iconst 2, 1) := rfl
theorem mc65_17 : mr_C 65 17 = some (.aload_n 0, 1) := rfl
theorem mc65_18 : mr_C 65 18 = some (.getfield 115, 3) := rfl
theorem mc65_21 : mr_C 65 21 = some (.imul, 1) := rfl
theorem mc65_22 : mr_C 65 22 = some (.if_icmp .lt (13), 3) := rfl
theorem mc65_25 : mr_C 65 25 = some (.iload_n 3, 1) := rfl
theorem mc65_26 : mr_C 65 26 = some (.iconst 2, 1) := rfl
theorem mc65_27 : mr_C 65 27 = some (.aload_n 0, 1) := rfl
theorem mc65_28 : mr_C 65 28 = some (.getfield 118, 3) := rfl
theorem mc65_31 : mr_C 65 31 = some (.imul, 1) := rfl
theorem mc65_32 : mr_C 65 32 = some (.if_icmp .ge (221), 3) := rfl
theorem mc65_35 : mr_C 65 35 = some (.aload_n 0, 1) := rfl
theorem mc65_36 : mr_C 65 36 = some (.iload_n 2, 1) := rfl
theorem mc65_37 : mr_C 65 37 = some (.invokevirtual 121, 3) := rfl
theorem mc65_40 : mr_C 65 40 = some (.aload_n 0, 1) := rfl
theorem mc65_41 : mr_C 65 41 = some (.iload_n 3, 1) := rfl
theorem mc65_42 : mr_C 65 42 = some (.invokevirtual 124, 3) := rfl
theorem mc65_45 : mr_C 65 45 = some (.if_icmp .ge (11), 3) := rfl
theorem mc65_48 : mr_C 65 48 = some (.aload_n 0, 1) := rfl
theorem mc65_49 : mr_C 65 49 = some (.iload_n 2, 1) := rfl
theorem mc65_50 : mr_C 65 50 = some (.invokevirtual 121, 3) := rfl
theorem mc65_53 : mr_C 65 53 = some (.goto 8, 3) := rfl
theorem mc65_56 : mr_C 65 56 = some (.aload_n 0, 1) := rfl
theorem mc65_57 : mr_C 65 57 = some (.iload_n 3, 1) := rfl
theorem mc65_58 : mr_C 65 58 = some (.invokevirtual 124, 3) := rfl
theorem mc65_61 : mr_C 65 61 = some (.istore 6, 2) := rfl
theorem mc65_63 : mr_C 65 63 = some (.aload_n 0, 1) := by decide +kernel
theorem mc65_64 : mr_C 65 64 = some (.iload_n 2, 1) := by decide +kernel
theorem mc65_65 : mr_C 65 65 = some (.invokevirtual 121, 3) := by decide +kernel
theorem mc65_68 : mr_C 65 68 = some (.iload 6, 2) := by decide +kernel
theorem mc65_70 : mr_C 65 70 = some (.if_icmp .ne (9), 3) := by decide +kernel
theorem mc65_73 : mr_C 65 73 = some (.iload_n 2, 1) := by decide +kernel
theorem mc65_74 : mr_C 65 74 = some (.iconst 1, 1) := by decide +kernel
theorem mc65_75 : mr_C 65 75 = some (.iadd, 1) := by decide +kernel
theorem mc65_76 : mr_C 65 76 = some (.goto 4, 3) := by decide +kernel
theorem mc65_79 : mr_C 65 79 = some (.iload_n 2, 1) := by decide +kernel
theorem mc65_80 : mr_C 65 80 = some (.istore_n 2, 1) := by decide +kernel
theorem mc65_81 : mr_C 65 81 = some (.aload_n 0, 1) := by decide +kernel
theorem mc65_82 : mr_C 65 82 = some (.iload_n 3, 1) := by decide +kernel
theorem mc65_83 : mr_C 65 83 = some (.invokevirtual 124, 3) := by decide +kernel
theorem mc65_86 : mr_C 65 86 = some (.iload 6, 2) := by decide +kernel
theorem mc65_88 : mr_C 65 88 = some (.if_icmp .ne (9), 3) := by decide +kernel
theorem mc65_91 : mr_C 65 91 = some (.iload_n 3, 1) := by decide +kernel
theorem mc65_92 : mr_C 65 92 = some (.iconst 1, 1) := by decide +kernel
theorem mc65_93 : mr_C 65 93 = some (.iadd, 1) := by decide +kernel
theorem mc65_94 : mr_C 65 94 = some (.goto 4, 3) := by decide +kernel
theorem mc65_97 : mr_C 65 97 = some (.iload_n 3, 1) := by decide +kernel
theorem mc65_98 : mr_C 65 98 = some (.istore_n 3, 1) := by decide +kernel
theorem mc65_99 : mr_C 65 99 = some (.iload_n 2, 1) := by decide +kernel
theorem mc65_100 : mr_C 65 100 = some (.iconst 2, 1) := by decide +kernel
theorem mc65_101 : mr_C 65 101 = some (.irem, 1) := by decide +kernel
theorem mc65_102 : mr_C 65 102 = some (.iconst 1, 1) := by decide +kernel
theorem mc65_103 : mr_C 65 103 = some (.if_icmp .ne (7), 3) := by decide +kernel
theorem mc65_106 : mr_C 65 106 = some (.iconst 1, 1) := by decide +kernel
theorem mc65_107 : mr_C 65 107 = some (.goto 4, 3) := by decide +kernel
theorem mc65_110 : mr_C 65 110 = some (.iconst 0, 1) := by decide +kernel
theorem mc65_111 : mr_C 65 111 = some (.istore 7, 2) := by decide +kernel
theorem mc65_113 : mr_C 65 113 = some (.iload_n 3, 1) := by decide +kernel
theorem mc65_114 : mr_C 65 114 = some (.iconst 2, 1) := by decide +kernel
theorem mc65_115 : mr_C 65 115 = some (.irem, 1) := by decide +kernel
theorem mc65_116 : mr_C 65 116 = some (.iconst 1, 1) := by decide +kernel
theorem mc65_117 : mr_C 65 117 = some (.if_icmp .ne (7), 3) := by decide +kernel
theorem mc65_120 : mr_C 65 120 = some (.iconst 1, 1) := by decide +kernel
theorem mc65_121 : mr_C 65 121 = some (.goto 4, 3) := by decide +kernel
theorem mc65_124 : mr_C 65 124 = some (.iconst 0, 1) := by decide +kernel
theorem mc65_125 : mr_C 65 125 = some (.istore 8, 2) := by decide +kernel
theorem mc65_127 : mr_C 65 127 = some (.iload_n 1, 1) := by decide +kernel
theorem mc65_128 : mr_C 65 128 = some (.ifCond .ne (21), 3) := by decide +kernel
theorem mc65_131 : mr_C 65 131 = some (.iload 7, 2) := by decide +kernel
theorem mc65_133 : mr_C 65 133 = some (.ifCond .ne (8), 3) := by decide +kernel
theorem mc65_136 : mr_C 65 136 = some (.iload 8, 2) := by decide +kernel
theorem mc65_138 : mr_C 65 138 = some (.ifCond .eq (7), 3) := by decide +kernel
theorem mc65_141 : mr_C 65 141 = some (.iconst 1, 1) := by decide +kernel
theorem mc65_142 : mr_C 65 142 = some (.goto 65, 3) := by decide +kernel
theorem mc65_145 : mr_C 65 145 = some (.iconst 0, 1) := by decide +kernel
theorem mc65_146 : mr_C 65 146 = some (.goto 61, 3) := by decide +kernel
theorem mc65_149 : mr_C 65 149 = some (.iload_n 1, 1) := by decide +kernel
theorem mc65_150 : mr_C 65 150 = some (.iconst 1, 1) := by decide +kernel
theorem mc65_151 : mr_C 65 151 = some (.if_icmp .ne (21), 3) := by decide +kernel
theorem mc65_154 : mr_C 65 154 = some (.iload 7, 2) := by decide +kernel
theorem mc65_156 : mr_C 65 156 = some (.ifCond .eq (12), 3) := by decide +kernel
theorem mc65_159 : mr_C 65 159 = some (.iload 8, 2) := by decide +kernel
theorem mc65_161 : mr_C 65 161 = some (.ifCond .eq (7), 3) := by decide +kernel
theorem mc65_164 : mr_C 65 164 = some (.iconst 1, 1) := by decide +kernel
theorem mc65_165 : mr_C 65 165 = some (.goto 42, 3) := by decide +kernel
theorem mc65_168 : mr_C 65 168 = some (.iconst 0, 1) := by decide +kernel
theorem mc65_169 : mr_C 65 169 = some (.goto 38, 3) := by decide +kernel
theorem mc65_172 : mr_C 65 172 = some (.iload_n 1, 1) := by decide +kernel
theorem mc65_173 : mr_C 65 173 = some (.iconst 2, 1) := by decide +kernel
theorem mc65_174 : mr_C 65 174 = some (.if_icmp .ne (21), 3) := by decide +kernel
theorem mc65_177 : mr_C 65 177 = some (.iload 7, 2) := by decide +kernel
theorem mc65_179 : mr_C 65 179 = some (.ifCond .eq (12), 3) := by decide +kernel
theorem mc65_182 : mr_C 65 182 = some (.iload 8, 2) := by decide +kernel
theorem mc65_184 : mr_C 65 184 = some (.ifCond .ne (7), 3) := by decide +kernel
theorem mc65_187 : mr_C 65 187 = some (.iconst 1, 1) := by decide +kernel
theorem mc65_188 : mr_C 65 188 = some (.goto 19, 3) := by decide +kernel
theorem mc65_191 : mr_C 65 191 = some (.iconst 0, 1) := by decide +kernel
theorem mc65_192 : mr_C 65 192 = some (.goto 15, 3) := by decide +kernel
theorem mc65_195 : mr_C 65 195 = some (.iload 7, 2) := by decide +kernel
theorem mc65_197 : mr_C 65 197 = some (.iload 8, 2) := by decide +kernel
theorem mc65_199 : mr_C 65 199 = some (.if_icmp .eq (7), 3) := by decide +kernel
theorem mc65_202 : mr_C 65 202 = some (.iconst 1, 1) := by decide +kernel
theorem mc65_203 : mr_C 65 203 = some (.goto 4, 3) := by decide +kernel
theorem mc65_206 : mr_C 65 206 = some (.iconst 0, 1) := by decide +kernel
theorem mc65_207 : mr_C 65 207 = some (.istore 9, 2) := by decide +kernel
theorem mc65_209 : mr_C 65 209 = some (.iload 5, 2) := by decide +kernel
theorem mc65_211 : mr_C 65 211 = some (.ifCond .eq (16), 3) := by decide +kernel
theorem mc65_214 : mr_C 65 214 = some (.iload 9, 2) := by decide +kernel
theorem mc65_216 : mr_C 65 216 = some (.ifCond .ne (11), 3) := by decide +kernel
theorem mc65_219 : mr_C 65 219 = some (.aload_n 0, 1) := by decide +kernel
theorem mc65_220 : mr_C 65 220 = some (.iload 4, 2) := by decide +kernel
theorem mc65_222 : mr_C 65 222 = some (.iload 6, 2) := by decide +kernel
theorem mc65_224 : mr_C 65 224 = some (.invokevirtual 127, 3) := by decide +kernel
theorem mc65_227 : mr_C 65 227 = some (.iload 9, 2) := by decide +kernel
theorem mc65_229 : mr_C 65 229 = some (.ifCond .eq (13), 3) := by decide +kernel
theorem mc65_232 : mr_C 65 232 = some (.iload 5, 2) := by decide +kernel
theorem mc65_234 : mr_C 65 234 = some (.ifCond .ne (8), 3) := by decide +kernel
theorem mc65_237 : mr_C 65 237 = some (.iload 6, 2) := by decide +kernel
theorem mc65_239 : mr_C 65 239 = some (.goto 5, 3) := by decide +kernel
theorem mc65_242 : mr_C 65 242 = some (.iload 4, 2) := by decide +kernel
theorem mc65_244 : mr_C 65 244 = some (.istore 4, 2) := by decide +kernel
theorem mc65_246 : mr_C 65 246 = some (.iload 9, 2) := by decide +kernel
theorem mc65_248 : mr_C 65 248 = some (.istore 5, 2) := by decide +kernel
theorem mc65_250 : mr_C 65 250 = some (.goto (-235), 3) := by decide +kernel
theorem mc65_253 : mr_C 65 253 = some (.return_, 1) := by decide +kernel
theorem vc65_0 {sc : Nat × (Int → Int)} {Q : mm_R → mm_M → Prop} {M : mm_M} {l1 : Int} (ho : mr_ok M)
    (h : en_R sc 65 15 [mm_r 72, mm_i l1, mm_i 0, mm_i 0, mm_i 0, mm_i 0, mm_u, mm_u, mm_u, mm_u] [] (mm_putN M 72 17 0) Q) : en_R sc 65 0 [mm_r 72, mm_i l1, mm_u, mm_u, mm_u, mm_u, mm_u, mm_u, mm_u, mm_u] [] M Q := by
  refine en_aload_n mc65_0 rfl ?_
  refine en_iconst mc65_1 ?_
  refine en_putI mv65 mc65_2 (lk_f7_100) (⟨rfl, by decide⟩ : mt_kd[72]? = some (.inl 7) ∧ 72 < 99) rfl rfl (⟨by decide, by decide⟩ : mr_rg 0) ?_
  refine en_iconst mc65_5 ?_
  refine en_istore_n (ls' := [mm_r 72, mm_i l1, mm_i 0, mm_u, mm_u, mm_u, mm_u, mm_u, mm_u, mm_u]) mc65_6 (Nat.le_of_ble_eq_true rfl) rfl ?_
  refine en_iconst mc65_7 ?_
  refine en_istore_n (ls' := [mm_r 72, mm_i l1, mm_i 0, mm_i 0, mm_u, mm_u, mm_u, mm_u, mm_u, mm_u]) mc65_8 (Nat.le_of_ble_eq_true rfl) rfl ?_
  refine en_iconst mc65_9 ?_
  refine en_istore (ls' := [mm_r 72, mm_i l1, mm_i 0, mm_i 0, mm_i 0, mm_u, mm_u, mm_u, mm_u, mm_u]) mc65_10 (Nat.le_of_ble_eq_true rfl) rfl ?_
  refine en_iconst mc65_12 ?_
  refine en_istore (ls' := [mm_r 72, mm_i l1, mm_i 0, mm_i 0, mm_i 0, mm_i 0, mm_u, mm_u, mm_u, mm_u]) mc65_13 (Nat.le_of_ble_eq_true rfl) rfl ?_
  exact h
theorem vc65_15 {sc : Nat × (Int → Int)} {Q : mm_R → mm_M → Prop} {M : mm_M} {l1 : Int} {l2 : Int} {l3 : Int} {l4 : Int} {l5 : Int} {l6 : mm_V} {l7 : mm_V} {l8 : mm_V} {l9 : mm_V} (ho : mr_ok M) (hg_l2 : mr_rg l2) (hg_l3 : mr_rg l3)
    (h : mr_rg (2 * (M.1 72 11)) ∧ ((l2 < (2 * (M.1 72 11)) → en_R sc 65 35 [mm_r 72, mm_i l1, mm_i l2, mm_i l3, mm_i l4, mm_i l5, l6, l7, l8, l9] [] M Q) ∧ (¬ l2 < (2 * (M.1 72 11)) → mr_rg (2 * (M.1 72 14)) ∧ (((2 * (M.1 72 14)) ≤ l3 → Q (.inl none) M) ∧ (¬ (2 * (M.1 72 14)) ≤ l3 → en_R sc 65 35 [mm_r 72, mm_i l1, mm_i l2, mm_i l3, mm_i l4, mm_i l5, l6, l7, l8, l9] [] M Q))))) : en_R sc 65 15 [mm_r 72, mm_i l1, mm_i l2, mm_i l3, mm_i l4, mm_i l5, l6, l7, l8, l9] [] M Q := by
  obtain ⟨g1, h⟩ := h
  refine en_iload_n mc65_15 rfl ?_
  refine en_iconst mc65_16 ?_
  refine en_aload_n mc65_17 rfl ?_
  refine en_getI mv65 mc65_18 (lk_f7_115) (⟨rfl, by decide⟩ : mt_kd[72]? = some (.inl 7) ∧ 72 < 99) (Or.inl rfl) ?_
  refine en_imul mc65_21 ?_
  refine en_icmp_lt 35 mc65_22 (by decide) hg_l2 g1 (fun q => ?_) (fun q => ?_)
  · replace h := h.1 q
    exact h
  · replace h := h.2 q
    obtain ⟨g2, h⟩ := h
    refine en_iload_n mc65_25 rfl ?_
    refine en_iconst mc65_26 ?_
    refine en_aload_n mc65_27 rfl ?_
    refine en_getI mv65 mc65_28 (lk_f7_118) (⟨rfl, by decide⟩ : mt_kd[72]? = some (.inl 7) ∧ 72 < 99) (Or.inl rfl) ?_
    refine en_imul mc65_31 ?_
    refine en_icmp_ge 253 mc65_32 (by decide) hg_l3 g2 (fun q => ?_) (fun q => ?_)
    · replace h := h.1 q
      exact en_vret mv65 mc65_253 rfl h
    · replace h := h.2 q
      exact h
theorem vc65_35 {sc : Nat × (Int → Int)} {Q : mm_R → mm_M → Prop} {M : mm_M} {l1 : Int} {l2 : Int} {l3 : Int} {l4 : Int} {l5 : Int} {l6 : mm_V} {l7 : mm_V} {l8 : mm_V} {l9 : mm_V} (ho : mr_ok M)
    (h : en_CI sc 63 [mm_r 72, mm_i l2] M (fun x1 M2 => mr_ok M2 → en_CI sc 64 [mm_r 72, mm_i l3] M2 (fun x4 M5 => mr_ok M5 → mr_rg x1 ∧ (mr_rg x4 ∧ ((x4 ≤ x1 → en_CI sc 64 [mm_r 72, mm_i l3] M5 (fun x9 M10 => mr_ok M10 → en_R sc 65 61 [mm_r 72, mm_i l1, mm_i l2, mm_i l3, mm_i l4, mm_i l5, l6, l7, l8, l9] [mm_i x9] M10 Q) (fun e M9 => Q (.inr e) M9)) ∧ (¬ x4 ≤ x1 → en_CI sc 63 [mm_r 72, mm_i l2] M5 (fun x12 M13 => mr_ok M13 → en_R sc 65 61 [mm_r 72, mm_i l1, mm_i l2, mm_i l3, mm_i l4, mm_i l5, l6, l7, l8, l9] [mm_i x12] M13 Q) (fun e M9 => Q (.inr e) M9))))) (fun e M9 => Q (.inr e) M9)) (fun e M9 => Q (.inr e) M9)) : en_R sc 65 35 [mm_r 72, mm_i l1, mm_i l2, mm_i l3, mm_i l4, mm_i l5, l6, l7, l8, l9] [] M Q := by
  refine en_aload_n mc65_35 rfl ?_
  refine en_iload_n mc65_36 rfl ?_
  refine en_callI (lz := [mm_r 72, mm_i l2]) mv65 mc65_37 rfl rfl (lk_m7_121) mv63 rfl (by decide) rfl (mk_cokV rfl (⟨rfl, by decide⟩ : mt_kd[72]? = some (.inl 7) ∧ 72 < 99)) rfl (mk_nh rfl _) ho ?_
  refine en_CI_mono h (fun x1 M2 h => ?_) (fun _ _ h => h)
  intro ho3
  replace h := h ho3
  refine en_aload_n mc65_40 rfl ?_
  refine en_iload_n mc65_41 rfl ?_
  refine en_callI (lz := [mm_r 72, mm_i l3]) mv65 mc65_42 rfl rfl (lk_m7_124) mv64 rfl (by decide) rfl (mk_cokV rfl (⟨rfl, by decide⟩ : mt_kd[72]? = some (.inl 7) ∧ 72 < 99)) rfl (mk_nh rfl _) ho3 ?_
  refine en_CI_mono h (fun x4 M5 h => ?_) (fun _ _ h => h)
  intro ho6
  replace h := h ho6
  obtain ⟨g7, h⟩ := h
  obtain ⟨g8, h⟩ := h
  refine en_icmp_ge 56 mc65_45 (by decide) g7 g8 (fun q => ?_) (fun q => ?_)
  · replace h := h.1 q
    refine en_aload_n mc65_56 rfl ?_
    refine en_iload_n mc65_57 rfl ?_
    refine en_callI (lz := [mm_r 72, mm_i l3]) mv65 mc65_58 rfl rfl (lk_m7_124) mv64 rfl (by decide) rfl (mk_cokV rfl (⟨rfl, by decide⟩ : mt_kd[72]? = some (.inl 7) ∧ 72 < 99)) rfl (mk_nh rfl _) ho6 ?_
    refine en_CI_mono h (fun x9 M10 h => ?_) (fun _ _ h => h)
    intro ho11
    replace h := h ho11
    exact h
  · replace h := h.2 q
    refine en_aload_n mc65_48 rfl ?_
    refine en_iload_n mc65_49 rfl ?_
    refine en_callI (lz := [mm_r 72, mm_i l2]) mv65 mc65_50 rfl rfl (lk_m7_121) mv63 rfl (by decide) rfl (mk_cokV rfl (⟨rfl, by decide⟩ : mt_kd[72]? = some (.inl 7) ∧ 72 < 99)) rfl (mk_nh rfl _) ho6 ?_
    refine en_CI_mono h (fun x12 M13 h => ?_) (fun _ _ h => h)
    intro ho14
    replace h := h ho14
    refine en_goto 61 mc65_53 (by decide) ?_
    exact h
theorem vc65_61 {sc : Nat × (Int → Int)} {Q : mm_R → mm_M → Prop} {M : mm_M} {l1 : Int} {l2 : Int} {l3 : Int} {l4 : Int} {l5 : Int} {l6 : mm_V} {l7 : mm_V} {l8 : mm_V} {l9 : mm_V} {s0 : Int} (ho : mr_ok M) (hg_s0 : mr_rg s0)
    (h : en_CI sc 63 [mm_r 72, mm_i l2] M (fun x1 M2 => mr_ok M2 → mr_rg x1 ∧ ((x1 ≠ s0 → en_R sc 65 80 [mm_r 72, mm_i l1, mm_i l2, mm_i l3, mm_i l4, mm_i l5, mm_i s0, l7, l8, l9] [mm_i l2] M2 Q) ∧ (¬ (x1 ≠ s0) → en_R sc 65 80 [mm_r 72, mm_i l1, mm_i l2, mm_i l3, mm_i l4, mm_i l5, mm_i s0, l7, l8, l9] [mm_i (l2 + 1)] M2 Q))) (fun e M9 => Q (.inr e) M9)) : en_R sc 65 61 [mm_r 72, mm_i l1, mm_i l2, mm_i l3, mm_i l4, mm_i l5, l6, l7, l8, l9] [mm_i s0] M Q := by
  refine en_istore (ls' := [mm_r 72, mm_i l1, mm_i l2, mm_i l3, mm_i l4, mm_i l5, mm_i s0, l7, l8, l9]) mc65_61 (Nat.le_of_ble_eq_true rfl) rfl ?_
  refine en_aload_n mc65_63 rfl ?_
  refine en_iload_n mc65_64 rfl ?_
  refine en_callI (lz := [mm_r 72, mm_i l2]) mv65 mc65_65 rfl rfl (lk_m7_121) mv63 rfl (by decide) rfl (mk_cokV rfl (⟨rfl, by decide⟩ : mt_kd[72]? = some (.inl 7) ∧ 72 < 99)) rfl (mk_nh rfl _) ho ?_
  refine en_CI_mono h (fun x1 M2 h => ?_) (fun _ _ h => h)
  intro ho3
  replace h := h ho3
  obtain ⟨g4, h⟩ := h
  refine en_iload mc65_68 rfl ?_
  refine en_icmp_ne 79 mc65_70 (by decide) g4 hg_s0 (fun q => ?_) (fun q => ?_)
  · replace h := h.1 q
    refine en_iload_n mc65_79 rfl ?_
    exact h
  · replace h := h.2 q
    refine en_iload_n mc65_73 rfl ?_
    refine en_iconst mc65_74 ?_
    refine en_iadd mc65_75 ?_
    refine en_goto 80 mc65_76 (by decide) ?_
    exact h
theorem vc65_80 {sc : Nat × (Int → Int)} {Q : mm_R → mm_M → Prop} {M : mm_M} {l1 : Int} {l2 : Int} {l3 : Int} {l4 : Int} {l5 : Int} {l6 : Int} {l7 : mm_V} {l8 : mm_V} {l9 : mm_V} {s0 : Int} (ho : mr_ok M) (hg_l6 : mr_rg l6)
    (h : en_CI sc 64 [mm_r 72, mm_i l3] M (fun x1 M2 => mr_ok M2 → mr_rg x1 ∧ ((x1 ≠ l6 → en_R sc 65 98 [mm_r 72, mm_i l1, mm_i s0, mm_i l3, mm_i l4, mm_i l5, mm_i l6, l7, l8, l9] [mm_i l3] M2 Q) ∧ (¬ (x1 ≠ l6) → en_R sc 65 98 [mm_r 72, mm_i l1, mm_i s0, mm_i l3, mm_i l4, mm_i l5, mm_i l6, l7, l8, l9] [mm_i (l3 + 1)] M2 Q))) (fun e M9 => Q (.inr e) M9)) : en_R sc 65 80 [mm_r 72, mm_i l1, mm_i l2, mm_i l3, mm_i l4, mm_i l5, mm_i l6, l7, l8, l9] [mm_i s0] M Q := by
  refine en_istore_n (ls' := [mm_r 72, mm_i l1, mm_i s0, mm_i l3, mm_i l4, mm_i l5, mm_i l6, l7, l8, l9]) mc65_80 (Nat.le_of_ble_eq_true rfl) rfl ?_
  refine en_aload_n mc65_81 rfl ?_
  refine en_iload_n mc65_82 rfl ?_
  refine en_callI (lz := [mm_r 72, mm_i l3]) mv65 mc65_83 rfl rfl (lk_m7_124) mv64 rfl (by decide) rfl (mk_cokV rfl (⟨rfl, by decide⟩ : mt_kd[72]? = some (.inl 7) ∧ 72 < 99)) rfl (mk_nh rfl _) ho ?_
  refine en_CI_mono h (fun x1 M2 h => ?_) (fun _ _ h => h)
  intro ho3
  replace h := h ho3
  obtain ⟨g4, h⟩ := h
  refine en_iload mc65_86 rfl ?_
  refine en_icmp_ne 97 mc65_88 (by decide) g4 hg_l6 (fun q => ?_) (fun q => ?_)
  · replace h := h.1 q
    refine en_iload_n mc65_97 rfl ?_
    exact h
  · replace h := h.2 q
    refine en_iload_n mc65_91 rfl ?_
    refine en_iconst mc65_92 ?_
    refine en_iadd mc65_93 ?_
    refine en_goto 98 mc65_94 (by decide) ?_
    exact h
theorem vc65_98 {sc : Nat × (Int → Int)} {Q : mm_R → mm_M → Prop} {M : mm_M} {l1 : Int} {l2 : Int} {l3 : Int} {l4 : Int} {l5 : Int} {l6 : Int} {l7 : mm_V} {l8 : mm_V} {l9 : mm_V} {s0 : Int} (ho : mr_ok M) (hg_l2 : mr_rg l2)
    (h : 0 ≤ l2 ∧ (mr_rg (l2 % 2) ∧ (((l2 % 2) ≠ 1 → en_R sc 65 111 [mm_r 72, mm_i l1, mm_i l2, mm_i s0, mm_i l4, mm_i l5, mm_i l6, l7, l8, l9] [mm_i 0] M Q) ∧ (¬ ((l2 % 2) ≠ 1) → en_R sc 65 111 [mm_r 72, mm_i l1, mm_i l2, mm_i s0, mm_i l4, mm_i l5, mm_i l6, l7, l8, l9] [mm_i 1] M Q)))) : en_R sc 65 98 [mm_r 72, mm_i l1, mm_i l2, mm_i l3, mm_i l4, mm_i l5, mm_i l6, l7, l8, l9] [mm_i s0] M Q := by
  obtain ⟨g1, h⟩ := h
  obtain ⟨g2, h⟩ := h
  refine en_istore_n (ls' := [mm_r 72, mm_i l1, mm_i l2, mm_i s0, mm_i l4, mm_i l5, mm_i l6, l7, l8, l9]) mc65_98 (Nat.le_of_ble_eq_true rfl) rfl ?_
  refine en_iload_n mc65_99 rfl ?_
  refine en_iconst mc65_100 ?_
  refine en_irem mc65_101 hg_l2 (⟨by decide, by decide⟩ : mr_rg 2) g1 (by decide) ?_
  refine en_iconst mc65_102 ?_
  refine en_icmp_ne 110 mc65_103 (by decide) g2 (⟨by decide, by decide⟩ : mr_rg 1) (fun q => ?_) (fun q => ?_)
  · replace h := h.1 q
    refine en_iconst mc65_110 ?_
    exact h
  · replace h := h.2 q
    refine en_iconst mc65_106 ?_
    refine en_goto 111 mc65_107 (by decide) ?_
    exact h
theorem vc65_111 {sc : Nat × (Int → Int)} {Q : mm_R → mm_M → Prop} {M : mm_M} {l1 : Int} {l2 : Int} {l3 : Int} {l4 : Int} {l5 : Int} {l6 : Int} {l7 : mm_V} {l8 : mm_V} {l9 : mm_V} {s0 : Int} (ho : mr_ok M) (hg_l3 : mr_rg l3)
    (h : 0 ≤ l3 ∧ (mr_rg (l3 % 2) ∧ (((l3 % 2) ≠ 1 → en_R sc 65 125 [mm_r 72, mm_i l1, mm_i l2, mm_i l3, mm_i l4, mm_i l5, mm_i l6, mm_i s0, l8, l9] [mm_i 0] M Q) ∧ (¬ ((l3 % 2) ≠ 1) → en_R sc 65 125 [mm_r 72, mm_i l1, mm_i l2, mm_i l3, mm_i l4, mm_i l5, mm_i l6, mm_i s0, l8, l9] [mm_i 1] M Q)))) : en_R sc 65 111 [mm_r 72, mm_i l1, mm_i l2, mm_i l3, mm_i l4, mm_i l5, mm_i l6, l7, l8, l9] [mm_i s0] M Q := by
  obtain ⟨g1, h⟩ := h
  obtain ⟨g2, h⟩ := h
  refine en_istore (ls' := [mm_r 72, mm_i l1, mm_i l2, mm_i l3, mm_i l4, mm_i l5, mm_i l6, mm_i s0, l8, l9]) mc65_111 (Nat.le_of_ble_eq_true rfl) rfl ?_
  refine en_iload_n mc65_113 rfl ?_
  refine en_iconst mc65_114 ?_
  refine en_irem mc65_115 hg_l3 (⟨by decide, by decide⟩ : mr_rg 2) g1 (by decide) ?_
  refine en_iconst mc65_116 ?_
  refine en_icmp_ne 124 mc65_117 (by decide) g2 (⟨by decide, by decide⟩ : mr_rg 1) (fun q => ?_) (fun q => ?_)
  · replace h := h.1 q
    refine en_iconst mc65_124 ?_
    exact h
  · replace h := h.2 q
    refine en_iconst mc65_120 ?_
    refine en_goto 125 mc65_121 (by decide) ?_
    exact h
theorem vc65_125 {sc : Nat × (Int → Int)} {Q : mm_R → mm_M → Prop} {M : mm_M} {l1 : Int} {l2 : Int} {l3 : Int} {l4 : Int} {l5 : Int} {l6 : Int} {l7 : Int} {l8 : mm_V} {l9 : mm_V} {s0 : Int} (ho : mr_ok M) (hg_l1 : mr_rg l1) (hg_l7 : mr_rg l7) (hg_s0 : mr_rg s0)
    (h : (l1 ≠ 0 → (l1 ≠ 1 → (l1 ≠ 2 → (l7 = s0 → en_R sc 65 207 [mm_r 72, mm_i l1, mm_i l2, mm_i l3, mm_i l4, mm_i l5, mm_i l6, mm_i l7, mm_i s0, l9] [mm_i 0] M Q) ∧ (¬ l7 = s0 → en_R sc 65 207 [mm_r 72, mm_i l1, mm_i l2, mm_i l3, mm_i l4, mm_i l5, mm_i l6, mm_i l7, mm_i s0, l9] [mm_i 1] M Q)) ∧ (¬ (l1 ≠ 2) → (l7 = 0 → en_R sc 65 191 [mm_r 72, mm_i l1, mm_i l2, mm_i l3, mm_i l4, mm_i l5, mm_i l6, mm_i l7, mm_i s0, l9] [] M Q) ∧ (¬ l7 = 0 → (s0 ≠ 0 → en_R sc 65 191 [mm_r 72, mm_i l1, mm_i l2, mm_i l3, mm_i l4, mm_i l5, mm_i l6, mm_i l7, mm_i s0, l9] [] M Q) ∧ (¬ (s0 ≠ 0) → en_R sc 65 207 [mm_r 72, mm_i l1, mm_i l2, mm_i l3, mm_i l4, mm_i l5, mm_i l6, mm_i l7, mm_i s0, l9] [mm_i 1] M Q)))) ∧ (¬ (l1 ≠ 1) → (l7 = 0 → en_R sc 65 168 [mm_r 72, mm_i l1, mm_i l2, mm_i l3, mm_i l4, mm_i l5, mm_i l6, mm_i l7, mm_i s0, l9] [] M Q) ∧ (¬ l7 = 0 → (s0 = 0 → en_R sc 65 168 [mm_r 72, mm_i l1, mm_i l2, mm_i l3, mm_i l4, mm_i l5, mm_i l6, mm_i l7, mm_i s0, l9] [] M Q) ∧ (¬ s0 = 0 → en_R sc 65 207 [mm_r 72, mm_i l1, mm_i l2, mm_i l3, mm_i l4, mm_i l5, mm_i l6, mm_i l7, mm_i s0, l9] [mm_i 1] M Q)))) ∧ (¬ (l1 ≠ 0) → (l7 ≠ 0 → en_R sc 65 141 [mm_r 72, mm_i l1, mm_i l2, mm_i l3, mm_i l4, mm_i l5, mm_i l6, mm_i l7, mm_i s0, l9] [] M Q) ∧ (¬ (l7 ≠ 0) → (s0 = 0 → en_R sc 65 207 [mm_r 72, mm_i l1, mm_i l2, mm_i l3, mm_i l4, mm_i l5, mm_i l6, mm_i l7, mm_i s0, l9] [mm_i 0] M Q) ∧ (¬ s0 = 0 → en_R sc 65 141 [mm_r 72, mm_i l1, mm_i l2, mm_i l3, mm_i l4, mm_i l5, mm_i l6, mm_i l7, mm_i s0, l9] [] M Q)))) : en_R sc 65 125 [mm_r 72, mm_i l1, mm_i l2, mm_i l3, mm_i l4, mm_i l5, mm_i l6, mm_i l7, l8, l9] [mm_i s0] M Q := by
  refine en_istore (ls' := [mm_r 72, mm_i l1, mm_i l2, mm_i l3, mm_i l4, mm_i l5, mm_i l6, mm_i l7, mm_i s0, l9]) mc65_125 (Nat.le_of_ble_eq_true rfl) rfl ?_
  refine en_iload_n mc65_127 rfl ?_
  refine en_if_ne 149 mc65_128 (by decide) hg_l1 (fun q => ?_) (fun q => ?_)
  · replace h := h.1 q
    refine en_iload_n mc65_149 rfl ?_
    refine en_iconst mc65_150 ?_
    refine en_icmp_ne 172 mc65_151 (by decide) hg_l1 (⟨by decide, by decide⟩ : mr_rg 1) (fun q => ?_) (fun q => ?_)
    · replace h := h.1 q
      refine en_iload_n mc65_172 rfl ?_
      refine en_iconst mc65_173 ?_
      refine en_icmp_ne 195 mc65_174 (by decide) hg_l1 (⟨by decide, by decide⟩ : mr_rg 2) (fun q => ?_) (fun q => ?_)
      · replace h := h.1 q
        refine en_iload mc65_195 rfl ?_
        refine en_iload mc65_197 rfl ?_
        refine en_icmp_eq 206 mc65_199 (by decide) hg_l7 hg_s0 (fun q => ?_) (fun q => ?_)
        · replace h := h.1 q
          refine en_iconst mc65_206 ?_
          exact h
        · replace h := h.2 q
          refine en_iconst mc65_202 ?_
          refine en_goto 207 mc65_203 (by decide) ?_
          exact h
      · replace h := h.2 q
        refine en_iload mc65_177 rfl ?_
        refine en_if_eq 191 mc65_179 (by decide) hg_l7 (fun q => ?_) (fun q => ?_)
        · replace h := h.1 q
          exact h
        · replace h := h.2 q
          refine en_iload mc65_182 rfl ?_
          refine en_if_ne 191 mc65_184 (by decide) hg_s0 (fun q => ?_) (fun q => ?_)
          · replace h := h.1 q
            exact h
          · replace h := h.2 q
            refine en_iconst mc65_187 ?_
            refine en_goto 207 mc65_188 (by decide) ?_
            exact h
    · replace h := h.2 q
      refine en_iload mc65_154 rfl ?_
      refine en_if_eq 168 mc65_156 (by decide) hg_l7 (fun q => ?_) (fun q => ?_)
      · replace h := h.1 q
        exact h
      · replace h := h.2 q
        refine en_iload mc65_159 rfl ?_
        refine en_if_eq 168 mc65_161 (by decide) hg_s0 (fun q => ?_) (fun q => ?_)
        · replace h := h.1 q
          exact h
        · replace h := h.2 q
          refine en_iconst mc65_164 ?_
          refine en_goto 207 mc65_165 (by decide) ?_
          exact h
  · replace h := h.2 q
    refine en_iload mc65_131 rfl ?_
    refine en_if_ne 141 mc65_133 (by decide) hg_l7 (fun q => ?_) (fun q => ?_)
    · replace h := h.1 q
      exact h
    · replace h := h.2 q
      refine en_iload mc65_136 rfl ?_
      refine en_if_eq 145 mc65_138 (by decide) hg_s0 (fun q => ?_) (fun q => ?_)
      · replace h := h.1 q
        refine en_iconst mc65_145 ?_
        refine en_goto 207 mc65_146 (by decide) ?_
        exact h
      · replace h := h.2 q
        exact h
theorem vc65_141 {sc : Nat × (Int → Int)} {Q : mm_R → mm_M → Prop} {M : mm_M} {l1 : Int} {l2 : Int} {l3 : Int} {l4 : Int} {l5 : Int} {l6 : Int} {l7 : Int} {l8 : Int} {l9 : mm_V} (ho : mr_ok M)
    (h : en_R sc 65 207 [mm_r 72, mm_i l1, mm_i l2, mm_i l3, mm_i l4, mm_i l5, mm_i l6, mm_i l7, mm_i l8, l9] [mm_i 1] M Q) : en_R sc 65 141 [mm_r 72, mm_i l1, mm_i l2, mm_i l3, mm_i l4, mm_i l5, mm_i l6, mm_i l7, mm_i l8, l9] [] M Q := by
  refine en_iconst mc65_141 ?_
  refine en_goto 207 mc65_142 (by decide) ?_
  exact h
theorem vc65_168 {sc : Nat × (Int → Int)} {Q : mm_R → mm_M → Prop} {M : mm_M} {l1 : Int} {l2 : Int} {l3 : Int} {l4 : Int} {l5 : Int} {l6 : Int} {l7 : Int} {l8 : Int} {l9 : mm_V} (ho : mr_ok M)
    (h : en_R sc 65 207 [mm_r 72, mm_i l1, mm_i l2, mm_i l3, mm_i l4, mm_i l5, mm_i l6, mm_i l7, mm_i l8, l9] [mm_i 0] M Q) : en_R sc 65 168 [mm_r 72, mm_i l1, mm_i l2, mm_i l3, mm_i l4, mm_i l5, mm_i l6, mm_i l7, mm_i l8, l9] [] M Q := by
  refine en_iconst mc65_168 ?_
  refine en_goto 207 mc65_169 (by decide) ?_
  exact h
theorem vc65_191 {sc : Nat × (Int → Int)} {Q : mm_R → mm_M → Prop} {M : mm_M} {l1 : Int} {l2 : Int} {l3 : Int} {l4 : Int} {l5 : Int} {l6 : Int} {l7 : Int} {l8 : Int} {l9 : mm_V} (ho : mr_ok M)
    (h : en_R sc 65 207 [mm_r 72, mm_i l1, mm_i l2, mm_i l3, mm_i l4, mm_i l5, mm_i l6, mm_i l7, mm_i l8, l9] [mm_i 0] M Q) : en_R sc 65 191 [mm_r 72, mm_i l1, mm_i l2, mm_i l3, mm_i l4, mm_i l5, mm_i l6, mm_i l7, mm_i l8, l9] [] M Q := by
  refine en_iconst mc65_191 ?_
  refine en_goto 207 mc65_192 (by decide) ?_
  exact h
theorem vc65_207 {sc : Nat × (Int → Int)} {Q : mm_R → mm_M → Prop} {M : mm_M} {l1 : Int} {l2 : Int} {l3 : Int} {l4 : Int} {l5 : Int} {l6 : Int} {l7 : Int} {l8 : Int} {l9 : mm_V} {s0 : Int} (ho : mr_ok M) (hg_l5 : mr_rg l5) (hg_s0 : mr_rg s0)
    (h : (l5 = 0 → en_R sc 65 227 [mm_r 72, mm_i l1, mm_i l2, mm_i l3, mm_i l4, mm_i l5, mm_i l6, mm_i l7, mm_i l8, mm_i s0] [] M Q) ∧ (¬ l5 = 0 → (s0 ≠ 0 → en_R sc 65 227 [mm_r 72, mm_i l1, mm_i l2, mm_i l3, mm_i l4, mm_i l5, mm_i l6, mm_i l7, mm_i l8, mm_i s0] [] M Q) ∧ (¬ (s0 ≠ 0) → en_CV sc 36 [mm_r 72, mm_i l4, mm_i l6] M (fun M2 => mr_ok M2 → en_R sc 65 227 [mm_r 72, mm_i l1, mm_i l2, mm_i l3, mm_i l4, mm_i l5, mm_i l6, mm_i l7, mm_i l8, mm_i s0] [] M2 Q) (fun e M9 => Q (.inr e) M9)))) : en_R sc 65 207 [mm_r 72, mm_i l1, mm_i l2, mm_i l3, mm_i l4, mm_i l5, mm_i l6, mm_i l7, mm_i l8, l9] [mm_i s0] M Q := by
  refine en_istore (ls' := [mm_r 72, mm_i l1, mm_i l2, mm_i l3, mm_i l4, mm_i l5, mm_i l6, mm_i l7, mm_i l8, mm_i s0]) mc65_207 (Nat.le_of_ble_eq_true rfl) rfl ?_
  refine en_iload mc65_209 rfl ?_
  refine en_if_eq 227 mc65_211 (by decide) hg_l5 (fun q => ?_) (fun q => ?_)
  · replace h := h.1 q
    exact h
  · replace h := h.2 q
    refine en_iload mc65_214 rfl ?_
    refine en_if_ne 227 mc65_216 (by decide) hg_s0 (fun q => ?_) (fun q => ?_)
    · replace h := h.1 q
      exact h
    · replace h := h.2 q
      refine en_aload_n mc65_219 rfl ?_
      refine en_iload mc65_220 rfl ?_
      refine en_iload mc65_222 rfl ?_
      refine en_callV (lz := [mm_r 72, mm_i l4, mm_i l6]) mv65 mc65_224 rfl rfl (lk_m7_127) mv36 rfl (by decide) rfl (mk_cokV rfl (⟨rfl, by decide⟩ : mt_kd[72]? = some (.inl 7) ∧ 72 < 99)) rfl (mk_nh rfl _) ho ?_
      refine en_CV_mono h (fun M2 h => ?_) (fun _ _ h => h)
      intro ho3
      replace h := h ho3
      exact h
theorem vc65_227 {sc : Nat × (Int → Int)} {Q : mm_R → mm_M → Prop} {M : mm_M} {l1 : Int} {l2 : Int} {l3 : Int} {l4 : Int} {l5 : Int} {l6 : Int} {l7 : Int} {l8 : Int} {l9 : Int} (ho : mr_ok M) (hg_l9 : mr_rg l9) (hg_l5 : mr_rg l5)
    (h : (l9 = 0 → en_R sc 65 15 [mm_r 72, mm_i l1, mm_i l2, mm_i l3, mm_i l4, mm_i l9, mm_i l6, mm_i l7, mm_i l8, mm_i l9] [] M Q) ∧ (¬ l9 = 0 → (l5 ≠ 0 → en_R sc 65 15 [mm_r 72, mm_i l1, mm_i l2, mm_i l3, mm_i l4, mm_i l9, mm_i l6, mm_i l7, mm_i l8, mm_i l9] [] M Q) ∧ (¬ (l5 ≠ 0) → en_R sc 65 15 [mm_r 72, mm_i l1, mm_i l2, mm_i l3, mm_i l6, mm_i l9, mm_i l6, mm_i l7, mm_i l8, mm_i l9] [] M Q))) : en_R sc 65 227 [mm_r 72, mm_i l1, mm_i l2, mm_i l3, mm_i l4, mm_i l5, mm_i l6, mm_i l7, mm_i l8, mm_i l9] [] M Q := by
  refine en_iload mc65_227 rfl ?_
  refine en_if_eq 242 mc65_229 (by decide) hg_l9 (fun q => ?_) (fun q => ?_)
  · replace h := h.1 q
    refine en_iload mc65_242 rfl ?_
    refine en_istore (ls' := [mm_r 72, mm_i l1, mm_i l2, mm_i l3, mm_i l4, mm_i l5, mm_i l6, mm_i l7, mm_i l8, mm_i l9]) mc65_244 (Nat.le_of_ble_eq_true rfl) rfl ?_
    refine en_iload mc65_246 rfl ?_
    refine en_istore (ls' := [mm_r 72, mm_i l1, mm_i l2, mm_i l3, mm_i l4, mm_i l9, mm_i l6, mm_i l7, mm_i l8, mm_i l9]) mc65_248 (Nat.le_of_ble_eq_true rfl) rfl ?_
    refine en_goto 15 mc65_250 (by decide) ?_
    exact h
  · replace h := h.2 q
    refine en_iload mc65_232 rfl ?_
    refine en_if_ne 242 mc65_234 (by decide) hg_l5 (fun q => ?_) (fun q => ?_)
    · replace h := h.1 q
      refine en_iload mc65_242 rfl ?_
      refine en_istore (ls' := [mm_r 72, mm_i l1, mm_i l2, mm_i l3, mm_i l4, mm_i l5, mm_i l6, mm_i l7, mm_i l8, mm_i l9]) mc65_244 (Nat.le_of_ble_eq_true rfl) rfl ?_
      refine en_iload mc65_246 rfl ?_
      refine en_istore (ls' := [mm_r 72, mm_i l1, mm_i l2, mm_i l3, mm_i l4, mm_i l9, mm_i l6, mm_i l7, mm_i l8, mm_i l9]) mc65_248 (Nat.le_of_ble_eq_true rfl) rfl ?_
      refine en_goto 15 mc65_250 (by decide) ?_
      exact h
    · replace h := h.2 q
      refine en_iload mc65_237 rfl ?_
      refine en_goto 244 mc65_239 (by decide) ?_
      refine en_istore (ls' := [mm_r 72, mm_i l1, mm_i l2, mm_i l3, mm_i l6, mm_i l5, mm_i l6, mm_i l7, mm_i l8, mm_i l9]) mc65_244 (Nat.le_of_ble_eq_true rfl) rfl ?_
      refine en_iload mc65_246 rfl ?_
      refine en_istore (ls' := [mm_r 72, mm_i l1, mm_i l2, mm_i l3, mm_i l6, mm_i l9, mm_i l6, mm_i l7, mm_i l8, mm_i l9]) mc65_248 (Nat.le_of_ble_eq_true rfl) rfl ?_
      refine en_goto 15 mc65_250 (by decide) ?_
      exact h
