/-! 66: CellAreasModel.combine(IIII)I -/
theorem mc66_0 : mr_C 66 0 = some (.aload_n 0, 1) := rfl
theorem mc66_1 : mr_C 66 1 = some (.aload_n 0, 1) := rfl
theorem mc66_2 : mr_C 66 2 = some (.iload_n 1, 1) := rfl
theorem mc66_3 : mr_C 66 3 = some (.invokevirtual 131, 3) := rfl
theorem mc66_6 : mr_C 66 6 = some (.ifCond .eq (19), 3) := rfl
theorem mc66_9 : mr_C 66 9 = some (.aload_n 0, 1) := rfl
theorem mc66_10 : mr_C 66 10 = some (.iload_n 2, 1) := rfl
theorem mc66_11 : mr_C 66 11 = some (.invokevirtual 131, 3) := rfl
theorem mc66_14 : mr_C 66 14 = some (.ifCond .eq (11), 3) := rfl
theorem mc66_17 : mr_C 66 17 = some (.aload_n 0, 1) := rfl
theorem mc66_18 : mr_C 66 18 = some (.iload_n 3, 1) := rfl
theorem mc66_19 : mr_C 66 19 = some (.invokevirtual 131, 3) := rfl
theorem mc66_22 : mr_C 66 22 = some (.ifCond .ne (7), 3) := rfl
theorem mc66_25 : mr_C 66 25 = some (.iconst 1, 1) := rfl
theorem mc66_26 : mr_C 66 26 = some (.goto 18, 3) := rfl
theorem mc66_29 : mr_C 66 29 = some (.iload 4, 2) := rfl
theorem mc66_31 : mr_C 66 31 = some (.iconst 0, 1) := rfl
theorem mc66_32 : mr_C 66 32 = some (.iconst 3, 1) := rfl
theorem mc66_33 : mr_C 66 33 = some (.invokestatic 135, 3) := rfl
theorem mc66_36 : mr_C 66 36 = some (.ifCond .ne (7), 3) := rfl
theorem mc66_39 : mr_C 66 39 = some (.iconst 2, 1) := rfl
theorem mc66_40 : mr_C 66 40 = some (.goto 4, 3) := rfl
theorem mc66_43 : mr_C 66 43 = some (.iconst 0, 1) := rfl
theorem mc66_44 : mr_C 66 44 = some (.putfield 89, 3) := rfl
theorem mc66_47 : mr_C 66 47 = some (.aload_n 0, 1) := rfl
theorem mc66_48 : mr_C 66 48 = some (.getfield 89, 3) := rfl
theorem mc66_51 : mr_C 66 51 = some (.ifCond .le (5), 3) := rfl
theorem mc66_54 : mr_C 66 54 = some (.iconst 0, 1) := rfl
theorem mc66_55 : mr_C 66 55 = some (.ireturn, 1) := rfl
theorem mc66_56 : mr_C 66 56 = some (.aload_n 0, 1) := rfl
theorem mc66_57 : mr_C 66 57 = some (.invokevirtual 139, 3) := rfl
theorem mc66_60 : mr_C 66 60 = some (.aload_n 0, 1) := rfl
theorem mc66_61 : mr_C 66 61 = some (.iload_n 2, 1) := rfl
theorem mc66_62 : mr_C 66 62 = some (.invokevirtual 155, 3) := rfl
theorem mc66_65 : mr_C 66 65 = some (.aload_n 0, 1) := rfl
theorem mc66_66 : mr_C 66 66 = some (.iload_n 3, 1) := rfl
theorem mc66_67 : mr_C 66 67 = some (.invokevirtual 155, 3) := rfl
theorem mc66_70 : mr_C 66 70 = some (.iconst 0, 1) := by decide +kernel
theorem mc66_71 : mr_C 66 71 = some (.istore 5, 2) := by decide +kernel
theorem mc66_73 : mr_C 66 73 = some (.iload 5, 2) := by decide +kernel
theorem mc66_75 : mr_C 66 75 = some (.iconst 1, 1) := by decide +kernel
theorem mc66_76 : mr_C 66 76 = some (.iadd, 1) := by decide +kernel
theorem mc66_77 : mr_C 66 77 = some (.aload_n 0, 1) := by decide +kernel
theorem mc66_78 : mr_C 66 78 = some (.getfield 97, 3) := by decide +kernel
theorem mc66_81 : mr_C 66 81 = some (.if_icmp .ge (59), 3) := by decide +kernel
theorem mc66_84 : mr_C 66 84 = some (.aload_n 0, 1) := by decide +kernel
theorem mc66_85 : mr_C 66 85 = some (.iload_n 2, 1) := by decide +kernel
theorem mc66_86 : mr_C 66 86 = some (.aload_n 0, 1) := by decide +kernel
theorem mc66_87 : mr_C 66 87 = some (.getfield 52, 3) := by decide +kernel
theorem mc66_90 : mr_C 66 90 = some (.iload 5, 2) := by decide +kernel
theorem mc66_92 : mr_C 66 92 = some (.iaload, 1) := by decide +kernel
theorem mc66_93 : mr_C 66 93 = some (.invokevirtual 158, 3) := by decide +kernel
theorem mc66_96 : mr_C 66 96 = some (.aload_n 0, 1) := by decide +kernel
theorem mc66_97 : mr_C 66 97 = some (.iload_n 3, 1) := by decide +kernel
theorem mc66_98 : mr_C 66 98 = some (.aload_n 0, 1) := by decide +kernel
theorem mc66_99 : mr_C 66 99 = some (.getfield 52, 3) := by decide +kernel
theorem mc66_102 : mr_C 66 102 = some (.iload 5, 2) := by decide +kernel
theorem mc66_104 : mr_C 66 104 = some (.iaload, 1) := by decide +kernel
theorem mc66_105 : mr_C 66 105 = some (.invokevirtual 161, 3) := by decide +kernel
theorem mc66_108 : mr_C 66 108 = some (.aload_n 0, 1) := by decide +kernel
theorem mc66_109 : mr_C 66 109 = some (.iload 4, 2) := by decide +kernel
theorem mc66_111 : mr_C 66 111 = some (.invokevirtual 164, 3) := by decide +kernel
theorem mc66_114 : mr_C 66 114 = some (.aload_n 0, 1) := by decide +kernel
theorem mc66_115 : mr_C 66 115 = some (.aload_n 0, 1) := by decide +kernel
theorem mc66_116 : mr_C 66 116 = some (.getfield 52, 3) := by decide +kernel
theorem mc66_119 : mr_C 66 119 = some (.iload 5, 2) := by decide +kernel
theorem mc66_121 : mr_C 66 121 = some (.iaload, 1) := by decide +kernel
theorem mc66_122 : mr_C 66 122 = some (.aload_n 0, 1) := by decide +kernel
theorem mc66_123 : mr_C 66 123 = some (.getfield 52, 3) := by decide +kernel
theorem mc66_126 : mr_C 66 126 = some (.iload 5, 2) := by decide +kernel
theorem mc66_128 : mr_C 66 128 = some (.iconst 1, 1) := by decide +kernel
theorem mc66_129 : mr_C 66 129 = some (.iadd, 1) := by decide +kernel
theorem mc66_130 : mr_C 66 130 = some (.iaload, 1) := by decide +kernel
theorem mc66_131 : mr_C 66 131 = some (.invokevirtual 142, 3) := by decide +kernel
theorem mc66_134 : mr_C 66 134 = some (.iinc 5 (1), 3) := by decide +kernel
theorem mc66_137 : mr_C 66 137 = some (.goto (-64), 3) := by decide +kernel
theorem mc66_140 : mr_C 66 140 = some (.aload_n 0, 1) := by decide +kernel
theorem mc66_141 : mr_C 66 141 = some (.iload_n 1, 1) := by decide +kernel
theorem mc66_142 : mr_C 66 142 = some (.invokevirtual 145, 3) := by decide +kernel
theorem mc66_145 : mr_C 66 145 = some (.ireturn, 1) := by decide +kernel
theorem vc66_0 {sc : Nat × (Int → Int)} {Q : mm_R → mm_M → Prop} {M : mm_M} {l1 : Int} {l2 : Int} {l3 : Int} {l4 : Int} (ho : mr_ok M)
    (h : en_CI sc 34 [mm_r 72, mm_i l1] M (fun x1 M2 => mr_ok M2 → mr_rg x1 ∧ ((x1 = 0 → en_R sc 66 25 [mm_r 72, mm_i l1, mm_i l2, mm_i l3, mm_i l4, mm_u] [mm_r 72] M2 Q) ∧ (¬ x1 = 0 → en_CI sc 34 [mm_r 72, mm_i l2] M2 (fun x5 M6 => mr_ok M6 → mr_rg x5 ∧ ((x5 = 0 → en_R sc 66 25 [mm_r 72, mm_i l1, mm_i l2, mm_i l3, mm_i l4, mm_u] [mm_r 72] M6 Q) ∧ (¬ x5 = 0 → en_CI sc 34 [mm_r 72, mm_i l3] M6 (fun x9 M10 => mr_ok M10 → mr_rg x9 ∧ ((x9 ≠ 0 → en_CI sc 33 [mm_i l4, mm_i 0, mm_i 3] M10 (fun x13 M14 => mr_ok M14 → mr_rg x13 ∧ ((x13 ≠ 0 → en_R sc 66 44 [mm_r 72, mm_i l1, mm_i l2, mm_i l3, mm_i l4, mm_u] [mm_i 0, mm_r 72] M14 Q) ∧ (¬ (x13 ≠ 0) → en_R sc 66 44 [mm_r 72, mm_i l1, mm_i l2, mm_i l3, mm_i l4, mm_u] [mm_i 2, mm_r 72] M14 Q))) (fun e M9 => Q (.inr e) M9)) ∧ (¬ (x9 ≠ 0) → en_R sc 66 25 [mm_r 72, mm_i l1, mm_i l2, mm_i l3, mm_i l4, mm_u] [mm_r 72] M10 Q))) (fun e M9 => Q (.inr e) M9)))) (fun e M9 => Q (.inr e) M9)))) (fun e M9 => Q (.inr e) M9)) : en_R sc 66 0 [mm_r 72, mm_i l1, mm_i l2, mm_i l3, mm_i l4, mm_u] [] M Q := by
  refine en_aload_n mc66_0 rfl ?_
  refine en_aload_n mc66_1 rfl ?_
  refine en_iload_n mc66_2 rfl ?_
  refine en_callI (lz := [mm_r 72, mm_i l1]) mv66 mc66_3 rfl rfl (lk_m7_131) mv34 rfl (by decide) rfl (mk_cokV rfl (⟨rfl, by decide⟩ : mt_kd[72]? = some (.inl 7) ∧ 72 < 99)) rfl (mk_nh rfl _) ho ?_
  refine en_CI_mono h (fun x1 M2 h => ?_) (fun _ _ h => h)
  intro ho3
  replace h := h ho3
  obtain ⟨g4, h⟩ := h
  refine en_if_eq 25 mc66_6 (by decide) g4 (fun q => ?_) (fun q => ?_)
  · replace h := h.1 q
    exact h
  · replace h := h.2 q
    refine en_aload_n mc66_9 rfl ?_
    refine en_iload_n mc66_10 rfl ?_
    refine en_callI (lz := [mm_r 72, mm_i l2]) mv66 mc66_11 rfl rfl (lk_m7_131) mv34 rfl (by decide) rfl (mk_cokV rfl (⟨rfl, by decide⟩ : mt_kd[72]? = some (.inl 7) ∧ 72 < 99)) rfl (mk_nh rfl _) ho3 ?_
    refine en_CI_mono h (fun x5 M6 h => ?_) (fun _ _ h => h)
    intro ho7
    replace h := h ho7
    obtain ⟨g8, h⟩ := h
    refine en_if_eq 25 mc66_14 (by decide) g8 (fun q => ?_) (fun q => ?_)
    · replace h := h.1 q
      exact h
    · replace h := h.2 q
      refine en_aload_n mc66_17 rfl ?_
      refine en_iload_n mc66_18 rfl ?_
      refine en_callI (lz := [mm_r 72, mm_i l3]) mv66 mc66_19 rfl rfl (lk_m7_131) mv34 rfl (by decide) rfl (mk_cokV rfl (⟨rfl, by decide⟩ : mt_kd[72]? = some (.inl 7) ∧ 72 < 99)) rfl (mk_nh rfl _) ho7 ?_
      refine en_CI_mono h (fun x9 M10 h => ?_) (fun _ _ h => h)
      intro ho11
      replace h := h ho11
      obtain ⟨g12, h⟩ := h
      refine en_if_ne 29 mc66_22 (by decide) g12 (fun q => ?_) (fun q => ?_)
      · replace h := h.1 q
        refine en_iload mc66_29 rfl ?_
        refine en_iconst mc66_31 ?_
        refine en_iconst mc66_32 ?_
        refine en_callI (lz := [mm_i l4, mm_i 0, mm_i 3]) mv66 mc66_33 rfl rfl (lk_m7_135) mv33 rfl (by decide) rfl (mk_cokS rfl) rfl (mk_nh rfl _) ho11 ?_
        refine en_CI_mono h (fun x13 M14 h => ?_) (fun _ _ h => h)
        intro ho15
        replace h := h ho15
        obtain ⟨g16, h⟩ := h
        refine en_if_ne 43 mc66_36 (by decide) g16 (fun q => ?_) (fun q => ?_)
        · replace h := h.1 q
          refine en_iconst mc66_43 ?_
          exact h
        · replace h := h.2 q
          refine en_iconst mc66_39 ?_
          refine en_goto 44 mc66_40 (by decide) ?_
          exact h
      · replace h := h.2 q
        exact h
theorem vc66_25 {sc : Nat × (Int → Int)} {Q : mm_R → mm_M → Prop} {M : mm_M} {l1 : Int} {l2 : Int} {l3 : Int} {l4 : Int} (ho : mr_ok M)
    (h : en_R sc 66 44 [mm_r 72, mm_i l1, mm_i l2, mm_i l3, mm_i l4, mm_u] [mm_i 1, mm_r 72] M Q) : en_R sc 66 25 [mm_r 72, mm_i l1, mm_i l2, mm_i l3, mm_i l4, mm_u] [mm_r 72] M Q := by
  refine en_iconst mc66_25 ?_
  refine en_goto 44 mc66_26 (by decide) ?_
  exact h
theorem vc66_44 {sc : Nat × (Int → Int)} {Q : mm_R → mm_M → Prop} {M : mm_M} {l1 : Int} {l2 : Int} {l3 : Int} {l4 : Int} {s1 : Int} (ho : mr_ok M) (hg_s1 : mr_rg s1)
    (h : (((mm_putN M 72 0 s1).1 72 0) ≤ 0 → en_CV sc 35 [mm_r 72] (mm_putN M 72 0 s1) (fun M2 => mr_ok M2 → en_CV sc 59 [mm_r 72, mm_i l2, mm_u] M2 (fun M5 => mr_ok M5 → en_CV sc 59 [mm_r 72, mm_i l3, mm_u] M5 (fun M8 => mr_ok M8 → en_R sc 66 73 [mm_r 72, mm_i l1, mm_i l2, mm_i l3, mm_i l4, mm_i 0] [] M8 Q) (fun e M9 => Q (.inr e) M9)) (fun e M9 => Q (.inr e) M9)) (fun e M9 => Q (.inr e) M9)) ∧ (¬ ((mm_putN M 72 0 s1).1 72 0) ≤ 0 → Q (.inl (some (mm_i 0))) (mm_putN M 72 0 s1))) : en_R sc 66 44 [mm_r 72, mm_i l1, mm_i l2, mm_i l3, mm_i l4, mm_u] [mm_i s1, mm_r 72] M Q := by
  refine en_putI mv66 mc66_44 (lk_f7_89) (⟨rfl, by decide⟩ : mt_kd[72]? = some (.inl 7) ∧ 72 < 99) rfl rfl hg_s1 ?_
  refine en_aload_n mc66_47 rfl ?_
  refine en_getI mv66 mc66_48 (lk_f7_89) (⟨rfl, by decide⟩ : mt_kd[72]? = some (.inl 7) ∧ 72 < 99) (Or.inl rfl) ?_
  refine en_if_le 56 mc66_51 (by decide) ((mr_ok_putI (a := 72) (k := 0) ho hg_s1).2.1 72 0 (by unfold mr_lg; omega)) (fun q => ?_) (fun q => ?_)
  · replace h := h.1 q
    refine en_aload_n mc66_56 rfl ?_
    refine en_callV (lz := [mm_r 72]) mv66 mc66_57 rfl rfl (lk_m7_139) mv35 rfl (by decide) rfl (mk_cokV rfl (⟨rfl, by decide⟩ : mt_kd[72]? = some (.inl 7) ∧ 72 < 99)) rfl (mk_nh rfl _) (mr_ok_putI (a := 72) (k := 0) ho hg_s1) ?_
    refine en_CV_mono h (fun M2 h => ?_) (fun _ _ h => h)
    intro ho3
    replace h := h ho3
    refine en_aload_n mc66_60 rfl ?_
    refine en_iload_n mc66_61 rfl ?_
    refine en_callV (lz := [mm_r 72, mm_i l2, mm_u]) mv66 mc66_62 rfl rfl (lk_m7_155) mv59 rfl (by decide) rfl (mk_cokV rfl (⟨rfl, by decide⟩ : mt_kd[72]? = some (.inl 7) ∧ 72 < 99)) rfl (mk_nh rfl _) ho3 ?_
    refine en_CV_mono h (fun M5 h => ?_) (fun _ _ h => h)
    intro ho6
    replace h := h ho6
    refine en_aload_n mc66_65 rfl ?_
    refine en_iload_n mc66_66 rfl ?_
    refine en_callV (lz := [mm_r 72, mm_i l3, mm_u]) mv66 mc66_67 rfl rfl (lk_m7_155) mv59 rfl (by decide) rfl (mk_cokV rfl (⟨rfl, by decide⟩ : mt_kd[72]? = some (.inl 7) ∧ 72 < 99)) rfl (mk_nh rfl _) ho6 ?_
    refine en_CV_mono h (fun M8 h => ?_) (fun _ _ h => h)
    intro ho9
    replace h := h ho9
    refine en_iconst mc66_70 ?_
    refine en_istore (ls' := [mm_r 72, mm_i l1, mm_i l2, mm_i l3, mm_i l4, mm_i 0]) mc66_71 (Nat.le_of_ble_eq_true rfl) rfl ?_
    exact h
  · replace h := h.2 q
    refine en_iconst mc66_54 ?_
    exact en_iret mv66 mc66_55 rfl h
theorem vc66_73 {sc : Nat × (Int → Int)} {Q : mm_R → mm_M → Prop} {M : mm_M} {l1 : Int} {l2 : Int} {l3 : Int} {l4 : Int} {l5 : Int} (ho : mr_ok M)
    (h : mr_rg (l5 + 1) ∧ (((M.1 72 19) ≤ (l5 + 1) → en_CI sc 39 [mm_r 72, mm_i l1, mm_u] M (fun x2 M3 => mr_ok M3 → Q (.inl (some (mm_i x2))) M3) (fun e M9 => Q (.inr e) M9)) ∧ (¬ (M.1 72 19) ≤ (l5 + 1) → 0 ≤ l5 ∧ (l5 < 1700 ∧ (en_CV sc 61 [mm_r 72, mm_i l2, mm_i (M.1 87 l5), mm_u, mm_u] M (fun M8 => mr_ok M8 → 0 ≤ l5 ∧ (l5 < 1700 ∧ (en_CV sc 62 [mm_r 72, mm_i l3, mm_i (M8.1 87 l5), mm_u, mm_u] M8 (fun M13 => mr_ok M13 → en_CV sc 65 [mm_r 72, mm_i l4, mm_u, mm_u, mm_u, mm_u, mm_u, mm_u, mm_u, mm_u] M13 (fun M16 => mr_ok M16 → 0 ≤ l5 ∧ (l5 < 1700 ∧ (0 ≤ (l5 + 1) ∧ ((l5 + 1) < 1700 ∧ (en_CV sc 38 [mm_r 72, mm_i (M16.1 87 l5), mm_i (M16.1 87 (l5 + 1)), mm_u, mm_u] M16 (fun M23 => mr_ok M23 → en_R sc 66 73 [mm_r 72, mm_i l1, mm_i l2, mm_i l3, mm_i l4, mm_i (l5 + 1)] [] M23 Q) (fun e M9 => Q (.inr e) M9)))))) (fun e M9 => Q (.inr e) M9)) (fun e M9 => Q (.inr e) M9)))) (fun e M9 => Q (.inr e) M9)))))) : en_R sc 66 73 [mm_r 72, mm_i l1, mm_i l2, mm_i l3, mm_i l4, mm_i l5] [] M Q := by
  obtain ⟨g1, h⟩ := h
  refine en_iload mc66_73 rfl ?_
  refine en_iconst mc66_75 ?_
  refine en_iadd mc66_76 ?_
  refine en_aload_n mc66_77 rfl ?_
  refine en_getI mv66 mc66_78 (lk_f7_97) (⟨rfl, by decide⟩ : mt_kd[72]? = some (.inl 7) ∧ 72 < 99) (Or.inl rfl) ?_
  refine en_icmp_ge 140 mc66_81 (by decide) g1 (ho.2.1 72 19 (by unfold mr_lg; omega)) (fun q => ?_) (fun q => ?_)
  · replace h := h.1 q
    refine en_aload_n mc66_140 rfl ?_
    refine en_iload_n mc66_141 rfl ?_
    refine en_callI (lz := [mm_r 72, mm_i l1, mm_u]) mv66 mc66_142 rfl rfl (lk_m7_145) mv39 rfl (by decide) rfl (mk_cokV rfl (⟨rfl, by decide⟩ : mt_kd[72]? = some (.inl 7) ∧ 72 < 99)) rfl (mk_nh rfl _) ho ?_
    refine en_CI_mono h (fun x2 M3 h => ?_) (fun _ _ h => h)
    intro ho4
    replace h := h ho4
    exact en_iret mv66 mc66_145 rfl h
  · replace h := h.2 q
    obtain ⟨g5, h⟩ := h
    obtain ⟨g6, h⟩ := h
    refine en_aload_n mc66_84 rfl ?_
    refine en_iload_n mc66_85 rfl ?_
    refine en_aload_n mc66_86 rfl ?_
    refine en_getR (b := 87) mv66 mc66_87 (lk_f7_52) (⟨rfl, by decide⟩ : mt_kd[72]? = some (.inl 7) ∧ 72 < 99) rfl (mk_fc ho (by decide +kernel)) ?_
    refine en_iload mc66_90 rfl ?_
    refine en_iald mc66_92 (⟨rfl, by decide, by decide⟩ : mt_kd[87]? = some (.inr (.int, 1700)) ∧ 87 < 99 ∧ 1700 < 2147483648) g5 g6 ?_
    refine en_callV (lz := [mm_r 72, mm_i l2, mm_i (M.1 87 l5), mm_u, mm_u]) mv66 mc66_93 rfl rfl (lk_m7_158) mv61 rfl (by decide) rfl (mk_cokV rfl (⟨rfl, by decide⟩ : mt_kd[72]? = some (.inl 7) ∧ 72 < 99)) rfl (mk_nh rfl _) ho ?_
    refine en_CV_mono h (fun M8 h => ?_) (fun _ _ h => h)
    intro ho9
    replace h := h ho9
    obtain ⟨g10, h⟩ := h
    obtain ⟨g11, h⟩ := h
    refine en_aload_n mc66_96 rfl ?_
    refine en_iload_n mc66_97 rfl ?_
    refine en_aload_n mc66_98 rfl ?_
    refine en_getR (b := 87) mv66 mc66_99 (lk_f7_52) (⟨rfl, by decide⟩ : mt_kd[72]? = some (.inl 7) ∧ 72 < 99) rfl (mk_fc ho9 (by decide +kernel)) ?_
    refine en_iload mc66_102 rfl ?_
    refine en_iald mc66_104 (⟨rfl, by decide, by decide⟩ : mt_kd[87]? = some (.inr (.int, 1700)) ∧ 87 < 99 ∧ 1700 < 2147483648) g10 g11 ?_
    refine en_callV (lz := [mm_r 72, mm_i l3, mm_i (M8.1 87 l5), mm_u, mm_u]) mv66 mc66_105 rfl rfl (lk_m7_161) mv62 rfl (by decide) rfl (mk_cokV rfl (⟨rfl, by decide⟩ : mt_kd[72]? = some (.inl 7) ∧ 72 < 99)) rfl (mk_nh rfl _) ho9 ?_
    refine en_CV_mono h (fun M13 h => ?_) (fun _ _ h => h)
    intro ho14
    replace h := h ho14
    refine en_aload_n mc66_108 rfl ?_
    refine en_iload mc66_109 rfl ?_
    refine en_callV (lz := [mm_r 72, mm_i l4, mm_u, mm_u, mm_u, mm_u, mm_u, mm_u, mm_u, mm_u]) mv66 mc66_111 rfl rfl (lk_m7_164) mv65 rfl (by decide) rfl (mk_cokV rfl (⟨rfl, by decide⟩ : mt_kd[72]? = some (.inl 7) ∧ 72 < 99)) rfl (mk_nh rfl _) ho14 ?_
    refine en_CV_mono h (fun M16 h => ?_) (fun _ _ h => h)
    intro ho17
    replace h := h ho17
    obtain ⟨g18, h⟩ := h
    obtain ⟨g19, h⟩ := h
    obtain ⟨g20, h⟩ := h
    obtain ⟨g21, h⟩ := h
    refine en_aload_n mc66_114 rfl ?_
    refine en_aload_n mc66_115 rfl ?_
    refine en_getR (b := 87) mv66 mc66_116 (lk_f7_52) (⟨rfl, by decide⟩ : mt_kd[72]? = some (.inl 7) ∧ 72 < 99) rfl (mk_fc ho17 (by decide +kernel)) ?_
    refine en_iload mc66_119 rfl ?_
    refine en_iald mc66_121 (⟨rfl, by decide, by decide⟩ : mt_kd[87]? = some (.inr (.int, 1700)) ∧ 87 < 99 ∧ 1700 < 2147483648) g18 g19 ?_
    refine en_aload_n mc66_122 rfl ?_
    refine en_getR (b := 87) mv66 mc66_123 (lk_f7_52) (⟨rfl, by decide⟩ : mt_kd[72]? = some (.inl 7) ∧ 72 < 99) rfl (mk_fc ho17 (by decide +kernel)) ?_
    refine en_iload mc66_126 rfl ?_
    refine en_iconst mc66_128 ?_
    refine en_iadd mc66_129 ?_
    refine en_iald mc66_130 (⟨rfl, by decide, by decide⟩ : mt_kd[87]? = some (.inr (.int, 1700)) ∧ 87 < 99 ∧ 1700 < 2147483648) g20 g21 ?_
    refine en_callV (lz := [mm_r 72, mm_i (M16.1 87 l5), mm_i (M16.1 87 (l5 + 1)), mm_u, mm_u]) mv66 mc66_131 rfl rfl (lk_m7_142) mv38 rfl (by decide) rfl (mk_cokV rfl (⟨rfl, by decide⟩ : mt_kd[72]? = some (.inl 7) ∧ 72 < 99)) rfl (mk_nh rfl _) ho17 ?_
    refine en_CV_mono h (fun M23 h => ?_) (fun _ _ h => h)
    intro ho24
    replace h := h ho24
    refine en_iinc (ls' := [mm_r 72, mm_i l1, mm_i l2, mm_i l3, mm_i l4, mm_i (l5 + 1)]) mc66_134 rfl rfl ?_
    refine en_goto 73 mc66_137 (by decide) ?_
    exact h
/-! 67: CellAreas$Row.flip(II)V -/
theorem mc67_0 : mr_C 67 0 = some (.aload_n 0, 1) := rfl
theorem mc67_1 : mr_C 67 1 = some (.iload_n 1, 1) := rfl
theorem mc67_2 : mr_C 67 2 = some (.iload_n 2, 1) := rfl
theorem mc67_3 : mr_C 67 3 = some (.iconst 1, 1) := rfl
theorem mc67_4 : mr_C 67 4 = some (.invokevirtual 21, 3) := rfl
theorem mc67_7 : mr_C 67 7 = some (.return_, 1) := rfl
theorem vc67_0 {sc : Nat × (Int → Int)} {Q : mm_R → mm_M → Prop} {M : mm_M} {l0 : Nat} {l1 : Int} {l2 : Int} (ho : mr_ok M) (hR_l0 : mr_Rw l0)
    (h : en_CV sc 16 [mm_r l0, mm_i l1, mm_i l2, mm_i 1, mm_u, mm_u, mm_u, mm_u, mm_u] M (fun M2 => mr_ok M2 → Q (.inl none) M2) (fun e M9 => Q (.inr e) M9)) : en_R sc 67 0 [mm_r l0, mm_i l1, mm_i l2] [] M Q := by
  refine en_aload_n mc67_0 rfl ?_
  refine en_iload_n mc67_1 rfl ?_
  refine en_iload_n mc67_2 rfl ?_
  refine en_iconst mc67_3 ?_
  refine en_callV (lz := [mm_r l0, mm_i l1, mm_i l2, mm_i 1, mm_u, mm_u, mm_u, mm_u, mm_u]) mv67 mc67_4 rfl rfl (lk_m5_21) mv16 rfl (by decide) rfl (mk_cokV rfl (mk_R0 hR_l0)) rfl (mk_nh rfl _) ho ?_
  refine en_CV_mono h (fun M2 h => ?_) (fun _ _ h => h)
  intro ho3
  replace h := h ho3
  exact en_vret mv67 mc67_7 rfl h
/-! 68: CellAreas.invert(II)I -/
theorem mc68_0 : mr_C 68 0 = some (.iload_n 1, 1) := rfl
theorem mc68_1 : mr_C 68 1 = some (.invokestatic 61, 3) := rfl
theorem mc68_4 : mr_C 68 4 = some (.iload_n 2, 1) := rfl
theorem mc68_5 : mr_C 68 5 = some (.invokestatic 61, 3) := rfl
theorem mc68_8 : mr_C 68 8 = some (.aload_n 0, 1) := rfl
theorem mc68_9 : mr_C 68 9 = some (.getfield 32, 3) := rfl
theorem mc68_12 : mr_C 68 12 = some (.invokevirtual 69, 3) := rfl
theorem mc68_15 : mr_C 68 15 = some (.aload_n 0, 1) := rfl
theorem mc68_16 : mr_C 68 16 = some (.getfield 11, 3) := rfl
theorem mc68_19 : mr_C 68 19 = some (.iload_n 2, 1) := rfl
theorem mc68_20 : mr_C 68 20 = some (.aaload, 1) := rfl
theorem mc68_21 : mr_C 68 21 = some (.aload_n 0, 1) := rfl
theorem mc68_22 : mr_C 68 22 = some (.getfield 32, 3) := rfl
theorem mc68_25 : mr_C 68 25 = some (.iconst 0, 1) := rfl
theorem mc68_26 : mr_C 68 26 = some (.invokevirtual 91, 3) := rfl
theorem mc68_29 : mr_C 68 29 = some (.aload_n 0, 1) := rfl
theorem mc68_30 : mr_C 68 30 = some (.getfield 18, 3) := rfl
theorem mc68_33 : mr_C 68 33 = some (.invokevirtual 76, 3) := rfl
theorem mc68_36 : mr_C 68 36 = some (.sipush (-1000), 3) := rfl
theorem mc68_39 : mr_C 68 39 = some (.istore 4, 2) := rfl
theorem mc68_41 : mr_C 68 41 = some (.iload 4, 2) := rfl
theorem mc68_43 : mr_C 68 43 = some (.sipush 1000, 3) := rfl
theorem mc68_46 : mr_C 68 46 = some (.if_icmp .ge (80), 3) := rfl
theorem mc68_49 : mr_C 68 49 = some (.aload_n 0, 1) := rfl
theorem mc68_50 : mr_C 68 50 = some (.getfield 18, 3) := rfl
theorem mc68_53 : mr_C 68 53 = some (.getfield 95, 3) := rfl
theorem mc68_56 : mr_C 68 56 = some (.ifCond .ne (70), 3) := rfl
theorem mc68_59 : mr_C 68 59 = some (.iload 4, 2) := rfl
theorem mc68_61 : mr_C 68 61 = some (.iconst 1, 1) := rfl
theorem mc68_62 : mr_C 68 62 = some (.iadd, 1) := rfl
theorem mc68_63 : mr_C 68 63 = some (.aload_n 0, 1) := rfl
theorem mc68_64 : mr_C 68 64 = some (.getfield 32, 3) := rfl
theorem mc68_67 : mr_C 68 67 = some (.iload 4, 2) := rfl
theorem mc68_69 : mr_C 68 69 = some (.iconst 1, 1) := rfl
theorem mc68_70 : mr_C 68 70 = some (.iadd, 1) := rfl
theorem mc68_71 : mr_C 68 71 = some (.invokevirtual 99, 3) := rfl
theorem mc68_74 : mr_C 68 74 = some (.invokestatic 102, 3) := by decide +kernel
theorem mc68_77 : mr_C 68 77 = some (.istore_n 3, 1) := by decide +kernel
theorem mc68_78 : mr_C 68 78 = some (.aload_n 0, 1) := by decide +kernel
theorem mc68_79 : mr_C 68 79 = some (.getfield 11, 3) := by decide +kernel
theorem mc68_82 : mr_C 68 82 = some (.iload_n 2, 1) := by decide +kernel
theorem mc68_83 : mr_C 68 83 = some (.aaload, 1) := by decide +kernel
theorem mc68_84 : mr_C 68 84 = some (.iload 4, 2) := by decide +kernel
theorem mc68_86 : mr_C 68 86 = some (.aload_n 0, 1) := by decide +kernel
theorem mc68_87 : mr_C 68 87 = some (.getfield 25, 3) := by decide +kernel
theorem mc68_90 : mr_C 68 90 = some (.invokestatic 108, 3) := by decide +kernel
theorem mc68_93 : mr_C 68 93 = some (.aload_n 0, 1) := by decide +kernel
theorem mc68_94 : mr_C 68 94 = some (.getfield 25, 3) := by decide +kernel
theorem mc68_97 : mr_C 68 97 = some (.sipush (-1000), 3) := by decide +kernel
theorem mc68_100 : mr_C 68 100 = some (.sipush 1000, 3) := by decide +kernel
theorem mc68_103 : mr_C 68 103 = some (.invokevirtual 115, 3) := by decide +kernel
theorem mc68_106 : mr_C 68 106 = some (.aload_n 0, 1) := by decide +kernel
theorem mc68_107 : mr_C 68 107 = some (.getfield 18, 3) := by decide +kernel
theorem mc68_110 : mr_C 68 110 = some (.iload 4, 2) := by decide +kernel
theorem mc68_112 : mr_C 68 112 = some (.iload_n 3, 1) := by decide +kernel
theorem mc68_113 : mr_C 68 113 = some (.aload_n 0, 1) := by decide +kernel
theorem mc68_114 : mr_C 68 114 = some (.getfield 25, 3) := by decide +kernel
theorem mc68_117 : mr_C 68 117 = some (.invokevirtual 79, 3) := by decide +kernel
theorem mc68_120 : mr_C 68 120 = some (.iload_n 3, 1) := by decide +kernel
theorem mc68_121 : mr_C 68 121 = some (.istore 4, 2) := by decide +kernel
theorem mc68_123 : mr_C 68 123 = some (.goto (-82), 3) := by decide +kernel
theorem mc68_126 : mr_C 68 126 = some (.aload_n 0, 1) := by decide +kernel
theorem mc68_127 : mr_C 68 127 = some (.iload_n 1, 1) := by decide +kernel
theorem mc68_128 : mr_C 68 128 = some (.invokevirtual 83, 3) := by decide +kernel
theorem mc68_131 : mr_C 68 131 = some (.ireturn, 1) := by decide +kernel
theorem vc68_0 {sc : Nat × (Int → Int)} {Q : mm_R → mm_M → Prop} {M : mm_M} {l1 : Int} {l2 : Int} (ho : mr_ok M)
    (h : en_CV sc 9 [mm_i l1] M (fun M2 => mr_ok M2 → en_CV sc 9 [mm_i l2] M2 (fun M5 => mr_ok M5 → en_CV sc 12 [mm_r 15] M5 (fun M8 => mr_ok M8 → 0 ≤ l2 ∧ (l2 < 8 ∧ (∃ b12, M8.2.1 1 l2 = some b12 ∧ mr_A b12 ∧ (en_CV sc 48 [mm_r b12, mm_r 15, mm_i 0, mm_u] M8 (fun M15 => mr_ok M15 → en_CV sc 18 [mm_r 2] M15 (fun M18 => mr_ok M18 → en_R sc 68 41 [mm_r 0, mm_i l1, mm_i l2, mm_u, mm_i (-1000)] [] M18 Q) (fun e M9 => Q (.inr e) M9)) (fun e M9 => Q (.inr e) M9))))) (fun e M9 => Q (.inr e) M9)) (fun e M9 => Q (.inr e) M9)) (fun e M9 => Q (.inr e) M9)) : en_R sc 68 0 [mm_r 0, mm_i l1, mm_i l2, mm_u, mm_u] [] M Q := by
  refine en_iload_n mc68_0 rfl ?_
  refine en_callV (lz := [mm_i l1]) mv68 mc68_1 rfl rfl (lk_m6_61) mv9 rfl (by decide) rfl (mk_cokS rfl) rfl (mk_nh rfl _) ho ?_
  refine en_CV_mono h (fun M2 h => ?_) (fun _ _ h => h)
  intro ho3
  replace h := h ho3
  refine en_iload_n mc68_4 rfl ?_
  refine en_callV (lz := [mm_i l2]) mv68 mc68_5 rfl rfl (lk_m6_61) mv9 rfl (by decide) rfl (mk_cokS rfl) rfl (mk_nh rfl _) ho3 ?_
  refine en_CV_mono h (fun M5 h => ?_) (fun _ _ h => h)
  intro ho6
  replace h := h ho6
  refine en_aload_n mc68_8 rfl ?_
  refine en_getR (b := 15) mv68 mc68_9 (lk_f6_32) (⟨rfl, by decide⟩ : mt_kd[0]? = some (.inl 6) ∧ 0 < 99) rfl (mk_fc ho6 (by decide +kernel)) ?_
  refine en_callV (lz := [mm_r 15]) mv68 mc68_12 rfl rfl (lk_m6_69) mv12 rfl (by decide) rfl (mk_cokV rfl (mk_R0 (by unfold mr_Rw; decide : mr_Rw 15))) rfl (mk_nh rfl _) ho6 ?_
  refine en_CV_mono h (fun M8 h => ?_) (fun _ _ h => h)
  intro ho9
  replace h := h ho9
  obtain ⟨g10, h⟩ := h
  obtain ⟨g11, h⟩ := h
  refine en_aload_n mc68_15 rfl ?_
  refine en_getR (b := 1) mv68 mc68_16 (lk_f6_11) (⟨rfl, by decide⟩ : mt_kd[0]? = some (.inl 6) ∧ 0 < 99) rfl (mk_fc ho9 (by decide +kernel)) ?_
  refine en_iload_n mc68_19 rfl ?_
  obtain ⟨b12, g13, hA_b12_, h⟩ := h
  refine en_aald mc68_20 g10 g11 g13 ?_
  refine en_aload_n mc68_21 rfl ?_
  refine en_getR (b := 15) mv68 mc68_22 (lk_f6_32) (⟨rfl, by decide⟩ : mt_kd[0]? = some (.inl 6) ∧ 0 < 99) rfl (mk_fc ho9 (by decide +kernel)) ?_
  refine en_iconst mc68_25 ?_
  refine en_callV (lz := [mm_r b12, mm_r 15, mm_i 0, mm_u]) mv68 mc68_26 rfl rfl (lk_m6_91) mv48 rfl (by decide) rfl (mk_cokV rfl (mk_A0 hA_b12_)) rfl (mk_nh rfl _) ho9 ?_
  refine en_CV_mono h (fun M15 h => ?_) (fun _ _ h => h)
  intro ho16
  replace h := h ho16
  refine en_aload_n mc68_29 rfl ?_
  refine en_getR (b := 2) mv68 mc68_30 (lk_f6_18) (⟨rfl, by decide⟩ : mt_kd[0]? = some (.inl 6) ∧ 0 < 99) rfl (mk_fc ho16 (by decide +kernel)) ?_
  refine en_callV (lz := [mm_r 2]) mv68 mc68_33 rfl rfl (lk_m6_76) mv18 rfl (by decide) rfl (mk_cokV rfl (⟨rfl, by decide⟩ : mt_kd[2]? = some (.inl 2) ∧ 2 < 99)) rfl (mk_nh rfl _) ho16 ?_
  refine en_CV_mono h (fun M18 h => ?_) (fun _ _ h => h)
  intro ho19
  replace h := h ho19
  refine en_sipush mc68_36 (by decide) ?_
  refine en_istore (ls' := [mm_r 0, mm_i l1, mm_i l2, mm_u, mm_i (-1000)]) mc68_39 (Nat.le_of_ble_eq_true rfl) rfl ?_
  exact h
theorem vc68_41 {sc : Nat × (Int → Int)} {Q : mm_R → mm_M → Prop} {M : mm_M} {l1 : Int} {l2 : Int} {l3 : mm_V} {l4 : Int} (ho : mr_ok M) (hg_l4 : mr_rg l4)
    (h : (1000 ≤ l4 → en_R sc 68 126 [mm_r 0, mm_i l1, mm_i l2, l3, mm_i l4] [] M Q) ∧ (¬ 1000 ≤ l4 → ((M.1 2 2) ≠ 0 → en_R sc 68 126 [mm_r 0, mm_i l1, mm_i l2, l3, mm_i l4] [] M Q) ∧ (¬ ((M.1 2 2) ≠ 0) → en_CI sc 22 [mm_r 15, mm_i (l4 + 1)] M (fun x1 M2 => mr_ok M2 → mr_rg (l4 + 1) ∧ (mr_rg x1 ∧ (0 ≤ l2 ∧ (l2 < 8 ∧ (∃ b8, M2.2.1 1 l2 = some b8 ∧ mr_A b8 ∧ (en_CV sc 53 [mm_r b8, mm_i l4, mm_r 11] M2 (fun M11 => mr_ok M11 → en_CV sc 67 [mm_r 11, mm_i (-1000), mm_i 1000] M11 (fun M14 => mr_ok M14 → en_CV sc 29 [mm_r 2, mm_i l4, mm_i (max (l4 + 1) x1), mm_r 11, mm_u] M14 (fun M17 => mr_ok M17 → en_R sc 68 41 [mm_r 0, mm_i l1, mm_i l2, mm_i (max (l4 + 1) x1), mm_i (max (l4 + 1) x1)] [] M17 Q) (fun e M9 => Q (.inr e) M9)) (fun e M9 => Q (.inr e) M9)) (fun e M9 => Q (.inr e) M9))))))) (fun e M9 => Q (.inr e) M9)))) : en_R sc 68 41 [mm_r 0, mm_i l1, mm_i l2, l3, mm_i l4] [] M Q := by
  refine en_iload mc68_41 rfl ?_
  refine en_sipush mc68_43 (by decide) ?_
  refine en_icmp_ge 126 mc68_46 (by decide) hg_l4 (⟨by decide, by decide⟩ : mr_rg 1000) (fun q => ?_) (fun q => ?_)
  · replace h := h.1 q
    exact h
  · replace h := h.2 q
    refine en_aload_n mc68_49 rfl ?_
    refine en_getR (b := 2) mv68 mc68_50 (lk_f6_18) (⟨rfl, by decide⟩ : mt_kd[0]? = some (.inl 6) ∧ 0 < 99) rfl (mk_fc ho (by decide +kernel)) ?_
    refine en_getI mv68 mc68_53 (lk_f6_95) (⟨rfl, by decide⟩ : mt_kd[2]? = some (.inl 2) ∧ 2 < 99) (Or.inr rfl) ?_
    refine en_if_ne 126 mc68_56 (by decide) (ho.2.1 2 2 (by unfold mr_lg; omega)) (fun q => ?_) (fun q => ?_)
    · replace h := h.1 q
      exact h
    · replace h := h.2 q
      refine en_iload mc68_59 rfl ?_
      refine en_iconst mc68_61 ?_
      refine en_iadd mc68_62 ?_
      refine en_aload_n mc68_63 rfl ?_
      refine en_getR (b := 15) mv68 mc68_64 (lk_f6_32) (⟨rfl, by decide⟩ : mt_kd[0]? = some (.inl 6) ∧ 0 < 99) rfl (mk_fc ho (by decide +kernel)) ?_
      refine en_iload mc68_67 rfl ?_
      refine en_iconst mc68_69 ?_
      refine en_iadd mc68_70 ?_
      refine en_callI (lz := [mm_r 15, mm_i (l4 + 1)]) mv68 mc68_71 rfl rfl (lk_m6_99) mv22 rfl (by decide) rfl (mk_cokV rfl (mk_R0 (by unfold mr_Rw; decide : mr_Rw 15))) rfl (mk_nh rfl _) ho ?_
      refine en_CI_mono h (fun x1 M2 h => ?_) (fun _ _ h => h)
      intro ho3
      replace h := h ho3
      obtain ⟨g4, h⟩ := h
      obtain ⟨g5, h⟩ := h
      obtain ⟨g6, h⟩ := h
      obtain ⟨g7, h⟩ := h
      refine en_max mv68 mc68_74 (lk_m6_102) mv13 rfl ⟨Nat.le_of_ble_eq_true rfl, Nat.le_of_ble_eq_true rfl⟩ g4 g5 ?_
      refine en_istore_n (ls' := [mm_r 0, mm_i l1, mm_i l2, mm_i (max (l4 + 1) x1), mm_i l4]) mc68_77 (Nat.le_of_ble_eq_true rfl) rfl ?_
      refine en_aload_n mc68_78 rfl ?_
      refine en_getR (b := 1) mv68 mc68_79 (lk_f6_11) (⟨rfl, by decide⟩ : mt_kd[0]? = some (.inl 6) ∧ 0 < 99) rfl (mk_fc ho3 (by decide +kernel)) ?_
      refine en_iload_n mc68_82 rfl ?_
      obtain ⟨b8, g9, hA_b8_, h⟩ := h
      refine en_aald mc68_83 g6 g7 g9 ?_
      refine en_iload mc68_84 rfl ?_
      refine en_aload_n mc68_86 rfl ?_
      refine en_getR (b := 11) mv68 mc68_87 (lk_f6_25) (⟨rfl, by decide⟩ : mt_kd[0]? = some (.inl 6) ∧ 0 < 99) rfl (mk_fc ho3 (by decide +kernel)) ?_
      refine en_callV (lz := [mm_r b8, mm_i l4, mm_r 11]) mv68 mc68_90 rfl rfl (lk_m6_108) mv53 rfl (by decide) rfl (mk_cokS rfl) rfl (mk_nh rfl _) ho3 ?_
      refine en_CV_mono h (fun M11 h => ?_) (fun _ _ h => h)
      intro ho12
      replace h := h ho12
      refine en_aload_n mc68_93 rfl ?_
      refine en_getR (b := 11) mv68 mc68_94 (lk_f6_25) (⟨rfl, by decide⟩ : mt_kd[0]? = some (.inl 6) ∧ 0 < 99) rfl (mk_fc ho12 (by decide +kernel)) ?_
      refine en_sipush mc68_97 (by decide) ?_
      refine en_sipush mc68_100 (by decide) ?_
      refine en_callV (lz := [mm_r 11, mm_i (-1000), mm_i 1000]) mv68 mc68_103 rfl rfl (lk_m6_115) mv67 rfl (by decide) rfl (mk_cokV rfl (mk_R0 (by unfold mr_Rw; decide : mr_Rw 11))) rfl (mk_nh rfl _) ho12 ?_
      refine en_CV_mono h (fun M14 h => ?_) (fun _ _ h => h)
      intro ho15
      replace h := h ho15
      refine en_aload_n mc68_106 rfl ?_
      refine en_getR (b := 2) mv68 mc68_107 (lk_f6_18) (⟨rfl, by decide⟩ : mt_kd[0]? = some (.inl 6) ∧ 0 < 99) rfl (mk_fc ho15 (by decide +kernel)) ?_
      refine en_iload mc68_110 rfl ?_
      refine en_iload_n mc68_112 rfl ?_
      refine en_aload_n mc68_113 rfl ?_
      refine en_getR (b := 11) mv68 mc68_114 (lk_f6_25) (⟨rfl, by decide⟩ : mt_kd[0]? = some (.inl 6) ∧ 0 < 99) rfl (mk_fc ho15 (by decide +kernel)) ?_
      refine en_callV (lz := [mm_r 2, mm_i l4, mm_i (max (l4 + 1) x1), mm_r 11, mm_u]) mv68 mc68_117 rfl rfl (lk_m6_79) mv29 rfl (by decide) rfl (mk_cokV rfl (⟨rfl, by decide⟩ : mt_kd[2]? = some (.inl 2) ∧ 2 < 99)) rfl (mk_nh rfl _) ho15 ?_
      refine en_CV_mono h (fun M17 h => ?_) (fun _ _ h => h)
      intro ho18
      replace h := h ho18
      refine en_iload_n mc68_120 rfl ?_
      refine en_istore (ls' := [mm_r 0, mm_i l1, mm_i l2, mm_i (max (l4 + 1) x1), mm_i (max (l4 + 1) x1)]) mc68_121 (Nat.le_of_ble_eq_true rfl) rfl ?_
      refine en_goto 41 mc68_123 (by decide) ?_
      exact h
theorem vc68_126 {sc : Nat × (Int → Int)} {Q : mm_R → mm_M → Prop} {M : mm_M} {l1 : Int} {l2 : Int} {l3 : mm_V} {l4 : Int} (ho : mr_ok M)
    (h : en_CI sc 30 [mm_r 0, mm_i l1, mm_u] M (fun x1 M2 => mr_ok M2 → Q (.inl (some (mm_i x1))) M2) (fun e M9 => Q (.inr e) M9)) : en_R sc 68 126 [mm_r 0, mm_i l1, mm_i l2, l3, mm_i l4] [] M Q := by
  refine en_aload_n mc68_126 rfl ?_
  refine en_iload_n mc68_127 rfl ?_
  refine en_callI (lz := [mm_r 0, mm_i l1, mm_u]) mv68 mc68_128 rfl rfl (lk_m6_83) mv30 rfl (by decide) rfl (mk_cokV rfl (⟨rfl, by decide⟩ : mt_kd[0]? = some (.inl 6) ∧ 0 < 99)) rfl (mk_nh rfl _) ho ?_
  refine en_CI_mono h (fun x1 M2 h => ?_) (fun _ _ h => h)
  intro ho3
  replace h := h ho3
  exact en_iret mv68 mc68_131 rfl h
/-! 70: CellAreasModel.areAreas(II)Z -/
theorem mc70_0 : mr_C 70 0 = some (.aload_n 0, 1) := rfl
theorem mc70_1 : mr_C 70 1 = some (.aload_n 0, 1) := rfl
theorem mc70_2 : mr_C 70 2 = some (.iload_n 1, 1) := rfl
theorem mc70_3 : mr_C 70 3 = some (.invokevirtual 131, 3) := rfl
theorem mc70_6 : mr_C 70 6 = some (.ifCond .eq (15), 3) := rfl
theorem mc70_9 : mr_C 70 9 = some (.aload_n 0, 1) := rfl
theorem mc70_10 : mr_C 70 10 = some (.iload_n 2, 1) := rfl
theorem mc70_11 : mr_C 70 11 = some (.invokevirtual 131, 3) := rfl
theorem mc70_14 : mr_C 70 14 = some (.ifCond .eq (7), 3) := rfl
theorem mc70_17 : mr_C 70 17 = some (.iconst 0, 1) := rfl
theorem mc70_18 : mr_C 70 18 = some (.goto 4, 3) := rfl
theorem mc70_21 : mr_C 70 21 = some (.iconst 1, 1) := rfl
theorem mc70_22 : mr_C 70 22 = some (.putfield 89, 3) := rfl
theorem mc70_25 : mr_C 70 25 = some (.aload_n 0, 1) := rfl
theorem mc70_26 : mr_C 70 26 = some (.getfield 89, 3) := rfl
theorem mc70_29 : mr_C 70 29 = some (.ifCond .ne (7), 3) := rfl
theorem mc70_32 : mr_C 70 32 = some (.iconst 1, 1) := rfl
theorem mc70_33 : mr_C 70 33 = some (.goto 4, 3) := rfl
theorem mc70_36 : mr_C 70 36 = some (.iconst 0, 1) := rfl
theorem mc70_37 : mr_C 70 37 = some (.ireturn, 1) := rfl
theorem vc70_0 {sc : Nat × (Int → Int)} {Q : mm_R → mm_M → Prop} {M : mm_M} {l1 : Int} {l2 : Int} (ho : mr_ok M)
    (h : en_CI sc 34 [mm_r 72, mm_i l1] M (fun x1 M2 => mr_ok M2 → mr_rg x1 ∧ ((x1 = 0 → en_R sc 70 21 [mm_r 72, mm_i l1, mm_i l2] [mm_r 72] M2 Q) ∧ (¬ x1 = 0 → en_CI sc 34 [mm_r 72, mm_i l2] M2 (fun x5 M6 => mr_ok M6 → mr_rg x5 ∧ ((x5 = 0 → en_R sc 70 21 [mm_r 72, mm_i l1, mm_i l2] [mm_r 72] M6 Q) ∧ (¬ x5 = 0 → en_R sc 70 22 [mm_r 72, mm_i l1, mm_i l2] [mm_i 0, mm_r 72] M6 Q))) (fun e M9 => Q (.inr e) M9)))) (fun e M9 => Q (.inr e) M9)) : en_R sc 70 0 [mm_r 72, mm_i l1, mm_i l2] [] M Q := by
  refine en_aload_n mc70_0 rfl ?_
  refine en_aload_n mc70_1 rfl ?_
  refine en_iload_n mc70_2 rfl ?_
  refine en_callI (lz := [mm_r 72, mm_i l1]) mv70 mc70_3 rfl rfl (lk_m7_131) mv34 rfl (by decide) rfl (mk_cokV rfl (⟨rfl, by decide⟩ : mt_kd[72]? = some (.inl 7) ∧ 72 < 99)) rfl (mk_nh rfl _) ho ?_
  refine en_CI_mono h (fun x1 M2 h => ?_) (fun _ _ h => h)
  intro ho3
  replace h := h ho3
  obtain ⟨g4, h⟩ := h
  refine en_if_eq 21 mc70_6 (by decide) g4 (fun q => ?_) (fun q => ?_)
  · replace h := h.1 q
    exact h
  · replace h := h.2 q
    refine en_aload_n mc70_9 rfl ?_
    refine en_iload_n mc70_10 rfl ?_
    refine en_callI (lz := [mm_r 72, mm_i l2]) mv70 mc70_11 rfl rfl (lk_m7_131) mv34 rfl (by decide) rfl (mk_cokV rfl (⟨rfl, by decide⟩ : mt_kd[72]? = some (.inl 7) ∧ 72 < 99)) rfl (mk_nh rfl _) ho3 ?_
    refine en_CI_mono h (fun x5 M6 h => ?_) (fun _ _ h => h)
    intro ho7
    replace h := h ho7
    obtain ⟨g8, h⟩ := h
    refine en_if_eq 21 mc70_14 (by decide) g8 (fun q => ?_) (fun q => ?_)
    · replace h := h.1 q
      exact h
    · replace h := h.2 q
      refine en_iconst mc70_17 ?_
      refine en_goto 22 mc70_18 (by decide) ?_
      exact h
theorem vc70_21 {sc : Nat × (Int → Int)} {Q : mm_R → mm_M → Prop} {M : mm_M} {l1 : Int} {l2 : Int} (ho : mr_ok M)
    (h : en_R sc 70 22 [mm_r 72, mm_i l1, mm_i l2] [mm_i 1, mm_r 72] M Q) : en_R sc 70 21 [mm_r 72, mm_i l1, mm_i l2] [mm_r 72] M Q := by
  refine en_iconst mc70_21 ?_
  exact h
theorem vc70_22 {sc : Nat × (Int → Int)} {Q : mm_R → mm_M → Prop} {M : mm_M} {l1 : Int} {l2 : Int} {s1 : Int} (ho : mr_ok M) (hg_s1 : mr_rg s1)
    (h : (((mm_putN M 72 0 s1).1 72 0) ≠ 0 → Q (.inl (some (mm_i 0))) (mm_putN M 72 0 s1)) ∧ (¬ (((mm_putN M 72 0 s1).1 72 0) ≠ 0) → Q (.inl (some (mm_i 1))) (mm_putN M 72 0 s1))) : en_R sc 70 22 [mm_r 72, mm_i l1, mm_i l2] [mm_i s1, mm_r 72] M Q := by
  refine en_putI mv70 mc70_22 (lk_f7_89) (⟨rfl, by decide⟩ : mt_kd[72]? = some (.inl 7) ∧ 72 < 99) rfl rfl hg_s1 ?_
  refine en_aload_n mc70_25 rfl ?_
  refine en_getI mv70 mc70_26 (lk_f7_89) (⟨rfl, by decide⟩ : mt_kd[72]? = some (.inl 7) ∧ 72 < 99) (Or.inl rfl) ?_
  refine en_if_ne 36 mc70_29 (by decide) ((mr_ok_putI (a := 72) (k := 0) ho hg_s1).2.1 72 0 (by unfold mr_lg; omega)) (fun q => ?_) (fun q => ?_)
  · replace h := h.1 q
    refine en_iconst mc70_36 ?_
    exact en_zret mv70 mc70_37 rfl (by decide) h
  · replace h := h.2 q
    refine en_iconst mc70_32 ?_
    refine en_goto 37 mc70_33 (by decide) ?_
    exact en_zret mv70 mc70_37 rfl (by decide) h
/-! 71: CellAreasModel.invert(II)I -/
theorem mc71_0 : mr_C 71 0 = some (.aload_n 0, 1) := rfl
theorem mc71_1 : mr_C 71 1 = some (.iload_n 1, 1) := rfl
theorem mc71_2 : mr_C 71 2 = some (.iload_n 2, 1) := rfl
theorem mc71_3 : mr_C 71 3 = some (.invokevirtual 167, 3) := rfl
theorem mc71_6 : mr_C 71 6 = some (.ifCond .ne (5), 3) := rfl
theorem mc71_9 : mr_C 71 9 = some (.iconst 0, 1) := rfl
theorem mc71_10 : mr_C 71 10 = some (.ireturn, 1) := rfl
theorem mc71_11 : mr_C 71 11 = some (.aload_n 0, 1) := rfl
theorem mc71_12 : mr_C 71 12 = some (.invokevirtual 139, 3) := rfl
theorem mc71_15 : mr_C 71 15 = some (.aload_n 0, 1) := rfl
theorem mc71_16 : mr_C 71 16 = some (.iload_n 2, 1) := rfl
theorem mc71_17 : mr_C 71 17 = some (.invokevirtual 155, 3) := rfl
theorem mc71_20 : mr_C 71 20 = some (.aload_n 0, 1) := rfl
theorem mc71_21 : mr_C 71 21 = some (.sipush (-1000), 3) := rfl
theorem mc71_24 : mr_C 71 24 = some (.invokevirtual 151, 3) := rfl
theorem mc71_27 : mr_C 71 27 = some (.aload_n 0, 1) := rfl
theorem mc71_28 : mr_C 71 28 = some (.sipush 1000, 3) := rfl
theorem mc71_31 : mr_C 71 31 = some (.invokevirtual 151, 3) := rfl
theorem mc71_34 : mr_C 71 34 = some (.iconst 0, 1) := rfl
theorem mc71_35 : mr_C 71 35 = some (.istore_n 3, 1) := rfl
theorem mc71_36 : mr_C 71 36 = some (.iload_n 3, 1) := rfl
theorem mc71_37 : mr_C 71 37 = some (.iconst 1, 1) := rfl
theorem mc71_38 : mr_C 71 38 = some (.iadd, 1) := rfl
theorem mc71_39 : mr_C 71 39 = some (.aload_n 0, 1) := rfl
theorem mc71_40 : mr_C 71 40 = some (.getfield 97, 3) := rfl
theorem mc71_43 : mr_C 71 43 = some (.if_icmp .ge (66), 3) := rfl
theorem mc71_46 : mr_C 71 46 = some (.aload_n 0, 1) := rfl
theorem mc71_47 : mr_C 71 47 = some (.iconst 1, 1) := rfl
theorem mc71_48 : mr_C 71 48 = some (.putfield 115, 3) := rfl
theorem mc71_51 : mr_C 71 51 = some (.aload_n 0, 1) := rfl
theorem mc71_52 : mr_C 71 52 = some (.getfield 34, 3) := rfl
theorem mc71_55 : mr_C 71 55 = some (.iconst 0, 1) := rfl
theorem mc71_56 : mr_C 71 56 = some (.sipush (-1000), 3) := rfl
theorem mc71_59 : mr_C 71 59 = some (.iastore, 1) := rfl
theorem mc71_60 : mr_C 71 60 = some (.aload_n 0, 1) := rfl
theorem mc71_61 : mr_C 71 61 = some (.getfield 37, 3) := by decide +kernel
theorem mc71_64 : mr_C 71 64 = some (.iconst 0, 1) := by decide +kernel
theorem mc71_65 : mr_C 71 65 = some (.sipush 1000, 3) := by decide +kernel
theorem mc71_68 : mr_C 71 68 = some (.iastore, 1) := by decide +kernel
theorem mc71_69 : mr_C 71 69 = some (.aload_n 0, 1) := by decide +kernel
theorem mc71_70 : mr_C 71 70 = some (.iload_n 2, 1) := by decide +kernel
theorem mc71_71 : mr_C 71 71 = some (.aload_n 0, 1) := by decide +kernel
theorem mc71_72 : mr_C 71 72 = some (.getfield 52, 3) := by decide +kernel
theorem mc71_75 : mr_C 71 75 = some (.iload_n 3, 1) := by decide +kernel
theorem mc71_76 : mr_C 71 76 = some (.iaload, 1) := by decide +kernel
theorem mc71_77 : mr_C 71 77 = some (.invokevirtual 161, 3) := by decide +kernel
theorem mc71_80 : mr_C 71 80 = some (.aload_n 0, 1) := by decide +kernel
theorem mc71_81 : mr_C 71 81 = some (.iconst 2, 1) := by decide +kernel
theorem mc71_82 : mr_C 71 82 = some (.invokevirtual 164, 3) := by decide +kernel
theorem mc71_85 : mr_C 71 85 = some (.aload_n 0, 1) := by decide +kernel
theorem mc71_86 : mr_C 71 86 = some (.aload_n 0, 1) := by decide +kernel
theorem mc71_87 : mr_C 71 87 = some (.getfield 52, 3) := by decide +kernel
theorem mc71_90 : mr_C 71 90 = some (.iload_n 3, 1) := by decide +kernel
theorem mc71_91 : mr_C 71 91 = some (.iaload, 1) := by decide +kernel
theorem mc71_92 : mr_C 71 92 = some (.aload_n 0, 1) := by decide +kernel
theorem mc71_93 : mr_C 71 93 = some (.getfield 52, 3) := by decide +kernel
theorem mc71_96 : mr_C 71 96 = some (.iload_n 3, 1) := by decide +kernel
theorem mc71_97 : mr_C 71 97 = some (.iconst 1, 1) := by decide +kernel
theorem mc71_98 : mr_C 71 98 = some (.iadd, 1) := by decide +kernel
theorem mc71_99 : mr_C 71 99 = some (.iaload, 1) := by decide +kernel
theorem mc71_100 : mr_C 71 100 = some (.invokevirtual 142, 3) := by decide +kernel
theorem mc71_103 : mr_C 71 103 = some (.iinc 3 (1), 3) := by decide +kernel
theorem mc71_106 : mr_C 71 106 = some (.goto (-70), 3) := by decide +kernel
theorem mc71_109 : mr_C 71 109 = some (.aload_n 0, 1) := by decide +kernel
theorem mc71_110 : mr_C 71 110 = some (.iload_n 1, 1) := by decide +kernel
theorem mc71_111 : mr_C 71 111 = some (.invokevirtual 145, 3) := by decide +kernel
theorem mc71_114 : mr_C 71 114 = some (.ireturn, 1) := by decide +kernel
theorem vc71_0 {sc : Nat × (Int → Int)} {Q : mm_R → mm_M → Prop} {M : mm_M} {l1 : Int} {l2 : Int} (ho : mr_ok M)
    (h : en_CI sc 70 [mm_r 72, mm_i l1, mm_i l2] M (fun x1 M2 => mr_ok M2 → mr_rg x1 ∧ ((x1 ≠ 0 → en_CV sc 35 [mm_r 72] M2 (fun M6 => mr_ok M6 → en_CV sc 59 [mm_r 72, mm_i l2, mm_u] M6 (fun M9 => mr_ok M9 → en_CV sc 58 [mm_r 72, mm_i (-1000), mm_u, mm_u, mm_u] M9 (fun M12 => mr_ok M12 → en_CV sc 58 [mm_r 72, mm_i 1000, mm_u, mm_u, mm_u] M12 (fun M15 => mr_ok M15 → en_R sc 71 36 [mm_r 72, mm_i l1, mm_i l2, mm_i 0] [] M15 Q) (fun e M9 => Q (.inr e) M9)) (fun e M9 => Q (.inr e) M9)) (fun e M9 => Q (.inr e) M9)) (fun e M9 => Q (.inr e) M9)) ∧ (¬ (x1 ≠ 0) → Q (.inl (some (mm_i 0))) M2))) (fun e M9 => Q (.inr e) M9)) : en_R sc 71 0 [mm_r 72, mm_i l1, mm_i l2, mm_u] [] M Q := by
  refine en_aload_n mc71_0 rfl ?_
  refine en_iload_n mc71_1 rfl ?_
  refine en_iload_n mc71_2 rfl ?_
  refine en_callI (lz := [mm_r 72, mm_i l1, mm_i l2]) mv71 mc71_3 rfl rfl (lk_m7_167) mv70 rfl (by decide) rfl (mk_cokV rfl (⟨rfl, by decide⟩ : mt_kd[72]? = some (.inl 7) ∧ 72 < 99)) rfl (mk_nh rfl _) ho ?_
  refine en_CI_mono h (fun x1 M2 h => ?_) (fun _ _ h => h)
  intro ho3
  replace h := h ho3
  obtain ⟨g4, h⟩ := h
  refine en_if_ne 11 mc71_6 (by decide) g4 (fun q => ?_) (fun q => ?_)
  · replace h := h.1 q
    refine en_aload_n mc71_11 rfl ?_
    refine en_callV (lz := [mm_r 72]) mv71 mc71_12 rfl rfl (lk_m7_139) mv35 rfl (by decide) rfl (mk_cokV rfl (⟨rfl, by decide⟩ : mt_kd[72]? = some (.inl 7) ∧ 72 < 99)) rfl (mk_nh rfl _) ho3 ?_
    refine en_CV_mono h (fun M6 h => ?_) (fun _ _ h => h)
    intro ho7
    replace h := h ho7
    refine en_aload_n mc71_15 rfl ?_
    refine en_iload_n mc71_16 rfl ?_
    refine en_callV (lz := [mm_r 72, mm_i l2, mm_u]) mv71 mc71_17 rfl rfl (lk_m7_155) mv59 rfl (by decide) rfl (mk_cokV rfl (⟨rfl, by decide⟩ : mt_kd[72]? = some (.inl 7) ∧ 72 < 99)) rfl (mk_nh rfl _) ho7 ?_
    refine en_CV_mono h (fun M9 h => ?_) (fun _ _ h => h)
    intro ho10
    replace h := h ho10
    refine en_aload_n mc71_20 rfl ?_
    refine en_sipush mc71_21 (by decide) ?_
    refine en_callV (lz := [mm_r 72, mm_i (-1000), mm_u, mm_u, mm_u]) mv71 mc71_24 rfl rfl (lk_m7_151) mv58 rfl (by decide) rfl (mk_cokV rfl (⟨rfl, by decide⟩ : mt_kd[72]? = some (.inl 7) ∧ 72 < 99)) rfl (mk_nh rfl _) ho10 ?_
    refine en_CV_mono h (fun M12 h => ?_) (fun _ _ h => h)
    intro ho13
    replace h := h ho13
    refine en_aload_n mc71_27 rfl ?_
    refine en_sipush mc71_28 (by decide) ?_
    refine en_callV (lz := [mm_r 72, mm_i 1000, mm_u, mm_u, mm_u]) mv71 mc71_31 rfl rfl (lk_m7_151) mv58 rfl (by decide) rfl (mk_cokV rfl (⟨rfl, by decide⟩ : mt_kd[72]? = some (.inl 7) ∧ 72 < 99)) rfl (mk_nh rfl _) ho13 ?_
    refine en_CV_mono h (fun M15 h => ?_) (fun _ _ h => h)
    intro ho16
    replace h := h ho16
    refine en_iconst mc71_34 ?_
    refine en_istore_n (ls' := [mm_r 72, mm_i l1, mm_i l2, mm_i 0]) mc71_35 (Nat.le_of_ble_eq_true rfl) rfl ?_
    exact h
  · replace h := h.2 q
    refine en_iconst mc71_9 ?_
    exact en_iret mv71 mc71_10 rfl h
theorem vc71_36 {sc : Nat × (Int → Int)} {Q : mm_R → mm_M → Prop} {M : mm_M} {l1 : Int} {l2 : Int} {l3 : Int} (ho : mr_ok M)
    (h : mr_rg (l3 + 1) ∧ (((M.1 72 19) ≤ (l3 + 1) → en_CI sc 39 [mm_r 72, mm_i l1, mm_u] M (fun x2 M3 => mr_ok M3 → Q (.inl (some (mm_i x2))) M3) (fun e M9 => Q (.inr e) M9)) ∧ (¬ (M.1 72 19) ≤ (l3 + 1) → 0 ≤ l3 ∧ (l3 < 1700 ∧ (en_CV sc 62 [mm_r 72, mm_i l2, mm_i ((mm_putN (mm_putN (mm_putN M 72 11 1) 81 0 (-1000)) 82 0 1000).1 87 l3), mm_u, mm_u] (mm_putN (mm_putN (mm_putN M 72 11 1) 81 0 (-1000)) 82 0 1000) (fun M8 => mr_ok M8 → en_CV sc 65 [mm_r 72, mm_i 2, mm_u, mm_u, mm_u, mm_u, mm_u, mm_u, mm_u, mm_u] M8 (fun M11 => mr_ok M11 → 0 ≤ l3 ∧ (l3 < 1700 ∧ (0 ≤ (l3 + 1) ∧ ((l3 + 1) < 1700 ∧ (en_CV sc 38 [mm_r 72, mm_i (M11.1 87 l3), mm_i (M11.1 87 (l3 + 1)), mm_u, mm_u] M11 (fun M18 => mr_ok M18 → en_R sc 71 36 [mm_r 72, mm_i l1, mm_i l2, mm_i (l3 + 1)] [] M18 Q) (fun e M9 => Q (.inr e) M9)))))) (fun e M9 => Q (.inr e) M9)) (fun e M9 => Q (.inr e) M9)))))) : en_R sc 71 36 [mm_r 72, mm_i l1, mm_i l2, mm_i l3] [] M Q := by
  obtain ⟨g1, h⟩ := h
  refine en_iload_n mc71_36 rfl ?_
  refine en_iconst mc71_37 ?_
  refine en_iadd mc71_38 ?_
  refine en_aload_n mc71_39 rfl ?_
  refine en_getI mv71 mc71_40 (lk_f7_97) (⟨rfl, by decide⟩ : mt_kd[72]? = some (.inl 7) ∧ 72 < 99) (Or.inl rfl) ?_
  refine en_icmp_ge 109 mc71_43 (by decide) g1 (ho.2.1 72 19 (by unfold mr_lg; omega)) (fun q => ?_) (fun q => ?_)
  · replace h := h.1 q
    refine en_aload_n mc71_109 rfl ?_
    refine en_iload_n mc71_110 rfl ?_
    refine en_callI (lz := [mm_r 72, mm_i l1, mm_u]) mv71 mc71_111 rfl rfl (lk_m7_145) mv39 rfl (by decide) rfl (mk_cokV rfl (⟨rfl, by decide⟩ : mt_kd[72]? = some (.inl 7) ∧ 72 < 99)) rfl (mk_nh rfl _) ho ?_
    refine en_CI_mono h (fun x2 M3 h => ?_) (fun _ _ h => h)
    intro ho4
    replace h := h ho4
    exact en_iret mv71 mc71_114 rfl h
  · replace h := h.2 q
    obtain ⟨g5, h⟩ := h
    obtain ⟨g6, h⟩ := h
    refine en_aload_n mc71_46 rfl ?_
    refine en_iconst mc71_47 ?_
    refine en_putI mv71 mc71_48 (lk_f7_115) (⟨rfl, by decide⟩ : mt_kd[72]? = some (.inl 7) ∧ 72 < 99) rfl rfl (⟨by decide, by decide⟩ : mr_rg 1) ?_
    refine en_aload_n mc71_51 rfl ?_
    refine en_getR (b := 81) mv71 mc71_52 (lk_f7_34) (⟨rfl, by decide⟩ : mt_kd[72]? = some (.inl 7) ∧ 72 < 99) rfl (mk_fc (mr_ok_putI (a := 72) (k := 11) ho (⟨by decide, by decide⟩ : mr_rg 1)) (by decide +kernel)) ?_
    refine en_iconst mc71_55 ?_
    refine en_sipush mc71_56 (by decide) ?_
    refine en_iast mc71_59 (⟨rfl, by decide, by decide⟩ : mt_kd[81]? = some (.inr (.int, 1200)) ∧ 81 < 99 ∧ 1200 < 2147483648) (by decide) (by decide) (⟨by decide, by decide⟩ : mr_rg (-1000)) ?_
    refine en_aload_n mc71_60 rfl ?_
    refine en_getR (b := 82) mv71 mc71_61 (lk_f7_37) (⟨rfl, by decide⟩ : mt_kd[72]? = some (.inl 7) ∧ 72 < 99) rfl (mk_fc (mr_ok_putI (a := 81) (k := 0) (mr_ok_putI (a := 72) (k := 11) ho (⟨by decide, by decide⟩ : mr_rg 1)) (⟨by decide, by decide⟩ : mr_rg (-1000))) (by decide +kernel)) ?_
    refine en_iconst mc71_64 ?_
    refine en_sipush mc71_65 (by decide) ?_
    refine en_iast mc71_68 (⟨rfl, by decide, by decide⟩ : mt_kd[82]? = some (.inr (.int, 1200)) ∧ 82 < 99 ∧ 1200 < 2147483648) (by decide) (by decide) (⟨by decide, by decide⟩ : mr_rg 1000) ?_
    refine en_aload_n mc71_69 rfl ?_
    refine en_iload_n mc71_70 rfl ?_
    refine en_aload_n mc71_71 rfl ?_
    refine en_getR (b := 87) mv71 mc71_72 (lk_f7_52) (⟨rfl, by decide⟩ : mt_kd[72]? = some (.inl 7) ∧ 72 < 99) rfl (mk_fc (mr_ok_putI (a := 82) (k := 0) (mr_ok_putI (a := 81) (k := 0) (mr_ok_putI (a := 72) (k := 11) ho (⟨by decide, by decide⟩ : mr_rg 1)) (⟨by decide, by decide⟩ : mr_rg (-1000))) (⟨by decide, by decide⟩ : mr_rg 1000)) (by decide +kernel)) ?_
    refine en_iload_n mc71_75 rfl ?_
    refine en_iald mc71_76 (⟨rfl, by decide, by decide⟩ : mt_kd[87]? = some (.inr (.int, 1700)) ∧ 87 < 99 ∧ 1700 < 2147483648) g5 g6 ?_
    refine en_callV (lz := [mm_r 72, mm_i l2, mm_i ((mm_putN (mm_putN (mm_putN M 72 11 1) 81 0 (-1000)) 82 0 1000).1 87 l3), mm_u, mm_u]) mv71 mc71_77 rfl rfl (lk_m7_161) mv62 rfl (by decide) rfl (mk_cokV rfl (⟨rfl, by decide⟩ : mt_kd[72]? = some (.inl 7) ∧ 72 < 99)) rfl (mk_nh rfl _) (mr_ok_putI (a := 82) (k := 0) (mr_ok_putI (a := 81) (k := 0) (mr_ok_putI (a := 72) (k := 11) ho (⟨by decide, by decide⟩ : mr_rg 1)) (⟨by decide, by decide⟩ : mr_rg (-1000))) (⟨by decide, by decide⟩ : mr_rg 1000)) ?_
    refine en_CV_mono h (fun M8 h => ?_) (fun _ _ h => h)
    intro ho9
    replace h := h ho9
    refine en_aload_n mc71_80 rfl ?_
    refine en_iconst mc71_81 ?_
    refine en_callV (lz := [mm_r 72, mm_i 2, mm_u, mm_u, mm_u, mm_u, mm_u, mm_u, mm_u, mm_u]) mv71 mc71_82 rfl rfl (lk_m7_164) mv65 rfl (by decide) rfl (mk_cokV rfl (⟨rfl, by decide⟩ : mt_kd[72]? = some (.inl 7) ∧ 72 < 99)) rfl (mk_nh rfl _) ho9 ?_
    refine en_CV_mono h (fun M11 h => ?_) (fun _ _ h => h)
    intro ho12
    replace h := h ho12
    obtain ⟨g13, h⟩ := h
    obtain ⟨g14, h⟩ := h
    obtain ⟨g15, h⟩ := h
    obtain ⟨g16, h⟩ := h
    refine en_aload_n mc71_85 rfl ?_
    refine en_aload_n mc71_86 rfl ?_
    refine en_getR (b := 87) mv71 mc71_87 (lk_f7_52) (⟨rfl, by decide⟩ : mt_kd[72]? = some (.inl 7) ∧ 72 < 99) rfl (mk_fc ho12 (by decide +kernel)) ?_
    refine en_iload_n mc71_90 rfl ?_
    refine en_iald mc71_91 (⟨rfl, by decide, by decide⟩ : mt_kd[87]? = some (.inr (.int, 1700)) ∧ 87 < 99 ∧ 1700 < 2147483648) g13 g14 ?_
    refine en_aload_n mc71_92 rfl ?_
    refine en_getR (b := 87) mv71 mc71_93 (lk_f7_52) (⟨rfl, by decide⟩ : mt_kd[72]? = some (.inl 7) ∧ 72 < 99) rfl (mk_fc ho12 (by decide +kernel)) ?_
    refine en_iload_n mc71_96 rfl ?_
    refine en_iconst mc71_97 ?_
    refine en_iadd mc71_98 ?_
    refine en_iald mc71_99 (⟨rfl, by decide, by decide⟩ : mt_kd[87]? = some (.inr (.int, 1700)) ∧ 87 < 99 ∧ 1700 < 2147483648) g15 g16 ?_
    refine en_callV (lz := [mm_r 72, mm_i (M11.1 87 l3), mm_i (M11.1 87 (l3 + 1)), mm_u, mm_u]) mv71 mc71_100 rfl rfl (lk_m7_142) mv38 rfl (by decide) rfl (mk_cokV rfl (⟨rfl, by decide⟩ : mt_kd[72]? = some (.inl 7) ∧ 72 < 99)) rfl (mk_nh rfl _) ho12 ?_
    refine en_CV_mono h (fun M18 h => ?_) (fun _ _ h => h)
    intro ho19
    replace h := h ho19
    refine en_iinc (ls' := [mm_r 72, mm_i l1, mm_i l2, mm_i (l3 + 1)]) mc71_103 rfl rfl ?_
    refine en_goto 36 mc71_106 (by decide) ?_
    exact h
/-! 72: CellAreas.move(IIII)I -/
theorem mc72_0 : mr_C 72 0 = some (.iload_n 1, 1) := rfl
theorem mc72_1 : mr_C 72 1 = some (.invokestatic 61, 3) := rfl
theorem mc72_4 : mr_C 72 4 = some (.iload_n 2, 1) := rfl
theorem mc72_5 : mr_C 72 5 = some (.invokestatic 61, 3) := rfl
theorem mc72_8 : mr_C 72 8 = some (.iload_n 3, 1) := rfl
theorem mc72_9 : mr_C 72 9 = some (.sipush (-2000), 3) := rfl
theorem mc72_12 : mr_C 72 12 = some (.sipush 2000, 3) := rfl
theorem mc72_15 : mr_C 72 15 = some (.invokestatic 65, 3) := rfl
theorem mc72_18 : mr_C 72 18 = some (.iload 4, 2) := rfl
theorem mc72_20 : mr_C 72 20 = some (.sipush (-2000), 3) := rfl
theorem mc72_23 : mr_C 72 23 = some (.sipush 2000, 3) := rfl
theorem mc72_26 : mr_C 72 26 = some (.invokestatic 65, 3) := rfl
theorem mc72_29 : mr_C 72 29 = some (.aload_n 0, 1) := rfl
theorem mc72_30 : mr_C 72 30 = some (.getfield 11, 3) := rfl
theorem mc72_33 : mr_C 72 33 = some (.iload_n 2, 1) := rfl
theorem mc72_34 : mr_C 72 34 = some (.aaload, 1) := rfl
theorem mc72_35 : mr_C 72 35 = some (.astore 5, 2) := rfl
theorem mc72_37 : mr_C 72 37 = some (.aload_n 0, 1) := rfl
theorem mc72_38 : mr_C 72 38 = some (.getfield 18, 3) := rfl
theorem mc72_41 : mr_C 72 41 = some (.invokevirtual 76, 3) := rfl
theorem mc72_44 : mr_C 72 44 = some (.iconst 0, 1) := rfl
theorem mc72_45 : mr_C 72 45 = some (.istore 6, 2) := rfl
theorem mc72_47 : mr_C 72 47 = some (.iload 6, 2) := rfl
theorem mc72_49 : mr_C 72 49 = some (.aload 5, 2) := rfl
theorem mc72_51 : mr_C 72 51 = some (.getfield 118, 3) := rfl
theorem mc72_54 : mr_C 72 54 = some (.if_icmp .ge (75), 3) := rfl
theorem mc72_57 : mr_C 72 57 = some (.aload_n 0, 1) := rfl
theorem mc72_58 : mr_C 72 58 = some (.getfield 25, 3) := rfl
theorem mc72_61 : mr_C 72 61 = some (.invokevirtual 69, 3) := rfl
theorem mc72_64 : mr_C 72 64 = some (.aload 5, 2) := rfl
theorem mc72_66 : mr_C 72 66 = some (.iload 6, 2) := rfl
theorem mc72_68 : mr_C 72 68 = some (.aload_n 0, 1) := rfl
theorem mc72_69 : mr_C 72 69 = some (.getfield 25, 3) := rfl
theorem mc72_72 : mr_C 72 72 = some (.iload_n 3, 1) := rfl
theorem mc72_73 : mr_C 72 73 = some (.ineg, 1) := by decide +kernel
theorem mc72_74 : mr_C 72 74 = some (.iload_n 3, 1) := by decide +kernel
theorem mc72_75 : mr_C 72 75 = some (.invokevirtual 121, 3) := by decide +kernel
theorem mc72_78 : mr_C 72 78 = some (.aload_n 0, 1) := by decide +kernel
theorem mc72_79 : mr_C 72 79 = some (.getfield 18, 3) := by decide +kernel
theorem mc72_82 : mr_C 72 82 = some (.aload 5, 2) := by decide +kernel
theorem mc72_84 : mr_C 72 84 = some (.getfield 125, 3) := by decide +kernel
theorem mc72_87 : mr_C 72 87 = some (.iload 6, 2) := by decide +kernel
theorem mc72_89 : mr_C 72 89 = some (.iaload, 1) := by decide +kernel
theorem mc72_90 : mr_C 72 90 = some (.iload 4, 2) := by decide +kernel
theorem mc72_92 : mr_C 72 92 = some (.iadd, 1) := by decide +kernel
theorem mc72_93 : mr_C 72 93 = some (.sipush (-1000), 3) := by decide +kernel
theorem mc72_96 : mr_C 72 96 = some (.invokestatic 102, 3) := by decide +kernel
theorem mc72_99 : mr_C 72 99 = some (.aload 5, 2) := by decide +kernel
theorem mc72_101 : mr_C 72 101 = some (.getfield 129, 3) := by decide +kernel
theorem mc72_104 : mr_C 72 104 = some (.iload 6, 2) := by decide +kernel
theorem mc72_106 : mr_C 72 106 = some (.iaload, 1) := by decide +kernel
theorem mc72_107 : mr_C 72 107 = some (.iload 4, 2) := by decide +kernel
theorem mc72_109 : mr_C 72 109 = some (.iadd, 1) := by decide +kernel
theorem mc72_110 : mr_C 72 110 = some (.sipush 1000, 3) := by decide +kernel
theorem mc72_113 : mr_C 72 113 = some (.invokestatic 132, 3) := by decide +kernel
theorem mc72_116 : mr_C 72 116 = some (.aload_n 0, 1) := by decide +kernel
theorem mc72_117 : mr_C 72 117 = some (.getfield 25, 3) := by decide +kernel
theorem mc72_120 : mr_C 72 120 = some (.invokevirtual 79, 3) := by decide +kernel
theorem mc72_123 : mr_C 72 123 = some (.iinc 6 (1), 3) := by decide +kernel
theorem mc72_126 : mr_C 72 126 = some (.goto (-79), 3) := by decide +kernel
theorem mc72_129 : mr_C 72 129 = some (.aload_n 0, 1) := by decide +kernel
theorem mc72_130 : mr_C 72 130 = some (.iload_n 1, 1) := by decide +kernel
theorem mc72_131 : mr_C 72 131 = some (.invokevirtual 83, 3) := by decide +kernel
theorem mc72_134 : mr_C 72 134 = some (.ireturn, 1) := by decide +kernel
theorem vc72_0 {sc : Nat × (Int → Int)} {Q : mm_R → mm_M → Prop} {M : mm_M} {l1 : Int} {l2 : Int} {l3 : Int} {l4 : Int} (ho : mr_ok M)
    (h : en_CV sc 9 [mm_i l1] M (fun M2 => mr_ok M2 → en_CV sc 9 [mm_i l2] M2 (fun M5 => mr_ok M5 → en_CV sc 10 [mm_i l3, mm_i (-2000), mm_i 2000] M5 (fun M8 => mr_ok M8 → en_CV sc 10 [mm_i l4, mm_i (-2000), mm_i 2000] M8 (fun M11 => mr_ok M11 → 0 ≤ l2 ∧ (l2 < 8 ∧ (∃ b15, M11.2.1 1 l2 = some b15 ∧ mr_A b15 ∧ (en_CV sc 18 [mm_r 2] M11 (fun M18 => mr_ok M18 → en_R sc 72 47 [mm_r 0, mm_i l1, mm_i l2, mm_i l3, mm_i l4, mm_r b15, mm_i 0] [] M18 Q) (fun e M9 => Q (.inr e) M9))))) (fun e M9 => Q (.inr e) M9)) (fun e M9 => Q (.inr e) M9)) (fun e M9 => Q (.inr e) M9)) (fun e M9 => Q (.inr e) M9)) : en_R sc 72 0 [mm_r 0, mm_i l1, mm_i l2, mm_i l3, mm_i l4, mm_u, mm_u] [] M Q := by
  refine en_iload_n mc72_0 rfl ?_
  refine en_callV (lz := [mm_i l1]) mv72 mc72_1 rfl rfl (lk_m6_61) mv9 rfl (by decide) rfl (mk_cokS rfl) rfl (mk_nh rfl _) ho ?_
  refine en_CV_mono h (fun M2 h => ?_) (fun _ _ h => h)
  intro ho3
  replace h := h ho3
  refine en_iload_n mc72_4 rfl ?_
  refine en_callV (lz := [mm_i l2]) mv72 mc72_5 rfl rfl (lk_m6_61) mv9 rfl (by decide) rfl (mk_cokS rfl) rfl (mk_nh rfl _) ho3 ?_
  refine en_CV_mono h (fun M5 h => ?_) (fun _ _ h => h)
  intro ho6
  replace h := h ho6
  refine en_iload_n mc72_8 rfl ?_
  refine en_sipush mc72_9 (by decide) ?_
  refine en_sipush mc72_12 (by decide) ?_
  refine en_callV (lz := [mm_i l3, mm_i (-2000), mm_i 2000]) mv72 mc72_15 rfl rfl (lk_m6_65) mv10 rfl (by decide) rfl (mk_cokS rfl) rfl (mk_nh rfl _) ho6 ?_
  refine en_CV_mono h (fun M8 h => ?_) (fun _ _ h => h)
  intro ho9
  replace h := h ho9
  refine en_iload mc72_18 rfl ?_
  refine en_sipush mc72_20 (by decide) ?_
  refine en_sipush mc72_23 (by decide) ?_
  refine en_callV (lz := [mm_i l4, mm_i (-2000), mm_i 2000]) mv72 mc72_26 rfl rfl (lk_m6_65) mv10 rfl (by decide) rfl (mk_cokS rfl) rfl (mk_nh rfl _) ho9 ?_
  refine en_CV_mono h (fun M11 h => ?_) (fun _ _ h => h)
  intro ho12
  replace h := h ho12
  obtain ⟨g13, h⟩ := h
  obtain ⟨g14, h⟩ := h
  refine en_aload_n mc72_29 rfl ?_
  refine en_getR (b := 1) mv72 mc72_30 (lk_f6_11) (⟨rfl, by decide⟩ : mt_kd[0]? = some (.inl 6) ∧ 0 < 99) rfl (mk_fc ho12 (by decide +kernel)) ?_
  refine en_iload_n mc72_33 rfl ?_
  obtain ⟨b15, g16, hA_b15_, h⟩ := h
  refine en_aald mc72_34 g13 g14 g16 ?_
  refine en_astore (ls' := [mm_r 0, mm_i l1, mm_i l2, mm_i l3, mm_i l4, mm_r b15, mm_u]) mc72_35 (Nat.le_of_ble_eq_true rfl) rfl ?_
  refine en_aload_n mc72_37 rfl ?_
  refine en_getR (b := 2) mv72 mc72_38 (lk_f6_18) (⟨rfl, by decide⟩ : mt_kd[0]? = some (.inl 6) ∧ 0 < 99) rfl (mk_fc ho12 (by decide +kernel)) ?_
  refine en_callV (lz := [mm_r 2]) mv72 mc72_41 rfl rfl (lk_m6_76) mv18 rfl (by decide) rfl (mk_cokV rfl (⟨rfl, by decide⟩ : mt_kd[2]? = some (.inl 2) ∧ 2 < 99)) rfl (mk_nh rfl _) ho12 ?_
  refine en_CV_mono h (fun M18 h => ?_) (fun _ _ h => h)
  intro ho19
  replace h := h ho19
  refine en_iconst mc72_44 ?_
  refine en_istore (ls' := [mm_r 0, mm_i l1, mm_i l2, mm_i l3, mm_i l4, mm_r b15, mm_i 0]) mc72_45 (Nat.le_of_ble_eq_true rfl) rfl ?_
  exact h
theorem vc72_47 {sc : Nat × (Int → Int)} {Q : mm_R → mm_M → Prop} {M : mm_M} {l1 : Int} {l2 : Int} {l3 : Int} {l4 : Int} {l5 : Nat} {l6 : Int} (ho : mr_ok M) (hA_l5 : mr_A l5) (hg_l6 : mr_rg l6)
    (h : ((M.1 l5 0) ≤ l6 → en_CI sc 30 [mm_r 0, mm_i l1, mm_u] M (fun x1 M2 => mr_ok M2 → Q (.inl (some (mm_i x1))) M2) (fun e M9 => Q (.inr e) M9)) ∧ (¬ (M.1 l5 0) ≤ l6 → en_CV sc 12 [mm_r 11] M (fun M5 => mr_ok M5 → en_CV sc 52 [mm_r l5, mm_i l6, mm_r 11, mm_i (0 - l3), mm_i l3, mm_u] M5 (fun M8 => mr_ok M8 → 0 ≤ l6 ∧ (l6 < 100 ∧ (mr_rg ((M8.1 (l5 + 1) l6) + l4) ∧ (0 ≤ l6 ∧ (l6 < 100 ∧ (mr_rg ((M8.1 (l5 + 2) l6) + l4) ∧ (en_CV sc 29 [mm_r 2, mm_i (max ((M8.1 (l5 + 1) l6) + l4) (-1000)), mm_i (min ((M8.1 (l5 + 2) l6) + l4) 1000), mm_r 11, mm_u] M8 (fun M17 => mr_ok M17 → en_R sc 72 47 [mm_r 0, mm_i l1, mm_i l2, mm_i l3, mm_i l4, mm_r l5, mm_i (l6 + 1)] [] M17 Q) (fun e M9 => Q (.inr e) M9)))))))) (fun e M9 => Q (.inr e) M9)) (fun e M9 => Q (.inr e) M9))) : en_R sc 72 47 [mm_r 0, mm_i l1, mm_i l2, mm_i l3, mm_i l4, mm_r l5, mm_i l6] [] M Q := by
  refine en_iload mc72_47 rfl ?_
  refine en_aload mc72_49 rfl ?_
  refine en_getI mv72 mc72_51 (lk_f6_118) (mk_A0 hA_l5) (Or.inl rfl) ?_
  refine en_icmp_ge 129 mc72_54 (by decide) hg_l6 (ho.2.1 l5 0 (mk_nA0 hA_l5 _)) (fun q => ?_) (fun q => ?_)
  · replace h := h.1 q
    refine en_aload_n mc72_129 rfl ?_
    refine en_iload_n mc72_130 rfl ?_
    refine en_callI (lz := [mm_r 0, mm_i l1, mm_u]) mv72 mc72_131 rfl rfl (lk_m6_83) mv30 rfl (by decide) rfl (mk_cokV rfl (⟨rfl, by decide⟩ : mt_kd[0]? = some (.inl 6) ∧ 0 < 99)) rfl (mk_nh rfl _) ho ?_
    refine en_CI_mono h (fun x1 M2 h => ?_) (fun _ _ h => h)
    intro ho3
    replace h := h ho3
    exact en_iret mv72 mc72_134 rfl h
  · replace h := h.2 q
    refine en_aload_n mc72_57 rfl ?_
    refine en_getR (b := 11) mv72 mc72_58 (lk_f6_25) (⟨rfl, by decide⟩ : mt_kd[0]? = some (.inl 6) ∧ 0 < 99) rfl (mk_fc ho (by decide +kernel)) ?_
    refine en_callV (lz := [mm_r 11]) mv72 mc72_61 rfl rfl (lk_m6_69) mv12 rfl (by decide) rfl (mk_cokV rfl (mk_R0 (by unfold mr_Rw; decide : mr_Rw 11))) rfl (mk_nh rfl _) ho ?_
    refine en_CV_mono h (fun M5 h => ?_) (fun _ _ h => h)
    intro ho6
    replace h := h ho6
    refine en_aload mc72_64 rfl ?_
    refine en_iload mc72_66 rfl ?_
    refine en_aload_n mc72_68 rfl ?_
    refine en_getR (b := 11) mv72 mc72_69 (lk_f6_25) (⟨rfl, by decide⟩ : mt_kd[0]? = some (.inl 6) ∧ 0 < 99) rfl (mk_fc ho6 (by decide +kernel)) ?_
    refine en_iload_n mc72_72 rfl ?_
    refine en_ineg mc72_73 ?_
    refine en_iload_n mc72_74 rfl ?_
    refine en_callV (lz := [mm_r l5, mm_i l6, mm_r 11, mm_i (0 - l3), mm_i l3, mm_u]) mv72 mc72_75 rfl rfl (lk_m6_121) mv52 rfl (by decide) rfl (mk_cokV rfl (mk_A0 hA_l5)) rfl (mk_nh rfl _) ho6 ?_
    refine en_CV_mono h (fun M8 h => ?_) (fun _ _ h => h)
    intro ho9
    replace h := h ho9
    obtain ⟨g10, h⟩ := h
    obtain ⟨g11, h⟩ := h
    obtain ⟨g12, h⟩ := h
    obtain ⟨g13, h⟩ := h
    obtain ⟨g14, h⟩ := h
    obtain ⟨g15, h⟩ := h
    refine en_aload_n mc72_78 rfl ?_
    refine en_getR (b := 2) mv72 mc72_79 (lk_f6_18) (⟨rfl, by decide⟩ : mt_kd[0]? = some (.inl 6) ∧ 0 < 99) rfl (mk_fc ho9 (by decide +kernel)) ?_
    refine en_aload mc72_82 rfl ?_
    refine en_getR (b := (l5 + 1)) mv72 mc72_84 (lk_f6_125) (mk_A0 hA_l5) rfl (mk_fA1 hA_l5 ho9) ?_
    refine en_iload mc72_87 rfl ?_
    refine en_iald mc72_89 (mk_A1 hA_l5) g10 g11 ?_
    refine en_iload mc72_90 rfl ?_
    refine en_iadd mc72_92 ?_
    refine en_sipush mc72_93 (by decide) ?_
    refine en_max mv72 mc72_96 (lk_m6_102) mv13 rfl ⟨Nat.le_of_ble_eq_true rfl, Nat.le_of_ble_eq_true rfl⟩ g12 (⟨by decide, by decide⟩ : mr_rg (-1000)) ?_
    refine en_aload mc72_99 rfl ?_
    refine en_getR (b := (l5 + 2)) mv72 mc72_101 (lk_f6_129) (mk_A0 hA_l5) rfl (mk_fA2 hA_l5 ho9) ?_
    refine en_iload mc72_104 rfl ?_
    refine en_iald mc72_106 (mk_A2 hA_l5) g13 g14 ?_
    refine en_iload mc72_107 rfl ?_
    refine en_iadd mc72_109 ?_
    refine en_sipush mc72_110 (by decide) ?_
    refine en_min mv72 mc72_113 (lk_m6_132) mv14 rfl ⟨Nat.le_of_ble_eq_true rfl, Nat.le_of_ble_eq_true rfl⟩ g15 (⟨by decide, by decide⟩ : mr_rg 1000) ?_
    refine en_aload_n mc72_116 rfl ?_
    refine en_getR (b := 11) mv72 mc72_117 (lk_f6_25) (⟨rfl, by decide⟩ : mt_kd[0]? = some (.inl 6) ∧ 0 < 99) rfl (mk_fc ho9 (by decide +kernel)) ?_
    refine en_callV (lz := [mm_r 2, mm_i (max ((M8.1 (l5 + 1) l6) + l4) (-1000)), mm_i (min ((M8.1 (l5 + 2) l6) + l4) 1000), mm_r 11, mm_u]) mv72 mc72_120 rfl rfl (lk_m6_79) mv29 rfl (by decide) rfl (mk_cokV rfl (⟨rfl, by decide⟩ : mt_kd[2]? = some (.inl 2) ∧ 2 < 99)) rfl (mk_nh rfl _) ho9 ?_
    refine en_CV_mono h (fun M17 h => ?_) (fun _ _ h => h)
    intro ho18
    replace h := h ho18
    refine en_iinc (ls' := [mm_r 0, mm_i l1, mm_i l2, mm_i l3, mm_i l4, mm_r l5, mm_i (l6 + 1)]) mc72_123 rfl rfl ?_
    refine en_goto 47 mc72_126 (by decide) ?_
    exact h
/-! 74: CellAreasModel.clipped(I)I -/
theorem mc74_0 : mr_C 74 0 = some (.iload_n 0, 1) := rfl
theorem mc74_1 : mr_C 74 1 = some (.sipush (-1000), 3) := rfl
theorem mc74_4 : mr_C 74 4 = some (.if_icmp .ge (9), 3) := rfl
theorem mc74_7 : mr_C 74 7 = some (.sipush (-1000), 3) := rfl
theorem mc74_10 : mr_C 74 10 = some (.goto 17, 3) := rfl
theorem mc74_13 : mr_C 74 13 = some (.iload_n 0, 1) := rfl
theorem mc74_14 : mr_C 74 14 = some (.sipush 1000, 3) := rfl
theorem mc74_17 : mr_C 74 17 = some (.if_icmp .le (9), 3) := rfl
theorem mc74_20 : mr_C 74 20 = some (.sipush 1000, 3) := rfl
theorem mc74_23 : mr_C 74 23 = some (.goto 4, 3) := rfl
theorem mc74_26 : mr_C 74 26 = some (.iload_n 0, 1) := rfl
theorem mc74_27 : mr_C 74 27 = some (.ireturn, 1) := rfl
theorem vc74_0 {sc : Nat × (Int → Int)} {Q : mm_R → mm_M → Prop} {M : mm_M} {l0 : Int} (ho : mr_ok M) (hg_l0 : mr_rg l0)
    (h : ((-1000) ≤ l0 → (l0 ≤ 1000 → Q (.inl (some (mm_i l0))) M) ∧ (¬ l0 ≤ 1000 → Q (.inl (some (mm_i 1000))) M)) ∧ (¬ (-1000) ≤ l0 → Q (.inl (some (mm_i (-1000)))) M)) : en_R sc 74 0 [mm_i l0] [] M Q := by
  refine en_iload_n mc74_0 rfl ?_
  refine en_sipush mc74_1 (by decide) ?_
  refine en_icmp_ge 13 mc74_4 (by decide) hg_l0 (⟨by decide, by decide⟩ : mr_rg (-1000)) (fun q => ?_) (fun q => ?_)
  · replace h := h.1 q
    refine en_iload_n mc74_13 rfl ?_
    refine en_sipush mc74_14 (by decide) ?_
    refine en_icmp_le 26 mc74_17 (by decide) hg_l0 (⟨by decide, by decide⟩ : mr_rg 1000) (fun q => ?_) (fun q => ?_)
    · replace h := h.1 q
      refine en_iload_n mc74_26 rfl ?_
      exact en_iret mv74 mc74_27 rfl h
    · replace h := h.2 q
      refine en_sipush mc74_20 (by decide) ?_
      refine en_goto 27 mc74_23 (by decide) ?_
      exact en_iret mv74 mc74_27 rfl h
  · replace h := h.2 q
    refine en_sipush mc74_7 (by decide) ?_
    refine en_goto 27 mc74_10 (by decide) ?_
    exact en_iret mv74 mc74_27 rfl h
/-! 75: CellAreasModel.move(IIII)I -/
theorem mc75_0 : mr_C 75 0 = some (.aload_n 0, 1) := rfl
theorem mc75_1 : mr_C 75 1 = some (.aload_n 0, 1) := rfl
theorem mc75_2 : mr_C 75 2 = some (.iload_n 1, 1) := rfl
theorem mc75_3 : mr_C 75 3 = some (.invokevirtual 131, 3) := rfl
theorem mc75_6 : mr_C 75 6 = some (.ifCond .eq (11), 3) := rfl
theorem mc75_9 : mr_C 75 9 = some (.aload_n 0, 1) := rfl
theorem mc75_10 : mr_C 75 10 = some (.iload_n 2, 1) := rfl
theorem mc75_11 : mr_C 75 11 = some (.invokevirtual 131, 3) := rfl
theorem mc75_14 : mr_C 75 14 = some (.ifCond .ne (7), 3) := rfl
theorem mc75_17 : mr_C 75 17 = some (.iconst 1, 1) := rfl
theorem mc75_18 : mr_C 75 18 = some (.goto 35, 3) := rfl
theorem mc75_21 : mr_C 75 21 = some (.iload_n 3, 1) := rfl
theorem mc75_22 : mr_C 75 22 = some (.sipush (-2000), 3) := rfl
theorem mc75_25 : mr_C 75 25 = some (.sipush 2000, 3) := rfl
theorem mc75_28 : mr_C 75 28 = some (.invokestatic 135, 3) := rfl
theorem mc75_31 : mr_C 75 31 = some (.ifCond .eq (17), 3) := rfl
theorem mc75_34 : mr_C 75 34 = some (.iload 4, 2) := rfl
theorem mc75_36 : mr_C 75 36 = some (.sipush (-2000), 3) := rfl
theorem mc75_39 : mr_C 75 39 = some (.sipush 2000, 3) := rfl
theorem mc75_42 : mr_C 75 42 = some (.invokestatic 135, 3) := rfl
theorem mc75_45 : mr_C 75 45 = some (.ifCond .ne (7), 3) := rfl
theorem mc75_48 : mr_C 75 48 = some (.iconst 2, 1) := rfl
theorem mc75_49 : mr_C 75 49 = some (.goto 4, 3) := rfl
theorem mc75_52 : mr_C 75 52 = some (.iconst 0, 1) := rfl
theorem mc75_53 : mr_C 75 53 = some (.putfield 89, 3) := rfl
theorem mc75_56 : mr_C 75 56 = some (.aload_n 0, 1) := rfl
theorem mc75_57 : mr_C 75 57 = some (.getfield 89, 3) := rfl
theorem mc75_60 : mr_C 75 60 = some (.ifCond .le (5), 3) := rfl
theorem mc75_63 : mr_C 75 63 = some (.iconst 0, 1) := rfl
theorem mc75_64 : mr_C 75 64 = some (.ireturn, 1) := rfl
theorem mc75_65 : mr_C 75 65 = some (.aload_n 0, 1) := rfl
theorem mc75_66 : mr_C 75 66 = some (.invokevirtual 139, 3) := rfl
theorem mc75_69 : mr_C 75 69 = some (.bipush 102, 2) := rfl
theorem mc75_71 : mr_C 75 71 = some (.iload_n 2, 1) := by decide +kernel
theorem mc75_72 : mr_C 75 72 = some (.imul, 1) := by decide +kernel
theorem mc75_73 : mr_C 75 73 = some (.istore 5, 2) := by decide +kernel
theorem mc75_75 : mr_C 75 75 = some (.iload 5, 2) := by decide +kernel
theorem mc75_77 : mr_C 75 77 = some (.aload_n 0, 1) := by decide +kernel
theorem mc75_78 : mr_C 75 78 = some (.iload_n 2, 1) := by decide +kernel
theorem mc75_79 : mr_C 75 79 = some (.invokevirtual 107, 3) := by decide +kernel
theorem mc75_82 : mr_C 75 82 = some (.if_icmp .ge (134), 3) := by decide +kernel
theorem mc75_85 : mr_C 75 85 = some (.aload_n 0, 1) := by decide +kernel
theorem mc75_86 : mr_C 75 86 = some (.iconst 0, 1) := by decide +kernel
theorem mc75_87 : mr_C 75 87 = some (.putfield 100, 3) := by decide +kernel
theorem mc75_90 : mr_C 75 90 = some (.aload_n 0, 1) := by decide +kernel
theorem mc75_91 : mr_C 75 91 = some (.getfield 16, 3) := by decide +kernel
theorem mc75_94 : mr_C 75 94 = some (.iload 5, 2) := by decide +kernel
theorem mc75_96 : mr_C 75 96 = some (.iaload, 1) := by decide +kernel
theorem mc75_97 : mr_C 75 97 = some (.istore 6, 2) := by decide +kernel
theorem mc75_99 : mr_C 75 99 = some (.iload 6, 2) := by decide +kernel
theorem mc75_101 : mr_C 75 101 = some (.aload_n 0, 1) := by decide +kernel
theorem mc75_102 : mr_C 75 102 = some (.getfield 16, 3) := by decide +kernel
theorem mc75_105 : mr_C 75 105 = some (.iload 5, 2) := by decide +kernel
theorem mc75_107 : mr_C 75 107 = some (.iaload, 1) := by decide +kernel
theorem mc75_108 : mr_C 75 108 = some (.aload_n 0, 1) := by decide +kernel
theorem mc75_109 : mr_C 75 109 = some (.getfield 19, 3) := by decide +kernel
theorem mc75_112 : mr_C 75 112 = some (.iload 5, 2) := by decide +kernel
theorem mc75_114 : mr_C 75 114 = some (.iaload, 1) := by decide +kernel
theorem mc75_115 : mr_C 75 115 = some (.iadd, 1) := by decide +kernel
theorem mc75_116 : mr_C 75 116 = some (.if_icmp .ge (64), 3) := by decide +kernel
theorem mc75_119 : mr_C 75 119 = some (.aload_n 0, 1) := by decide +kernel
theorem mc75_120 : mr_C 75 120 = some (.getfield 25, 3) := by decide +kernel
theorem mc75_123 : mr_C 75 123 = some (.iload 6, 2) := by decide +kernel
theorem mc75_125 : mr_C 75 125 = some (.iaload, 1) := by decide +kernel
theorem mc75_126 : mr_C 75 126 = some (.iload_n 3, 1) := by decide +kernel
theorem mc75_127 : mr_C 75 127 = some (.iadd, 1) := by decide +kernel
theorem mc75_128 : mr_C 75 128 = some (.invokestatic 171, 3) := by decide +kernel
theorem mc75_131 : mr_C 75 131 = some (.aload_n 0, 1) := by decide +kernel
theorem mc75_132 : mr_C 75 132 = some (.getfield 28, 3) := by decide +kernel
theorem mc75_135 : mr_C 75 135 = some (.iload 6, 2) := by decide +kernel
theorem mc75_137 : mr_C 75 137 = some (.iaload, 1) := by decide +kernel
theorem mc75_138 : mr_C 75 138 = some (.iload_n 3, 1) := by decide +kernel
theorem mc75_139 : mr_C 75 139 = some (.iadd, 1) := by decide +kernel
theorem mc75_140 : mr_C 75 140 = some (.invokestatic 171, 3) := by decide +kernel
theorem mc75_143 : mr_C 75 143 = some (.if_icmp .ge (31), 3) := by decide +kernel
theorem mc75_146 : mr_C 75 146 = some (.aload_n 0, 1) := by decide +kernel
theorem mc75_147 : mr_C 75 147 = some (.aload_n 0, 1) := by decide +kernel
theorem mc75_148 : mr_C 75 148 = some (.getfield 25, 3) := by decide +kernel
theorem mc75_151 : mr_C 75 151 = some (.iload 6, 2) := by decide +kernel
theorem mc75_153 : mr_C 75 153 = some (.iaload, 1) := by decide +kernel
theorem mc75_154 : mr_C 75 154 = some (.iload_n 3, 1) := by decide +kernel
theorem mc75_155 : mr_C 75 155 = some (.iadd, 1) := by decide +kernel
theorem mc75_156 : mr_C 75 156 = some (.invokestatic 171, 3) := by decide +kernel
theorem mc75_159 : mr_C 75 159 = some (.aload_n 0, 1) := by decide +kernel
theorem mc75_160 : mr_C 75 160 = some (.getfield 28, 3) := by decide +kernel
theorem mc75_163 : mr_C 75 163 = some (.iload 6, 2) := by decide +kernel
theorem mc75_165 : mr_C 75 165 = some (.iaload, 1) := by decide +kernel
theorem mc75_166 : mr_C 75 166 = some (.iload_n 3, 1) := by decide +kernel
theorem mc75_167 : mr_C 75 167 = some (.iadd, 1) := by decide +kernel
theorem mc75_168 : mr_C 75 168 = some (.invokestatic 171, 3) := by decide +kernel
theorem mc75_171 : mr_C 75 171 = some (.invokevirtual 127, 3) := by decide +kernel
theorem mc75_174 : mr_C 75 174 = some (.iinc 6 (1), 3) := by decide +kernel
theorem mc75_177 : mr_C 75 177 = some (.goto (-78), 3) := by decide +kernel
theorem mc75_180 : mr_C 75 180 = some (.aload_n 0, 1) := by decide +kernel
theorem mc75_181 : mr_C 75 181 = some (.aload_n 0, 1) := by decide +kernel
theorem mc75_182 : mr_C 75 182 = some (.getfield 7, 3) := by decide +kernel
theorem mc75_185 : mr_C 75 185 = some (.iload 5, 2) := by decide +kernel
theorem mc75_187 : mr_C 75 187 = some (.iaload, 1) := by decide +kernel
theorem mc75_188 : mr_C 75 188 = some (.iload 4, 2) := by decide +kernel
theorem mc75_190 : mr_C 75 190 = some (.iadd, 1) := by decide +kernel
theorem mc75_191 : mr_C 75 191 = some (.invokestatic 171, 3) := by decide +kernel
theorem mc75_194 : mr_C 75 194 = some (.aload_n 0, 1) := by decide +kernel
theorem mc75_195 : mr_C 75 195 = some (.getfield 13, 3) := by decide +kernel
theorem mc75_198 : mr_C 75 198 = some (.iload 5, 2) := by decide +kernel
theorem mc75_200 : mr_C 75 200 = some (.iaload, 1) := by decide +kernel
theorem mc75_201 : mr_C 75 201 = some (.iload 4, 2) := by decide +kernel
theorem mc75_203 : mr_C 75 203 = some (.iadd, 1) := by decide +kernel
theorem mc75_204 : mr_C 75 204 = some (.invokestatic 171, 3) := by decide +kernel
theorem mc75_207 : mr_C 75 207 = some (.invokevirtual 142, 3) := by decide +kernel
theorem mc75_210 : mr_C 75 210 = some (.iinc 5 (1), 3) := by decide +kernel
theorem mc75_213 : mr_C 75 213 = some (.goto (-138), 3) := by decide +kernel
theorem mc75_216 : mr_C 75 216 = some (.aload_n 0, 1) := by decide +kernel
theorem mc75_217 : mr_C 75 217 = some (.iload_n 1, 1) := by decide +kernel
theorem mc75_218 : mr_C 75 218 = some (.invokevirtual 145, 3) := by decide +kernel
theorem mc75_221 : mr_C 75 221 = some (.ireturn, 1) := by decide +kernel
theorem vc75_0 {sc : Nat × (Int → Int)} {Q : mm_R → mm_M → Prop} {M : mm_M} {l1 : Int} {l2 : Int} {l3 : Int} {l4 : Int} (ho : mr_ok M)
    (h : en_CI sc 34 [mm_r 72, mm_i l1] M (fun x1 M2 => mr_ok M2 → mr_rg x1 ∧ ((x1 = 0 → en_R sc 75 17 [mm_r 72, mm_i l1, mm_i l2, mm_i l3, mm_i l4, mm_u, mm_u] [mm_r 72] M2 Q) ∧ (¬ x1 = 0 → en_CI sc 34 [mm_r 72, mm_i l2] M2 (fun x5 M6 => mr_ok M6 → mr_rg x5 ∧ ((x5 ≠ 0 → en_CI sc 33 [mm_i l3, mm_i (-2000), mm_i 2000] M6 (fun x9 M10 => mr_ok M10 → mr_rg x9 ∧ ((x9 = 0 → en_R sc 75 48 [mm_r 72, mm_i l1, mm_i l2, mm_i l3, mm_i l4, mm_u, mm_u] [mm_r 72] M10 Q) ∧ (¬ x9 = 0 → en_CI sc 33 [mm_i l4, mm_i (-2000), mm_i 2000] M10 (fun x13 M14 => mr_ok M14 → mr_rg x13 ∧ ((x13 ≠ 0 → en_R sc 75 53 [mm_r 72, mm_i l1, mm_i l2, mm_i l3, mm_i l4, mm_u, mm_u] [mm_i 0, mm_r 72] M14 Q) ∧ (¬ (x13 ≠ 0) → en_R sc 75 48 [mm_r 72, mm_i l1, mm_i l2, mm_i l3, mm_i l4, mm_u, mm_u] [mm_r 72] M14 Q))) (fun e M9 => Q (.inr e) M9)))) (fun e M9 => Q (.inr e) M9)) ∧ (¬ (x5 ≠ 0) → en_R sc 75 17 [mm_r 72, mm_i l1, mm_i l2, mm_i l3, mm_i l4, mm_u, mm_u] [mm_r 72] M6 Q))) (fun e M9 => Q (.inr e) M9)))) (fun e M9 => Q (.inr e) M9)) : en_R sc 75 0 [mm_r 72, mm_i l1, mm_i l2, mm_i l3, mm_i l4, mm_u, mm_u] [] M Q := by
  refine en_aload_n mc75_0 rfl ?_
  refine en_aload_n mc75_1 rfl ?_
  refine en_iload_n mc75_2 rfl ?_
  refine en_callI (lz := [mm_r 72, mm_i l1]) mv75 mc75_3 rfl rfl (lk_m7_131) mv34 rfl (by decide) rfl (mk_cokV rfl (⟨rfl, by decide⟩ : mt_kd[72]? = some (.inl 7) ∧ 72 < 99)) rfl (mk_nh rfl _) ho ?_
  refine en_CI_mono h (fun x1 M2 h => ?_) (fun _ _ h => h)
  intro ho3
  replace h := h ho3
  obtain ⟨g4, h⟩ := h
  refine en_if_eq 17 mc75_6 (by decide) g4 (fun q => ?_) (fun q => ?_)
  · replace h := h.1 q
    exact h
  · replace h := h.2 q
    refine en_aload_n mc75_9 rfl ?_
    refine en_iload_n mc75_10 rfl ?_
    refine en_callI (lz := [mm_r 72, mm_i l2]) mv75 mc75_11 rfl rfl (lk_m7_131) mv34 rfl (by decide) rfl (mk_cokV rfl (⟨rfl, by decide⟩ : mt_kd[72]? = some (.inl 7) ∧ 72 < 99)) rfl (mk_nh rfl _) ho3 ?_
    refine en_CI_mono h (fun x5 M6 h => ?_) (fun _ _ h => h)
    intro ho7
    replace h := h ho7
    obtain ⟨g8, h⟩ := h
    refine en_if_ne 21 mc75_14 (by decide) g8 (fun q => ?_) (fun q => ?_)
    · replace h := h.1 q
      refine en_iload_n mc75_21 rfl ?_
      refine en_sipush mc75_22 (by decide) ?_
      refine en_sipush mc75_25 (by decide) ?_
      refine en_callI (lz := [mm_i l3, mm_i (-2000), mm_i 2000]) mv75 mc75_28 rfl rfl (lk_m7_135) mv33 rfl (by decide) rfl (mk_cokS rfl) rfl (mk_nh rfl _) ho7 ?_
      refine en_CI_mono h (fun x9 M10 h => ?_) (fun _ _ h => h)
      intro ho11
      replace h := h ho11
      obtain ⟨g12, h⟩ := h
      refine en_if_eq 48 mc75_31 (by decide) g12 (fun q => ?_) (fun q => ?_)
      · replace h := h.1 q
        exact h
      · replace h := h.2 q
        refine en_iload mc75_34 rfl ?_
        refine en_sipush mc75_36 (by decide) ?_
        refine en_sipush mc75_39 (by decide) ?_
        refine en_callI (lz := [mm_i l4, mm_i (-2000), mm_i 2000]) mv75 mc75_42 rfl rfl (lk_m7_135) mv33 rfl (by decide) rfl (mk_cokS rfl) rfl (mk_nh rfl _) ho11 ?_
        refine en_CI_mono h (fun x13 M14 h => ?_) (fun _ _ h => h)
        intro ho15
        replace h := h ho15
        obtain ⟨g16, h⟩ := h
        refine en_if_ne 52 mc75_45 (by decide) g16 (fun q => ?_) (fun q => ?_)
        · replace h := h.1 q
          refine en_iconst mc75_52 ?_
          exact h
        · replace h := h.2 q
          exact h
    · replace h := h.2 q
      exact h
theorem vc75_17 {sc : Nat × (Int → Int)} {Q : mm_R → mm_M → Prop} {M : mm_M} {l1 : Int} {l2 : Int} {l3 : Int} {l4 : Int} (ho : mr_ok M)
    (h : en_R sc 75 53 [mm_r 72, mm_i l1, mm_i l2, mm_i l3, mm_i l4, mm_u, mm_u] [mm_i 1, mm_r 72] M Q) : en_R sc 75 17 [mm_r 72, mm_i l1, mm_i l2, mm_i l3, mm_i l4, mm_u, mm_u] [mm_r 72] M Q := by
  refine en_iconst mc75_17 ?_
  refine en_goto 53 mc75_18 (by decide) ?_
  exact h
theorem vc75_48 {sc : Nat × (Int → Int)} {Q : mm_R → mm_M → Prop} {M : mm_M} {l1 : Int} {l2 : Int} {l3 : Int} {l4 : Int} (ho : mr_ok M)
    (h : en_R sc 75 53 [mm_r 72, mm_i l1, mm_i l2, mm_i l3, mm_i l4, mm_u, mm_u] [mm_i 2, mm_r 72] M Q) : en_R sc 75 48 [mm_r 72, mm_i l1, mm_i l2, mm_i l3, mm_i l4, mm_u, mm_u] [mm_r 72] M Q := by
  refine en_iconst mc75_48 ?_
  refine en_goto 53 mc75_49 (by decide) ?_
  exact h
theorem vc75_53 {sc : Nat × (Int → Int)} {Q : mm_R → mm_M → Prop} {M : mm_M} {l1 : Int} {l2 : Int} {l3 : Int} {l4 : Int} {s1 : Int} (ho : mr_ok M) (hg_s1 : mr_rg s1)
    (h : (((mm_putN M 72 0 s1).1 72 0) ≤ 0 → en_CV sc 35 [mm_r 72] (mm_putN M 72 0 s1) (fun M2 => mr_ok M2 → en_R sc 75 75 [mm_r 72, mm_i l1, mm_i l2, mm_i l3, mm_i l4, mm_i (102 * l2), mm_u] [] M2 Q) (fun e M9 => Q (.inr e) M9)) ∧ (¬ ((mm_putN M 72 0 s1).1 72 0) ≤ 0 → Q (.inl (some (mm_i 0))) (mm_putN M 72 0 s1))) : en_R sc 75 53 [mm_r 72, mm_i l1, mm_i l2, mm_i l3, mm_i l4, mm_u, mm_u] [mm_i s1, mm_r 72] M Q := by
  refine en_putI mv75 mc75_53 (lk_f7_89) (⟨rfl, by decide⟩ : mt_kd[72]? = some (.inl 7) ∧ 72 < 99) rfl rfl hg_s1 ?_
  refine en_aload_n mc75_56 rfl ?_
  refine en_getI mv75 mc75_57 (lk_f7_89) (⟨rfl, by decide⟩ : mt_kd[72]? = some (.inl 7) ∧ 72 < 99) (Or.inl rfl) ?_
  refine en_if_le 65 mc75_60 (by decide) ((mr_ok_putI (a := 72) (k := 0) ho hg_s1).2.1 72 0 (by unfold mr_lg; omega)) (fun q => ?_) (fun q => ?_)
  · replace h := h.1 q
    refine en_aload_n mc75_65 rfl ?_
    refine en_callV (lz := [mm_r 72]) mv75 mc75_66 rfl rfl (lk_m7_139) mv35 rfl (by decide) rfl (mk_cokV rfl (⟨rfl, by decide⟩ : mt_kd[72]? = some (.inl 7) ∧ 72 < 99)) rfl (mk_nh rfl _) (mr_ok_putI (a := 72) (k := 0) ho hg_s1) ?_
    refine en_CV_mono h (fun M2 h => ?_) (fun _ _ h => h)
    intro ho3
    replace h := h ho3
    refine en_bipush mc75_69 (by decide) ?_
    refine en_iload_n mc75_71 rfl ?_
    refine en_imul mc75_72 ?_
    refine en_istore (ls' := [mm_r 72, mm_i l1, mm_i l2, mm_i l3, mm_i l4, mm_i (102 * l2), mm_u]) mc75_73 (Nat.le_of_ble_eq_true rfl) rfl ?_
    exact h
  · replace h := h.2 q
    refine en_iconst mc75_63 ?_
    exact en_iret mv75 mc75_64 rfl h
theorem vc75_75 {sc : Nat × (Int → Int)} {Q : mm_R → mm_M → Prop} {M : mm_M} {l1 : Int} {l2 : Int} {l3 : Int} {l4 : Int} {l5 : Int} {l6 : mm_V} (ho : mr_ok M) (hg_l5 : mr_rg l5)
    (h : en_CI sc 45 [mm_r 72, mm_i l2] M (fun x1 M2 => mr_ok M2 → mr_rg x1 ∧ ((x1 ≤ l5 → en_CI sc 39 [mm_r 72, mm_i l1, mm_u] M2 (fun x5 M6 => mr_ok M6 → Q (.inl (some (mm_i x5))) M6) (fun e M9 => Q (.inr e) M9)) ∧ (¬ x1 ≤ l5 → 0 ≤ l5 ∧ (l5 < 918 ∧ (en_R sc 75 99 [mm_r 72, mm_i l1, mm_i l2, mm_i l3, mm_i l4, mm_i l5, mm_i ((mm_putN M2 72 17 0).1 75 l5)] [] (mm_putN M2 72 17 0) Q))))) (fun e M9 => Q (.inr e) M9)) : en_R sc 75 75 [mm_r 72, mm_i l1, mm_i l2, mm_i l3, mm_i l4, mm_i l5, l6] [] M Q := by
  refine en_iload mc75_75 rfl ?_
  refine en_aload_n mc75_77 rfl ?_
  refine en_iload_n mc75_78 rfl ?_
  refine en_callI (lz := [mm_r 72, mm_i l2]) mv75 mc75_79 rfl rfl (lk_m7_107) mv45 rfl (by decide) rfl (mk_cokV rfl (⟨rfl, by decide⟩ : mt_kd[72]? = some (.inl 7) ∧ 72 < 99)) rfl (mk_nh rfl _) ho ?_
  refine en_CI_mono h (fun x1 M2 h => ?_) (fun _ _ h => h)
  intro ho3
  replace h := h ho3
  obtain ⟨g4, h⟩ := h
  refine en_icmp_ge 216 mc75_82 (by decide) hg_l5 g4 (fun q => ?_) (fun q => ?_)
  · replace h := h.1 q
    refine en_aload_n mc75_216 rfl ?_
    refine en_iload_n mc75_217 rfl ?_
    refine en_callI (lz := [mm_r 72, mm_i l1, mm_u]) mv75 mc75_218 rfl rfl (lk_m7_145) mv39 rfl (by decide) rfl (mk_cokV rfl (⟨rfl, by decide⟩ : mt_kd[72]? = some (.inl 7) ∧ 72 < 99)) rfl (mk_nh rfl _) ho3 ?_
    refine en_CI_mono h (fun x5 M6 h => ?_) (fun _ _ h => h)
    intro ho7
    replace h := h ho7
    exact en_iret mv75 mc75_221 rfl h
  · replace h := h.2 q
    obtain ⟨g8, h⟩ := h
    obtain ⟨g9, h⟩ := h
    refine en_aload_n mc75_85 rfl ?_
    refine en_iconst mc75_86 ?_
    refine en_putI mv75 mc75_87 (lk_f7_100) (⟨rfl, by decide⟩ : mt_kd[72]? = some (.inl 7) ∧ 72 < 99) rfl rfl (⟨by decide, by decide⟩ : mr_rg 0) ?_
    refine en_aload_n mc75_90 rfl ?_
    refine en_getR (b := 75) mv75 mc75_91 (lk_f7_16) (⟨rfl, by decide⟩ : mt_kd[72]? = some (.inl 7) ∧ 72 < 99) rfl (mk_fc (mr_ok_putI (a := 72) (k := 17) ho3 (⟨by decide, by decide⟩ : mr_rg 0)) (by decide +kernel)) ?_
    refine en_iload mc75_94 rfl ?_
    refine en_iald mc75_96 (⟨rfl, by decide, by decide⟩ : mt_kd[75]? = some (.inr (.int, 918)) ∧ 75 < 99 ∧ 918 < 2147483648) g8 g9 ?_
    refine en_istore (ls' := [mm_r 72, mm_i l1, mm_i l2, mm_i l3, mm_i l4, mm_i l5, mm_i ((mm_putN M2 72 17 0).1 75 l5)]) mc75_97 (Nat.le_of_ble_eq_true rfl) rfl ?_
    exact h
theorem vc75_99 {sc : Nat × (Int → Int)} {Q : mm_R → mm_M → Prop} {M : mm_M} {l1 : Int} {l2 : Int} {l3 : Int} {l4 : Int} {l5 : Int} {l6 : Int} (ho : mr_ok M) (hg_l6 : mr_rg l6)
    (h : 0 ≤ l5 ∧ (l5 < 918 ∧ (0 ≤ l5 ∧ (l5 < 918 ∧ (mr_rg ((M.1 75 l5) + (M.1 76 l5)) ∧ ((((M.1 75 l5) + (M.1 76 l5)) ≤ l6 → 0 ≤ l5 ∧ (l5 < 918 ∧ (en_CI sc 74 [mm_i ((M.1 73 l5) + l4)] M (fun x8 M9 => mr_ok M9 → 0 ≤ l5 ∧ (l5 < 918 ∧ (en_CI sc 74 [mm_i ((M9.1 74 l5) + l4)] M9 (fun x13 M14 => mr_ok M14 → en_CV sc 38 [mm_r 72, mm_i x8, mm_i x13, mm_u, mm_u] M14 (fun M17 => mr_ok M17 → en_R sc 75 75 [mm_r 72, mm_i l1, mm_i l2, mm_i l3, mm_i l4, mm_i (l5 + 1), mm_i l6] [] M17 Q) (fun e M9 => Q (.inr e) M9)) (fun e M9 => Q (.inr e) M9)))) (fun e M9 => Q (.inr e) M9)))) ∧ (¬ ((M.1 75 l5) + (M.1 76 l5)) ≤ l6 → 0 ≤ l6 ∧ (l6 < 3618 ∧ (en_CI sc 74 [mm_i ((M.1 78 l6) + l3)] M (fun x21 M22 => mr_ok M22 → 0 ≤ l6 ∧ (l6 < 3618 ∧ (en_CI sc 74 [mm_i ((M22.1 79 l6) + l3)] M22 (fun x26 M27 => mr_ok M27 → mr_rg x21 ∧ (mr_rg x26 ∧ ((x26 ≤ x21 → en_R sc 75 99 [mm_r 72, mm_i l1, mm_i l2, mm_i l3, mm_i l4, mm_i l5, mm_i (l6 + 1)] [] M27 Q) ∧ (¬ x26 ≤ x21 → 0 ≤ l6 ∧ (l6 < 3618 ∧ (en_CI sc 74 [mm_i ((M27.1 78 l6) + l3)] M27 (fun x33 M34 => mr_ok M34 → 0 ≤ l6 ∧ (l6 < 3618 ∧ (en_CI sc 74 [mm_i ((M34.1 79 l6) + l3)] M34 (fun x38 M39 => mr_ok M39 → en_CV sc 36 [mm_r 72, mm_i x33, mm_i x38] M39 (fun M42 => mr_ok M42 → en_R sc 75 99 [mm_r 72, mm_i l1, mm_i l2, mm_i l3, mm_i l4, mm_i l5, mm_i (l6 + 1)] [] M42 Q) (fun e M9 => Q (.inr e) M9)) (fun e M9 => Q (.inr e) M9)))) (fun e M9 => Q (.inr e) M9))))))) (fun e M9 => Q (.inr e) M9)))) (fun e M9 => Q (.inr e) M9)))))))))) : en_R sc 75 99 [mm_r 72, mm_i l1, mm_i l2, mm_i l3, mm_i l4, mm_i l5, mm_i l6] [] M Q := by
  obtain ⟨g1, h⟩ := h
  obtain ⟨g2, h⟩ := h
  obtain ⟨g3, h⟩ := h
  obtain ⟨g4, h⟩ := h
  obtain ⟨g5, h⟩ := h
  refine en_iload mc75_99 rfl ?_
  refine en_aload_n mc75_101 rfl ?_
  refine en_getR (b := 75) mv75 mc75_102 (lk_f7_16) (⟨rfl, by decide⟩ : mt_kd[72]? = some (.inl 7) ∧ 72 < 99) rfl (mk_fc ho (by decide +kernel)) ?_
  refine en_iload mc75_105 rfl ?_
  refine en_iald mc75_107 (⟨rfl, by decide, by decide⟩ : mt_kd[75]? = some (.inr (.int, 918)) ∧ 75 < 99 ∧ 918 < 2147483648) g1 g2 ?_
  refine en_aload_n mc75_108 rfl ?_
  refine en_getR (b := 76) mv75 mc75_109 (lk_f7_19) (⟨rfl, by decide⟩ : mt_kd[72]? = some (.inl 7) ∧ 72 < 99) rfl (mk_fc ho (by decide +kernel)) ?_
  refine en_iload mc75_112 rfl ?_
  refine en_iald mc75_114 (⟨rfl, by decide, by decide⟩ : mt_kd[76]? = some (.inr (.int, 918)) ∧ 76 < 99 ∧ 918 < 2147483648) g3 g4 ?_
  refine en_iadd mc75_115 ?_
  refine en_icmp_ge 180 mc75_116 (by decide) hg_l6 g5 (fun q => ?_) (fun q => ?_)
  · replace h := h.1 q
    obtain ⟨g6, h⟩ := h
    obtain ⟨g7, h⟩ := h
    refine en_aload_n mc75_180 rfl ?_
    refine en_aload_n mc75_181 rfl ?_
    refine en_getR (b := 73) mv75 mc75_182 (lk_f7_7) (⟨rfl, by decide⟩ : mt_kd[72]? = some (.inl 7) ∧ 72 < 99) rfl (mk_fc ho (by decide +kernel)) ?_
    refine en_iload mc75_185 rfl ?_
    refine en_iald mc75_187 (⟨rfl, by decide, by decide⟩ : mt_kd[73]? = some (.inr (.int, 918)) ∧ 73 < 99 ∧ 918 < 2147483648) g6 g7 ?_
    refine en_iload mc75_188 rfl ?_
    refine en_iadd mc75_190 ?_
    refine en_callI (lz := [mm_i ((M.1 73 l5) + l4)]) mv75 mc75_191 rfl rfl (lk_m7_171) mv74 rfl (by decide) rfl (mk_cokS rfl) rfl (mk_nh rfl _) ho ?_
    refine en_CI_mono h (fun x8 M9 h => ?_) (fun _ _ h => h)
    intro ho10
    replace h := h ho10
    obtain ⟨g11, h⟩ := h
    obtain ⟨g12, h⟩ := h
    refine en_aload_n mc75_194 rfl ?_
    refine en_getR (b := 74) mv75 mc75_195 (lk_f7_13) (⟨rfl, by decide⟩ : mt_kd[72]? = some (.inl 7) ∧ 72 < 99) rfl (mk_fc ho10 (by decide +kernel)) ?_
    refine en_iload mc75_198 rfl ?_
    refine en_iald mc75_200 (⟨rfl, by decide, by decide⟩ : mt_kd[74]? = some (.inr (.int, 918)) ∧ 74 < 99 ∧ 918 < 2147483648) g11 g12 ?_
    refine en_iload mc75_201 rfl ?_
    refine en_iadd mc75_203 ?_
    refine en_callI (lz := [mm_i ((M9.1 74 l5) + l4)]) mv75 mc75_204 rfl rfl (lk_m7_171) mv74 rfl (by decide) rfl (mk_cokS rfl) rfl (mk_nh rfl _) ho10 ?_
    refine en_CI_mono h (fun x13 M14 h => ?_) (fun _ _ h => h)
    intro ho15
    replace h := h ho15
    refine en_callV (lz := [mm_r 72, mm_i x8, mm_i x13, mm_u, mm_u]) mv75 mc75_207 rfl rfl (lk_m7_142) mv38 rfl (by decide) rfl (mk_cokV rfl (⟨rfl, by decide⟩ : mt_kd[72]? = some (.inl 7) ∧ 72 < 99)) rfl (mk_nh rfl _) ho15 ?_
    refine en_CV_mono h (fun M17 h => ?_) (fun _ _ h => h)
    intro ho18
    replace h := h ho18
    refine en_iinc (ls' := [mm_r 72, mm_i l1, mm_i l2, mm_i l3, mm_i l4, mm_i (l5 + 1), mm_i l6]) mc75_210 rfl rfl ?_
    refine en_goto 75 mc75_213 (by decide) ?_
    exact h
  · replace h := h.2 q
    obtain ⟨g19, h⟩ := h
    obtain ⟨g20, h⟩ := h
    refine en_aload_n mc75_119 rfl ?_
    refine en_getR (b := 78) mv75 mc75_120 (lk_f7_25) (⟨rfl, by decide⟩ : mt_kd[72]? = some (.inl 7) ∧ 72 < 99) rfl (mk_fc ho (by decide +kernel)) ?_
    refine en_iload mc75_123 rfl ?_
    refine en_iald mc75_125 (⟨rfl, by decide, by decide⟩ : mt_kd[78]? = some (.inr (.int, 3618)) ∧ 78 < 99 ∧ 3618 < 2147483648) g19 g20 ?_
    refine en_iload_n mc75_126 rfl ?_
    refine en_iadd mc75_127 ?_
    refine en_callI (lz := [mm_i ((M.1 78 l6) + l3)]) mv75 mc75_128 rfl rfl (lk_m7_171) mv74 rfl (by decide) rfl (mk_cokS rfl) rfl (mk_nh rfl _) ho ?_
    refine en_CI_mono h (fun x21 M22 h => ?_) (fun _ _ h => h)
    intro ho23
    replace h := h ho23
    obtain ⟨g24, h⟩ := h
    obtain ⟨g25, h⟩ := h
    refine en_aload_n mc75_131 rfl ?_
    refine en_getR (b := 79) mv75 mc75_132 (lk_f7_28) (⟨rfl, by decide⟩ : mt_kd[72]? = some (.inl 7) ∧ 72 < 99) rfl (mk_fc ho23 (by decide +kernel)) ?_
    refine en_iload mc75_135 rfl ?_
    refine en_iald mc75_137 (⟨rfl, by decide, by decide⟩ : mt_kd[79]? = some (.inr (.int, 3618)) ∧ 79 < 99 ∧ 3618 < 2147483648) g24 g25 ?_
    refine en_iload_n mc75_138 rfl ?_
    refine en_iadd mc75_139 ?_
    refine en_callI (lz := [mm_i ((M22.1 79 l6) + l3)]) mv75 mc75_140 rfl rfl (lk_m7_171) mv74 rfl (by decide) rfl (mk_cokS rfl) rfl (mk_nh rfl _) ho23 ?_
    refine en_CI_mono h (fun x26 M27 h => ?_) (fun _ _ h => h)
    intro ho28
    replace h := h ho28
    obtain ⟨g29, h⟩ := h
    obtain ⟨g30, h⟩ := h
    refine en_icmp_ge 174 mc75_143 (by decide) g29 g30 (fun q => ?_) (fun q => ?_)
    · replace h := h.1 q
      refine en_iinc (ls' := [mm_r 72, mm_i l1, mm_i l2, mm_i l3, mm_i l4, mm_i l5, mm_i (l6 + 1)]) mc75_174 rfl rfl ?_
      refine en_goto 99 mc75_177 (by decide) ?_
      exact h
    · replace h := h.2 q
      obtain ⟨g31, h⟩ := h
      obtain ⟨g32, h⟩ := h
      refine en_aload_n mc75_146 rfl ?_
      refine en_aload_n mc75_147 rfl ?_
      refine en_getR (b := 78) mv75 mc75_148 (lk_f7_25) (⟨rfl, by decide⟩ : mt_kd[72]? = some (.inl 7) ∧ 72 < 99) rfl (mk_fc ho28 (by decide +kernel)) ?_
      refine en_iload mc75_151 rfl ?_
      refine en_iald mc75_153 (⟨rfl, by decide, by decide⟩ : mt_kd[78]? = some (.inr (.int, 3618)) ∧ 78 < 99 ∧ 3618 < 2147483648) g31 g32 ?_
      refine en_iload_n mc75_154 rfl ?_
      refine en_iadd mc75_155 ?_
      refine en_callI (lz := [mm_i ((M27.1 78 l6) + l3)]) mv75 mc75_156 rfl rfl (lk_m7_171) mv74 rfl (by decide) rfl (mk_cokS rfl) rfl (mk_nh rfl _) ho28 ?_
      refine en_CI_mono h (fun x33 M34 h => ?_) (fun _ _ h => h)
      intro ho35
      replace h := h ho35
      obtain ⟨g36, h⟩ := h
      obtain ⟨g37, h⟩ := h
      refine en_aload_n mc75_159 rfl ?_
      refine en_getR (b := 79) mv75 mc75_160 (lk_f7_28) (⟨rfl, by decide⟩ : mt_kd[72]? = some (.inl 7) ∧ 72 < 99) rfl (mk_fc ho35 (by decide +kernel)) ?_
      refine en_iload mc75_163 rfl ?_
      refine en_iald mc75_165 (⟨rfl, by decide, by decide⟩ : mt_kd[79]? = some (.inr (.int, 3618)) ∧ 79 < 99 ∧ 3618 < 2147483648) g36 g37 ?_
      refine en_iload_n mc75_166 rfl ?_
      refine en_iadd mc75_167 ?_
      refine en_callI (lz := [mm_i ((M34.1 79 l6) + l3)]) mv75 mc75_168 rfl rfl (lk_m7_171) mv74 rfl (by decide) rfl (mk_cokS rfl) rfl (mk_nh rfl _) ho35 ?_
      refine en_CI_mono h (fun x38 M39 h => ?_) (fun _ _ h => h)
      intro ho40
      replace h := h ho40
      refine en_callV (lz := [mm_r 72, mm_i x33, mm_i x38]) mv75 mc75_171 rfl rfl (lk_m7_127) mv36 rfl (by decide) rfl (mk_cokV rfl (⟨rfl, by decide⟩ : mt_kd[72]? = some (.inl 7) ∧ 72 < 99)) rfl (mk_nh rfl _) ho40 ?_
      refine en_CV_mono h (fun M42 h => ?_) (fun _ _ h => h)
      intro ho43
      replace h := h ho43
      refine en_iinc (ls' := [mm_r 72, mm_i l1, mm_i l2, mm_i l3, mm_i l4, mm_i l5, mm_i (l6 + 1)]) mc75_174 rfl rfl ?_
      refine en_goto 99 mc75_177 (by decide) ?_
      exact h
/-! 76: CellAreas.layMirrored(LCellAreas$Area;I)V -/
theorem mc76_0 : mr_C 76 0 = some (.aload_n 0, 1) := rfl
theorem mc76_1 : mr_C 76 1 = some (.getfield 25, 3) := rfl
theorem mc76_4 : mr_C 76 4 = some (.invokevirtual 69, 3) := rfl
theorem mc76_7 : mr_C 76 7 = some (.aload_n 1, 1) := rfl
theorem mc76_8 : mr_C 76 8 = some (.iload_n 2, 1) := rfl
theorem mc76_9 : mr_C 76 9 = some (.invokevirtual 156, 3) := rfl
theorem mc76_12 : mr_C 76 12 = some (.istore_n 3, 1) := rfl
theorem mc76_13 : mr_C 76 13 = some (.iload_n 3, 1) := rfl
theorem mc76_14 : mr_C 76 14 = some (.aload_n 1, 1) := rfl
theorem mc76_15 : mr_C 76 15 = some (.iload_n 2, 1) := rfl
theorem mc76_16 : mr_C 76 16 = some (.invokevirtual 153, 3) := rfl
theorem mc76_19 : mr_C 76 19 = some (.if_icmp .ge (30), 3) := rfl
theorem mc76_22 : mr_C 76 22 = some (.aload_n 0, 1) := rfl
theorem mc76_23 : mr_C 76 23 = some (.getfield 25, 3) := rfl
theorem mc76_26 : mr_C 76 26 = some (.aload_n 1, 1) := rfl
theorem mc76_27 : mr_C 76 27 = some (.getfield 162, 3) := rfl
theorem mc76_30 : mr_C 76 30 = some (.iload_n 3, 1) := rfl
theorem mc76_31 : mr_C 76 31 = some (.iaload, 1) := rfl
theorem mc76_32 : mr_C 76 32 = some (.ineg, 1) := rfl
theorem mc76_33 : mr_C 76 33 = some (.aload_n 1, 1) := rfl
theorem mc76_34 : mr_C 76 34 = some (.getfield 159, 3) := rfl
theorem mc76_37 : mr_C 76 37 = some (.iload_n 3, 1) := rfl
theorem mc76_38 : mr_C 76 38 = some (.iaload, 1) := rfl
theorem mc76_39 : mr_C 76 39 = some (.ineg, 1) := rfl
theorem mc76_40 : mr_C 76 40 = some (.invokevirtual 72, 3) := rfl
theorem mc76_43 : mr_C 76 43 = some (.iinc 3 (1), 3) := rfl
theorem mc76_46 : mr_C 76 46 = some (.goto (-33), 3) := rfl
theorem mc76_49 : mr_C 76 49 = some (.return_, 1) := rfl
theorem vc76_0 {sc : Nat × (Int → Int)} {Q : mm_R → mm_M → Prop} {M : mm_M} {l1 : Nat} {l2 : Int} (ho : mr_ok M) (hA_l1 : mr_A l1)
    (h : en_CV sc 12 [mm_r 11] M (fun M2 => mr_ok M2 → en_CI sc 50 [mm_r l1, mm_i l2] M2 (fun x4 M5 => mr_ok M5 → en_R sc 76 13 [mm_r 0, mm_r l1, mm_i l2, mm_i x4] [] M5 Q) (fun e M9 => Q (.inr e) M9)) (fun e M9 => Q (.inr e) M9)) : en_R sc 76 0 [mm_r 0, mm_r l1, mm_i l2, mm_u] [] M Q := by
  refine en_aload_n mc76_0 rfl ?_
  refine en_getR (b := 11) mv76 mc76_1 (lk_f6_25) (⟨rfl, by decide⟩ : mt_kd[0]? = some (.inl 6) ∧ 0 < 99) rfl (mk_fc ho (by decide +kernel)) ?_
  refine en_callV (lz := [mm_r 11]) mv76 mc76_4 rfl rfl (lk_m6_69) mv12 rfl (by decide) rfl (mk_cokV rfl (mk_R0 (by unfold mr_Rw; decide : mr_Rw 11))) rfl (mk_nh rfl _) ho ?_
  refine en_CV_mono h (fun M2 h => ?_) (fun _ _ h => h)
  intro ho3
  replace h := h ho3
  refine en_aload_n mc76_7 rfl ?_
  refine en_iload_n mc76_8 rfl ?_
  refine en_callI (lz := [mm_r l1, mm_i l2]) mv76 mc76_9 rfl rfl (lk_m6_156) mv50 rfl (by decide) rfl (mk_cokV rfl (mk_A0 hA_l1)) rfl (mk_nh rfl _) ho3 ?_
  refine en_CI_mono h (fun x4 M5 h => ?_) (fun _ _ h => h)
  intro ho6
  replace h := h ho6
  refine en_istore_n (ls' := [mm_r 0, mm_r l1, mm_i l2, mm_i x4]) mc76_12 (Nat.le_of_ble_eq_true rfl) rfl ?_
  exact h
theorem vc76_13 {sc : Nat × (Int → Int)} {Q : mm_R → mm_M → Prop} {M : mm_M} {l1 : Nat} {l2 : Int} {l3 : Int} (ho : mr_ok M) (hA_l1 : mr_A l1) (hg_l3 : mr_rg l3)
    (h : en_CI sc 51 [mm_r l1, mm_i l2] M (fun x1 M2 => mr_ok M2 → mr_rg x1 ∧ ((x1 ≤ l3 → Q (.inl none) M2) ∧ (¬ x1 ≤ l3 → 0 ≤ l3 ∧ (l3 < 400 ∧ (0 ≤ l3 ∧ (l3 < 400 ∧ (en_CV sc 17 [mm_r 11, mm_i (0 - (M2.1 (l1 + 5) l3)), mm_i (0 - (M2.1 (l1 + 4) l3))] M2 (fun M10 => mr_ok M10 → en_R sc 76 13 [mm_r 0, mm_r l1, mm_i l2, mm_i (l3 + 1)] [] M10 Q) (fun e M9 => Q (.inr e) M9)))))))) (fun e M9 => Q (.inr e) M9)) : en_R sc 76 13 [mm_r 0, mm_r l1, mm_i l2, mm_i l3] [] M Q := by
  refine en_iload_n mc76_13 rfl ?_
  refine en_aload_n mc76_14 rfl ?_
  refine en_iload_n mc76_15 rfl ?_
  refine en_callI (lz := [mm_r l1, mm_i l2]) mv76 mc76_16 rfl rfl (lk_m6_153) mv51 rfl (by decide) rfl (mk_cokV rfl (mk_A0 hA_l1)) rfl (mk_nh rfl _) ho ?_
  refine en_CI_mono h (fun x1 M2 h => ?_) (fun _ _ h => h)
  intro ho3
  replace h := h ho3
  obtain ⟨g4, h⟩ := h
  refine en_icmp_ge 49 mc76_19 (by decide) hg_l3 g4 (fun q => ?_) (fun q => ?_)
  · replace h := h.1 q
    exact en_vret mv76 mc76_49 rfl h
  · replace h := h.2 q
    obtain ⟨g5, h⟩ := h
    obtain ⟨g6, h⟩ := h
    obtain ⟨g7, h⟩ := h
    obtain ⟨g8, h⟩ := h
    refine en_aload_n mc76_22 rfl ?_
    refine en_getR (b := 11) mv76 mc76_23 (lk_f6_25) (⟨rfl, by decide⟩ : mt_kd[0]? = some (.inl 6) ∧ 0 < 99) rfl (mk_fc ho3 (by decide +kernel)) ?_
    refine en_aload_n mc76_26 rfl ?_
    refine en_getR (b := (l1 + 5)) mv76 mc76_27 (lk_f6_162) (mk_A0 hA_l1) rfl (mk_fA5 hA_l1 ho3) ?_
    refine en_iload_n mc76_30 rfl ?_
    refine en_iald mc76_31 (mk_A5 hA_l1) g5 g6 ?_
    refine en_ineg mc76_32 ?_
    refine en_aload_n mc76_33 rfl ?_
    refine en_getR (b := (l1 + 4)) mv76 mc76_34 (lk_f6_159) (mk_A0 hA_l1) rfl (mk_fA4 hA_l1 ho3) ?_
    refine en_iload_n mc76_37 rfl ?_
    refine en_iald mc76_38 (mk_A4 hA_l1) g7 g8 ?_
    refine en_ineg mc76_39 ?_
    refine en_callV (lz := [mm_r 11, mm_i (0 - (M2.1 (l1 + 5) l3)), mm_i (0 - (M2.1 (l1 + 4) l3))]) mv76 mc76_40 rfl rfl (lk_m6_72) mv17 rfl (by decide) rfl (mk_cokV rfl (mk_R0 (by unfold mr_Rw; decide : mr_Rw 11))) rfl (mk_nh rfl _) ho3 ?_
    refine en_CV_mono h (fun M10 h => ?_) (fun _ _ h => h)
    intro ho11
    replace h := h ho11
    refine en_iinc (ls' := [mm_r 0, mm_r l1, mm_i l2, mm_i (l3 + 1)]) mc76_43 rfl rfl ?_
    refine en_goto 13 mc76_46 (by decide) ?_
    exact h
/-! 77: CellAreas.swapSides(LCellAreas$Area;)V -/
theorem mc77_0 : mr_C 77 0 = some (.iconst 0, 1) := rfl
theorem mc77_1 : mr_C 77 1 = some (.istore_n 2, 1) := rfl
theorem mc77_2 : mr_C 77 2 = some (.iload_n 2, 1) := rfl
theorem mc77_3 : mr_C 77 3 = some (.aload_n 1, 1) := rfl
theorem mc77_4 : mr_C 77 4 = some (.getfield 118, 3) := rfl
theorem mc77_7 : mr_C 77 7 = some (.if_icmp .ge (38), 3) := rfl
theorem mc77_10 : mr_C 77 10 = some (.aload_n 0, 1) := rfl
theorem mc77_11 : mr_C 77 11 = some (.aload_n 1, 1) := rfl
theorem mc77_12 : mr_C 77 12 = some (.iload_n 2, 1) := rfl
theorem mc77_13 : mr_C 77 13 = some (.invokevirtual 271, 3) := rfl
theorem mc77_16 : mr_C 77 16 = some (.aload_n 0, 1) := rfl
theorem mc77_17 : mr_C 77 17 = some (.getfield 18, 3) := rfl
theorem mc77_20 : mr_C 77 20 = some (.aload_n 1, 1) := rfl
theorem mc77_21 : mr_C 77 21 = some (.getfield 125, 3) := rfl
theorem mc77_24 : mr_C 77 24 = some (.iload_n 2, 1) := rfl
theorem mc77_25 : mr_C 77 25 = some (.iaload, 1) := rfl
theorem mc77_26 : mr_C 77 26 = some (.aload_n 1, 1) := rfl
theorem mc77_27 : mr_C 77 27 = some (.getfield 129, 3) := rfl
theorem mc77_30 : mr_C 77 30 = some (.iload_n 2, 1) := rfl
theorem mc77_31 : mr_C 77 31 = some (.iaload, 1) := rfl
theorem mc77_32 : mr_C 77 32 = some (.aload_n 0, 1) := rfl
theorem mc77_33 : mr_C 77 33 = some (.getfield 25, 3) := rfl
theorem mc77_36 : mr_C 77 36 = some (.invokevirtual 79, 3) := rfl
theorem mc77_39 : mr_C 77 39 = some (.iinc 2 (1), 3) := rfl
theorem mc77_42 : mr_C 77 42 = some (.goto (-40), 3) := rfl
theorem mc77_45 : mr_C 77 45 = some (.return_, 1) := rfl
theorem vc77_0 {sc : Nat × (Int → Int)} {Q : mm_R → mm_M → Prop} {M : mm_M} {l1 : Nat} (ho : mr_ok M)
    (h : en_R sc 77 2 [mm_r 0, mm_r l1, mm_i 0] [] M Q) : en_R sc 77 0 [mm_r 0, mm_r l1, mm_u] [] M Q := by
  refine en_iconst mc77_0 ?_
  refine en_istore_n (ls' := [mm_r 0, mm_r l1, mm_i 0]) mc77_1 (Nat.le_of_ble_eq_true rfl) rfl ?_
  exact h
theorem vc77_2 {sc : Nat × (Int → Int)} {Q : mm_R → mm_M → Prop} {M : mm_M} {l1 : Nat} {l2 : Int} (ho : mr_ok M) (hA_l1 : mr_A l1) (hg_l2 : mr_rg l2)
    (h : ((M.1 l1 0) ≤ l2 → Q (.inl none) M) ∧ (¬ (M.1 l1 0) ≤ l2 → en_CV sc 76 [mm_r 0, mm_r l1, mm_i l2, mm_u] M (fun M2 => mr_ok M2 → 0 ≤ l2 ∧ (l2 < 100 ∧ (0 ≤ l2 ∧ (l2 < 100 ∧ (en_CV sc 29 [mm_r 2, mm_i (M2.1 (l1 + 1) l2), mm_i (M2.1 (l1 + 2) l2), mm_r 11, mm_u] M2 (fun M9 => mr_ok M9 → en_R sc 77 2 [mm_r 0, mm_r l1, mm_i (l2 + 1)] [] M9 Q) (fun e M9 => Q (.inr e) M9)))))) (fun e M9 => Q (.inr e) M9))) : en_R sc 77 2 [mm_r 0, mm_r l1, mm_i l2] [] M Q := by
  refine en_iload_n mc77_2 rfl ?_
  refine en_aload_n mc77_3 rfl ?_
  refine en_getI mv77 mc77_4 (lk_f6_118) (mk_A0 hA_l1) (Or.inl rfl) ?_
  refine en_icmp_ge 45 mc77_7 (by decide) hg_l2 (ho.2.1 l1 0 (mk_nA0 hA_l1 _)) (fun q => ?_) (fun q => ?_)
  · replace h := h.1 q
    exact en_vret mv77 mc77_45 rfl h
  · replace h := h.2 q
    refine en_aload_n mc77_10 rfl ?_
    refine en_aload_n mc77_11 rfl ?_
    refine en_iload_n mc77_12 rfl ?_
    refine en_callV (lz := [mm_r 0, mm_r l1, mm_i l2, mm_u]) mv77 mc77_13 rfl rfl (lk_m6_271) mv76 rfl (by decide) rfl (mk_cokV rfl (⟨rfl, by decide⟩ : mt_kd[0]? = some (.inl 6) ∧ 0 < 99)) rfl (mk_nh rfl _) ho ?_
    refine en_CV_mono h (fun M2 h => ?_) (fun _ _ h => h)
    intro ho3
    replace h := h ho3
    obtain ⟨g4, h⟩ := h
    obtain ⟨g5, h⟩ := h
    obtain ⟨g6, h⟩ := h
    obtain ⟨g7, h⟩ := h
    refine en_aload_n mc77_16 rfl ?_
    refine en_getR (b := 2) mv77 mc77_17 (lk_f6_18) (⟨rfl, by decide⟩ : mt_kd[0]? = some (.inl 6) ∧ 0 < 99) rfl (mk_fc ho3 (by decide +kernel)) ?_
    refine en_aload_n mc77_20 rfl ?_
    refine en_getR (b := (l1 + 1)) mv77 mc77_21 (lk_f6_125) (mk_A0 hA_l1) rfl (mk_fA1 hA_l1 ho3) ?_
    refine en_iload_n mc77_24 rfl ?_
    refine en_iald mc77_25 (mk_A1 hA_l1) g4 g5 ?_
    refine en_aload_n mc77_26 rfl ?_
    refine en_getR (b := (l1 + 2)) mv77 mc77_27 (lk_f6_129) (mk_A0 hA_l1) rfl (mk_fA2 hA_l1 ho3) ?_
    refine en_iload_n mc77_30 rfl ?_
    refine en_iald mc77_31 (mk_A2 hA_l1) g6 g7 ?_
    refine en_aload_n mc77_32 rfl ?_
    refine en_getR (b := 11) mv77 mc77_33 (lk_f6_25) (⟨rfl, by decide⟩ : mt_kd[0]? = some (.inl 6) ∧ 0 < 99) rfl (mk_fc ho3 (by decide +kernel)) ?_
    refine en_callV (lz := [mm_r 2, mm_i (M2.1 (l1 + 1) l2), mm_i (M2.1 (l1 + 2) l2), mm_r 11, mm_u]) mv77 mc77_36 rfl rfl (lk_m6_79) mv29 rfl (by decide) rfl (mk_cokV rfl (⟨rfl, by decide⟩ : mt_kd[2]? = some (.inl 2) ∧ 2 < 99)) rfl (mk_nh rfl _) ho3 ?_
    refine en_CV_mono h (fun M9 h => ?_) (fun _ _ h => h)
    intro ho10
    replace h := h ho10
    refine en_iinc (ls' := [mm_r 0, mm_r l1, mm_i (l2 + 1)]) mc77_39 rfl rfl ?_
    refine en_goto 2 mc77_42 (by decide) ?_
    exact h
/-! 78: CellAreas.swapEnds(LCellAreas$Area;)V -/
theorem mc78_0 : mr_C 78 0 = some (.aload_n 1, 1) := rfl
theorem mc78_1 : mr_C 78 1 = some (.getfield 118, 3) := rfl
theorem mc78_4 : mr_C 78 4 = some (.iconst 1, 1) := rfl
theorem mc78_5 : mr_C 78 5 = some (.isub, 1) := rfl
theorem mc78_6 : mr_C 78 6 = some (.istore_n 2, 1) := rfl
theorem mc78_7 : mr_C 78 7 = some (.iload_n 2, 1) := rfl
theorem mc78_8 : mr_C 78 8 = some (.ifCond .lt (52), 3) := rfl
theorem mc78_11 : mr_C 78 11 = some (.aload_n 0, 1) := rfl
theorem mc78_12 : mr_C 78 12 = some (.getfield 25, 3) := rfl
theorem mc78_15 : mr_C 78 15 = some (.invokevirtual 69, 3) := rfl
theorem mc78_18 : mr_C 78 18 = some (.aload_n 1, 1) := rfl
theorem mc78_19 : mr_C 78 19 = some (.iload_n 2, 1) := rfl
theorem mc78_20 : mr_C 78 20 = some (.aload_n 0, 1) := rfl
theorem mc78_21 : mr_C 78 21 = some (.getfield 25, 3) := rfl
theorem mc78_24 : mr_C 78 24 = some (.iconst 0, 1) := rfl
theorem mc78_25 : mr_C 78 25 = some (.iconst 0, 1) := rfl
theorem mc78_26 : mr_C 78 26 = some (.invokevirtual 121, 3) := rfl
theorem mc78_29 : mr_C 78 29 = some (.aload_n 0, 1) := rfl
theorem mc78_30 : mr_C 78 30 = some (.getfield 18, 3) := rfl
theorem mc78_33 : mr_C 78 33 = some (.aload_n 1, 1) := rfl
theorem mc78_34 : mr_C 78 34 = some (.getfield 129, 3) := rfl
theorem mc78_37 : mr_C 78 37 = some (.iload_n 2, 1) := rfl
theorem mc78_38 : mr_C 78 38 = some (.iaload, 1) := rfl
theorem mc78_39 : mr_C 78 39 = some (.ineg, 1) := rfl
theorem mc78_40 : mr_C 78 40 = some (.aload_n 1, 1) := rfl
theorem mc78_41 : mr_C 78 41 = some (.getfield 125, 3) := rfl
theorem mc78_44 : mr_C 78 44 = some (.iload_n 2, 1) := rfl
theorem mc78_45 : mr_C 78 45 = some (.iaload, 1) := rfl
theorem mc78_46 : mr_C 78 46 = some (.ineg, 1) := rfl
theorem mc78_47 : mr_C 78 47 = some (.aload_n 0, 1) := rfl
theorem mc78_48 : mr_C 78 48 = some (.getfield 25, 3) := rfl
theorem mc78_51 : mr_C 78 51 = some (.invokevirtual 79, 3) := by decide +kernel
theorem mc78_54 : mr_C 78 54 = some (.iinc 2 (-1), 3) := by decide +kernel
theorem mc78_57 : mr_C 78 57 = some (.goto (-50), 3) := by decide +kernel
theorem mc78_60 : mr_C 78 60 = some (.return_, 1) := by decide +kernel
theorem vc78_0 {sc : Nat × (Int → Int)} {Q : mm_R → mm_M → Prop} {M : mm_M} {l1 : Nat} (ho : mr_ok M) (hA_l1 : mr_A l1)
    (h : en_R sc 78 7 [mm_r 0, mm_r l1, mm_i ((M.1 l1 0) - 1)] [] M Q) : en_R sc 78 0 [mm_r 0, mm_r l1, mm_u] [] M Q := by
  refine en_aload_n mc78_0 rfl ?_
  refine en_getI mv78 mc78_1 (lk_f6_118) (mk_A0 hA_l1) (Or.inl rfl) ?_
  refine en_iconst mc78_4 ?_
  refine en_isub mc78_5 ?_
  refine en_istore_n (ls' := [mm_r 0, mm_r l1, mm_i ((M.1 l1 0) - 1)]) mc78_6 (Nat.le_of_ble_eq_true rfl) rfl ?_
  exact h
theorem vc78_7 {sc : Nat × (Int → Int)} {Q : mm_R → mm_M → Prop} {M : mm_M} {l1 : Nat} {l2 : Int} (ho : mr_ok M) (hg_l2 : mr_rg l2) (hA_l1 : mr_A l1)
    (h : (l2 < 0 → Q (.inl none) M) ∧ (¬ l2 < 0 → en_CV sc 12 [mm_r 11] M (fun M2 => mr_ok M2 → en_CV sc 52 [mm_r l1, mm_i l2, mm_r 11, mm_i 0, mm_i 0, mm_u] M2 (fun M5 => mr_ok M5 → 0 ≤ l2 ∧ (l2 < 100 ∧ (0 ≤ l2 ∧ (l2 < 100 ∧ (en_CV sc 29 [mm_r 2, mm_i (0 - (M5.1 (l1 + 2) l2)), mm_i (0 - (M5.1 (l1 + 1) l2)), mm_r 11, mm_u] M5 (fun M12 => mr_ok M12 → en_R sc 78 7 [mm_r 0, mm_r l1, mm_i (l2 + (-1))] [] M12 Q) (fun e M9 => Q (.inr e) M9)))))) (fun e M9 => Q (.inr e) M9)) (fun e M9 => Q (.inr e) M9))) : en_R sc 78 7 [mm_r 0, mm_r l1, mm_i l2] [] M Q := by
  refine en_iload_n mc78_7 rfl ?_
  refine en_if_lt 60 mc78_8 (by decide) hg_l2 (fun q => ?_) (fun q => ?_)
  · replace h := h.1 q
    exact en_vret mv78 mc78_60 rfl h
  · replace h := h.2 q
    refine en_aload_n mc78_11 rfl ?_
    refine en_getR (b := 11) mv78 mc78_12 (lk_f6_25) (⟨rfl, by decide⟩ : mt_kd[0]? = some (.inl 6) ∧ 0 < 99) rfl (mk_fc ho (by decide +kernel)) ?_
    refine en_callV (lz := [mm_r 11]) mv78 mc78_15 rfl rfl (lk_m6_69) mv12 rfl (by decide) rfl (mk_cokV rfl (mk_R0 (by unfold mr_Rw; decide : mr_Rw 11))) rfl (mk_nh rfl _) ho ?_
    refine en_CV_mono h (fun M2 h => ?_) (fun _ _ h => h)
    intro ho3
    replace h := h ho3
    refine en_aload_n mc78_18 rfl ?_
    refine en_iload_n mc78_19 rfl ?_
    refine en_aload_n mc78_20 rfl ?_
    refine en_getR (b := 11) mv78 mc78_21 (lk_f6_25) (⟨rfl, by decide⟩ : mt_kd[0]? = some (.inl 6) ∧ 0 < 99) rfl (mk_fc ho3 (by decide +kernel)) ?_
    refine en_iconst mc78_24 ?_
    refine en_iconst mc78_25 ?_
    refine en_callV (lz := [mm_r l1, mm_i l2, mm_r 11, mm_i 0, mm_i 0, mm_u]) mv78 mc78_26 rfl rfl (lk_m6_121) mv52 rfl (by decide) rfl (mk_cokV rfl (mk_A0 hA_l1)) rfl (mk_nh rfl _) ho3 ?_
    refine en_CV_mono h (fun M5 h => ?_) (fun _ _ h => h)
    intro ho6
    replace h := h ho6
    obtain ⟨g7, h⟩ := h
    obtain ⟨g8, h⟩ := h
    obtain ⟨g9, h⟩ := h
    obtain ⟨g10, h⟩ := h
    refine en_aload_n mc78_29 rfl ?_
    refine en_getR (b := 2) mv78 mc78_30 (lk_f6_18) (⟨rfl, by decide⟩ : mt_kd[0]? = some (.inl 6) ∧ 0 < 99) rfl (mk_fc ho6 (by decide +kernel)) ?_
    refine en_aload_n mc78_33 rfl ?_
    refine en_getR (b := (l1 + 2)) mv78 mc78_34 (lk_f6_129) (mk_A0 hA_l1) rfl (mk_fA2 hA_l1 ho6) ?_
    refine en_iload_n mc78_37 rfl ?_
    refine en_iald mc78_38 (mk_A2 hA_l1) g7 g8 ?_
    refine en_ineg mc78_39 ?_
    refine en_aload_n mc78_40 rfl ?_
    refine en_getR (b := (l1 + 1)) mv78 mc78_41 (lk_f6_125) (mk_A0 hA_l1) rfl (mk_fA1 hA_l1 ho6) ?_
    refine en_iload_n mc78_44 rfl ?_
    refine en_iald mc78_45 (mk_A1 hA_l1) g9 g10 ?_
    refine en_ineg mc78_46 ?_
    refine en_aload_n mc78_47 rfl ?_
    refine en_getR (b := 11) mv78 mc78_48 (lk_f6_25) (⟨rfl, by decide⟩ : mt_kd[0]? = some (.inl 6) ∧ 0 < 99) rfl (mk_fc ho6 (by decide +kernel)) ?_
    refine en_callV (lz := [mm_r 2, mm_i (0 - (M5.1 (l1 + 2) l2)), mm_i (0 - (M5.1 (l1 + 1) l2)), mm_r 11, mm_u]) mv78 mc78_51 rfl rfl (lk_m6_79) mv29 rfl (by decide) rfl (mk_cokV rfl (⟨rfl, by decide⟩ : mt_kd[2]? = some (.inl 2) ∧ 2 < 99)) rfl (mk_nh rfl _) ho6 ?_
    refine en_CV_mono h (fun M12 h => ?_) (fun _ _ h => h)
    intro ho13
    replace h := h ho13
    refine en_iinc (ls' := [mm_r 0, mm_r l1, mm_i (l2 + (-1))]) mc78_54 rfl rfl ?_
    refine en_goto 7 mc78_57 (by decide) ?_
    exact h
/-! 79: CellAreas$Area.stretches()I -/
theorem mc79_0 : mr_C 79 0 = some (.aload_n 0, 1) := rfl
theorem mc79_1 : mr_C 79 1 = some (.getfield 22, 3) := rfl
theorem mc79_4 : mr_C 79 4 = some (.aload_n 0, 1) := rfl
theorem mc79_5 : mr_C 79 5 = some (.getfield 9, 3) := rfl
theorem mc79_8 : mr_C 79 8 = some (.iaload, 1) := rfl
theorem mc79_9 : mr_C 79 9 = some (.ireturn, 1) := rfl
theorem vc79_0 {sc : Nat × (Int → Int)} {Q : mm_R → mm_M → Prop} {M : mm_M} {l0 : Nat} (ho : mr_ok M) (hA_l0 : mr_A l0)
    (h : 0 ≤ (M.1 l0 0) ∧ ((M.1 l0 0) < 101 ∧ (Q (.inl (some (mm_i (M.1 (l0 + 3) (M.1 l0 0))))) M))) : en_R sc 79 0 [mm_r l0] [] M Q := by
  obtain ⟨g1, h⟩ := h
  obtain ⟨g2, h⟩ := h
  refine en_aload_n mc79_0 rfl ?_
  refine en_getR (b := (l0 + 3)) mv79 mc79_1 (lk_f0_22) (mk_A0 hA_l0) rfl (mk_fA3 hA_l0 ho) ?_
  refine en_aload_n mc79_4 rfl ?_
  refine en_getI mv79 mc79_5 (lk_f0_9) (mk_A0 hA_l0) (Or.inl rfl) ?_
  refine en_iald mc79_8 (mk_A3 hA_l0) g1 g2 ?_
  exact en_iret mv79 mc79_9 rfl h
/-! 80: CellAreas$Area.markColumns(LCellAreas$Row;)V -/
theorem mc80_0 : mr_C 80 0 = some (.iconst 0, 1) := rfl
theorem mc80_1 : mr_C 80 1 = some (.istore_n 2, 1) := rfl
theorem mc80_2 : mr_C 80 2 = some (.iload_n 2, 1) := rfl
theorem mc80_3 : mr_C 80 3 = some (.aload_n 0, 1) := rfl
theorem mc80_4 : mr_C 80 4 = some (.invokevirtual 48, 3) := rfl
theorem mc80_7 : mr_C 80 7 = some (.if_icmp .ge (45), 3) := rfl
theorem mc80_10 : mr_C 80 10 = some (.aload_n 1, 1) := rfl
theorem mc80_11 : mr_C 80 11 = some (.aload_n 0, 1) := rfl
theorem mc80_12 : mr_C 80 12 = some (.getfield 25, 3) := rfl
theorem mc80_15 : mr_C 80 15 = some (.iload_n 2, 1) := rfl
theorem mc80_16 : mr_C 80 16 = some (.iaload, 1) := rfl
theorem mc80_17 : mr_C 80 17 = some (.aload_n 0, 1) := rfl
theorem mc80_18 : mr_C 80 18 = some (.getfield 25, 3) := rfl
theorem mc80_21 : mr_C 80 21 = some (.iload_n 2, 1) := rfl
theorem mc80_22 : mr_C 80 22 = some (.iaload, 1) := rfl
theorem mc80_23 : mr_C 80 23 = some (.iconst 1, 1) := rfl
theorem mc80_24 : mr_C 80 24 = some (.iadd, 1) := rfl
theorem mc80_25 : mr_C 80 25 = some (.invokevirtual 42, 3) := rfl
theorem mc80_28 : mr_C 80 28 = some (.aload_n 1, 1) := rfl
theorem mc80_29 : mr_C 80 29 = some (.aload_n 0, 1) := rfl
theorem mc80_30 : mr_C 80 30 = some (.getfield 28, 3) := rfl
theorem mc80_33 : mr_C 80 33 = some (.iload_n 2, 1) := rfl
theorem mc80_34 : mr_C 80 34 = some (.iaload, 1) := rfl
theorem mc80_35 : mr_C 80 35 = some (.aload_n 0, 1) := rfl
theorem mc80_36 : mr_C 80 36 = some (.getfield 28, 3) := rfl
theorem mc80_39 : mr_C 80 39 = some (.iload_n 2, 1) := rfl
theorem mc80_40 : mr_C 80 40 = some (.iaload, 1) := rfl
theorem mc80_41 : mr_C 80 41 = some (.iconst 1, 1) := rfl
theorem mc80_42 : mr_C 80 42 = some (.iadd, 1) := rfl
theorem mc80_43 : mr_C 80 43 = some (.invokevirtual 42, 3) := rfl
theorem mc80_46 : mr_C 80 46 = some (.iinc 2 (1), 3) := by decide +kernel
theorem mc80_49 : mr_C 80 49 = some (.goto (-47), 3) := by decide +kernel
theorem mc80_52 : mr_C 80 52 = some (.return_, 1) := by decide +kernel
theorem vc80_0 {sc : Nat × (Int → Int)} {Q : mm_R → mm_M → Prop} {M : mm_M} {l0 : Nat} {l1 : Nat} (ho : mr_ok M)
    (h : en_R sc 80 2 [mm_r l0, mm_r l1, mm_i 0] [] M Q) : en_R sc 80 0 [mm_r l0, mm_r l1, mm_u] [] M Q := by
  refine en_iconst mc80_0 ?_
  refine en_istore_n (ls' := [mm_r l0, mm_r l1, mm_i 0]) mc80_1 (Nat.le_of_ble_eq_true rfl) rfl ?_
  exact h
theorem vc80_2 {sc : Nat × (Int → Int)} {Q : mm_R → mm_M → Prop} {M : mm_M} {l0 : Nat} {l1 : Nat} {l2 : Int} (ho : mr_ok M) (hA_l0 : mr_A l0) (hg_l2 : mr_rg l2) (hR_l1 : mr_Rw l1)
    (h : en_CI sc 79 [mm_r l0] M (fun x1 M2 => mr_ok M2 → mr_rg x1 ∧ ((x1 ≤ l2 → Q (.inl none) M2) ∧ (¬ x1 ≤ l2 → 0 ≤ l2 ∧ (l2 < 400 ∧ (0 ≤ l2 ∧ (l2 < 400 ∧ (en_CV sc 17 [mm_r l1, mm_i (M2.1 (l0 + 4) l2), mm_i ((M2.1 (l0 + 4) l2) + 1)] M2 (fun M10 => mr_ok M10 → 0 ≤ l2 ∧ (l2 < 400 ∧ (0 ≤ l2 ∧ (l2 < 400 ∧ (en_CV sc 17 [mm_r l1, mm_i (M10.1 (l0 + 5) l2), mm_i ((M10.1 (l0 + 5) l2) + 1)] M10 (fun M17 => mr_ok M17 → en_R sc 80 2 [mm_r l0, mm_r l1, mm_i (l2 + 1)] [] M17 Q) (fun e M9 => Q (.inr e) M9)))))) (fun e M9 => Q (.inr e) M9)))))))) (fun e M9 => Q (.inr e) M9)) : en_R sc 80 2 [mm_r l0, mm_r l1, mm_i l2] [] M Q := by
  refine en_iload_n mc80_2 rfl ?_
  refine en_aload_n mc80_3 rfl ?_
  refine en_callI (lz := [mm_r l0]) mv80 mc80_4 rfl rfl (lk_m0_48) mv79 rfl (by decide) rfl (mk_cokV rfl (mk_A0 hA_l0)) rfl (mk_nh rfl _) ho ?_
  refine en_CI_mono h (fun x1 M2 h => ?_) (fun _ _ h => h)
  intro ho3
  replace h := h ho3
  obtain ⟨g4, h⟩ := h
  refine en_icmp_ge 52 mc80_7 (by decide) hg_l2 g4 (fun q => ?_) (fun q => ?_)
  · replace h := h.1 q
    exact en_vret mv80 mc80_52 rfl h
  · replace h := h.2 q
    obtain ⟨g5, h⟩ := h
    obtain ⟨g6, h⟩ := h
    obtain ⟨g7, h⟩ := h
    obtain ⟨g8, h⟩ := h
    refine en_aload_n mc80_10 rfl ?_
    refine en_aload_n mc80_11 rfl ?_
    refine en_getR (b := (l0 + 4)) mv80 mc80_12 (lk_f0_25) (mk_A0 hA_l0) rfl (mk_fA4 hA_l0 ho3) ?_
    refine en_iload_n mc80_15 rfl ?_
    refine en_iald mc80_16 (mk_A4 hA_l0) g5 g6 ?_
    refine en_aload_n mc80_17 rfl ?_
    refine en_getR (b := (l0 + 4)) mv80 mc80_18 (lk_f0_25) (mk_A0 hA_l0) rfl (mk_fA4 hA_l0 ho3) ?_
    refine en_iload_n mc80_21 rfl ?_
    refine en_iald mc80_22 (mk_A4 hA_l0) g7 g8 ?_
    refine en_iconst mc80_23 ?_
    refine en_iadd mc80_24 ?_
    refine en_callV (lz := [mm_r l1, mm_i (M2.1 (l0 + 4) l2), mm_i ((M2.1 (l0 + 4) l2) + 1)]) mv80 mc80_25 rfl rfl (lk_m0_42) mv17 rfl (by decide) rfl (mk_cokV rfl (mk_R0 hR_l1)) rfl (mk_nh rfl _) ho3 ?_
    refine en_CV_mono h (fun M10 h => ?_) (fun _ _ h => h)
    intro ho11
    replace h := h ho11
    obtain ⟨g12, h⟩ := h
    obtain ⟨g13, h⟩ := h
    obtain ⟨g14, h⟩ := h
    obtain ⟨g15, h⟩ := h
    refine en_aload_n mc80_28 rfl ?_
    refine en_aload_n mc80_29 rfl ?_
    refine en_getR (b := (l0 + 5)) mv80 mc80_30 (lk_f0_28) (mk_A0 hA_l0) rfl (mk_fA5 hA_l0 ho11) ?_
    refine en_iload_n mc80_33 rfl ?_
    refine en_iald mc80_34 (mk_A5 hA_l0) g12 g13 ?_
    refine en_aload_n mc80_35 rfl ?_
    refine en_getR (b := (l0 + 5)) mv80 mc80_36 (lk_f0_28) (mk_A0 hA_l0) rfl (mk_fA5 hA_l0 ho11) ?_
    refine en_iload_n mc80_39 rfl ?_
    refine en_iald mc80_40 (mk_A5 hA_l0) g14 g15 ?_
    refine en_iconst mc80_41 ?_
    refine en_iadd mc80_42 ?_
    refine en_callV (lz := [mm_r l1, mm_i (M10.1 (l0 + 5) l2), mm_i ((M10.1 (l0 + 5) l2) + 1)]) mv80 mc80_43 rfl rfl (lk_m0_42) mv17 rfl (by decide) rfl (mk_cokV rfl (mk_R0 hR_l1)) rfl (mk_nh rfl _) ho11 ?_
    refine en_CV_mono h (fun M17 h => ?_) (fun _ _ h => h)
    intro ho18
    replace h := h ho18
    refine en_iinc (ls' := [mm_r l0, mm_r l1, mm_i (l2 + 1)]) mc80_46 rfl rfl ?_
    refine en_goto 2 mc80_49 (by decide) ?_
    exact h
/-! 81: CellAreas$Area.endingBehind(II)I -/
theorem mc81_0 : mr_C 81 0 = some (.iload_n 1, 1) := rfl
theorem mc81_1 : mr_C 81 1 = some (.iconst (-1), 1) := rfl
theorem mc81_2 : mr_C 81 2 = some (.if_icmp .ne (7), 3) := rfl
theorem mc81_5 : mr_C 81 5 = some (.iconst 0, 1) := rfl
theorem mc81_6 : mr_C 81 6 = some (.goto 9, 3) := rfl
theorem mc81_9 : mr_C 81 9 = some (.aload_n 0, 1) := rfl
theorem mc81_10 : mr_C 81 10 = some (.getfield 22, 3) := rfl
theorem mc81_13 : mr_C 81 13 = some (.iload_n 1, 1) := rfl
theorem mc81_14 : mr_C 81 14 = some (.iaload, 1) := rfl
theorem mc81_15 : mr_C 81 15 = some (.istore_n 3, 1) := rfl
theorem mc81_16 : mr_C 81 16 = some (.iload_n 1, 1) := rfl
theorem mc81_17 : mr_C 81 17 = some (.iconst (-1), 1) := rfl
theorem mc81_18 : mr_C 81 18 = some (.if_icmp .ne (7), 3) := rfl
theorem mc81_21 : mr_C 81 21 = some (.iconst 0, 1) := rfl
theorem mc81_22 : mr_C 81 22 = some (.goto 11, 3) := rfl
theorem mc81_25 : mr_C 81 25 = some (.aload_n 0, 1) := rfl
theorem mc81_26 : mr_C 81 26 = some (.getfield 22, 3) := rfl
theorem mc81_29 : mr_C 81 29 = some (.iload_n 1, 1) := rfl
theorem mc81_30 : mr_C 81 30 = some (.iconst 1, 1) := rfl
theorem mc81_31 : mr_C 81 31 = some (.iadd, 1) := rfl
theorem mc81_32 : mr_C 81 32 = some (.iaload, 1) := rfl
theorem mc81_33 : mr_C 81 33 = some (.istore 4, 2) := rfl
theorem mc81_35 : mr_C 81 35 = some (.iload_n 3, 1) := rfl
theorem mc81_36 : mr_C 81 36 = some (.iload 4, 2) := rfl
theorem mc81_38 : mr_C 81 38 = some (.if_icmp .ge (37), 3) := rfl
theorem mc81_41 : mr_C 81 41 = some (.iload_n 3, 1) := rfl
theorem mc81_42 : mr_C 81 42 = some (.iload 4, 2) := rfl
theorem mc81_44 : mr_C 81 44 = some (.iadd, 1) := rfl
theorem mc81_45 : mr_C 81 45 = some (.iconst 2, 1) := rfl
theorem mc81_46 : mr_C 81 46 = some (.idiv, 1) := rfl
theorem mc81_47 : mr_C 81 47 = some (.istore 5, 2) := by decide +kernel
theorem mc81_49 : mr_C 81 49 = some (.aload_n 0, 1) := by decide +kernel
theorem mc81_50 : mr_C 81 50 = some (.getfield 28, 3) := by decide +kernel
theorem mc81_53 : mr_C 81 53 = some (.iload 5, 2) := by decide +kernel
theorem mc81_55 : mr_C 81 55 = some (.iaload, 1) := by decide +kernel
theorem mc81_56 : mr_C 81 56 = some (.iload_n 2, 1) := by decide +kernel
theorem mc81_57 : mr_C 81 57 = some (.if_icmp .le (10), 3) := by decide +kernel
theorem mc81_60 : mr_C 81 60 = some (.iload 5, 2) := by decide +kernel
theorem mc81_62 : mr_C 81 62 = some (.istore 4, 2) := by decide +kernel
theorem mc81_64 : mr_C 81 64 = some (.goto 8, 3) := by decide +kernel
theorem mc81_67 : mr_C 81 67 = some (.iload 5, 2) := by decide +kernel
theorem mc81_69 : mr_C 81 69 = some (.iconst 1, 1) := by decide +kernel
theorem mc81_70 : mr_C 81 70 = some (.iadd, 1) := by decide +kernel
theorem mc81_71 : mr_C 81 71 = some (.istore_n 3, 1) := by decide +kernel
theorem mc81_72 : mr_C 81 72 = some (.goto (-37), 3) := by decide +kernel
theorem mc81_75 : mr_C 81 75 = some (.iload_n 3, 1) := by decide +kernel
theorem mc81_76 : mr_C 81 76 = some (.ireturn, 1) := by decide +kernel
theorem vc81_0 {sc : Nat × (Int → Int)} {Q : mm_R → mm_M → Prop} {M : mm_M} {l0 : Nat} {l1 : Int} {l2 : Int} (ho : mr_ok M) (hg_l1 : mr_rg l1) (hA_l0 : mr_A l0)
    (h : (l1 ≠ (-1) → 0 ≤ l1 ∧ (l1 < 101 ∧ (en_R sc 81 15 [mm_r l0, mm_i l1, mm_i l2, mm_u, mm_u, mm_u] [mm_i (M.1 (l0 + 3) l1)] M Q))) ∧ (¬ (l1 ≠ (-1)) → en_R sc 81 15 [mm_r l0, mm_i l1, mm_i l2, mm_u, mm_u, mm_u] [mm_i 0] M Q)) : en_R sc 81 0 [mm_r l0, mm_i l1, mm_i l2, mm_u, mm_u, mm_u] [] M Q := by
  refine en_iload_n mc81_0 rfl ?_
  refine en_iconst mc81_1 ?_
  refine en_icmp_ne 9 mc81_2 (by decide) hg_l1 (⟨by decide, by decide⟩ : mr_rg (-1)) (fun q => ?_) (fun q => ?_)
  · replace h := h.1 q
    obtain ⟨g1, h⟩ := h
    obtain ⟨g2, h⟩ := h
    refine en_aload_n mc81_9 rfl ?_
    refine en_getR (b := (l0 + 3)) mv81 mc81_10 (lk_f0_22) (mk_A0 hA_l0) rfl (mk_fA3 hA_l0 ho) ?_
    refine en_iload_n mc81_13 rfl ?_
    refine en_iald mc81_14 (mk_A3 hA_l0) g1 g2 ?_
    exact h
  · replace h := h.2 q
    refine en_iconst mc81_5 ?_
    refine en_goto 15 mc81_6 (by decide) ?_
    exact h
theorem vc81_15 {sc : Nat × (Int → Int)} {Q : mm_R → mm_M → Prop} {M : mm_M} {l0 : Nat} {l1 : Int} {l2 : Int} {s0 : Int} (ho : mr_ok M) (hg_l1 : mr_rg l1) (hA_l0 : mr_A l0)
    (h : (l1 ≠ (-1) → 0 ≤ (l1 + 1) ∧ ((l1 + 1) < 101 ∧ (en_R sc 81 35 [mm_r l0, mm_i l1, mm_i l2, mm_i s0, mm_i (M.1 (l0 + 3) (l1 + 1)), mm_u] [] M Q))) ∧ (¬ (l1 ≠ (-1)) → en_R sc 81 35 [mm_r l0, mm_i l1, mm_i l2, mm_i s0, mm_i 0, mm_u] [] M Q)) : en_R sc 81 15 [mm_r l0, mm_i l1, mm_i l2, mm_u, mm_u, mm_u] [mm_i s0] M Q := by
  refine en_istore_n (ls' := [mm_r l0, mm_i l1, mm_i l2, mm_i s0, mm_u, mm_u]) mc81_15 (Nat.le_of_ble_eq_true rfl) rfl ?_
  refine en_iload_n mc81_16 rfl ?_
  refine en_iconst mc81_17 ?_
  refine en_icmp_ne 25 mc81_18 (by decide) hg_l1 (⟨by decide, by decide⟩ : mr_rg (-1)) (fun q => ?_) (fun q => ?_)
  · replace h := h.1 q
    obtain ⟨g1, h⟩ := h
    obtain ⟨g2, h⟩ := h
    refine en_aload_n mc81_25 rfl ?_
    refine en_getR (b := (l0 + 3)) mv81 mc81_26 (lk_f0_22) (mk_A0 hA_l0) rfl (mk_fA3 hA_l0 ho) ?_
    refine en_iload_n mc81_29 rfl ?_
    refine en_iconst mc81_30 ?_
    refine en_iadd mc81_31 ?_
    refine en_iald mc81_32 (mk_A3 hA_l0) g1 g2 ?_
    refine en_istore (ls' := [mm_r l0, mm_i l1, mm_i l2, mm_i s0, mm_i (M.1 (l0 + 3) (l1 + 1)), mm_u]) mc81_33 (Nat.le_of_ble_eq_true rfl) rfl ?_
    exact h
  · replace h := h.2 q
    refine en_iconst mc81_21 ?_
    refine en_goto 33 mc81_22 (by decide) ?_
    refine en_istore (ls' := [mm_r l0, mm_i l1, mm_i l2, mm_i s0, mm_i 0, mm_u]) mc81_33 (Nat.le_of_ble_eq_true rfl) rfl ?_
    exact h
theorem vc81_35 {sc : Nat × (Int → Int)} {Q : mm_R → mm_M → Prop} {M : mm_M} {l0 : Nat} {l1 : Int} {l2 : Int} {l3 : Int} {l4 : Int} {l5 : mm_V} (ho : mr_ok M) (hg_l3 : mr_rg l3) (hg_l4 : mr_rg l4) (hA_l0 : mr_A l0) (hg_l2 : mr_rg l2)
    (h : (l4 ≤ l3 → Q (.inl (some (mm_i l3))) M) ∧ (¬ l4 ≤ l3 → mr_rg (l3 + l4) ∧ (0 ≤ (l3 + l4) ∧ (0 ≤ ((l3 + l4) / 2) ∧ (((l3 + l4) / 2) < 400 ∧ (((M.1 (l0 + 5) ((l3 + l4) / 2)) ≤ l2 → en_R sc 81 35 [mm_r l0, mm_i l1, mm_i l2, mm_i (((l3 + l4) / 2) + 1), mm_i l4, mm_i ((l3 + l4) / 2)] [] M Q) ∧ (¬ (M.1 (l0 + 5) ((l3 + l4) / 2)) ≤ l2 → en_R sc 81 35 [mm_r l0, mm_i l1, mm_i l2, mm_i l3, mm_i ((l3 + l4) / 2), mm_i ((l3 + l4) / 2)] [] M Q))))))) : en_R sc 81 35 [mm_r l0, mm_i l1, mm_i l2, mm_i l3, mm_i l4, l5] [] M Q := by
  refine en_iload_n mc81_35 rfl ?_
  refine en_iload mc81_36 rfl ?_
  refine en_icmp_ge 75 mc81_38 (by decide) hg_l3 hg_l4 (fun q => ?_) (fun q => ?_)
  · replace h := h.1 q
    refine en_iload_n mc81_75 rfl ?_
    exact en_iret mv81 mc81_76 rfl h
  · replace h := h.2 q
    obtain ⟨g1, h⟩ := h
    obtain ⟨g2, h⟩ := h
    obtain ⟨g3, h⟩ := h
    obtain ⟨g4, h⟩ := h
    refine en_iload_n mc81_41 rfl ?_
    refine en_iload mc81_42 rfl ?_
    refine en_iadd mc81_44 ?_
    refine en_iconst mc81_45 ?_
    refine en_idiv mc81_46 g1 (⟨by decide, by decide⟩ : mr_rg 2) g2 (by decide) ?_
    refine en_istore (ls' := [mm_r l0, mm_i l1, mm_i l2, mm_i l3, mm_i l4, mm_i ((l3 + l4) / 2)]) mc81_47 (Nat.le_of_ble_eq_true rfl) rfl ?_
    refine en_aload_n mc81_49 rfl ?_
    refine en_getR (b := (l0 + 5)) mv81 mc81_50 (lk_f0_28) (mk_A0 hA_l0) rfl (mk_fA5 hA_l0 ho) ?_
    refine en_iload mc81_53 rfl ?_
    refine en_iald mc81_55 (mk_A5 hA_l0) g3 g4 ?_
    refine en_iload_n mc81_56 rfl ?_
    refine en_icmp_le 67 mc81_57 (by decide) (ho.2.1 (l0 + 5) ((l3 + l4) / 2) ((mk_nA5 hA_l0) _)) hg_l2 (fun q => ?_) (fun q => ?_)
    · replace h := h.1 q
      refine en_iload mc81_67 rfl ?_
      refine en_iconst mc81_69 ?_
      refine en_iadd mc81_70 ?_
      refine en_istore_n (ls' := [mm_r l0, mm_i l1, mm_i l2, mm_i (((l3 + l4) / 2) + 1), mm_i l4, mm_i ((l3 + l4) / 2)]) mc81_71 (Nat.le_of_ble_eq_true rfl) rfl ?_
      refine en_goto 35 mc81_72 (by decide) ?_
      exact h
    · replace h := h.2 q
      refine en_iload mc81_60 rfl ?_
      refine en_istore (ls' := [mm_r l0, mm_i l1, mm_i l2, mm_i l3, mm_i ((l3 + l4) / 2), mm_i ((l3 + l4) / 2)]) mc81_62 (Nat.le_of_ble_eq_true rfl) rfl ?_
      refine en_goto 72 mc81_64 (by decide) ?_
      refine en_goto 35 mc81_72 (by decide) ?_
      exact h
/-! 82: CellAreas$Area.stretchAt(II)I -/
theorem mc82_0 : mr_C 82 0 = some (.aload_n 0, 1) := rfl
theorem mc82_1 : mr_C 82 1 = some (.iload_n 1, 1) := rfl
theorem mc82_2 : mr_C 82 2 = some (.iload_n 2, 1) := rfl
theorem mc82_3 : mr_C 82 3 = some (.invokevirtual 31, 3) := rfl
theorem mc82_6 : mr_C 82 6 = some (.istore_n 3, 1) := rfl
theorem mc82_7 : mr_C 82 7 = some (.iload_n 3, 1) := rfl
theorem mc82_8 : mr_C 82 8 = some (.aload_n 0, 1) := rfl
theorem mc82_9 : mr_C 82 9 = some (.iload_n 1, 1) := rfl
theorem mc82_10 : mr_C 82 10 = some (.invokevirtual 35, 3) := rfl
theorem mc82_13 : mr_C 82 13 = some (.if_icmp .ge (17), 3) := rfl
theorem mc82_16 : mr_C 82 16 = some (.aload_n 0, 1) := rfl
theorem mc82_17 : mr_C 82 17 = some (.getfield 25, 3) := rfl
theorem mc82_20 : mr_C 82 20 = some (.iload_n 3, 1) := rfl
theorem mc82_21 : mr_C 82 21 = some (.iaload, 1) := rfl
theorem mc82_22 : mr_C 82 22 = some (.iload_n 2, 1) := rfl
theorem mc82_23 : mr_C 82 23 = some (.if_icmp .gt (7), 3) := rfl
theorem mc82_26 : mr_C 82 26 = some (.iload_n 3, 1) := rfl
theorem mc82_27 : mr_C 82 27 = some (.goto 4, 3) := rfl
theorem mc82_30 : mr_C 82 30 = some (.iconst (-1), 1) := rfl
theorem mc82_31 : mr_C 82 31 = some (.ireturn, 1) := rfl
theorem vc82_0 {sc : Nat × (Int → Int)} {Q : mm_R → mm_M → Prop} {M : mm_M} {l0 : Nat} {l1 : Int} {l2 : Int} (ho : mr_ok M) (hA_l0 : mr_A l0) (hg_l2 : mr_rg l2)
    (h : en_CI sc 81 [mm_r l0, mm_i l1, mm_i l2, mm_u, mm_u, mm_u] M (fun x1 M2 => mr_ok M2 → en_CI sc 51 [mm_r l0, mm_i l1] M2 (fun x4 M5 => mr_ok M5 → mr_rg x1 ∧ (mr_rg x4 ∧ ((x4 ≤ x1 → Q (.inl (some (mm_i (-1)))) M5) ∧ (¬ x4 ≤ x1 → 0 ≤ x1 ∧ (x1 < 400 ∧ ((l2 < (M5.1 (l0 + 4) x1) → Q (.inl (some (mm_i (-1)))) M5) ∧ (¬ l2 < (M5.1 (l0 + 4) x1) → Q (.inl (some (mm_i x1))) M5))))))) (fun e M9 => Q (.inr e) M9)) (fun e M9 => Q (.inr e) M9)) : en_R sc 82 0 [mm_r l0, mm_i l1, mm_i l2, mm_u] [] M Q := by
  refine en_aload_n mc82_0 rfl ?_
  refine en_iload_n mc82_1 rfl ?_
  refine en_iload_n mc82_2 rfl ?_
  refine en_callI (lz := [mm_r l0, mm_i l1, mm_i l2, mm_u, mm_u, mm_u]) mv82 mc82_3 rfl rfl (lk_m0_31) mv81 rfl (by decide) rfl (mk_cokV rfl (mk_A0 hA_l0)) rfl (mk_nh rfl _) ho ?_
  refine en_CI_mono h (fun x1 M2 h => ?_) (fun _ _ h => h)
  intro ho3
  replace h := h ho3
  refine en_istore_n (ls' := [mm_r l0, mm_i l1, mm_i l2, mm_i x1]) mc82_6 (Nat.le_of_ble_eq_true rfl) rfl ?_
  refine en_iload_n mc82_7 rfl ?_
  refine en_aload_n mc82_8 rfl ?_
  refine en_iload_n mc82_9 rfl ?_
  refine en_callI (lz := [mm_r l0, mm_i l1]) mv82 mc82_10 rfl rfl (lk_m0_35) mv51 rfl (by decide) rfl (mk_cokV rfl (mk_A0 hA_l0)) rfl (mk_nh rfl _) ho3 ?_
  refine en_CI_mono h (fun x4 M5 h => ?_) (fun _ _ h => h)
  intro ho6
  replace h := h ho6
  obtain ⟨g7, h⟩ := h
  obtain ⟨g8, h⟩ := h
  refine en_icmp_ge 30 mc82_13 (by decide) g7 g8 (fun q => ?_) (fun q => ?_)
  · replace h := h.1 q
    refine en_iconst mc82_30 ?_
    exact en_iret mv82 mc82_31 rfl h
  · replace h := h.2 q
    obtain ⟨g9, h⟩ := h
    obtain ⟨g10, h⟩ := h
    refine en_aload_n mc82_16 rfl ?_
    refine en_getR (b := (l0 + 4)) mv82 mc82_17 (lk_f0_25) (mk_A0 hA_l0) rfl (mk_fA4 hA_l0 ho6) ?_
    refine en_iload_n mc82_20 rfl ?_
    refine en_iald mc82_21 (mk_A4 hA_l0) g9 g10 ?_
    refine en_iload_n mc82_22 rfl ?_
    refine en_icmp_gt 30 mc82_23 (by decide) (ho6.2.1 (l0 + 4) x1 ((mk_nA4 hA_l0) _)) hg_l2 (fun q => ?_) (fun q => ?_)
    · replace h := h.1 q
      refine en_iconst mc82_30 ?_
      exact en_iret mv82 mc82_31 rfl h
    · replace h := h.2 q
      refine en_iload_n mc82_26 rfl ?_
      refine en_goto 31 mc82_27 (by decide) ?_
      exact en_iret mv82 mc82_31 rfl h
/-! 83: CellAreas.layColumn(LCellAreas$Area;I)V -/
theorem mc83_0 : mr_C 83 0 = some (.aload_n 0, 1) := rfl
theorem mc83_1 : mr_C 83 1 = some (.getfield 25, 3) := rfl
theorem mc83_4 : mr_C 83 4 = some (.invokevirtual 69, 3) := rfl
theorem mc83_7 : mr_C 83 7 = some (.iconst 0, 1) := rfl
theorem mc83_8 : mr_C 83 8 = some (.istore_n 3, 1) := rfl
theorem mc83_9 : mr_C 83 9 = some (.iload_n 3, 1) := rfl
theorem mc83_10 : mr_C 83 10 = some (.aload_n 1, 1) := rfl
theorem mc83_11 : mr_C 83 11 = some (.getfield 118, 3) := rfl
theorem mc83_14 : mr_C 83 14 = some (.if_icmp .ge (38), 3) := rfl
theorem mc83_17 : mr_C 83 17 = some (.aload_n 1, 1) := rfl
theorem mc83_18 : mr_C 83 18 = some (.iload_n 3, 1) := rfl
theorem mc83_19 : mr_C 83 19 = some (.iload_n 2, 1) := rfl
theorem mc83_20 : mr_C 83 20 = some (.invokevirtual 168, 3) := rfl
theorem mc83_23 : mr_C 83 23 = some (.iconst (-1), 1) := rfl
theorem mc83_24 : mr_C 83 24 = some (.if_icmp .eq (22), 3) := rfl
theorem mc83_27 : mr_C 83 27 = some (.aload_n 0, 1) := rfl
theorem mc83_28 : mr_C 83 28 = some (.getfield 25, 3) := rfl
theorem mc83_31 : mr_C 83 31 = some (.aload_n 1, 1) := rfl
theorem mc83_32 : mr_C 83 32 = some (.getfield 125, 3) := rfl
theorem mc83_35 : mr_C 83 35 = some (.iload_n 3, 1) := rfl
theorem mc83_36 : mr_C 83 36 = some (.iaload, 1) := rfl
theorem mc83_37 : mr_C 83 37 = some (.aload_n 1, 1) := rfl
theorem mc83_38 : mr_C 83 38 = some (.getfield 129, 3) := rfl
theorem mc83_41 : mr_C 83 41 = some (.iload_n 3, 1) := rfl
theorem mc83_42 : mr_C 83 42 = some (.iaload, 1) := rfl
theorem mc83_43 : mr_C 83 43 = some (.invokevirtual 72, 3) := rfl
theorem mc83_46 : mr_C 83 46 = some (.iinc 3 (1), 3) := rfl
theorem mc83_49 : mr_C 83 49 = some (.goto (-40), 3) := rfl
theorem mc83_52 : mr_C 83 52 = some (.return_, 1) := rfl
theorem vc83_0 {sc : Nat × (Int → Int)} {Q : mm_R → mm_M → Prop} {M : mm_M} {l1 : Nat} {l2 : Int} (ho : mr_ok M)
    (h : en_CV sc 12 [mm_r 11] M (fun M2 => mr_ok M2 → en_R sc 83 9 [mm_r 0, mm_r l1, mm_i l2, mm_i 0] [] M2 Q) (fun e M9 => Q (.inr e) M9)) : en_R sc 83 0 [mm_r 0, mm_r l1, mm_i l2, mm_u] [] M Q := by
  refine en_aload_n mc83_0 rfl ?_
  refine en_getR (b := 11) mv83 mc83_1 (lk_f6_25) (⟨rfl, by decide⟩ : mt_kd[0]? = some (.inl 6) ∧ 0 < 99) rfl (mk_fc ho (by decide +kernel)) ?_
  refine en_callV (lz := [mm_r 11]) mv83 mc83_4 rfl rfl (lk_m6_69) mv12 rfl (by decide) rfl (mk_cokV rfl (mk_R0 (by unfold mr_Rw; decide : mr_Rw 11))) rfl (mk_nh rfl _) ho ?_
  refine en_CV_mono h (fun M2 h => ?_) (fun _ _ h => h)
  intro ho3
  replace h := h ho3
  refine en_iconst mc83_7 ?_
  refine en_istore_n (ls' := [mm_r 0, mm_r l1, mm_i l2, mm_i 0]) mc83_8 (Nat.le_of_ble_eq_true rfl) rfl ?_
  exact h
theorem vc83_9 {sc : Nat × (Int → Int)} {Q : mm_R → mm_M → Prop} {M : mm_M} {l1 : Nat} {l2 : Int} {l3 : Int} (ho : mr_ok M) (hA_l1 : mr_A l1) (hg_l3 : mr_rg l3)
    (h : ((M.1 l1 0) ≤ l3 → Q (.inl none) M) ∧ (¬ (M.1 l1 0) ≤ l3 → en_CI sc 82 [mm_r l1, mm_i l3, mm_i l2, mm_u] M (fun x1 M2 => mr_ok M2 → mr_rg x1 ∧ ((x1 = (-1) → en_R sc 83 9 [mm_r 0, mm_r l1, mm_i l2, mm_i (l3 + 1)] [] M2 Q) ∧ (¬ x1 = (-1) → 0 ≤ l3 ∧ (l3 < 100 ∧ (0 ≤ l3 ∧ (l3 < 100 ∧ (en_CV sc 17 [mm_r 11, mm_i (M2.1 (l1 + 1) l3), mm_i (M2.1 (l1 + 2) l3)] M2 (fun M10 => mr_ok M10 → en_R sc 83 9 [mm_r 0, mm_r l1, mm_i l2, mm_i (l3 + 1)] [] M10 Q) (fun e M9 => Q (.inr e) M9)))))))) (fun e M9 => Q (.inr e) M9))) : en_R sc 83 9 [mm_r 0, mm_r l1, mm_i l2, mm_i l3] [] M Q := by
  refine en_iload_n mc83_9 rfl ?_
  refine en_aload_n mc83_10 rfl ?_
  refine en_getI mv83 mc83_11 (lk_f6_118) (mk_A0 hA_l1) (Or.inl rfl) ?_
  refine en_icmp_ge 52 mc83_14 (by decide) hg_l3 (ho.2.1 l1 0 (mk_nA0 hA_l1 _)) (fun q => ?_) (fun q => ?_)
  · replace h := h.1 q
    exact en_vret mv83 mc83_52 rfl h
  · replace h := h.2 q
    refine en_aload_n mc83_17 rfl ?_
    refine en_iload_n mc83_18 rfl ?_
    refine en_iload_n mc83_19 rfl ?_
    refine en_callI (lz := [mm_r l1, mm_i l3, mm_i l2, mm_u]) mv83 mc83_20 rfl rfl (lk_m6_168) mv82 rfl (by decide) rfl (mk_cokV rfl (mk_A0 hA_l1)) rfl (mk_nh rfl _) ho ?_
    refine en_CI_mono h (fun x1 M2 h => ?_) (fun _ _ h => h)
    intro ho3
    replace h := h ho3
    obtain ⟨g4, h⟩ := h
    refine en_iconst mc83_23 ?_
    refine en_icmp_eq 46 mc83_24 (by decide) g4 (⟨by decide, by decide⟩ : mr_rg (-1)) (fun q => ?_) (fun q => ?_)
    · replace h := h.1 q
      refine en_iinc (ls' := [mm_r 0, mm_r l1, mm_i l2, mm_i (l3 + 1)]) mc83_46 rfl rfl ?_
      refine en_goto 9 mc83_49 (by decide) ?_
      exact h
    · replace h := h.2 q
      obtain ⟨g5, h⟩ := h
      obtain ⟨g6, h⟩ := h
      obtain ⟨g7, h⟩ := h
      obtain ⟨g8, h⟩ := h
      refine en_aload_n mc83_27 rfl ?_
      refine en_getR (b := 11) mv83 mc83_28 (lk_f6_25) (⟨rfl, by decide⟩ : mt_kd[0]? = some (.inl 6) ∧ 0 < 99) rfl (mk_fc ho3 (by decide +kernel)) ?_
      refine en_aload_n mc83_31 rfl ?_
      refine en_getR (b := (l1 + 1)) mv83 mc83_32 (lk_f6_125) (mk_A0 hA_l1) rfl (mk_fA1 hA_l1 ho3) ?_
      refine en_iload_n mc83_35 rfl ?_
      refine en_iald mc83_36 (mk_A1 hA_l1) g5 g6 ?_
      refine en_aload_n mc83_37 rfl ?_
      refine en_getR (b := (l1 + 2)) mv83 mc83_38 (lk_f6_129) (mk_A0 hA_l1) rfl (mk_fA2 hA_l1 ho3) ?_
      refine en_iload_n mc83_41 rfl ?_
      refine en_iald mc83_42 (mk_A2 hA_l1) g7 g8 ?_
      refine en_callV (lz := [mm_r 11, mm_i (M2.1 (l1 + 1) l3), mm_i (M2.1 (l1 + 2) l3)]) mv83 mc83_43 rfl rfl (lk_m6_72) mv17 rfl (by decide) rfl (mk_cokV rfl (mk_R0 (by unfold mr_Rw; decide : mr_Rw 11))) rfl (mk_nh rfl _) ho3 ?_
      refine en_CV_mono h (fun M10 h => ?_) (fun _ _ h => h)
      intro ho11
      replace h := h ho11
      refine en_iinc (ls' := [mm_r 0, mm_r l1, mm_i l2, mm_i (l3 + 1)]) mc83_46 rfl rfl ?_
      refine en_goto 9 mc83_49 (by decide) ?_
      exact h
/-! 84: CellAreas.swapAxes(LCellAreas$Area;)V -/
theorem mc84_0 : mr_C 84 0 = some (.aload_n 0, 1) := rfl
theorem mc84_1 : mr_C 84 1 = some (.getfield 32, 3) := rfl
theorem mc84_4 : mr_C 84 4 = some (.invokevirtual 69, 3) := rfl
theorem mc84_7 : mr_C 84 7 = some (.aload_n 1, 1) := rfl
theorem mc84_8 : mr_C 84 8 = some (.aload_n 0, 1) := rfl
theorem mc84_9 : mr_C 84 9 = some (.getfield 32, 3) := rfl
theorem mc84_12 : mr_C 84 12 = some (.invokevirtual 275, 3) := rfl
theorem mc84_15 : mr_C 84 15 = some (.sipush (-1000), 3) := rfl
theorem mc84_18 : mr_C 84 18 = some (.istore_n 3, 1) := rfl
theorem mc84_19 : mr_C 84 19 = some (.iload_n 3, 1) := rfl
theorem mc84_20 : mr_C 84 20 = some (.sipush 1000, 3) := rfl
theorem mc84_23 : mr_C 84 23 = some (.if_icmp .ge (54), 3) := rfl
theorem mc84_26 : mr_C 84 26 = some (.aload_n 0, 1) := rfl
theorem mc84_27 : mr_C 84 27 = some (.getfield 18, 3) := rfl
theorem mc84_30 : mr_C 84 30 = some (.getfield 95, 3) := rfl
theorem mc84_33 : mr_C 84 33 = some (.ifCond .ne (44), 3) := rfl
theorem mc84_36 : mr_C 84 36 = some (.iload_n 3, 1) := rfl
theorem mc84_37 : mr_C 84 37 = some (.iconst 1, 1) := rfl
theorem mc84_38 : mr_C 84 38 = some (.iadd, 1) := rfl
theorem mc84_39 : mr_C 84 39 = some (.aload_n 0, 1) := rfl
theorem mc84_40 : mr_C 84 40 = some (.getfield 32, 3) := rfl
theorem mc84_43 : mr_C 84 43 = some (.iload_n 3, 1) := rfl
theorem mc84_44 : mr_C 84 44 = some (.iconst 1, 1) := rfl
theorem mc84_45 : mr_C 84 45 = some (.iadd, 1) := rfl
theorem mc84_46 : mr_C 84 46 = some (.invokevirtual 99, 3) := rfl
theorem mc84_49 : mr_C 84 49 = some (.invokestatic 102, 3) := rfl
theorem mc84_52 : mr_C 84 52 = some (.istore_n 2, 1) := rfl
theorem mc84_53 : mr_C 84 53 = some (.aload_n 0, 1) := rfl
theorem mc84_54 : mr_C 84 54 = some (.aload_n 1, 1) := by decide +kernel
theorem mc84_55 : mr_C 84 55 = some (.iload_n 3, 1) := by decide +kernel
theorem mc84_56 : mr_C 84 56 = some (.invokevirtual 278, 3) := by decide +kernel
theorem mc84_59 : mr_C 84 59 = some (.aload_n 0, 1) := by decide +kernel
theorem mc84_60 : mr_C 84 60 = some (.getfield 18, 3) := by decide +kernel
theorem mc84_63 : mr_C 84 63 = some (.iload_n 3, 1) := by decide +kernel
theorem mc84_64 : mr_C 84 64 = some (.iload_n 2, 1) := by decide +kernel
theorem mc84_65 : mr_C 84 65 = some (.aload_n 0, 1) := by decide +kernel
theorem mc84_66 : mr_C 84 66 = some (.getfield 25, 3) := by decide +kernel
theorem mc84_69 : mr_C 84 69 = some (.invokevirtual 79, 3) := by decide +kernel
theorem mc84_72 : mr_C 84 72 = some (.iload_n 2, 1) := by decide +kernel
theorem mc84_73 : mr_C 84 73 = some (.istore_n 3, 1) := by decide +kernel
theorem mc84_74 : mr_C 84 74 = some (.goto (-55), 3) := by decide +kernel
theorem mc84_77 : mr_C 84 77 = some (.return_, 1) := by decide +kernel
theorem vc84_0 {sc : Nat × (Int → Int)} {Q : mm_R → mm_M → Prop} {M : mm_M} {l1 : Nat} (ho : mr_ok M) (hA_l1 : mr_A l1)
    (h : en_CV sc 12 [mm_r 15] M (fun M2 => mr_ok M2 → en_CV sc 80 [mm_r l1, mm_r 15, mm_u] M2 (fun M5 => mr_ok M5 → en_R sc 84 19 [mm_r 0, mm_r l1, mm_u, mm_i (-1000)] [] M5 Q) (fun e M9 => Q (.inr e) M9)) (fun e M9 => Q (.inr e) M9)) : en_R sc 84 0 [mm_r 0, mm_r l1, mm_u, mm_u] [] M Q := by
  refine en_aload_n mc84_0 rfl ?_
  refine en_getR (b := 15) mv84 mc84_1 (lk_f6_32) (⟨rfl, by decide⟩ : mt_kd[0]? = some (.inl 6) ∧ 0 < 99) rfl (mk_fc ho (by decide +kernel)) ?_
  refine en_callV (lz := [mm_r 15]) mv84 mc84_4 rfl rfl (lk_m6_69) mv12 rfl (by decide) rfl (mk_cokV rfl (mk_R0 (by unfold mr_Rw; decide : mr_Rw 15))) rfl (mk_nh rfl _) ho ?_
  refine en_CV_mono h (fun M2 h => ?_) (fun _ _ h => h)
  intro ho3
  replace h := h ho3
  refine en_aload_n mc84_7 rfl ?_
  refine en_aload_n mc84_8 rfl ?_
  refine en_getR (b := 15) mv84 mc84_9 (lk_f6_32) (⟨rfl, by decide⟩ : mt_kd[0]? = some (.inl 6) ∧ 0 < 99) rfl (mk_fc ho3 (by decide +kernel)) ?_
  refine en_callV (lz := [mm_r l1, mm_r 15, mm_u]) mv84 mc84_12 rfl rfl (lk_m6_275) mv80 rfl (by decide) rfl (mk_cokV rfl (mk_A0 hA_l1)) rfl (mk_nh rfl _) ho3 ?_
  refine en_CV_mono h (fun M5 h => ?_) (fun _ _ h => h)
  intro ho6
  replace h := h ho6
  refine en_sipush mc84_15 (by decide) ?_
  refine en_istore_n (ls' := [mm_r 0, mm_r l1, mm_u, mm_i (-1000)]) mc84_18 (Nat.le_of_ble_eq_true rfl) rfl ?_
  exact h
theorem vc84_19 {sc : Nat × (Int → Int)} {Q : mm_R → mm_M → Prop} {M : mm_M} {l1 : Nat} {l2 : mm_V} {l3 : Int} (ho : mr_ok M) (hg_l3 : mr_rg l3)
    (h : (1000 ≤ l3 → Q (.inl none) M) ∧ (¬ 1000 ≤ l3 → ((M.1 2 2) ≠ 0 → Q (.inl none) M) ∧ (¬ ((M.1 2 2) ≠ 0) → en_CI sc 22 [mm_r 15, mm_i (l3 + 1)] M (fun x1 M2 => mr_ok M2 → mr_rg (l3 + 1) ∧ (mr_rg x1 ∧ (en_CV sc 83 [mm_r 0, mm_r l1, mm_i l3, mm_u] M2 (fun M7 => mr_ok M7 → en_CV sc 29 [mm_r 2, mm_i l3, mm_i (max (l3 + 1) x1), mm_r 11, mm_u] M7 (fun M10 => mr_ok M10 → en_R sc 84 19 [mm_r 0, mm_r l1, mm_i (max (l3 + 1) x1), mm_i (max (l3 + 1) x1)] [] M10 Q) (fun e M9 => Q (.inr e) M9)) (fun e M9 => Q (.inr e) M9)))) (fun e M9 => Q (.inr e) M9)))) : en_R sc 84 19 [mm_r 0, mm_r l1, l2, mm_i l3] [] M Q := by
  refine en_iload_n mc84_19 rfl ?_
  refine en_sipush mc84_20 (by decide) ?_
  refine en_icmp_ge 77 mc84_23 (by decide) hg_l3 (⟨by decide, by decide⟩ : mr_rg 1000) (fun q => ?_) (fun q => ?_)
  · replace h := h.1 q
    exact en_vret mv84 mc84_77 rfl h
  · replace h := h.2 q
    refine en_aload_n mc84_26 rfl ?_
    refine en_getR (b := 2) mv84 mc84_27 (lk_f6_18) (⟨rfl, by decide⟩ : mt_kd[0]? = some (.inl 6) ∧ 0 < 99) rfl (mk_fc ho (by decide +kernel)) ?_
    refine en_getI mv84 mc84_30 (lk_f6_95) (⟨rfl, by decide⟩ : mt_kd[2]? = some (.inl 2) ∧ 2 < 99) (Or.inr rfl) ?_
    refine en_if_ne 77 mc84_33 (by decide) (ho.2.1 2 2 (by unfold mr_lg; omega)) (fun q => ?_) (fun q => ?_)
    · replace h := h.1 q
      exact en_vret mv84 mc84_77 rfl h
    · replace h := h.2 q
      refine en_iload_n mc84_36 rfl ?_
      refine en_iconst mc84_37 ?_
      refine en_iadd mc84_38 ?_
      refine en_aload_n mc84_39 rfl ?_
      refine en_getR (b := 15) mv84 mc84_40 (lk_f6_32) (⟨rfl, by decide⟩ : mt_kd[0]? = some (.inl 6) ∧ 0 < 99) rfl (mk_fc ho (by decide +kernel)) ?_
      refine en_iload_n mc84_43 rfl ?_
      refine en_iconst mc84_44 ?_
      refine en_iadd mc84_45 ?_
      refine en_callI (lz := [mm_r 15, mm_i (l3 + 1)]) mv84 mc84_46 rfl rfl (lk_m6_99) mv22 rfl (by decide) rfl (mk_cokV rfl (mk_R0 (by unfold mr_Rw; decide : mr_Rw 15))) rfl (mk_nh rfl _) ho ?_
      refine en_CI_mono h (fun x1 M2 h => ?_) (fun _ _ h => h)
      intro ho3
      replace h := h ho3
      obtain ⟨g4, h⟩ := h
      obtain ⟨g5, h⟩ := h
      refine en_max mv84 mc84_49 (lk_m6_102) mv13 rfl ⟨Nat.le_of_ble_eq_true rfl, Nat.le_of_ble_eq_true rfl⟩ g4 g5 ?_
      refine en_istore_n (ls' := [mm_r 0, mm_r l1, mm_i (max (l3 + 1) x1), mm_i l3]) mc84_52 (Nat.le_of_ble_eq_true rfl) rfl ?_
      refine en_aload_n mc84_53 rfl ?_
      refine en_aload_n mc84_54 rfl ?_
      refine en_iload_n mc84_55 rfl ?_
      refine en_callV (lz := [mm_r 0, mm_r l1, mm_i l3, mm_u]) mv84 mc84_56 rfl rfl (lk_m6_278) mv83 rfl (by decide) rfl (mk_cokV rfl (⟨rfl, by decide⟩ : mt_kd[0]? = some (.inl 6) ∧ 0 < 99)) rfl (mk_nh rfl _) ho3 ?_
      refine en_CV_mono h (fun M7 h => ?_) (fun _ _ h => h)
      intro ho8
      replace h := h ho8
      refine en_aload_n mc84_59 rfl ?_
      refine en_getR (b := 2) mv84 mc84_60 (lk_f6_18) (⟨rfl, by decide⟩ : mt_kd[0]? = some (.inl 6) ∧ 0 < 99) rfl (mk_fc ho8 (by decide +kernel)) ?_
      refine en_iload_n mc84_63 rfl ?_
      refine en_iload_n mc84_64 rfl ?_
      refine en_aload_n mc84_65 rfl ?_
      refine en_getR (b := 11) mv84 mc84_66 (lk_f6_25) (⟨rfl, by decide⟩ : mt_kd[0]? = some (.inl 6) ∧ 0 < 99) rfl (mk_fc ho8 (by decide +kernel)) ?_
      refine en_callV (lz := [mm_r 2, mm_i l3, mm_i (max (l3 + 1) x1), mm_r 11, mm_u]) mv84 mc84_69 rfl rfl (lk_m6_79) mv29 rfl (by decide) rfl (mk_cokV rfl (⟨rfl, by decide⟩ : mt_kd[2]? = some (.inl 2) ∧ 2 < 99)) rfl (mk_nh rfl _) ho8 ?_
      refine en_CV_mono h (fun M10 h => ?_) (fun _ _ h => h)
      intro ho11
      replace h := h ho11
      refine en_iload_n mc84_72 rfl ?_
      refine en_istore_n (ls' := [mm_r 0, mm_r l1, mm_i (max (l3 + 1) x1), mm_i (max (l3 + 1) x1)]) mc84_73 (Nat.le_of_ble_eq_true rfl) rfl ?_
      refine en_goto 19 mc84_74 (by decide) ?_
      exact h
/-! 85: CellAreas.mirror(III)I -/
theorem mc85_0 : mr_C 85 0 = some (.iload_n 1, 1) := rfl
theorem mc85_1 : mr_C 85 1 = some (.invokestatic 61, 3) := rfl
theorem mc85_4 : mr_C 85 4 = some (.iload_n 2, 1) := rfl
theorem mc85_5 : mr_C 85 5 = some (.invokestatic 61, 3) := rfl
theorem mc85_8 : mr_C 85 8 = some (.iload_n 3, 1) := rfl
theorem mc85_9 : mr_C 85 9 = some (.iconst 0, 1) := rfl
theorem mc85_10 : mr_C 85 10 = some (.iconst 2, 1) := rfl
theorem mc85_11 : mr_C 85 11 = some (.invokestatic 65, 3) := rfl
theorem mc85_14 : mr_C 85 14 = some (.aload_n 0, 1) := rfl
theorem mc85_15 : mr_C 85 15 = some (.getfield 18, 3) := rfl
theorem mc85_18 : mr_C 85 18 = some (.invokevirtual 76, 3) := rfl
theorem mc85_21 : mr_C 85 21 = some (.iload_n 3, 1) := rfl
theorem mc85_22 : mr_C 85 22 = some (.lookupswitch (52) #[(0, 26), (1, 39)], 26) := rfl
theorem mc85_48 : mr_C 85 48 = some (.aload_n 0, 1) := rfl
theorem mc85_49 : mr_C 85 49 = some (.aload_n 0, 1) := rfl
theorem mc85_50 : mr_C 85 50 = some (.getfield 11, 3) := rfl
theorem mc85_53 : mr_C 85 53 = some (.iload_n 2, 1) := rfl
theorem mc85_54 : mr_C 85 54 = some (.aaload, 1) := rfl
theorem mc85_55 : mr_C 85 55 = some (.invokevirtual 135, 3) := rfl
theorem mc85_58 : mr_C 85 58 = some (.goto 26, 3) := rfl
theorem mc85_61 : mr_C 85 61 = some (.aload_n 0, 1) := rfl
theorem mc85_62 : mr_C 85 62 = some (.aload_n 0, 1) := rfl
theorem mc85_63 : mr_C 85 63 = some (.getfield 11, 3) := rfl
theorem mc85_66 : mr_C 85 66 = some (.iload_n 2, 1) := rfl
theorem mc85_67 : mr_C 85 67 = some (.aaload, 1) := rfl
theorem mc85_68 : mr_C 85 68 = some (.invokevirtual 139, 3) := rfl
theorem mc85_71 : mr_C 85 71 = some (.goto 13, 3) := rfl
theorem mc85_74 : mr_C 85 74 = some (.aload_n 0, 1) := rfl
theorem mc85_75 : mr_C 85 75 = some (.aload_n 0, 1) := by decide +kernel
theorem mc85_76 : mr_C 85 76 = some (.getfield 11, 3) := by decide +kernel
theorem mc85_79 : mr_C 85 79 = some (.iload_n 2, 1) := by decide +kernel
theorem mc85_80 : mr_C 85 80 = some (.aaload, 1) := by decide +kernel
theorem mc85_81 : mr_C 85 81 = some (.invokevirtual 142, 3) := by decide +kernel
theorem mc85_84 : mr_C 85 84 = some (.aload_n 0, 1) := by decide +kernel
theorem mc85_85 : mr_C 85 85 = some (.iload_n 1, 1) := by decide +kernel
theorem mc85_86 : mr_C 85 86 = some (.invokevirtual 83, 3) := by decide +kernel
theorem mc85_89 : mr_C 85 89 = some (.ireturn, 1) := by decide +kernel
theorem vc85_0 {sc : Nat × (Int → Int)} {Q : mm_R → mm_M → Prop} {M : mm_M} {l1 : Int} {l2 : Int} {l3 : Int} (ho : mr_ok M) (hg_l3 : mr_rg l3)
    (h : en_CV sc 9 [mm_i l1] M (fun M2 => mr_ok M2 → en_CV sc 9 [mm_i l2] M2 (fun M5 => mr_ok M5 → en_CV sc 10 [mm_i l3, mm_i 0, mm_i 2] M5 (fun M8 => mr_ok M8 → en_CV sc 18 [mm_r 2] M8 (fun M11 => mr_ok M11 → (l3 = 0 → 0 ≤ l2 ∧ (l2 < 8 ∧ (∃ b15, M11.2.1 1 l2 = some b15 ∧ mr_A b15 ∧ (en_CV sc 77 [mm_r 0, mm_r b15, mm_u] M11 (fun M18 => mr_ok M18 → en_R sc 85 84 [mm_r 0, mm_i l1, mm_i l2, mm_i l3] [] M18 Q) (fun e M9 => Q (.inr e) M9))))) ∧ (l3 = 1 → 0 ≤ l2 ∧ (l2 < 8 ∧ (∃ b22, M11.2.1 1 l2 = some b22 ∧ mr_A b22 ∧ (en_CV sc 78 [mm_r 0, mm_r b22, mm_u] M11 (fun M25 => mr_ok M25 → en_R sc 85 84 [mm_r 0, mm_i l1, mm_i l2, mm_i l3] [] M25 Q) (fun e M9 => Q (.inr e) M9))))) ∧ (l3 ≠ 0 → l3 ≠ 1 → 0 ≤ l2 ∧ (l2 < 8 ∧ (∃ b29, M11.2.1 1 l2 = some b29 ∧ mr_A b29 ∧ (en_CV sc 84 [mm_r 0, mm_r b29, mm_u, mm_u] M11 (fun M32 => mr_ok M32 → en_R sc 85 84 [mm_r 0, mm_i l1, mm_i l2, mm_i l3] [] M32 Q) (fun e M9 => Q (.inr e) M9)))))) (fun e M9 => Q (.inr e) M9)) (fun e M9 => Q (.inr e) M9)) (fun e M9 => Q (.inr e) M9)) (fun e M9 => Q (.inr e) M9)) : en_R sc 85 0 [mm_r 0, mm_i l1, mm_i l2, mm_i l3] [] M Q := by
  refine en_iload_n mc85_0 rfl ?_
  refine en_callV (lz := [mm_i l1]) mv85 mc85_1 rfl rfl (lk_m6_61) mv9 rfl (by decide) rfl (mk_cokS rfl) rfl (mk_nh rfl _) ho ?_
  refine en_CV_mono h (fun M2 h => ?_) (fun _ _ h => h)
  intro ho3
  replace h := h ho3
  refine en_iload_n mc85_4 rfl ?_
  refine en_callV (lz := [mm_i l2]) mv85 mc85_5 rfl rfl (lk_m6_61) mv9 rfl (by decide) rfl (mk_cokS rfl) rfl (mk_nh rfl _) ho3 ?_
  refine en_CV_mono h (fun M5 h => ?_) (fun _ _ h => h)
  intro ho6
  replace h := h ho6
  refine en_iload_n mc85_8 rfl ?_
  refine en_iconst mc85_9 ?_
  refine en_iconst mc85_10 ?_
  refine en_callV (lz := [mm_i l3, mm_i 0, mm_i 2]) mv85 mc85_11 rfl rfl (lk_m6_65) mv10 rfl (by decide) rfl (mk_cokS rfl) rfl (mk_nh rfl _) ho6 ?_
  refine en_CV_mono h (fun M8 h => ?_) (fun _ _ h => h)
  intro ho9
  replace h := h ho9
  refine en_aload_n mc85_14 rfl ?_
  refine en_getR (b := 2) mv85 mc85_15 (lk_f6_18) (⟨rfl, by decide⟩ : mt_kd[0]? = some (.inl 6) ∧ 0 < 99) rfl (mk_fc ho9 (by decide +kernel)) ?_
  refine en_callV (lz := [mm_r 2]) mv85 mc85_18 rfl rfl (lk_m6_76) mv18 rfl (by decide) rfl (mk_cokV rfl (⟨rfl, by decide⟩ : mt_kd[2]? = some (.inl 2) ∧ 2 < 99)) rfl (mk_nh rfl _) ho9 ?_
  refine en_CV_mono h (fun M11 h => ?_) (fun _ _ h => h)
  intro ho12
  replace h := h ho12
  refine en_iload_n mc85_21 rfl ?_
  by_cases q0 : l3 = 0
  · replace h := h.1 q0
    refine en_lsw 48 mc85_22 hg_l3 (by decide) (by first | (rw [q0]; done) | (rw [q0]; rfl)) (by decide) ?_
    obtain ⟨g13, h⟩ := h
    obtain ⟨g14, h⟩ := h
    refine en_aload_n mc85_48 rfl ?_
    refine en_aload_n mc85_49 rfl ?_
    refine en_getR (b := 1) mv85 mc85_50 (lk_f6_11) (⟨rfl, by decide⟩ : mt_kd[0]? = some (.inl 6) ∧ 0 < 99) rfl (mk_fc ho12 (by decide +kernel)) ?_
    refine en_iload_n mc85_53 rfl ?_
    obtain ⟨b15, g16, hA_b15_, h⟩ := h
    refine en_aald mc85_54 g13 g14 g16 ?_
    refine en_callV (lz := [mm_r 0, mm_r b15, mm_u]) mv85 mc85_55 rfl rfl (lk_m6_135) mv77 rfl (by decide) rfl (mk_cokV rfl (⟨rfl, by decide⟩ : mt_kd[0]? = some (.inl 6) ∧ 0 < 99)) rfl (mk_nh rfl _) ho12 ?_
    refine en_CV_mono h (fun M18 h => ?_) (fun _ _ h => h)
    intro ho19
    replace h := h ho19
    refine en_goto 84 mc85_58 (by decide) ?_
    exact h
  by_cases q1 : l3 = 1
  · replace h := h.2.1 q1
    refine en_lsw 61 mc85_22 hg_l3 (by decide) (by first | (rw [q1]; done) | (rw [q1]; rfl)) (by decide) ?_
    obtain ⟨g20, h⟩ := h
    obtain ⟨g21, h⟩ := h
    refine en_aload_n mc85_61 rfl ?_
    refine en_aload_n mc85_62 rfl ?_
    refine en_getR (b := 1) mv85 mc85_63 (lk_f6_11) (⟨rfl, by decide⟩ : mt_kd[0]? = some (.inl 6) ∧ 0 < 99) rfl (mk_fc ho12 (by decide +kernel)) ?_
    refine en_iload_n mc85_66 rfl ?_
    obtain ⟨b22, g23, hA_b22_, h⟩ := h
    refine en_aald mc85_67 g20 g21 g23 ?_
    refine en_callV (lz := [mm_r 0, mm_r b22, mm_u]) mv85 mc85_68 rfl rfl (lk_m6_139) mv78 rfl (by decide) rfl (mk_cokV rfl (⟨rfl, by decide⟩ : mt_kd[0]? = some (.inl 6) ∧ 0 < 99)) rfl (mk_nh rfl _) ho12 ?_
    refine en_CV_mono h (fun M25 h => ?_) (fun _ _ h => h)
    intro ho26
    replace h := h ho26
    refine en_goto 84 mc85_71 (by decide) ?_
    exact h
  replace h := h.2.2 q0 q1
  refine en_lsw 74 mc85_22 hg_l3 (by decide) (mk_lsw2 q0 q1) (by decide) ?_
  obtain ⟨g27, h⟩ := h
  obtain ⟨g28, h⟩ := h
  refine en_aload_n mc85_74 rfl ?_
  refine en_aload_n mc85_75 rfl ?_
  refine en_getR (b := 1) mv85 mc85_76 (lk_f6_11) (⟨rfl, by decide⟩ : mt_kd[0]? = some (.inl 6) ∧ 0 < 99) rfl (mk_fc ho12 (by decide +kernel)) ?_
  refine en_iload_n mc85_79 rfl ?_
  obtain ⟨b29, g30, hA_b29_, h⟩ := h
  refine en_aald mc85_80 g27 g28 g30 ?_
  refine en_callV (lz := [mm_r 0, mm_r b29, mm_u, mm_u]) mv85 mc85_81 rfl rfl (lk_m6_142) mv84 rfl (by decide) rfl (mk_cokV rfl (⟨rfl, by decide⟩ : mt_kd[0]? = some (.inl 6) ∧ 0 < 99)) rfl (mk_nh rfl _) ho12 ?_
  refine en_CV_mono h (fun M32 h => ?_) (fun _ _ h => h)
  intro ho33
  replace h := h ho33
  exact h
theorem vc85_84 {sc : Nat × (Int → Int)} {Q : mm_R → mm_M → Prop} {M : mm_M} {l1 : Int} {l2 : Int} {l3 : Int} (ho : mr_ok M)
    (h : en_CI sc 30 [mm_r 0, mm_i l1, mm_u] M (fun x1 M2 => mr_ok M2 → Q (.inl (some (mm_i x1))) M2) (fun e M9 => Q (.inr e) M9)) : en_R sc 85 84 [mm_r 0, mm_i l1, mm_i l2, mm_i l3] [] M Q := by
  refine en_aload_n mc85_84 rfl ?_
  refine en_iload_n mc85_85 rfl ?_
  refine en_callI (lz := [mm_r 0, mm_i l1, mm_u]) mv85 mc85_86 rfl rfl (lk_m6_83) mv30 rfl (by decide) rfl (mk_cokV rfl (⟨rfl, by decide⟩ : mt_kd[0]? = some (.inl 6) ∧ 0 < 99)) rfl (mk_nh rfl _) ho ?_
  refine en_CI_mono h (fun x1 M2 h => ?_) (fun _ _ h => h)
  intro ho3
  replace h := h ho3
  exact en_iret mv85 mc85_89 rfl h
/-! 87: CellAreasModel.cutStretches(I)V -/
theorem mc87_0 : mr_C 87 0 = some (.sipush 402, 3) := rfl
theorem mc87_3 : mr_C 87 3 = some (.iload_n 1, 1) := rfl
theorem mc87_4 : mr_C 87 4 = some (.imul, 1) := rfl
theorem mc87_5 : mr_C 87 5 = some (.istore_n 2, 1) := rfl
theorem mc87_6 : mr_C 87 6 = some (.iload_n 2, 1) := rfl
theorem mc87_7 : mr_C 87 7 = some (.sipush 402, 3) := rfl
theorem mc87_10 : mr_C 87 10 = some (.iload_n 1, 1) := rfl
theorem mc87_11 : mr_C 87 11 = some (.imul, 1) := rfl
theorem mc87_12 : mr_C 87 12 = some (.aload_n 0, 1) := rfl
theorem mc87_13 : mr_C 87 13 = some (.getfield 31, 3) := rfl
theorem mc87_16 : mr_C 87 16 = some (.iload_n 1, 1) := rfl
theorem mc87_17 : mr_C 87 17 = some (.iaload, 1) := rfl
theorem mc87_18 : mr_C 87 18 = some (.iadd, 1) := rfl
theorem mc87_19 : mr_C 87 19 = some (.if_icmp .ge (29), 3) := rfl
theorem mc87_22 : mr_C 87 22 = some (.aload_n 0, 1) := rfl
theorem mc87_23 : mr_C 87 23 = some (.aload_n 0, 1) := rfl
theorem mc87_24 : mr_C 87 24 = some (.getfield 25, 3) := rfl
theorem mc87_27 : mr_C 87 27 = some (.iload_n 2, 1) := rfl
theorem mc87_28 : mr_C 87 28 = some (.iaload, 1) := rfl
theorem mc87_29 : mr_C 87 29 = some (.invokevirtual 151, 3) := rfl
theorem mc87_32 : mr_C 87 32 = some (.aload_n 0, 1) := rfl
theorem mc87_33 : mr_C 87 33 = some (.aload_n 0, 1) := rfl
theorem mc87_34 : mr_C 87 34 = some (.getfield 28, 3) := rfl
theorem mc87_37 : mr_C 87 37 = some (.iload_n 2, 1) := rfl
theorem mc87_38 : mr_C 87 38 = some (.iaload, 1) := rfl
theorem mc87_39 : mr_C 87 39 = some (.invokevirtual 151, 3) := rfl
theorem mc87_42 : mr_C 87 42 = some (.iinc 2 (1), 3) := rfl
theorem mc87_45 : mr_C 87 45 = some (.goto (-39), 3) := by decide +kernel
theorem mc87_48 : mr_C 87 48 = some (.return_, 1) := by decide +kernel
theorem vc87_0 {sc : Nat × (Int → Int)} {Q : mm_R → mm_M → Prop} {M : mm_M} {l1 : Int} (ho : mr_ok M)
    (h : en_R sc 87 6 [mm_r 72, mm_i l1, mm_i (402 * l1)] [] M Q) : en_R sc 87 0 [mm_r 72, mm_i l1, mm_u] [] M Q := by
  refine en_sipush mc87_0 (by decide) ?_
  refine en_iload_n mc87_3 rfl ?_
  refine en_imul mc87_4 ?_
  refine en_istore_n (ls' := [mm_r 72, mm_i l1, mm_i (402 * l1)]) mc87_5 (Nat.le_of_ble_eq_true rfl) rfl ?_
  exact h
theorem vc87_6 {sc : Nat × (Int → Int)} {Q : mm_R → mm_M → Prop} {M : mm_M} {l1 : Int} {l2 : Int} (ho : mr_ok M) (hg_l2 : mr_rg l2)
    (h : 0 ≤ l1 ∧ (l1 < 9 ∧ (mr_rg ((402 * l1) + (M.1 80 l1)) ∧ ((((402 * l1) + (M.1 80 l1)) ≤ l2 → Q (.inl none) M) ∧ (¬ ((402 * l1) + (M.1 80 l1)) ≤ l2 → 0 ≤ l2 ∧ (l2 < 3618 ∧ (en_CV sc 58 [mm_r 72, mm_i (M.1 78 l2), mm_u, mm_u, mm_u] M (fun M7 => mr_ok M7 → 0 ≤ l2 ∧ (l2 < 3618 ∧ (en_CV sc 58 [mm_r 72, mm_i (M7.1 79 l2), mm_u, mm_u, mm_u] M7 (fun M12 => mr_ok M12 → en_R sc 87 6 [mm_r 72, mm_i l1, mm_i (l2 + 1)] [] M12 Q) (fun e M9 => Q (.inr e) M9)))) (fun e M9 => Q (.inr e) M9)))))))) : en_R sc 87 6 [mm_r 72, mm_i l1, mm_i l2] [] M Q := by
  obtain ⟨g1, h⟩ := h
  obtain ⟨g2, h⟩ := h
  obtain ⟨g3, h⟩ := h
  refine en_iload_n mc87_6 rfl ?_
  refine en_sipush mc87_7 (by decide) ?_
  refine en_iload_n mc87_10 rfl ?_
  refine en_imul mc87_11 ?_
  refine en_aload_n mc87_12 rfl ?_
  refine en_getR (b := 80) mv87 mc87_13 (lk_f7_31) (⟨rfl, by decide⟩ : mt_kd[72]? = some (.inl 7) ∧ 72 < 99) rfl (mk_fc ho (by decide +kernel)) ?_
  refine en_iload_n mc87_16 rfl ?_
  refine en_iald mc87_17 (⟨rfl, by decide, by decide⟩ : mt_kd[80]? = some (.inr (.int, 9)) ∧ 80 < 99 ∧ 9 < 2147483648) g1 g2 ?_
  refine en_iadd mc87_18 ?_
  refine en_icmp_ge 48 mc87_19 (by decide) hg_l2 g3 (fun q => ?_) (fun q => ?_)
  · replace h := h.1 q
    exact en_vret mv87 mc87_48 rfl h
  · replace h := h.2 q
    obtain ⟨g4, h⟩ := h
    obtain ⟨g5, h⟩ := h
    refine en_aload_n mc87_22 rfl ?_
    refine en_aload_n mc87_23 rfl ?_
    refine en_getR (b := 78) mv87 mc87_24 (lk_f7_25) (⟨rfl, by decide⟩ : mt_kd[72]? = some (.inl 7) ∧ 72 < 99) rfl (mk_fc ho (by decide +kernel)) ?_
    refine en_iload_n mc87_27 rfl ?_
    refine en_iald mc87_28 (⟨rfl, by decide, by decide⟩ : mt_kd[78]? = some (.inr (.int, 3618)) ∧ 78 < 99 ∧ 3618 < 2147483648) g4 g5 ?_
    refine en_callV (lz := [mm_r 72, mm_i (M.1 78 l2), mm_u, mm_u, mm_u]) mv87 mc87_29 rfl rfl (lk_m7_151) mv58 rfl (by decide) rfl (mk_cokV rfl (⟨rfl, by decide⟩ : mt_kd[72]? = some (.inl 7) ∧ 72 < 99)) rfl (mk_nh rfl _) ho ?_
    refine en_CV_mono h (fun M7 h => ?_) (fun _ _ h => h)
    intro ho8
    replace h := h ho8
    obtain ⟨g9, h⟩ := h
    obtain ⟨g10, h⟩ := h
    refine en_aload_n mc87_32 rfl ?_
    refine en_aload_n mc87_33 rfl ?_
    refine en_getR (b := 79) mv87 mc87_34 (lk_f7_28) (⟨rfl, by decide⟩ : mt_kd[72]? = some (.inl 7) ∧ 72 < 99) rfl (mk_fc ho8 (by decide +kernel)) ?_
    refine en_iload_n mc87_37 rfl ?_
    refine en_iald mc87_38 (⟨rfl, by decide, by decide⟩ : mt_kd[79]? = some (.inr (.int, 3618)) ∧ 79 < 99 ∧ 3618 < 2147483648) g9 g10 ?_
    refine en_callV (lz := [mm_r 72, mm_i (M7.1 79 l2), mm_u, mm_u, mm_u]) mv87 mc87_39 rfl rfl (lk_m7_151) mv58 rfl (by decide) rfl (mk_cokV rfl (⟨rfl, by decide⟩ : mt_kd[72]? = some (.inl 7) ∧ 72 < 99)) rfl (mk_nh rfl _) ho8 ?_
    refine en_CV_mono h (fun M12 h => ?_) (fun _ _ h => h)
    intro ho13
    replace h := h ho13
    refine en_iinc (ls' := [mm_r 72, mm_i l1, mm_i (l2 + 1)]) mc87_42 rfl rfl ?_
    refine en_goto 6 mc87_45 (by decide) ?_
    exact h
/-! 88: CellAreasModel.holds(II)Z -/
theorem mc88_0 : mr_C 88 0 = some (.iconst 0, 1) := rfl
theorem mc88_1 : mr_C 88 1 = some (.istore_n 3, 1) := rfl
theorem mc88_2 : mr_C 88 2 = some (.aload_n 0, 1) := rfl
theorem mc88_3 : mr_C 88 3 = some (.getfield 16, 3) := rfl
theorem mc88_6 : mr_C 88 6 = some (.iload_n 1, 1) := rfl
theorem mc88_7 : mr_C 88 7 = some (.iaload, 1) := rfl
theorem mc88_8 : mr_C 88 8 = some (.istore 4, 2) := rfl
theorem mc88_10 : mr_C 88 10 = some (.iload 4, 2) := rfl
theorem mc88_12 : mr_C 88 12 = some (.aload_n 0, 1) := rfl
theorem mc88_13 : mr_C 88 13 = some (.getfield 16, 3) := rfl
theorem mc88_16 : mr_C 88 16 = some (.iload_n 1, 1) := rfl
theorem mc88_17 : mr_C 88 17 = some (.iaload, 1) := rfl
theorem mc88_18 : mr_C 88 18 = some (.aload_n 0, 1) := rfl
theorem mc88_19 : mr_C 88 19 = some (.getfield 19, 3) := rfl
theorem mc88_22 : mr_C 88 22 = some (.iload_n 1, 1) := rfl
theorem mc88_23 : mr_C 88 23 = some (.iaload, 1) := rfl
theorem mc88_24 : mr_C 88 24 = some (.iadd, 1) := rfl
theorem mc88_25 : mr_C 88 25 = some (.if_icmp .ge (41), 3) := rfl
theorem mc88_28 : mr_C 88 28 = some (.iload_n 3, 1) := rfl
theorem mc88_29 : mr_C 88 29 = some (.ifCond .ne (25), 3) := rfl
theorem mc88_32 : mr_C 88 32 = some (.aload_n 0, 1) := rfl
theorem mc88_33 : mr_C 88 33 = some (.getfield 25, 3) := rfl
theorem mc88_36 : mr_C 88 36 = some (.iload 4, 2) := rfl
theorem mc88_38 : mr_C 88 38 = some (.iaload, 1) := rfl
theorem mc88_39 : mr_C 88 39 = some (.iload_n 2, 1) := rfl
theorem mc88_40 : mr_C 88 40 = some (.if_icmp .gt (18), 3) := rfl
theorem mc88_43 : mr_C 88 43 = some (.iload_n 2, 1) := by decide +kernel
theorem mc88_44 : mr_C 88 44 = some (.aload_n 0, 1) := by decide +kernel
theorem mc88_45 : mr_C 88 45 = some (.getfield 28, 3) := by decide +kernel
theorem mc88_48 : mr_C 88 48 = some (.iload 4, 2) := by decide +kernel
theorem mc88_50 : mr_C 88 50 = some (.iaload, 1) := by decide +kernel
theorem mc88_51 : mr_C 88 51 = some (.if_icmp .ge (7), 3) := by decide +kernel
theorem mc88_54 : mr_C 88 54 = some (.iconst 1, 1) := by decide +kernel
theorem mc88_55 : mr_C 88 55 = some (.goto 4, 3) := by decide +kernel
theorem mc88_58 : mr_C 88 58 = some (.iconst 0, 1) := by decide +kernel
theorem mc88_59 : mr_C 88 59 = some (.istore_n 3, 1) := by decide +kernel
theorem mc88_60 : mr_C 88 60 = some (.iinc 4 (1), 3) := by decide +kernel
theorem mc88_63 : mr_C 88 63 = some (.goto (-53), 3) := by decide +kernel
theorem mc88_66 : mr_C 88 66 = some (.iload_n 3, 1) := by decide +kernel
theorem mc88_67 : mr_C 88 67 = some (.ireturn, 1) := by decide +kernel
theorem vc88_0 {sc : Nat × (Int → Int)} {Q : mm_R → mm_M → Prop} {M : mm_M} {l1 : Int} {l2 : Int} (ho : mr_ok M)
    (h : 0 ≤ l1 ∧ (l1 < 918 ∧ (en_R sc 88 10 [mm_r 72, mm_i l1, mm_i l2, mm_i 0, mm_i (M.1 75 l1)] [] M Q))) : en_R sc 88 0 [mm_r 72, mm_i l1, mm_i l2, mm_u, mm_u] [] M Q := by
  obtain ⟨g1, h⟩ := h
  obtain ⟨g2, h⟩ := h
  refine en_iconst mc88_0 ?_
  refine en_istore_n (ls' := [mm_r 72, mm_i l1, mm_i l2, mm_i 0, mm_u]) mc88_1 (Nat.le_of_ble_eq_true rfl) rfl ?_
  refine en_aload_n mc88_2 rfl ?_
  refine en_getR (b := 75) mv88 mc88_3 (lk_f7_16) (⟨rfl, by decide⟩ : mt_kd[72]? = some (.inl 7) ∧ 72 < 99) rfl (mk_fc ho (by decide +kernel)) ?_
  refine en_iload_n mc88_6 rfl ?_
  refine en_iald mc88_7 (⟨rfl, by decide, by decide⟩ : mt_kd[75]? = some (.inr (.int, 918)) ∧ 75 < 99 ∧ 918 < 2147483648) g1 g2 ?_
  refine en_istore (ls' := [mm_r 72, mm_i l1, mm_i l2, mm_i 0, mm_i (M.1 75 l1)]) mc88_8 (Nat.le_of_ble_eq_true rfl) rfl ?_
  exact h
theorem vc88_10 {sc : Nat × (Int → Int)} {Q : mm_R → mm_M → Prop} {M : mm_M} {l1 : Int} {l2 : Int} {l3 : Int} {l4 : Int} (ho : mr_ok M) (hg_l4 : mr_rg l4) (hg_l3 : mr_rg l3) (hg_l2 : mr_rg l2)
    (h : 0 ≤ l1 ∧ (l1 < 918 ∧ (0 ≤ l1 ∧ (l1 < 918 ∧ (mr_rg ((M.1 75 l1) + (M.1 76 l1)) ∧ ((((M.1 75 l1) + (M.1 76 l1)) ≤ l4 → (l3 = 0 ∨ l3 = 1) ∧ (Q (.inl (some (mm_i l3))) M)) ∧ (¬ ((M.1 75 l1) + (M.1 76 l1)) ≤ l4 → (l3 ≠ 0 → en_R sc 88 10 [mm_r 72, mm_i l1, mm_i l2, mm_i 1, mm_i (l4 + 1)] [] M Q) ∧ (¬ (l3 ≠ 0) → 0 ≤ l4 ∧ (l4 < 3618 ∧ ((l2 < (M.1 78 l4) → en_R sc 88 10 [mm_r 72, mm_i l1, mm_i l2, mm_i 0, mm_i (l4 + 1)] [] M Q) ∧ (¬ l2 < (M.1 78 l4) → 0 ≤ l4 ∧ (l4 < 3618 ∧ (((M.1 79 l4) ≤ l2 → en_R sc 88 10 [mm_r 72, mm_i l1, mm_i l2, mm_i 0, mm_i (l4 + 1)] [] M Q) ∧ (¬ (M.1 79 l4) ≤ l2 → en_R sc 88 10 [mm_r 72, mm_i l1, mm_i l2, mm_i 1, mm_i (l4 + 1)] [] M Q)))))))))))))) : en_R sc 88 10 [mm_r 72, mm_i l1, mm_i l2, mm_i l3, mm_i l4] [] M Q := by
  obtain ⟨g1, h⟩ := h
  obtain ⟨g2, h⟩ := h
  obtain ⟨g3, h⟩ := h
  obtain ⟨g4, h⟩ := h
  obtain ⟨g5, h⟩ := h
  refine en_iload mc88_10 rfl ?_
  refine en_aload_n mc88_12 rfl ?_
  refine en_getR (b := 75) mv88 mc88_13 (lk_f7_16) (⟨rfl, by decide⟩ : mt_kd[72]? = some (.inl 7) ∧ 72 < 99) rfl (mk_fc ho (by decide +kernel)) ?_
  refine en_iload_n mc88_16 rfl ?_
  refine en_iald mc88_17 (⟨rfl, by decide, by decide⟩ : mt_kd[75]? = some (.inr (.int, 918)) ∧ 75 < 99 ∧ 918 < 2147483648) g1 g2 ?_
  refine en_aload_n mc88_18 rfl ?_
  refine en_getR (b := 76) mv88 mc88_19 (lk_f7_19) (⟨rfl, by decide⟩ : mt_kd[72]? = some (.inl 7) ∧ 72 < 99) rfl (mk_fc ho (by decide +kernel)) ?_
  refine en_iload_n mc88_22 rfl ?_
  refine en_iald mc88_23 (⟨rfl, by decide, by decide⟩ : mt_kd[76]? = some (.inr (.int, 918)) ∧ 76 < 99 ∧ 918 < 2147483648) g3 g4 ?_
  refine en_iadd mc88_24 ?_
  refine en_icmp_ge 66 mc88_25 (by decide) hg_l4 g5 (fun q => ?_) (fun q => ?_)
  · replace h := h.1 q
    obtain ⟨g6, h⟩ := h
    refine en_iload_n mc88_66 rfl ?_
    exact en_zret mv88 mc88_67 rfl g6 h
  · replace h := h.2 q
    refine en_iload_n mc88_28 rfl ?_
    refine en_if_ne 54 mc88_29 (by decide) hg_l3 (fun q => ?_) (fun q => ?_)
    · replace h := h.1 q
      refine en_iconst mc88_54 ?_
      refine en_goto 59 mc88_55 (by decide) ?_
      refine en_istore_n (ls' := [mm_r 72, mm_i l1, mm_i l2, mm_i 1, mm_i l4]) mc88_59 (Nat.le_of_ble_eq_true rfl) rfl ?_
      refine en_iinc (ls' := [mm_r 72, mm_i l1, mm_i l2, mm_i 1, mm_i (l4 + 1)]) mc88_60 rfl rfl ?_
      refine en_goto 10 mc88_63 (by decide) ?_
      exact h
    · replace h := h.2 q
      obtain ⟨g7, h⟩ := h
      obtain ⟨g8, h⟩ := h
      refine en_aload_n mc88_32 rfl ?_
      refine en_getR (b := 78) mv88 mc88_33 (lk_f7_25) (⟨rfl, by decide⟩ : mt_kd[72]? = some (.inl 7) ∧ 72 < 99) rfl (mk_fc ho (by decide +kernel)) ?_
      refine en_iload mc88_36 rfl ?_
      refine en_iald mc88_38 (⟨rfl, by decide, by decide⟩ : mt_kd[78]? = some (.inr (.int, 3618)) ∧ 78 < 99 ∧ 3618 < 2147483648) g7 g8 ?_
      refine en_iload_n mc88_39 rfl ?_
      refine en_icmp_gt 58 mc88_40 (by decide) (ho.2.1 78 l4 (by unfold mr_lg; omega)) hg_l2 (fun q => ?_) (fun q => ?_)
      · replace h := h.1 q
        refine en_iconst mc88_58 ?_
        refine en_istore_n (ls' := [mm_r 72, mm_i l1, mm_i l2, mm_i 0, mm_i l4]) mc88_59 (Nat.le_of_ble_eq_true rfl) rfl ?_
        refine en_iinc (ls' := [mm_r 72, mm_i l1, mm_i l2, mm_i 0, mm_i (l4 + 1)]) mc88_60 rfl rfl ?_
        refine en_goto 10 mc88_63 (by decide) ?_
        exact h
      · replace h := h.2 q
        obtain ⟨g9, h⟩ := h
        obtain ⟨g10, h⟩ := h
        refine en_iload_n mc88_43 rfl ?_
        refine en_aload_n mc88_44 rfl ?_
        refine en_getR (b := 79) mv88 mc88_45 (lk_f7_28) (⟨rfl, by decide⟩ : mt_kd[72]? = some (.inl 7) ∧ 72 < 99) rfl (mk_fc ho (by decide +kernel)) ?_
        refine en_iload mc88_48 rfl ?_
        refine en_iald mc88_50 (⟨rfl, by decide, by decide⟩ : mt_kd[79]? = some (.inr (.int, 3618)) ∧ 79 < 99 ∧ 3618 < 2147483648) g9 g10 ?_
        refine en_icmp_ge 58 mc88_51 (by decide) hg_l2 (ho.2.1 79 l4 (by unfold mr_lg; omega)) (fun q => ?_) (fun q => ?_)
        · replace h := h.1 q
          refine en_iconst mc88_58 ?_
          refine en_istore_n (ls' := [mm_r 72, mm_i l1, mm_i l2, mm_i 0, mm_i l4]) mc88_59 (Nat.le_of_ble_eq_true rfl) rfl ?_
          refine en_iinc (ls' := [mm_r 72, mm_i l1, mm_i l2, mm_i 0, mm_i (l4 + 1)]) mc88_60 rfl rfl ?_
          refine en_goto 10 mc88_63 (by decide) ?_
          exact h
        · replace h := h.2 q
          refine en_iconst mc88_54 ?_
          refine en_goto 59 mc88_55 (by decide) ?_
          refine en_istore_n (ls' := [mm_r 72, mm_i l1, mm_i l2, mm_i 1, mm_i l4]) mc88_59 (Nat.le_of_ble_eq_true rfl) rfl ?_
          refine en_iinc (ls' := [mm_r 72, mm_i l1, mm_i l2, mm_i 1, mm_i (l4 + 1)]) mc88_60 rfl rfl ?_
          refine en_goto 10 mc88_63 (by decide) ?_
          exact h
/-! 89: CellAreasModel.mirror(III)I -/
theorem mc89_0 : mr_C 89 0 = some (.aload_n 0, 1) := rfl
theorem mc89_1 : mr_C 89 1 = some (.aload_n 0, 1) := rfl
theorem mc89_2 : mr_C 89 2 = some (.iload_n 1, 1) := rfl
theorem mc89_3 : mr_C 89 3 = some (.invokevirtual 131, 3) := rfl
theorem mc89_6 : mr_C 89 6 = some (.ifCond .eq (11), 3) := rfl
theorem mc89_9 : mr_C 89 9 = some (.aload_n 0, 1) := rfl
theorem mc89_10 : mr_C 89 10 = some (.iload_n 2, 1) := rfl
theorem mc89_11 : mr_C 89 11 = some (.invokevirtual 131, 3) := rfl
theorem mc89_14 : mr_C 89 14 = some (.ifCond .ne (7), 3) := rfl
theorem mc89_17 : mr_C 89 17 = some (.iconst 1, 1) := rfl
theorem mc89_18 : mr_C 89 18 = some (.goto 17, 3) := rfl
theorem mc89_21 : mr_C 89 21 = some (.iload_n 3, 1) := rfl
theorem mc89_22 : mr_C 89 22 = some (.iconst 0, 1) := rfl
theorem mc89_23 : mr_C 89 23 = some (.iconst 2, 1) := rfl
theorem mc89_24 : mr_C 89 24 = some (.invokestatic 135, 3) := rfl
theorem mc89_27 : mr_C 89 27 = some (.ifCond .ne (7), 3) := rfl
theorem mc89_30 : mr_C 89 30 = some (.iconst 2, 1) := rfl
theorem mc89_31 : mr_C 89 31 = some (.goto 4, 3) := rfl
theorem mc89_34 : mr_C 89 34 = some (.iconst 0, 1) := rfl
theorem mc89_35 : mr_C 89 35 = some (.putfield 89, 3) := rfl
theorem mc89_38 : mr_C 89 38 = some (.aload_n 0, 1) := rfl
theorem mc89_39 : mr_C 89 39 = some (.getfield 89, 3) := rfl
theorem mc89_42 : mr_C 89 42 = some (.ifCond .le (5), 3) := rfl
theorem mc89_45 : mr_C 89 45 = some (.iconst 0, 1) := rfl
theorem mc89_46 : mr_C 89 46 = some (.ireturn, 1) := rfl
theorem mc89_47 : mr_C 89 47 = some (.aload_n 0, 1) := rfl
theorem mc89_48 : mr_C 89 48 = some (.invokevirtual 139, 3) := by decide +kernel
theorem mc89_51 : mr_C 89 51 = some (.iload_n 3, 1) := by decide +kernel
theorem mc89_52 : mr_C 89 52 = some (.iconst 2, 1) := by decide +kernel
theorem mc89_53 : mr_C 89 53 = some (.if_icmp .ne (115), 3) := by decide +kernel
theorem mc89_56 : mr_C 89 56 = some (.aload_n 0, 1) := by decide +kernel
theorem mc89_57 : mr_C 89 57 = some (.iload_n 2, 1) := by decide +kernel
theorem mc89_58 : mr_C 89 58 = some (.invokevirtual 174, 3) := by decide +kernel
theorem mc89_61 : mr_C 89 61 = some (.iconst 0, 1) := by decide +kernel
theorem mc89_62 : mr_C 89 62 = some (.istore 4, 2) := by decide +kernel
theorem mc89_64 : mr_C 89 64 = some (.iload 4, 2) := by decide +kernel
theorem mc89_66 : mr_C 89 66 = some (.iconst 1, 1) := by decide +kernel
theorem mc89_67 : mr_C 89 67 = some (.iadd, 1) := by decide +kernel
theorem mc89_68 : mr_C 89 68 = some (.aload_n 0, 1) := by decide +kernel
theorem mc89_69 : mr_C 89 69 = some (.getfield 97, 3) := by decide +kernel
theorem mc89_72 : mr_C 89 72 = some (.if_icmp .ge (90), 3) := by decide +kernel
theorem mc89_75 : mr_C 89 75 = some (.aload_n 0, 1) := by decide +kernel
theorem mc89_76 : mr_C 89 76 = some (.iconst 0, 1) := by decide +kernel
theorem mc89_77 : mr_C 89 77 = some (.putfield 100, 3) := by decide +kernel
theorem mc89_80 : mr_C 89 80 = some (.bipush 102, 2) := by decide +kernel
theorem mc89_82 : mr_C 89 82 = some (.iload_n 2, 1) := by decide +kernel
theorem mc89_83 : mr_C 89 83 = some (.imul, 1) := by decide +kernel
theorem mc89_84 : mr_C 89 84 = some (.istore 5, 2) := by decide +kernel
theorem mc89_86 : mr_C 89 86 = some (.iload 5, 2) := by decide +kernel
theorem mc89_88 : mr_C 89 88 = some (.aload_n 0, 1) := by decide +kernel
theorem mc89_89 : mr_C 89 89 = some (.iload_n 2, 1) := by decide +kernel
theorem mc89_90 : mr_C 89 90 = some (.invokevirtual 107, 3) := by decide +kernel
theorem mc89_93 : mr_C 89 93 = some (.if_icmp .ge (43), 3) := by decide +kernel
theorem mc89_96 : mr_C 89 96 = some (.aload_n 0, 1) := by decide +kernel
theorem mc89_97 : mr_C 89 97 = some (.iload 5, 2) := by decide +kernel
theorem mc89_99 : mr_C 89 99 = some (.aload_n 0, 1) := by decide +kernel
theorem mc89_100 : mr_C 89 100 = some (.getfield 52, 3) := by decide +kernel
theorem mc89_103 : mr_C 89 103 = some (.iload 4, 2) := by decide +kernel
theorem mc89_105 : mr_C 89 105 = some (.iaload, 1) := by decide +kernel
theorem mc89_106 : mr_C 89 106 = some (.invokevirtual 177, 3) := by decide +kernel
theorem mc89_109 : mr_C 89 109 = some (.ifCond .eq (21), 3) := by decide +kernel
theorem mc89_112 : mr_C 89 112 = some (.aload_n 0, 1) := by decide +kernel
theorem mc89_113 : mr_C 89 113 = some (.aload_n 0, 1) := by decide +kernel
theorem mc89_114 : mr_C 89 114 = some (.getfield 7, 3) := by decide +kernel
theorem mc89_117 : mr_C 89 117 = some (.iload 5, 2) := by decide +kernel
theorem mc89_119 : mr_C 89 119 = some (.iaload, 1) := by decide +kernel
theorem mc89_120 : mr_C 89 120 = some (.aload_n 0, 1) := by decide +kernel
theorem mc89_121 : mr_C 89 121 = some (.getfield 13, 3) := by decide +kernel
theorem mc89_124 : mr_C 89 124 = some (.iload 5, 2) := by decide +kernel
theorem mc89_126 : mr_C 89 126 = some (.iaload, 1) := by decide +kernel
theorem mc89_127 : mr_C 89 127 = some (.invokevirtual 127, 3) := by decide +kernel
theorem mc89_130 : mr_C 89 130 = some (.iinc 5 (1), 3) := by decide +kernel
theorem mc89_133 : mr_C 89 133 = some (.goto (-47), 3) := by decide +kernel
theorem mc89_136 : mr_C 89 136 = some (.aload_n 0, 1) := by decide +kernel
theorem mc89_137 : mr_C 89 137 = some (.aload_n 0, 1) := by decide +kernel
theorem mc89_138 : mr_C 89 138 = some (.getfield 52, 3) := by decide +kernel
theorem mc89_141 : mr_C 89 141 = some (.iload 4, 2) := by decide +kernel
theorem mc89_143 : mr_C 89 143 = some (.iaload, 1) := by decide +kernel
theorem mc89_144 : mr_C 89 144 = some (.aload_n 0, 1) := by decide +kernel
theorem mc89_145 : mr_C 89 145 = some (.getfield 52, 3) := by decide +kernel
theorem mc89_148 : mr_C 89 148 = some (.iload 4, 2) := by decide +kernel
theorem mc89_150 : mr_C 89 150 = some (.iconst 1, 1) := by decide +kernel
theorem mc89_151 : mr_C 89 151 = some (.iadd, 1) := by decide +kernel
theorem mc89_152 : mr_C 89 152 = some (.iaload, 1) := by decide +kernel
theorem mc89_153 : mr_C 89 153 = some (.invokevirtual 142, 3) := by decide +kernel
theorem mc89_156 : mr_C 89 156 = some (.iinc 4 (1), 3) := by decide +kernel
theorem mc89_159 : mr_C 89 159 = some (.goto (-95), 3) := by decide +kernel
theorem mc89_162 : mr_C 89 162 = some (.aload_n 0, 1) := by decide +kernel
theorem mc89_163 : mr_C 89 163 = some (.iload_n 1, 1) := by decide +kernel
theorem mc89_164 : mr_C 89 164 = some (.invokevirtual 145, 3) := by decide +kernel
theorem mc89_167 : mr_C 89 167 = some (.ireturn, 1) := by decide +kernel
theorem mc89_168 : mr_C 89 168 = some (.iconst 0, 1) := by decide +kernel
theorem mc89_169 : mr_C 89 169 = some (.istore 4, 2) := by decide +kernel
theorem mc89_171 : mr_C 89 171 = some (.iload 4, 2) := by decide +kernel
theorem mc89_173 : mr_C 89 173 = some (.aload_n 0, 1) := by decide +kernel
theorem mc89_174 : mr_C 89 174 = some (.getfield 22, 3) := by decide +kernel
theorem mc89_177 : mr_C 89 177 = some (.iload_n 2, 1) := by decide +kernel
theorem mc89_178 : mr_C 89 178 = some (.iaload, 1) := by decide +kernel
theorem mc89_179 : mr_C 89 179 = some (.if_icmp .ge (192), 3) := by decide +kernel
theorem mc89_182 : mr_C 89 182 = some (.bipush 102, 2) := by decide +kernel
theorem mc89_184 : mr_C 89 184 = some (.iload_n 2, 1) := by decide +kernel
theorem mc89_185 : mr_C 89 185 = some (.imul, 1) := by decide +kernel
theorem mc89_186 : mr_C 89 186 = some (.iload_n 3, 1) := by decide +kernel
theorem mc89_187 : mr_C 89 187 = some (.iconst 1, 1) := by decide +kernel
theorem mc89_188 : mr_C 89 188 = some (.if_icmp .ne (17), 3) := by decide +kernel
theorem mc89_191 : mr_C 89 191 = some (.aload_n 0, 1) := by decide +kernel
theorem mc89_192 : mr_C 89 192 = some (.getfield 22, 3) := by decide +kernel
theorem mc89_195 : mr_C 89 195 = some (.iload_n 2, 1) := by decide +kernel
theorem mc89_196 : mr_C 89 196 = some (.iaload, 1) := by decide +kernel
theorem mc89_197 : mr_C 89 197 = some (.iconst 1, 1) := by decide +kernel
theorem mc89_198 : mr_C 89 198 = some (.isub, 1) := by decide +kernel
theorem mc89_199 : mr_C 89 199 = some (.iload 4, 2) := by decide +kernel
theorem mc89_201 : mr_C 89 201 = some (.isub, 1) := by decide +kernel
theorem mc89_202 : mr_C 89 202 = some (.goto 5, 3) := by decide +kernel
theorem mc89_205 : mr_C 89 205 = some (.iload 4, 2) := by decide +kernel
theorem mc89_207 : mr_C 89 207 = some (.iadd, 1) := by decide +kernel
theorem mc89_208 : mr_C 89 208 = some (.istore 5, 2) := by decide +kernel
theorem mc89_210 : mr_C 89 210 = some (.aload_n 0, 1) := by decide +kernel
theorem mc89_211 : mr_C 89 211 = some (.iconst 0, 1) := by decide +kernel
theorem mc89_212 : mr_C 89 212 = some (.putfield 100, 3) := by decide +kernel
theorem mc89_215 : mr_C 89 215 = some (.iconst 0, 1) := by decide +kernel
theorem mc89_216 : mr_C 89 216 = some (.istore 6, 2) := by decide +kernel
theorem mc89_218 : mr_C 89 218 = some (.iload 6, 2) := by decide +kernel
theorem mc89_220 : mr_C 89 220 = some (.aload_n 0, 1) := by decide +kernel
theorem mc89_221 : mr_C 89 221 = some (.getfield 19, 3) := by decide +kernel
theorem mc89_224 : mr_C 89 224 = some (.iload 5, 2) := by decide +kernel
theorem mc89_226 : mr_C 89 226 = some (.iaload, 1) := by decide +kernel
theorem mc89_227 : mr_C 89 227 = some (.if_icmp .ge (88), 3) := by decide +kernel
theorem mc89_230 : mr_C 89 230 = some (.aload_n 0, 1) := by decide +kernel
theorem mc89_231 : mr_C 89 231 = some (.getfield 16, 3) := by decide +kernel
theorem mc89_234 : mr_C 89 234 = some (.iload 5, 2) := by decide +kernel
theorem mc89_236 : mr_C 89 236 = some (.iaload, 1) := by decide +kernel
theorem mc89_237 : mr_C 89 237 = some (.iload_n 3, 1) := by decide +kernel
theorem mc89_238 : mr_C 89 238 = some (.ifCond .ne (18), 3) := by decide +kernel
theorem mc89_241 : mr_C 89 241 = some (.aload_n 0, 1) := by decide +kernel
theorem mc89_242 : mr_C 89 242 = some (.getfield 19, 3) := by decide +kernel
theorem mc89_245 : mr_C 89 245 = some (.iload 5, 2) := by decide +kernel
theorem mc89_247 : mr_C 89 247 = some (.iaload, 1) := by decide +kernel
theorem mc89_248 : mr_C 89 248 = some (.iconst 1, 1) := by decide +kernel
theorem mc89_249 : mr_C 89 249 = some (.isub, 1) := by decide +kernel
theorem mc89_250 : mr_C 89 250 = some (.iload 6, 2) := by decide +kernel
theorem mc89_252 : mr_C 89 252 = some (.isub, 1) := by decide +kernel
theorem mc89_253 : mr_C 89 253 = some (.goto 5, 3) := by decide +kernel
theorem mc89_256 : mr_C 89 256 = some (.iload 6, 2) := by decide +kernel
theorem mc89_258 : mr_C 89 258 = some (.iadd, 1) := by decide +kernel
theorem mc89_259 : mr_C 89 259 = some (.istore 7, 2) := by decide +kernel
theorem mc89_261 : mr_C 89 261 = some (.aload_n 0, 1) := by decide +kernel
theorem mc89_262 : mr_C 89 262 = some (.iload_n 3, 1) := by decide +kernel
theorem mc89_263 : mr_C 89 263 = some (.ifCond .ne (14), 3) := by decide +kernel
theorem mc89_266 : mr_C 89 266 = some (.aload_n 0, 1) := by decide +kernel
theorem mc89_267 : mr_C 89 267 = some (.getfield 28, 3) := by decide +kernel
theorem mc89_270 : mr_C 89 270 = some (.iload 7, 2) := by decide +kernel
theorem mc89_272 : mr_C 89 272 = some (.iaload, 1) := by decide +kernel
theorem mc89_273 : mr_C 89 273 = some (.ineg, 1) := by decide +kernel
theorem mc89_274 : mr_C 89 274 = some (.goto 10, 3) := by decide +kernel
theorem mc89_277 : mr_C 89 277 = some (.aload_n 0, 1) := by decide +kernel
theorem mc89_278 : mr_C 89 278 = some (.getfield 25, 3) := by decide +kernel
theorem mc89_281 : mr_C 89 281 = some (.iload 7, 2) := by decide +kernel
theorem mc89_283 : mr_C 89 283 = some (.iaload, 1) := by decide +kernel
theorem mc89_284 : mr_C 89 284 = some (.iload_n 3, 1) := by decide +kernel
theorem mc89_285 : mr_C 89 285 = some (.ifCond .ne (14), 3) := by decide +kernel
theorem mc89_288 : mr_C 89 288 = some (.aload_n 0, 1) := by decide +kernel
theorem mc89_289 : mr_C 89 289 = some (.getfield 25, 3) := by decide +kernel
theorem mc89_292 : mr_C 89 292 = some (.iload 7, 2) := by decide +kernel
theorem mc89_294 : mr_C 89 294 = some (.iaload, 1) := by decide +kernel
theorem mc89_295 : mr_C 89 295 = some (.ineg, 1) := by decide +kernel
theorem mc89_296 : mr_C 89 296 = some (.goto 10, 3) := by decide +kernel
theorem mc89_299 : mr_C 89 299 = some (.aload_n 0, 1) := by decide +kernel
theorem mc89_300 : mr_C 89 300 = some (.getfield 28, 3) := by decide +kernel
theorem mc89_303 : mr_C 89 303 = some (.iload 7, 2) := by decide +kernel
theorem mc89_305 : mr_C 89 305 = some (.iaload, 1) := by decide +kernel
theorem mc89_306 : mr_C 89 306 = some (.invokevirtual 127, 3) := by decide +kernel
theorem mc89_309 : mr_C 89 309 = some (.iinc 6 (1), 3) := by decide +kernel
theorem mc89_312 : mr_C 89 312 = some (.goto (-94), 3) := by decide +kernel
theorem mc89_315 : mr_C 89 315 = some (.aload_n 0, 1) := by decide +kernel
theorem mc89_316 : mr_C 89 316 = some (.iload_n 3, 1) := by decide +kernel
theorem mc89_317 : mr_C 89 317 = some (.iconst 1, 1) := by decide +kernel
theorem mc89_318 : mr_C 89 318 = some (.if_icmp .ne (14), 3) := by decide +kernel
theorem mc89_321 : mr_C 89 321 = some (.aload_n 0, 1) := by decide +kernel
theorem mc89_322 : mr_C 89 322 = some (.getfield 13, 3) := by decide +kernel
theorem mc89_325 : mr_C 89 325 = some (.iload 5, 2) := by decide +kernel
theorem mc89_327 : mr_C 89 327 = some (.iaload, 1) := by decide +kernel
theorem mc89_328 : mr_C 89 328 = some (.ineg, 1) := by decide +kernel
theorem mc89_329 : mr_C 89 329 = some (.goto 10, 3) := by decide +kernel
theorem mc89_332 : mr_C 89 332 = some (.aload_n 0, 1) := by decide +kernel
theorem mc89_333 : mr_C 89 333 = some (.getfield 7, 3) := by decide +kernel
theorem mc89_336 : mr_C 89 336 = some (.iload 5, 2) := by decide +kernel
theorem mc89_338 : mr_C 89 338 = some (.iaload, 1) := by decide +kernel
theorem mc89_339 : mr_C 89 339 = some (.iload_n 3, 1) := by decide +kernel
theorem mc89_340 : mr_C 89 340 = some (.iconst 1, 1) := by decide +kernel
theorem mc89_341 : mr_C 89 341 = some (.if_icmp .ne (14), 3) := by decide +kernel
theorem mc89_344 : mr_C 89 344 = some (.aload_n 0, 1) := by decide +kernel
theorem mc89_345 : mr_C 89 345 = some (.getfield 7, 3) := by decide +kernel
theorem mc89_348 : mr_C 89 348 = some (.iload 5, 2) := by decide +kernel
theorem mc89_350 : mr_C 89 350 = some (.iaload, 1) := by decide +kernel
theorem mc89_351 : mr_C 89 351 = some (.ineg, 1) := by decide +kernel
theorem mc89_352 : mr_C 89 352 = some (.goto 10, 3) := by decide +kernel
theorem mc89_355 : mr_C 89 355 = some (.aload_n 0, 1) := by decide +kernel
theorem mc89_356 : mr_C 89 356 = some (.getfield 13, 3) := by decide +kernel
theorem mc89_359 : mr_C 89 359 = some (.iload 5, 2) := by decide +kernel
theorem mc89_361 : mr_C 89 361 = some (.iaload, 1) := by decide +kernel
theorem mc89_362 : mr_C 89 362 = some (.invokevirtual 142, 3) := by decide +kernel
theorem mc89_365 : mr_C 89 365 = some (.iinc 4 (1), 3) := by decide +kernel
theorem mc89_368 : mr_C 89 368 = some (.goto (-197), 3) := by decide +kernel
theorem mc89_371 : mr_C 89 371 = some (.aload_n 0, 1) := by decide +kernel
theorem mc89_372 : mr_C 89 372 = some (.iload_n 1, 1) := by decide +kernel
theorem mc89_373 : mr_C 89 373 = some (.invokevirtual 145, 3) := by decide +kernel
theorem mc89_376 : mr_C 89 376 = some (.ireturn, 1) := by decide +kernel
theorem vc89_0 {sc : Nat × (Int → Int)} {Q : mm_R → mm_M → Prop} {M : mm_M} {l1 : Int} {l2 : Int} {l3 : Int} (ho : mr_ok M)
    (h : en_CI sc 34 [mm_r 72, mm_i l1] M (fun x1 M2 => mr_ok M2 → mr_rg x1 ∧ ((x1 = 0 → en_R sc 89 17 [mm_r 72, mm_i l1, mm_i l2, mm_i l3, mm_u, mm_u, mm_u, mm_u] [mm_r 72] M2 Q) ∧ (¬ x1 = 0 → en_CI sc 34 [mm_r 72, mm_i l2] M2 (fun x5 M6 => mr_ok M6 → mr_rg x5 ∧ ((x5 ≠ 0 → en_CI sc 33 [mm_i l3, mm_i 0, mm_i 2] M6 (fun x9 M10 => mr_ok M10 → mr_rg x9 ∧ ((x9 ≠ 0 → en_R sc 89 35 [mm_r 72, mm_i l1, mm_i l2, mm_i l3, mm_u, mm_u, mm_u, mm_u] [mm_i 0, mm_r 72] M10 Q) ∧ (¬ (x9 ≠ 0) → en_R sc 89 35 [mm_r 72, mm_i l1, mm_i l2, mm_i l3, mm_u, mm_u, mm_u, mm_u] [mm_i 2, mm_r 72] M10 Q))) (fun e M9 => Q (.inr e) M9)) ∧ (¬ (x5 ≠ 0) → en_R sc 89 17 [mm_r 72, mm_i l1, mm_i l2, mm_i l3, mm_u, mm_u, mm_u, mm_u] [mm_r 72] M6 Q))) (fun e M9 => Q (.inr e) M9)))) (fun e M9 => Q (.inr e) M9)) : en_R sc 89 0 [mm_r 72, mm_i l1, mm_i l2, mm_i l3, mm_u, mm_u, mm_u, mm_u] [] M Q := by
  refine en_aload_n mc89_0 rfl ?_
  refine en_aload_n mc89_1 rfl ?_
  refine en_iload_n mc89_2 rfl ?_
  refine en_callI (lz := [mm_r 72, mm_i l1]) mv89 mc89_3 rfl rfl (lk_m7_131) mv34 rfl (by decide) rfl (mk_cokV rfl (⟨rfl, by decide⟩ : mt_kd[72]? = some (.inl 7) ∧ 72 < 99)) rfl (mk_nh rfl _) ho ?_
  refine en_CI_mono h (fun x1 M2 h => ?_) (fun _ _ h => h)
  intro ho3
  replace h := h ho3
  obtain ⟨g4, h⟩ := h
  refine en_if_eq 17 mc89_6 (by decide) g4 (fun q => ?_) (fun q => ?_)
  · replace h := h.1 q
    exact h
  · replace h := h.2 q
    refine en_aload_n mc89_9 rfl ?_
    refine en_iload_n mc89_10 rfl ?_
    refine en_callI (lz := [mm_r 72, mm_i l2]) mv89 mc89_11 rfl rfl (lk_m7_131) mv34 rfl (by decide) rfl (mk_cokV rfl (⟨rfl, by decide⟩ : mt_kd[72]? = some (.inl 7) ∧ 72 < 99)) rfl (mk_nh rfl _) ho3 ?_
    refine en_CI_mono h (fun x5 M6 h => ?_) (fun _ _ h => h)
    intro ho7
    replace h := h ho7
    obtain ⟨g8, h⟩ := h
    refine en_if_ne 21 mc89_14 (by decide) g8 (fun q => ?_) (fun q => ?_)
    · replace h := h.1 q
      refine en_iload_n mc89_21 rfl ?_
      refine en_iconst mc89_22 ?_
      refine en_iconst mc89_23 ?_
      refine en_callI (lz := [mm_i l3, mm_i 0, mm_i 2]) mv89 mc89_24 rfl rfl (lk_m7_135) mv33 rfl (by decide) rfl (mk_cokS rfl) rfl (mk_nh rfl _) ho7 ?_
      refine en_CI_mono h (fun x9 M10 h => ?_) (fun _ _ h => h)
      intro ho11
      replace h := h ho11
      obtain ⟨g12, h⟩ := h
      refine en_if_ne 34 mc89_27 (by decide) g12 (fun q => ?_) (fun q => ?_)
      · replace h := h.1 q
        refine en_iconst mc89_34 ?_
        exact h
      · replace h := h.2 q
        refine en_iconst mc89_30 ?_
        refine en_goto 35 mc89_31 (by decide) ?_
        exact h
    · replace h := h.2 q
      exact h
theorem vc89_17 {sc : Nat × (Int → Int)} {Q : mm_R → mm_M → Prop} {M : mm_M} {l1 : Int} {l2 : Int} {l3 : Int} (ho : mr_ok M)
    (h : en_R sc 89 35 [mm_r 72, mm_i l1, mm_i l2, mm_i l3, mm_u, mm_u, mm_u, mm_u] [mm_i 1, mm_r 72] M Q) : en_R sc 89 17 [mm_r 72, mm_i l1, mm_i l2, mm_i l3, mm_u, mm_u, mm_u, mm_u] [mm_r 72] M Q := by
  refine en_iconst mc89_17 ?_
  refine en_goto 35 mc89_18 (by decide) ?_
  exact h
theorem vc89_35 {sc : Nat × (Int → Int)} {Q : mm_R → mm_M → Prop} {M : mm_M} {l1 : Int} {l2 : Int} {l3 : Int} {s1 : Int} (ho : mr_ok M) (hg_s1 : mr_rg s1) (hg_l3 : mr_rg l3)
    (h : (((mm_putN M 72 0 s1).1 72 0) ≤ 0 → en_CV sc 35 [mm_r 72] (mm_putN M 72 0 s1) (fun M2 => mr_ok M2 → (l3 ≠ 2 → en_R sc 89 171 [mm_r 72, mm_i l1, mm_i l2, mm_i l3, mm_i 0, mm_u, mm_u, mm_u] [] M2 Q) ∧ (¬ (l3 ≠ 2) → en_CV sc 87 [mm_r 72, mm_i l2, mm_u] M2 (fun M5 => mr_ok M5 → en_R sc 89 64 [mm_r 72, mm_i l1, mm_i l2, mm_i l3, mm_i 0, mm_u, mm_u, mm_u] [] M5 Q) (fun e M9 => Q (.inr e) M9))) (fun e M9 => Q (.inr e) M9)) ∧ (¬ ((mm_putN M 72 0 s1).1 72 0) ≤ 0 → Q (.inl (some (mm_i 0))) (mm_putN M 72 0 s1))) : en_R sc 89 35 [mm_r 72, mm_i l1, mm_i l2, mm_i l3, mm_u, mm_u, mm_u, mm_u] [mm_i s1, mm_r 72] M Q := by
  refine en_putI mv89 mc89_35 (lk_f7_89) (⟨rfl, by decide⟩ : mt_kd[72]? = some (.inl 7) ∧ 72 < 99) rfl rfl hg_s1 ?_
  refine en_aload_n mc89_38 rfl ?_
  refine en_getI mv89 mc89_39 (lk_f7_89) (⟨rfl, by decide⟩ : mt_kd[72]? = some (.inl 7) ∧ 72 < 99) (Or.inl rfl) ?_
  refine en_if_le 47 mc89_42 (by decide) ((mr_ok_putI (a := 72) (k := 0) ho hg_s1).2.1 72 0 (by unfold mr_lg; omega)) (fun q => ?_) (fun q => ?_)
  · replace h := h.1 q
    refine en_aload_n mc89_47 rfl ?_
    refine en_callV (lz := [mm_r 72]) mv89 mc89_48 rfl rfl (lk_m7_139) mv35 rfl (by decide) rfl (mk_cokV rfl (⟨rfl, by decide⟩ : mt_kd[72]? = some (.inl 7) ∧ 72 < 99)) rfl (mk_nh rfl _) (mr_ok_putI (a := 72) (k := 0) ho hg_s1) ?_
    refine en_CV_mono h (fun M2 h => ?_) (fun _ _ h => h)
    intro ho3
    replace h := h ho3
    refine en_iload_n mc89_51 rfl ?_
    refine en_iconst mc89_52 ?_
    refine en_icmp_ne 168 mc89_53 (by decide) hg_l3 (⟨by decide, by decide⟩ : mr_rg 2) (fun q => ?_) (fun q => ?_)
    · replace h := h.1 q
      refine en_iconst mc89_168 ?_
      refine en_istore (ls' := [mm_r 72, mm_i l1, mm_i l2, mm_i l3, mm_i 0, mm_u, mm_u, mm_u]) mc89_169 (Nat.le_of_ble_eq_true rfl) rfl ?_
      exact h
    · replace h := h.2 q
      refine en_aload_n mc89_56 rfl ?_
      refine en_iload_n mc89_57 rfl ?_
      refine en_callV (lz := [mm_r 72, mm_i l2, mm_u]) mv89 mc89_58 rfl rfl (lk_m7_174) mv87 rfl (by decide) rfl (mk_cokV rfl (⟨rfl, by decide⟩ : mt_kd[72]? = some (.inl 7) ∧ 72 < 99)) rfl (mk_nh rfl _) ho3 ?_
      refine en_CV_mono h (fun M5 h => ?_) (fun _ _ h => h)
      intro ho6
      replace h := h ho6
      refine en_iconst mc89_61 ?_
      refine en_istore (ls' := [mm_r 72, mm_i l1, mm_i l2, mm_i l3, mm_i 0, mm_u, mm_u, mm_u]) mc89_62 (Nat.le_of_ble_eq_true rfl) rfl ?_
      exact h
  · replace h := h.2 q
    refine en_iconst mc89_45 ?_
    exact en_iret mv89 mc89_46 rfl h
theorem vc89_64 {sc : Nat × (Int → Int)} {Q : mm_R → mm_M → Prop} {M : mm_M} {l1 : Int} {l2 : Int} {l3 : Int} {l4 : Int} {l5 : mm_V} (ho : mr_ok M)
    (h : mr_rg (l4 + 1) ∧ (((M.1 72 19) ≤ (l4 + 1) → en_CI sc 39 [mm_r 72, mm_i l1, mm_u] M (fun x2 M3 => mr_ok M3 → Q (.inl (some (mm_i x2))) M3) (fun e M9 => Q (.inr e) M9)) ∧ (¬ (M.1 72 19) ≤ (l4 + 1) → en_R sc 89 86 [mm_r 72, mm_i l1, mm_i l2, mm_i l3, mm_i l4, mm_i (102 * l2), mm_u, mm_u] [] (mm_putN M 72 17 0) Q))) : en_R sc 89 64 [mm_r 72, mm_i l1, mm_i l2, mm_i l3, mm_i l4, l5, mm_u, mm_u] [] M Q := by
  obtain ⟨g1, h⟩ := h
  refine en_iload mc89_64 rfl ?_
  refine en_iconst mc89_66 ?_
  refine en_iadd mc89_67 ?_
  refine en_aload_n mc89_68 rfl ?_
  refine en_getI mv89 mc89_69 (lk_f7_97) (⟨rfl, by decide⟩ : mt_kd[72]? = some (.inl 7) ∧ 72 < 99) (Or.inl rfl) ?_
  refine en_icmp_ge 162 mc89_72 (by decide) g1 (ho.2.1 72 19 (by unfold mr_lg; omega)) (fun q => ?_) (fun q => ?_)
  · replace h := h.1 q
    refine en_aload_n mc89_162 rfl ?_
    refine en_iload_n mc89_163 rfl ?_
    refine en_callI (lz := [mm_r 72, mm_i l1, mm_u]) mv89 mc89_164 rfl rfl (lk_m7_145) mv39 rfl (by decide) rfl (mk_cokV rfl (⟨rfl, by decide⟩ : mt_kd[72]? = some (.inl 7) ∧ 72 < 99)) rfl (mk_nh rfl _) ho ?_
    refine en_CI_mono h (fun x2 M3 h => ?_) (fun _ _ h => h)
    intro ho4
    replace h := h ho4
    exact en_iret mv89 mc89_167 rfl h
  · replace h := h.2 q
    refine en_aload_n mc89_75 rfl ?_
    refine en_iconst mc89_76 ?_
    refine en_putI mv89 mc89_77 (lk_f7_100) (⟨rfl, by decide⟩ : mt_kd[72]? = some (.inl 7) ∧ 72 < 99) rfl rfl (⟨by decide, by decide⟩ : mr_rg 0) ?_
    refine en_bipush mc89_80 (by decide) ?_
    refine en_iload_n mc89_82 rfl ?_
    refine en_imul mc89_83 ?_
    refine en_istore (ls' := [mm_r 72, mm_i l1, mm_i l2, mm_i l3, mm_i l4, mm_i (102 * l2), mm_u, mm_u]) mc89_84 (Nat.le_of_ble_eq_true rfl) rfl ?_
    exact h
theorem vc89_86 {sc : Nat × (Int → Int)} {Q : mm_R → mm_M → Prop} {M : mm_M} {l1 : Int} {l2 : Int} {l3 : Int} {l4 : Int} {l5 : Int} (ho : mr_ok M) (hg_l5 : mr_rg l5)
    (h : en_CI sc 45 [mm_r 72, mm_i l2] M (fun x1 M2 => mr_ok M2 → mr_rg x1 ∧ ((x1 ≤ l5 → 0 ≤ l4 ∧ (l4 < 1700 ∧ (0 ≤ (l4 + 1) ∧ ((l4 + 1) < 1700 ∧ (en_CV sc 38 [mm_r 72, mm_i (M2.1 87 l4), mm_i (M2.1 87 (l4 + 1)), mm_u, mm_u] M2 (fun M10 => mr_ok M10 → en_R sc 89 64 [mm_r 72, mm_i l1, mm_i l2, mm_i l3, mm_i (l4 + 1), mm_i l5, mm_u, mm_u] [] M10 Q) (fun e M9 => Q (.inr e) M9)))))) ∧ (¬ x1 ≤ l5 → 0 ≤ l4 ∧ (l4 < 1700 ∧ (en_CI sc 88 [mm_r 72, mm_i l5, mm_i (M2.1 87 l4), mm_u, mm_u] M2 (fun x14 M15 => mr_ok M15 → mr_rg x14 ∧ ((x14 = 0 → en_R sc 89 86 [mm_r 72, mm_i l1, mm_i l2, mm_i l3, mm_i l4, mm_i (l5 + 1), mm_u, mm_u] [] M15 Q) ∧ (¬ x14 = 0 → 0 ≤ l5 ∧ (l5 < 918 ∧ (0 ≤ l5 ∧ (l5 < 918 ∧ (en_CV sc 36 [mm_r 72, mm_i (M15.1 73 l5), mm_i (M15.1 74 l5)] M15 (fun M23 => mr_ok M23 → en_R sc 89 86 [mm_r 72, mm_i l1, mm_i l2, mm_i l3, mm_i l4, mm_i (l5 + 1), mm_u, mm_u] [] M23 Q) (fun e M9 => Q (.inr e) M9)))))))) (fun e M9 => Q (.inr e) M9)))))) (fun e M9 => Q (.inr e) M9)) : en_R sc 89 86 [mm_r 72, mm_i l1, mm_i l2, mm_i l3, mm_i l4, mm_i l5, mm_u, mm_u] [] M Q := by
  refine en_iload mc89_86 rfl ?_
  refine en_aload_n mc89_88 rfl ?_
  refine en_iload_n mc89_89 rfl ?_
  refine en_callI (lz := [mm_r 72, mm_i l2]) mv89 mc89_90 rfl rfl (lk_m7_107) mv45 rfl (by decide) rfl (mk_cokV rfl (⟨rfl, by decide⟩ : mt_kd[72]? = some (.inl 7) ∧ 72 < 99)) rfl (mk_nh rfl _) ho ?_
  refine en_CI_mono h (fun x1 M2 h => ?_) (fun _ _ h => h)
  intro ho3
  replace h := h ho3
  obtain ⟨g4, h⟩ := h
  refine en_icmp_ge 136 mc89_93 (by decide) hg_l5 g4 (fun q => ?_) (fun q => ?_)
  · replace h := h.1 q
    obtain ⟨g5, h⟩ := h
    obtain ⟨g6, h⟩ := h
    obtain ⟨g7, h⟩ := h
    obtain ⟨g8, h⟩ := h
    refine en_aload_n mc89_136 rfl ?_
    refine en_aload_n mc89_137 rfl ?_
    refine en_getR (b := 87) mv89 mc89_138 (lk_f7_52) (⟨rfl, by decide⟩ : mt_kd[72]? = some (.inl 7) ∧ 72 < 99) rfl (mk_fc ho3 (by decide +kernel)) ?_
    refine en_iload mc89_141 rfl ?_
    refine en_iald mc89_143 (⟨rfl, by decide, by decide⟩ : mt_kd[87]? = some (.inr (.int, 1700)) ∧ 87 < 99 ∧ 1700 < 2147483648) g5 g6 ?_
    refine en_aload_n mc89_144 rfl ?_
    refine en_getR (b := 87) mv89 mc89_145 (lk_f7_52) (⟨rfl, by decide⟩ : mt_kd[72]? = some (.inl 7) ∧ 72 < 99) rfl (mk_fc ho3 (by decide +kernel)) ?_
    refine en_iload mc89_148 rfl ?_
    refine en_iconst mc89_150 ?_
    refine en_iadd mc89_151 ?_
    refine en_iald mc89_152 (⟨rfl, by decide, by decide⟩ : mt_kd[87]? = some (.inr (.int, 1700)) ∧ 87 < 99 ∧ 1700 < 2147483648) g7 g8 ?_
    refine en_callV (lz := [mm_r 72, mm_i (M2.1 87 l4), mm_i (M2.1 87 (l4 + 1)), mm_u, mm_u]) mv89 mc89_153 rfl rfl (lk_m7_142) mv38 rfl (by decide) rfl (mk_cokV rfl (⟨rfl, by decide⟩ : mt_kd[72]? = some (.inl 7) ∧ 72 < 99)) rfl (mk_nh rfl _) ho3 ?_
    refine en_CV_mono h (fun M10 h => ?_) (fun _ _ h => h)
    intro ho11
    replace h := h ho11
    refine en_iinc (ls' := [mm_r 72, mm_i l1, mm_i l2, mm_i l3, mm_i (l4 + 1), mm_i l5, mm_u, mm_u]) mc89_156 rfl rfl ?_
    refine en_goto 64 mc89_159 (by decide) ?_
    exact h
  · replace h := h.2 q
    obtain ⟨g12, h⟩ := h
    obtain ⟨g13, h⟩ := h
    refine en_aload_n mc89_96 rfl ?_
    refine en_iload mc89_97 rfl ?_
    refine en_aload_n mc89_99 rfl ?_
    refine en_getR (b := 87) mv89 mc89_100 (lk_f7_52) (⟨rfl, by decide⟩ : mt_kd[72]? = some (.inl 7) ∧ 72 < 99) rfl (mk_fc ho3 (by decide +kernel)) ?_
    refine en_iload mc89_103 rfl ?_
    refine en_iald mc89_105 (⟨rfl, by decide, by decide⟩ : mt_kd[87]? = some (.inr (.int, 1700)) ∧ 87 < 99 ∧ 1700 < 2147483648) g12 g13 ?_
    refine en_callI (lz := [mm_r 72, mm_i l5, mm_i (M2.1 87 l4), mm_u, mm_u]) mv89 mc89_106 rfl rfl (lk_m7_177) mv88 rfl (by decide) rfl (mk_cokV rfl (⟨rfl, by decide⟩ : mt_kd[72]? = some (.inl 7) ∧ 72 < 99)) rfl (mk_nh rfl _) ho3 ?_
    refine en_CI_mono h (fun x14 M15 h => ?_) (fun _ _ h => h)
    intro ho16
    replace h := h ho16
    obtain ⟨g17, h⟩ := h
    refine en_if_eq 130 mc89_109 (by decide) g17 (fun q => ?_) (fun q => ?_)
    · replace h := h.1 q
      refine en_iinc (ls' := [mm_r 72, mm_i l1, mm_i l2, mm_i l3, mm_i l4, mm_i (l5 + 1), mm_u, mm_u]) mc89_130 rfl rfl ?_
      refine en_goto 86 mc89_133 (by decide) ?_
      exact h
    · replace h := h.2 q
      obtain ⟨g18, h⟩ := h
      obtain ⟨g19, h⟩ := h
      obtain ⟨g20, h⟩ := h
      obtain ⟨g21, h⟩ := h
      refine en_aload_n mc89_112 rfl ?_
      refine en_aload_n mc89_113 rfl ?_
      refine en_getR (b := 73) mv89 mc89_114 (lk_f7_7) (⟨rfl, by decide⟩ : mt_kd[72]? = some (.inl 7) ∧ 72 < 99) rfl (mk_fc ho16 (by decide +kernel)) ?_
      refine en_iload mc89_117 rfl ?_
      refine en_iald mc89_119 (⟨rfl, by decide, by decide⟩ : mt_kd[73]? = some (.inr (.int, 918)) ∧ 73 < 99 ∧ 918 < 2147483648) g18 g19 ?_
      refine en_aload_n mc89_120 rfl ?_
      refine en_getR (b := 74) mv89 mc89_121 (lk_f7_13) (⟨rfl, by decide⟩ : mt_kd[72]? = some (.inl 7) ∧ 72 < 99) rfl (mk_fc ho16 (by decide +kernel)) ?_
      refine en_iload mc89_124 rfl ?_
      refine en_iald mc89_126 (⟨rfl, by decide, by decide⟩ : mt_kd[74]? = some (.inr (.int, 918)) ∧ 74 < 99 ∧ 918 < 2147483648) g20 g21 ?_
      refine en_callV (lz := [mm_r 72, mm_i (M15.1 73 l5), mm_i (M15.1 74 l5)]) mv89 mc89_127 rfl rfl (lk_m7_127) mv36 rfl (by decide) rfl (mk_cokV rfl (⟨rfl, by decide⟩ : mt_kd[72]? = some (.inl 7) ∧ 72 < 99)) rfl (mk_nh rfl _) ho16 ?_
      refine en_CV_mono h (fun M23 h => ?_) (fun _ _ h => h)
      intro ho24
      replace h := h ho24
      refine en_iinc (ls' := [mm_r 72, mm_i l1, mm_i l2, mm_i l3, mm_i l4, mm_i (l5 + 1), mm_u, mm_u]) mc89_130 rfl rfl ?_
      refine en_goto 86 mc89_133 (by decide) ?_
      exact h
theorem vc89_171 {sc : Nat × (Int → Int)} {Q : mm_R → mm_M → Prop} {M : mm_M} {l1 : Int} {l2 : Int} {l3 : Int} {l4 : Int} {l5 : mm_V} {l6 : mm_V} {l7 : mm_V} (ho : mr_ok M) (hg_l4 : mr_rg l4) (hg_l3 : mr_rg l3)
    (h : 0 ≤ l2 ∧ (l2 < 9 ∧ (((M.1 77 l2) ≤ l4 → en_CI sc 39 [mm_r 72, mm_i l1, mm_u] M (fun x3 M4 => mr_ok M4 → Q (.inl (some (mm_i x3))) M4) (fun e M9 => Q (.inr e) M9)) ∧ (¬ (M.1 77 l2) ≤ l4 → (l3 ≠ 1 → en_R sc 89 218 [mm_r 72, mm_i l1, mm_i l2, mm_i l3, mm_i l4, mm_i ((102 * l2) + l4), mm_i 0, l7] [] (mm_putN M 72 17 0) Q) ∧ (¬ (l3 ≠ 1) → 0 ≤ l2 ∧ (l2 < 9 ∧ (en_R sc 89 218 [mm_r 72, mm_i l1, mm_i l2, mm_i l3, mm_i l4, mm_i ((102 * l2) + (((M.1 77 l2) - 1) - l4)), mm_i 0, l7] [] (mm_putN M 72 17 0) Q))))))) : en_R sc 89 171 [mm_r 72, mm_i l1, mm_i l2, mm_i l3, mm_i l4, l5, l6, l7] [] M Q := by
  obtain ⟨g1, h⟩ := h
  obtain ⟨g2, h⟩ := h
  refine en_iload mc89_171 rfl ?_
  refine en_aload_n mc89_173 rfl ?_
  refine en_getR (b := 77) mv89 mc89_174 (lk_f7_22) (⟨rfl, by decide⟩ : mt_kd[72]? = some (.inl 7) ∧ 72 < 99) rfl (mk_fc ho (by decide +kernel)) ?_
  refine en_iload_n mc89_177 rfl ?_
  refine en_iald mc89_178 (⟨rfl, by decide, by decide⟩ : mt_kd[77]? = some (.inr (.int, 9)) ∧ 77 < 99 ∧ 9 < 2147483648) g1 g2 ?_
  refine en_icmp_ge 371 mc89_179 (by decide) hg_l4 (ho.2.1 77 l2 (by unfold mr_lg; omega)) (fun q => ?_) (fun q => ?_)
  · replace h := h.1 q
    refine en_aload_n mc89_371 rfl ?_
    refine en_iload_n mc89_372 rfl ?_
    refine en_callI (lz := [mm_r 72, mm_i l1, mm_u]) mv89 mc89_373 rfl rfl (lk_m7_145) mv39 rfl (by decide) rfl (mk_cokV rfl (⟨rfl, by decide⟩ : mt_kd[72]? = some (.inl 7) ∧ 72 < 99)) rfl (mk_nh rfl _) ho ?_
    refine en_CI_mono h (fun x3 M4 h => ?_) (fun _ _ h => h)
    intro ho5
    replace h := h ho5
    exact en_iret mv89 mc89_376 rfl h
  · replace h := h.2 q
    refine en_bipush mc89_182 (by decide) ?_
    refine en_iload_n mc89_184 rfl ?_
    refine en_imul mc89_185 ?_
    refine en_iload_n mc89_186 rfl ?_
    refine en_iconst mc89_187 ?_
    refine en_icmp_ne 205 mc89_188 (by decide) hg_l3 (⟨by decide, by decide⟩ : mr_rg 1) (fun q => ?_) (fun q => ?_)
    · replace h := h.1 q
      refine en_iload mc89_205 rfl ?_
      refine en_iadd mc89_207 ?_
      refine en_istore (ls' := [mm_r 72, mm_i l1, mm_i l2, mm_i l3, mm_i l4, mm_i ((102 * l2) + l4), l6, l7]) mc89_208 (Nat.le_of_ble_eq_true rfl) rfl ?_
      refine en_aload_n mc89_210 rfl ?_
      refine en_iconst mc89_211 ?_
      refine en_putI mv89 mc89_212 (lk_f7_100) (⟨rfl, by decide⟩ : mt_kd[72]? = some (.inl 7) ∧ 72 < 99) rfl rfl (⟨by decide, by decide⟩ : mr_rg 0) ?_
      refine en_iconst mc89_215 ?_
      refine en_istore (ls' := [mm_r 72, mm_i l1, mm_i l2, mm_i l3, mm_i l4, mm_i ((102 * l2) + l4), mm_i 0, l7]) mc89_216 (Nat.le_of_ble_eq_true rfl) rfl ?_
      exact h
    · replace h := h.2 q
      obtain ⟨g6, h⟩ := h
      obtain ⟨g7, h⟩ := h
      refine en_aload_n mc89_191 rfl ?_
      refine en_getR (b := 77) mv89 mc89_192 (lk_f7_22) (⟨rfl, by decide⟩ : mt_kd[72]? = some (.inl 7) ∧ 72 < 99) rfl (mk_fc ho (by decide +kernel)) ?_
      refine en_iload_n mc89_195 rfl ?_
      refine en_iald mc89_196 (⟨rfl, by decide, by decide⟩ : mt_kd[77]? = some (.inr (.int, 9)) ∧ 77 < 99 ∧ 9 < 2147483648) g6 g7 ?_
      refine en_iconst mc89_197 ?_
      refine en_isub mc89_198 ?_
      refine en_iload mc89_199 rfl ?_
      refine en_isub mc89_201 ?_
      refine en_goto 207 mc89_202 (by decide) ?_
      refine en_iadd mc89_207 ?_
      refine en_istore (ls' := [mm_r 72, mm_i l1, mm_i l2, mm_i l3, mm_i l4, mm_i ((102 * l2) + (((M.1 77 l2) - 1) - l4)), l6, l7]) mc89_208 (Nat.le_of_ble_eq_true rfl) rfl ?_
      refine en_aload_n mc89_210 rfl ?_
      refine en_iconst mc89_211 ?_
      refine en_putI mv89 mc89_212 (lk_f7_100) (⟨rfl, by decide⟩ : mt_kd[72]? = some (.inl 7) ∧ 72 < 99) rfl rfl (⟨by decide, by decide⟩ : mr_rg 0) ?_
      refine en_iconst mc89_215 ?_
      refine en_istore (ls' := [mm_r 72, mm_i l1, mm_i l2, mm_i l3, mm_i l4, mm_i ((102 * l2) + (((M.1 77 l2) - 1) - l4)), mm_i 0, l7]) mc89_216 (Nat.le_of_ble_eq_true rfl) rfl ?_
      exact h
theorem vc89_218 {sc : Nat × (Int → Int)} {Q : mm_R → mm_M → Prop} {M : mm_M} {l1 : Int} {l2 : Int} {l3 : Int} {l4 : Int} {l5 : Int} {l6 : Int} {l7 : mm_V} (ho : mr_ok M) (hg_l6 : mr_rg l6) (hg_l3 : mr_rg l3)
    (h : 0 ≤ l5 ∧ (l5 < 918 ∧ (((M.1 76 l5) ≤ l6 → (l3 ≠ 1 → 0 ≤ l5 ∧ (l5 < 918 ∧ (en_R sc 89 339 [mm_r 72, mm_i l1, mm_i l2, mm_i l3, mm_i l4, mm_i l5, mm_i l6, l7] [mm_i (M.1 73 l5), mm_r 72] M Q))) ∧ (¬ (l3 ≠ 1) → 0 ≤ l5 ∧ (l5 < 918 ∧ (en_R sc 89 339 [mm_r 72, mm_i l1, mm_i l2, mm_i l3, mm_i l4, mm_i l5, mm_i l6, l7] [mm_i (0 - (M.1 74 l5)), mm_r 72] M Q)))) ∧ (¬ (M.1 76 l5) ≤ l6 → 0 ≤ l5 ∧ (l5 < 918 ∧ ((l3 ≠ 0 → en_R sc 89 258 [mm_r 72, mm_i l1, mm_i l2, mm_i l3, mm_i l4, mm_i l5, mm_i l6, l7] [mm_i l6, mm_i (M.1 75 l5)] M Q) ∧ (¬ (l3 ≠ 0) → 0 ≤ l5 ∧ (l5 < 918 ∧ (en_R sc 89 258 [mm_r 72, mm_i l1, mm_i l2, mm_i l3, mm_i l4, mm_i l5, mm_i l6, l7] [mm_i (((M.1 76 l5) - 1) - l6), mm_i (M.1 75 l5)] M Q))))))))) : en_R sc 89 218 [mm_r 72, mm_i l1, mm_i l2, mm_i l3, mm_i l4, mm_i l5, mm_i l6, l7] [] M Q := by
  obtain ⟨g1, h⟩ := h
  obtain ⟨g2, h⟩ := h
  refine en_iload mc89_218 rfl ?_
  refine en_aload_n mc89_220 rfl ?_
  refine en_getR (b := 76) mv89 mc89_221 (lk_f7_19) (⟨rfl, by decide⟩ : mt_kd[72]? = some (.inl 7) ∧ 72 < 99) rfl (mk_fc ho (by decide +kernel)) ?_
  refine en_iload mc89_224 rfl ?_
  refine en_iald mc89_226 (⟨rfl, by decide, by decide⟩ : mt_kd[76]? = some (.inr (.int, 918)) ∧ 76 < 99 ∧ 918 < 2147483648) g1 g2 ?_
  refine en_icmp_ge 315 mc89_227 (by decide) hg_l6 (ho.2.1 76 l5 (by unfold mr_lg; omega)) (fun q => ?_) (fun q => ?_)
  · replace h := h.1 q
    refine en_aload_n mc89_315 rfl ?_
    refine en_iload_n mc89_316 rfl ?_
    refine en_iconst mc89_317 ?_
    refine en_icmp_ne 332 mc89_318 (by decide) hg_l3 (⟨by decide, by decide⟩ : mr_rg 1) (fun q => ?_) (fun q => ?_)
    · replace h := h.1 q
      obtain ⟨g3, h⟩ := h
      obtain ⟨g4, h⟩ := h
      refine en_aload_n mc89_332 rfl ?_
      refine en_getR (b := 73) mv89 mc89_333 (lk_f7_7) (⟨rfl, by decide⟩ : mt_kd[72]? = some (.inl 7) ∧ 72 < 99) rfl (mk_fc ho (by decide +kernel)) ?_
      refine en_iload mc89_336 rfl ?_
      refine en_iald mc89_338 (⟨rfl, by decide, by decide⟩ : mt_kd[73]? = some (.inr (.int, 918)) ∧ 73 < 99 ∧ 918 < 2147483648) g3 g4 ?_
      exact h
    · replace h := h.2 q
      obtain ⟨g5, h⟩ := h
      obtain ⟨g6, h⟩ := h
      refine en_aload_n mc89_321 rfl ?_
      refine en_getR (b := 74) mv89 mc89_322 (lk_f7_13) (⟨rfl, by decide⟩ : mt_kd[72]? = some (.inl 7) ∧ 72 < 99) rfl (mk_fc ho (by decide +kernel)) ?_
      refine en_iload mc89_325 rfl ?_
      refine en_iald mc89_327 (⟨rfl, by decide, by decide⟩ : mt_kd[74]? = some (.inr (.int, 918)) ∧ 74 < 99 ∧ 918 < 2147483648) g5 g6 ?_
      refine en_ineg mc89_328 ?_
      refine en_goto 339 mc89_329 (by decide) ?_
      exact h
  · replace h := h.2 q
    obtain ⟨g7, h⟩ := h
    obtain ⟨g8, h⟩ := h
    refine en_aload_n mc89_230 rfl ?_
    refine en_getR (b := 75) mv89 mc89_231 (lk_f7_16) (⟨rfl, by decide⟩ : mt_kd[72]? = some (.inl 7) ∧ 72 < 99) rfl (mk_fc ho (by decide +kernel)) ?_
    refine en_iload mc89_234 rfl ?_
    refine en_iald mc89_236 (⟨rfl, by decide, by decide⟩ : mt_kd[75]? = some (.inr (.int, 918)) ∧ 75 < 99 ∧ 918 < 2147483648) g7 g8 ?_
    refine en_iload_n mc89_237 rfl ?_
    refine en_if_ne 256 mc89_238 (by decide) hg_l3 (fun q => ?_) (fun q => ?_)
    · replace h := h.1 q
      refine en_iload mc89_256 rfl ?_
      exact h
    · replace h := h.2 q
      obtain ⟨g9, h⟩ := h
      obtain ⟨g10, h⟩ := h
      refine en_aload_n mc89_241 rfl ?_
      refine en_getR (b := 76) mv89 mc89_242 (lk_f7_19) (⟨rfl, by decide⟩ : mt_kd[72]? = some (.inl 7) ∧ 72 < 99) rfl (mk_fc ho (by decide +kernel)) ?_
      refine en_iload mc89_245 rfl ?_
      refine en_iald mc89_247 (⟨rfl, by decide, by decide⟩ : mt_kd[76]? = some (.inr (.int, 918)) ∧ 76 < 99 ∧ 918 < 2147483648) g9 g10 ?_
      refine en_iconst mc89_248 ?_
      refine en_isub mc89_249 ?_
      refine en_iload mc89_250 rfl ?_
      refine en_isub mc89_252 ?_
      refine en_goto 258 mc89_253 (by decide) ?_
      exact h
theorem vc89_258 {sc : Nat × (Int → Int)} {Q : mm_R → mm_M → Prop} {M : mm_M} {l1 : Int} {l2 : Int} {l3 : Int} {l4 : Int} {l5 : Int} {l6 : Int} {l7 : mm_V} {s0 : Int} {s1 : Int} (ho : mr_ok M) (hg_l3 : mr_rg l3)
    (h : (l3 ≠ 0 → 0 ≤ (s0 + s1) ∧ ((s0 + s1) < 3618 ∧ (en_R sc 89 284 [mm_r 72, mm_i l1, mm_i l2, mm_i l3, mm_i l4, mm_i l5, mm_i l6, mm_i (s0 + s1)] [mm_i (M.1 78 (s0 + s1)), mm_r 72] M Q))) ∧ (¬ (l3 ≠ 0) → 0 ≤ (s0 + s1) ∧ ((s0 + s1) < 3618 ∧ (en_R sc 89 284 [mm_r 72, mm_i l1, mm_i l2, mm_i l3, mm_i l4, mm_i l5, mm_i l6, mm_i (s0 + s1)] [mm_i (0 - (M.1 79 (s0 + s1))), mm_r 72] M Q)))) : en_R sc 89 258 [mm_r 72, mm_i l1, mm_i l2, mm_i l3, mm_i l4, mm_i l5, mm_i l6, l7] [mm_i s1, mm_i s0] M Q := by
  refine en_iadd mc89_258 ?_
  refine en_istore (ls' := [mm_r 72, mm_i l1, mm_i l2, mm_i l3, mm_i l4, mm_i l5, mm_i l6, mm_i (s0 + s1)]) mc89_259 (Nat.le_of_ble_eq_true rfl) rfl ?_
  refine en_aload_n mc89_261 rfl ?_
  refine en_iload_n mc89_262 rfl ?_
  refine en_if_ne 277 mc89_263 (by decide) hg_l3 (fun q => ?_) (fun q => ?_)
  · replace h := h.1 q
    obtain ⟨g1, h⟩ := h
    obtain ⟨g2, h⟩ := h
    refine en_aload_n mc89_277 rfl ?_
    refine en_getR (b := 78) mv89 mc89_278 (lk_f7_25) (⟨rfl, by decide⟩ : mt_kd[72]? = some (.inl 7) ∧ 72 < 99) rfl (mk_fc ho (by decide +kernel)) ?_
    refine en_iload mc89_281 rfl ?_
    refine en_iald mc89_283 (⟨rfl, by decide, by decide⟩ : mt_kd[78]? = some (.inr (.int, 3618)) ∧ 78 < 99 ∧ 3618 < 2147483648) g1 g2 ?_
    exact h
  · replace h := h.2 q
    obtain ⟨g3, h⟩ := h
    obtain ⟨g4, h⟩ := h
    refine en_aload_n mc89_266 rfl ?_
    refine en_getR (b := 79) mv89 mc89_267 (lk_f7_28) (⟨rfl, by decide⟩ : mt_kd[72]? = some (.inl 7) ∧ 72 < 99) rfl (mk_fc ho (by decide +kernel)) ?_
    refine en_iload mc89_270 rfl ?_
    refine en_iald mc89_272 (⟨rfl, by decide, by decide⟩ : mt_kd[79]? = some (.inr (.int, 3618)) ∧ 79 < 99 ∧ 3618 < 2147483648) g3 g4 ?_
    refine en_ineg mc89_273 ?_
    refine en_goto 284 mc89_274 (by decide) ?_
    exact h
theorem vc89_284 {sc : Nat × (Int → Int)} {Q : mm_R → mm_M → Prop} {M : mm_M} {l1 : Int} {l2 : Int} {l3 : Int} {l4 : Int} {l5 : Int} {l6 : Int} {l7 : Int} {s1 : Int} (ho : mr_ok M) (hg_l3 : mr_rg l3)
    (h : (l3 ≠ 0 → 0 ≤ l7 ∧ (l7 < 3618 ∧ (en_R sc 89 306 [mm_r 72, mm_i l1, mm_i l2, mm_i l3, mm_i l4, mm_i l5, mm_i l6, mm_i l7] [mm_i (M.1 79 l7), mm_i s1, mm_r 72] M Q))) ∧ (¬ (l3 ≠ 0) → 0 ≤ l7 ∧ (l7 < 3618 ∧ (en_R sc 89 306 [mm_r 72, mm_i l1, mm_i l2, mm_i l3, mm_i l4, mm_i l5, mm_i l6, mm_i l7] [mm_i (0 - (M.1 78 l7)), mm_i s1, mm_r 72] M Q)))) : en_R sc 89 284 [mm_r 72, mm_i l1, mm_i l2, mm_i l3, mm_i l4, mm_i l5, mm_i l6, mm_i l7] [mm_i s1, mm_r 72] M Q := by
  refine en_iload_n mc89_284 rfl ?_
  refine en_if_ne 299 mc89_285 (by decide) hg_l3 (fun q => ?_) (fun q => ?_)
  · replace h := h.1 q
    obtain ⟨g1, h⟩ := h
    obtain ⟨g2, h⟩ := h
    refine en_aload_n mc89_299 rfl ?_
    refine en_getR (b := 79) mv89 mc89_300 (lk_f7_28) (⟨rfl, by decide⟩ : mt_kd[72]? = some (.inl 7) ∧ 72 < 99) rfl (mk_fc ho (by decide +kernel)) ?_
    refine en_iload mc89_303 rfl ?_
    refine en_iald mc89_305 (⟨rfl, by decide, by decide⟩ : mt_kd[79]? = some (.inr (.int, 3618)) ∧ 79 < 99 ∧ 3618 < 2147483648) g1 g2 ?_
    exact h
  · replace h := h.2 q
    obtain ⟨g3, h⟩ := h
    obtain ⟨g4, h⟩ := h
    refine en_aload_n mc89_288 rfl ?_
    refine en_getR (b := 78) mv89 mc89_289 (lk_f7_25) (⟨rfl, by decide⟩ : mt_kd[72]? = some (.inl 7) ∧ 72 < 99) rfl (mk_fc ho (by decide +kernel)) ?_
    refine en_iload mc89_292 rfl ?_
    refine en_iald mc89_294 (⟨rfl, by decide, by decide⟩ : mt_kd[78]? = some (.inr (.int, 3618)) ∧ 78 < 99 ∧ 3618 < 2147483648) g3 g4 ?_
    refine en_ineg mc89_295 ?_
    refine en_goto 306 mc89_296 (by decide) ?_
    exact h
theorem vc89_306 {sc : Nat × (Int → Int)} {Q : mm_R → mm_M → Prop} {M : mm_M} {l1 : Int} {l2 : Int} {l3 : Int} {l4 : Int} {l5 : Int} {l6 : Int} {l7 : Int} {s1 : Int} {s2 : Int} (ho : mr_ok M)
    (h : en_CV sc 36 [mm_r 72, mm_i s1, mm_i s2] M (fun M2 => mr_ok M2 → en_R sc 89 218 [mm_r 72, mm_i l1, mm_i l2, mm_i l3, mm_i l4, mm_i l5, mm_i (l6 + 1), mm_i l7] [] M2 Q) (fun e M9 => Q (.inr e) M9)) : en_R sc 89 306 [mm_r 72, mm_i l1, mm_i l2, mm_i l3, mm_i l4, mm_i l5, mm_i l6, mm_i l7] [mm_i s2, mm_i s1, mm_r 72] M Q := by
  refine en_callV (lz := [mm_r 72, mm_i s1, mm_i s2]) mv89 mc89_306 rfl rfl (lk_m7_127) mv36 rfl (by decide) rfl (mk_cokV rfl (⟨rfl, by decide⟩ : mt_kd[72]? = some (.inl 7) ∧ 72 < 99)) rfl (mk_nh rfl _) ho ?_
  refine en_CV_mono h (fun M2 h => ?_) (fun _ _ h => h)
  intro ho3
  replace h := h ho3
  refine en_iinc (ls' := [mm_r 72, mm_i l1, mm_i l2, mm_i l3, mm_i l4, mm_i l5, mm_i (l6 + 1), mm_i l7]) mc89_309 rfl rfl ?_
  refine en_goto 218 mc89_312 (by decide) ?_
  exact h
theorem vc89_339 {sc : Nat × (Int → Int)} {Q : mm_R → mm_M → Prop} {M : mm_M} {l1 : Int} {l2 : Int} {l3 : Int} {l4 : Int} {l5 : Int} {l6 : Int} {l7 : mm_V} {s1 : Int} (ho : mr_ok M) (hg_l3 : mr_rg l3)
    (h : (l3 ≠ 1 → 0 ≤ l5 ∧ (l5 < 918 ∧ (en_R sc 89 362 [mm_r 72, mm_i l1, mm_i l2, mm_i l3, mm_i l4, mm_i l5, mm_i l6, l7] [mm_i (M.1 74 l5), mm_i s1, mm_r 72] M Q))) ∧ (¬ (l3 ≠ 1) → 0 ≤ l5 ∧ (l5 < 918 ∧ (en_R sc 89 362 [mm_r 72, mm_i l1, mm_i l2, mm_i l3, mm_i l4, mm_i l5, mm_i l6, l7] [mm_i (0 - (M.1 73 l5)), mm_i s1, mm_r 72] M Q)))) : en_R sc 89 339 [mm_r 72, mm_i l1, mm_i l2, mm_i l3, mm_i l4, mm_i l5, mm_i l6, l7] [mm_i s1, mm_r 72] M Q := by
  refine en_iload_n mc89_339 rfl ?_
  refine en_iconst mc89_340 ?_
  refine en_icmp_ne 355 mc89_341 (by decide) hg_l3 (⟨by decide, by decide⟩ : mr_rg 1) (fun q => ?_) (fun q => ?_)
  · replace h := h.1 q
    obtain ⟨g1, h⟩ := h
    obtain ⟨g2, h⟩ := h
    refine en_aload_n mc89_355 rfl ?_
    refine en_getR (b := 74) mv89 mc89_356 (lk_f7_13) (⟨rfl, by decide⟩ : mt_kd[72]? = some (.inl 7) ∧ 72 < 99) rfl (mk_fc ho (by decide +kernel)) ?_
    refine en_iload mc89_359 rfl ?_
    refine en_iald mc89_361 (⟨rfl, by decide, by decide⟩ : mt_kd[74]? = some (.inr (.int, 918)) ∧ 74 < 99 ∧ 918 < 2147483648) g1 g2 ?_
    exact h
  · replace h := h.2 q
    obtain ⟨g3, h⟩ := h
    obtain ⟨g4, h⟩ := h
    refine en_aload_n mc89_344 rfl ?_
    refine en_getR (b := 73) mv89 mc89_345 (lk_f7_7) (⟨rfl, by decide⟩ : mt_kd[72]? = some (.inl 7) ∧ 72 < 99) rfl (mk_fc ho (by decide +kernel)) ?_
    refine en_iload mc89_348 rfl ?_
    refine en_iald mc89_350 (⟨rfl, by decide, by decide⟩ : mt_kd[73]? = some (.inr (.int, 918)) ∧ 73 < 99 ∧ 918 < 2147483648) g3 g4 ?_
    refine en_ineg mc89_351 ?_
    refine en_goto 362 mc89_352 (by decide) ?_
    exact h
theorem vc89_362 {sc : Nat × (Int → Int)} {Q : mm_R → mm_M → Prop} {M : mm_M} {l1 : Int} {l2 : Int} {l3 : Int} {l4 : Int} {l5 : Int} {l6 : Int} {l7 : mm_V} {s1 : Int} {s2 : Int} (ho : mr_ok M)
    (h : en_CV sc 38 [mm_r 72, mm_i s1, mm_i s2, mm_u, mm_u] M (fun M2 => mr_ok M2 → en_R sc 89 171 [mm_r 72, mm_i l1, mm_i l2, mm_i l3, mm_i (l4 + 1), mm_i l5, mm_i l6, l7] [] M2 Q) (fun e M9 => Q (.inr e) M9)) : en_R sc 89 362 [mm_r 72, mm_i l1, mm_i l2, mm_i l3, mm_i l4, mm_i l5, mm_i l6, l7] [mm_i s2, mm_i s1, mm_r 72] M Q := by
  refine en_callV (lz := [mm_r 72, mm_i s1, mm_i s2, mm_u, mm_u]) mv89 mc89_362 rfl rfl (lk_m7_142) mv38 rfl (by decide) rfl (mk_cokV rfl (⟨rfl, by decide⟩ : mt_kd[72]? = some (.inl 7) ∧ 72 < 99)) rfl (mk_nh rfl _) ho ?_
  refine en_CV_mono h (fun M2 h => ?_) (fun _ _ h => h)
  intro ho3
  replace h := h ho3
  refine en_iinc (ls' := [mm_r 72, mm_i l1, mm_i l2, mm_i l3, mm_i (l4 + 1), mm_i l5, mm_i l6, l7]) mc89_365 rfl rfl ?_
  refine en_goto 171 mc89_368 (by decide) ?_
  exact h
