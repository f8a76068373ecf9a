/-! 9: CellAreas.needArea(I)V -/
theorem mc9_0 : mr_C 9 0 = some (.iload_n 0, 1) := rfl
theorem mc9_1 : mr_C 9 1 = some (.ifCond .lt (9), 3) := rfl
theorem mc9_4 : mr_C 9 4 = some (.iload_n 0, 1) := rfl
theorem mc9_5 : mr_C 9 5 = some (.bipush 8, 2) := rfl
theorem mc9_7 : mr_C 9 7 = some (.if_icmp .lt (11), 3) := rfl
theorem mc9_10 : mr_C 9 10 = some (.new 259, 3) := rfl
theorem mc9_13 : mr_C 9 13 = some (.dup, 1) := rfl
theorem mc9_14 : mr_C 9 14 = some (.invokespecial 261, 3) := rfl
theorem mc9_17 : mr_C 9 17 = some (.athrow, 1) := rfl
theorem mc9_18 : mr_C 9 18 = some (.return_, 1) := rfl
theorem vc9_0 {sc : Nat × (Int → Int)} {Q : mm_R → mm_M → Prop} {M : mm_M} {l0 : Int} (ho : mr_ok M) (hg_l0 : mr_rg l0)
    (h : (l0 < 0 → en_R sc 9 10 [mm_i l0] [] M Q) ∧ (¬ l0 < 0 → (l0 < 8 → Q (.inl none) M) ∧ (¬ l0 < 8 → en_R sc 9 10 [mm_i l0] [] M Q))) : en_R sc 9 0 [mm_i l0] [] M Q := by
  refine en_iload_n mc9_0 rfl ?_
  refine en_if_lt 10 mc9_1 (by decide) hg_l0 (fun q => ?_) (fun q => ?_)
  · replace h := h.1 q
    exact h
  · replace h := h.2 q
    refine en_iload_n mc9_4 rfl ?_
    refine en_bipush mc9_5 (by decide) ?_
    refine en_icmp_lt 18 mc9_7 (by decide) hg_l0 (⟨by decide, by decide⟩ : mr_rg 8) (fun q => ?_) (fun q => ?_)
    · replace h := h.1 q
      exact en_vret mv9 mc9_18 rfl h
    · replace h := h.2 q
      exact h
theorem vc9_10 {sc : Nat × (Int → Int)} {Q : mm_R → mm_M → Prop} {M : mm_M} {l0 : Int} (ho : mr_ok M)
    (h : Q (.inr 1) (M.1, M.2.1, M.2.2 + 1)) : en_R sc 9 10 [mm_i l0] [] M Q := by
  exact en_throw mv9 mc9_10 rfl h
/-! 10: CellAreas.needBetween(III)V -/
theorem mc10_0 : mr_C 10 0 = some (.iload_n 0, 1) := rfl
theorem mc10_1 : mr_C 10 1 = some (.iload_n 1, 1) := rfl
theorem mc10_2 : mr_C 10 2 = some (.if_icmp .lt (8), 3) := rfl
theorem mc10_5 : mr_C 10 5 = some (.iload_n 0, 1) := rfl
theorem mc10_6 : mr_C 10 6 = some (.iload_n 2, 1) := rfl
theorem mc10_7 : mr_C 10 7 = some (.if_icmp .le (11), 3) := rfl
theorem mc10_10 : mr_C 10 10 = some (.new 262, 3) := rfl
theorem mc10_13 : mr_C 10 13 = some (.dup, 1) := rfl
theorem mc10_14 : mr_C 10 14 = some (.invokespecial 264, 3) := rfl
theorem mc10_17 : mr_C 10 17 = some (.athrow, 1) := rfl
theorem mc10_18 : mr_C 10 18 = some (.return_, 1) := rfl
theorem vc10_0 {sc : Nat × (Int → Int)} {Q : mm_R → mm_M → Prop} {M : mm_M} {l0 : Int} {l1 : Int} {l2 : Int} (ho : mr_ok M) (hg_l0 : mr_rg l0) (hg_l1 : mr_rg l1) (hg_l2 : mr_rg l2)
    (h : (l0 < l1 → en_R sc 10 10 [mm_i l0, mm_i l1, mm_i l2] [] M Q) ∧ (¬ l0 < l1 → (l0 ≤ l2 → Q (.inl none) M) ∧ (¬ l0 ≤ l2 → en_R sc 10 10 [mm_i l0, mm_i l1, mm_i l2] [] M Q))) : en_R sc 10 0 [mm_i l0, mm_i l1, mm_i l2] [] M Q := by
  refine en_iload_n mc10_0 rfl ?_
  refine en_iload_n mc10_1 rfl ?_
  refine en_icmp_lt 10 mc10_2 (by decide) hg_l0 hg_l1 (fun q => ?_) (fun q => ?_)
  · replace h := h.1 q
    exact h
  · replace h := h.2 q
    refine en_iload_n mc10_5 rfl ?_
    refine en_iload_n mc10_6 rfl ?_
    refine en_icmp_le 18 mc10_7 (by decide) hg_l0 hg_l2 (fun q => ?_) (fun q => ?_)
    · replace h := h.1 q
      exact en_vret mv10 mc10_18 rfl h
    · replace h := h.2 q
      exact h
theorem vc10_10 {sc : Nat × (Int → Int)} {Q : mm_R → mm_M → Prop} {M : mm_M} {l0 : Int} {l1 : Int} {l2 : Int} (ho : mr_ok M)
    (h : Q (.inr 2) (M.1, M.2.1, M.2.2 + 1)) : en_R sc 10 10 [mm_i l0, mm_i l1, mm_i l2] [] M Q := by
  exact en_throw mv10 mc10_10 rfl h
/-! 11: java/util/Arrays.fill([JJ)V -/
theorem mc11_0 : mr_C 11 0 = some (.iconst 0, 1) := rfl
theorem mc11_1 : mr_C 11 1 = some (.istore_n 3, 1) := rfl
theorem mc11_2 : mr_C 11 2 = some (.aload_n 0, 1) := rfl
theorem mc11_3 : mr_C 11 3 = some (.arraylength, 1) := rfl
theorem mc11_4 : mr_C 11 4 = some (.istore 4, 2) := rfl
theorem mc11_6 : mr_C 11 6 = some (.iload_n 3, 1) := rfl
theorem mc11_7 : mr_C 11 7 = some (.iload 4, 2) := rfl
theorem mc11_9 : mr_C 11 9 = some (.if_icmp .ge (13), 3) := rfl
theorem mc11_12 : mr_C 11 12 = some (.aload_n 0, 1) := rfl
theorem mc11_13 : mr_C 11 13 = some (.iload_n 3, 1) := rfl
theorem mc11_14 : mr_C 11 14 = some (.lload_n 1, 1) := rfl
theorem mc11_15 : mr_C 11 15 = some (.lastore, 1) := rfl
theorem mc11_16 : mr_C 11 16 = some (.iinc 3 (1), 3) := rfl
theorem mc11_19 : mr_C 11 19 = some (.goto (-13), 3) := rfl
theorem mc11_22 : mr_C 11 22 = some (.return_, 1) := rfl
theorem vc11_0 {sc : Nat × (Int → Int)} {Q : mm_R → mm_M → Prop} {M : mm_M} {l0 : Nat} {l1 : Int} (ho : mr_ok M) (hW_l0 : mr_Ww l0)
    (h : en_R sc 11 6 [mm_r l0, mm_j l1, mm_u, mm_i 0, mm_i 32] [] M Q) : en_R sc 11 0 [mm_r l0, mm_j l1, mm_u, mm_u, mm_u] [] M Q := by
  refine en_iconst mc11_0 ?_
  refine en_istore_n (ls' := [mm_r l0, mm_j l1, mm_u, mm_i 0, mm_u]) mc11_1 (Nat.le_of_ble_eq_true rfl) rfl ?_
  refine en_aload_n mc11_2 rfl ?_
  refine en_alen (m := 32) mc11_3 ⟨(mk_W0 hW_l0).1, (mk_W0 hW_l0).2.1⟩ ?_
  refine en_istore (ls' := [mm_r l0, mm_j l1, mm_u, mm_i 0, mm_i 32]) mc11_4 (Nat.le_of_ble_eq_true rfl) rfl ?_
  exact h
theorem vc11_6 {sc : Nat × (Int → Int)} {Q : mm_R → mm_M → Prop} {M : mm_M} {l0 : Nat} {l1 : Int} {l3 : Int} {l4 : Int} (ho : mr_ok M) (hg_l3 : mr_rg l3) (hg_l4 : mr_rg l4) (hW_l0 : mr_Ww l0)
    (h : (l4 ≤ l3 → Q (.inl none) M) ∧ (¬ l4 ≤ l3 → 0 ≤ l3 ∧ (l3 < 32 ∧ (mr_rj l1 ∧ (en_R sc 11 6 [mm_r l0, mm_j l1, mm_u, mm_i (l3 + 1), mm_i l4] [] (mm_putN M l0 l3 l1) Q))))) : en_R sc 11 6 [mm_r l0, mm_j l1, mm_u, mm_i l3, mm_i l4] [] M Q := by
  refine en_iload_n mc11_6 rfl ?_
  refine en_iload mc11_7 rfl ?_
  refine en_icmp_ge 22 mc11_9 (by decide) hg_l3 hg_l4 (fun q => ?_) (fun q => ?_)
  · replace h := h.1 q
    exact en_vret mv11 mc11_22 rfl h
  · replace h := h.2 q
    obtain ⟨g1, h⟩ := h
    obtain ⟨g2, h⟩ := h
    obtain ⟨g3, h⟩ := h
    refine en_aload_n mc11_12 rfl ?_
    refine en_iload_n mc11_13 rfl ?_
    refine en_lload_n mc11_14 rfl ?_
    refine en_last mc11_15 (mk_W0 hW_l0) g1 g2 g3 ?_
    refine en_iinc (ls' := [mm_r l0, mm_j l1, mm_u, mm_i (l3 + 1), mm_i l4]) mc11_16 rfl rfl ?_
    refine en_goto 6 mc11_19 (by decide) ?_
    exact h
/-! 12: CellAreas$Row.wipe()V -/
theorem mc12_0 : mr_C 12 0 = some (.aload_n 0, 1) := rfl
theorem mc12_1 : mr_C 12 1 = some (.getfield 11, 3) := rfl
theorem mc12_4 : mr_C 12 4 = some (.lconst 0, 1) := rfl
theorem mc12_5 : mr_C 12 5 = some (.invokestatic 15, 3) := rfl
theorem mc12_8 : mr_C 12 8 = some (.return_, 1) := rfl
theorem vc12_0 {sc : Nat × (Int → Int)} {Q : mm_R → mm_M → Prop} {M : mm_M} {l0 : Nat} (ho : mr_ok M) (hR_l0 : mr_Rw l0)
    (h : en_CV sc 11 [mm_r (l0 + 1), mm_j 0, mm_u, mm_u, mm_u] M (fun M2 => mr_ok M2 → Q (.inl none) M2) (fun e M9 => Q (.inr e) M9)) : en_R sc 12 0 [mm_r l0] [] M Q := by
  refine en_aload_n mc12_0 rfl ?_
  refine en_getR (b := (l0 + 1)) mv12 mc12_1 (lk_f5_11) (mk_R0 hR_l0) rfl (mk_fR hR_l0 ho) ?_
  refine en_lconst mc12_4 ?_
  refine en_callV (lz := [mm_r (l0 + 1), mm_j 0, mm_u, mm_u, mm_u]) mv12 mc12_5 rfl rfl (lk_m5_15) mv11 rfl (by decide) rfl (mk_cokS rfl) rfl (mk_nh rfl _) ho ?_
  refine en_CV_mono h (fun M2 h => ?_) (fun _ _ h => h)
  intro ho3
  replace h := h ho3
  exact en_vret mv12 mc12_8 rfl h
/-! 15: CellAreas$Row.mask(III)J -/
theorem mc15_0 : mr_C 15 0 = some (.ldc2_w 38, 3) := rfl
theorem mc15_3 : mr_C 15 3 = some (.lstore_n 3, 1) := rfl
theorem mc15_4 : mr_C 15 4 = some (.iload_n 0, 1) := rfl
theorem mc15_5 : mr_C 15 5 = some (.iload_n 1, 1) := rfl
theorem mc15_6 : mr_C 15 6 = some (.bipush 6, 2) := rfl
theorem mc15_8 : mr_C 15 8 = some (.ishr, 1) := rfl
theorem mc15_9 : mr_C 15 9 = some (.if_icmp .ne (14), 3) := rfl
theorem mc15_12 : mr_C 15 12 = some (.lload_n 3, 1) := rfl
theorem mc15_13 : mr_C 15 13 = some (.ldc2_w 38, 3) := rfl
theorem mc15_16 : mr_C 15 16 = some (.iload_n 1, 1) := rfl
theorem mc15_17 : mr_C 15 17 = some (.bipush 63, 2) := rfl
theorem mc15_19 : mr_C 15 19 = some (.iand, 1) := rfl
theorem mc15_20 : mr_C 15 20 = some (.lshl, 1) := rfl
theorem mc15_21 : mr_C 15 21 = some (.land, 1) := rfl
theorem mc15_22 : mr_C 15 22 = some (.lstore_n 3, 1) := rfl
theorem mc15_23 : mr_C 15 23 = some (.iload_n 0, 1) := rfl
theorem mc15_24 : mr_C 15 24 = some (.iload_n 2, 1) := rfl
theorem mc15_25 : mr_C 15 25 = some (.bipush 6, 2) := rfl
theorem mc15_27 : mr_C 15 27 = some (.ishr, 1) := rfl
theorem mc15_28 : mr_C 15 28 = some (.if_icmp .ne (17), 3) := rfl
theorem mc15_31 : mr_C 15 31 = some (.lload_n 3, 1) := rfl
theorem mc15_32 : mr_C 15 32 = some (.ldc2_w 38, 3) := rfl
theorem mc15_35 : mr_C 15 35 = some (.bipush 63, 2) := rfl
theorem mc15_37 : mr_C 15 37 = some (.iload_n 2, 1) := rfl
theorem mc15_38 : mr_C 15 38 = some (.bipush 63, 2) := rfl
theorem mc15_40 : mr_C 15 40 = some (.iand, 1) := rfl
theorem mc15_41 : mr_C 15 41 = some (.isub, 1) := rfl
theorem mc15_42 : mr_C 15 42 = some (.lushr, 1) := rfl
theorem mc15_43 : mr_C 15 43 = some (.land, 1) := rfl
theorem mc15_44 : mr_C 15 44 = some (.lstore_n 3, 1) := rfl
theorem mc15_45 : mr_C 15 45 = some (.lload_n 3, 1) := rfl
theorem mc15_46 : mr_C 15 46 = some (.lreturn, 1) := rfl
theorem vc15_0 {sc : Nat × (Int → Int)} {Q : mm_R → mm_M → Prop} {M : mm_M} {l0 : Int} {l1 : Int} {l2 : Int} (ho : mr_ok M) (hg_l1 : mr_rg l1) (hg_l0 : mr_rg l0)
    (h : 0 ≤ l1 ∧ (mr_rg (l1 / 64) ∧ ((l0 ≠ (l1 / 64) → en_R sc 15 23 [mm_i l0, mm_i l1, mm_i l2, mm_j (-1), mm_u] [] M Q) ∧ (¬ (l0 ≠ (l1 / 64)) → en_R sc 15 23 [mm_i l0, mm_i l1, mm_i l2, mm_j (mr_and (-1) (mr_shl (-1) (l1 % 64))), mm_u] [] M Q)))) : en_R sc 15 0 [mm_i l0, mm_i l1, mm_i l2, mm_u, mm_u] [] M Q := by
  obtain ⟨g1, h⟩ := h
  obtain ⟨g2, h⟩ := h
  refine en_ldc2 mv15 mc15_0 rfl ?_
  refine en_lstore_n (ls' := [mm_i l0, mm_i l1, mm_i l2, mm_j (-1), mm_u]) mc15_3 (Nat.le_of_ble_eq_true rfl) rfl ?_
  refine en_iload_n mc15_4 rfl ?_
  refine en_iload_n mc15_5 rfl ?_
  refine en_bipush mc15_6 (by decide) ?_
  refine en_ishr6 mc15_8 g1 hg_l1 ?_
  refine en_icmp_ne 23 mc15_9 (by decide) hg_l0 g2 (fun q => ?_) (fun q => ?_)
  · replace h := h.1 q
    exact h
  · replace h := h.2 q
    refine en_lload_n mc15_12 rfl ?_
    refine en_ldc2 mv15 mc15_13 rfl ?_
    refine en_iload_n mc15_16 rfl ?_
    refine en_bipush mc15_17 (by decide) ?_
    refine en_mask 6 (by decide) mc15_19 rfl (d := 64) rfl ?_
    refine en_lshl mc15_20 ?_
    refine en_land mc15_21 ?_
    refine en_lstore_n (ls' := [mm_i l0, mm_i l1, mm_i l2, mm_j (mr_and (-1) (mr_shl (-1) (l1 % 64))), mm_u]) mc15_22 (Nat.le_of_ble_eq_true rfl) rfl ?_
    exact h
theorem vc15_23 {sc : Nat × (Int → Int)} {Q : mm_R → mm_M → Prop} {M : mm_M} {l0 : Int} {l1 : Int} {l2 : Int} {l3 : Int} (ho : mr_ok M) (hg_l2 : mr_rg l2) (hg_l0 : mr_rg l0)
    (h : 0 ≤ l2 ∧ (mr_rg (l2 / 64) ∧ ((l0 ≠ (l2 / 64) → Q (.inl (some (mm_j l3))) M) ∧ (¬ (l0 ≠ (l2 / 64)) → Q (.inl (some (mm_j (mr_and l3 (mr_ushr (-1) (63 - (l2 % 64))))))) M)))) : en_R sc 15 23 [mm_i l0, mm_i l1, mm_i l2, mm_j l3, mm_u] [] M Q := by
  obtain ⟨g1, h⟩ := h
  obtain ⟨g2, h⟩ := h
  refine en_iload_n mc15_23 rfl ?_
  refine en_iload_n mc15_24 rfl ?_
  refine en_bipush mc15_25 (by decide) ?_
  refine en_ishr6 mc15_27 g1 hg_l2 ?_
  refine en_icmp_ne 45 mc15_28 (by decide) hg_l0 g2 (fun q => ?_) (fun q => ?_)
  · replace h := h.1 q
    refine en_lload_n mc15_45 rfl ?_
    exact en_lret mv15 mc15_46 rfl h
  · replace h := h.2 q
    refine en_lload_n mc15_31 rfl ?_
    refine en_ldc2 mv15 mc15_32 rfl ?_
    refine en_bipush mc15_35 (by decide) ?_
    refine en_iload_n mc15_37 rfl ?_
    refine en_bipush mc15_38 (by decide) ?_
    refine en_mask 6 (by decide) mc15_40 rfl (d := 64) rfl ?_
    refine en_isub mc15_41 ?_
    refine en_lushr mc15_42 ?_
    refine en_land mc15_43 ?_
    refine en_lstore_n (ls' := [mm_i l0, mm_i l1, mm_i l2, mm_j (mr_and l3 (mr_ushr (-1) (63 - (l2 % 64)))), mm_u]) mc15_44 (Nat.le_of_ble_eq_true rfl) rfl ?_
    refine en_lload_n mc15_45 rfl ?_
    exact en_lret mv15 mc15_46 rfl h
/-! 16: CellAreas$Row.change(IIZ)V -/
theorem mc16_0 : mr_C 16 0 = some (.iload_n 1, 1) := rfl
theorem mc16_1 : mr_C 16 1 = some (.sipush (-1000), 3) := rfl
theorem mc16_4 : mr_C 16 4 = some (.invokestatic 25, 3) := rfl
theorem mc16_7 : mr_C 16 7 = some (.sipush (-1000), 3) := rfl
theorem mc16_10 : mr_C 16 10 = some (.isub, 1) := rfl
theorem mc16_11 : mr_C 16 11 = some (.istore 4, 2) := rfl
theorem mc16_13 : mr_C 16 13 = some (.iload_n 2, 1) := rfl
theorem mc16_14 : mr_C 16 14 = some (.sipush 1000, 3) := rfl
theorem mc16_17 : mr_C 16 17 = some (.invokestatic 31, 3) := rfl
theorem mc16_20 : mr_C 16 20 = some (.sipush (-1000), 3) := rfl
theorem mc16_23 : mr_C 16 23 = some (.isub, 1) := rfl
theorem mc16_24 : mr_C 16 24 = some (.iconst 1, 1) := rfl
theorem mc16_25 : mr_C 16 25 = some (.isub, 1) := rfl
theorem mc16_26 : mr_C 16 26 = some (.istore 5, 2) := rfl
theorem mc16_28 : mr_C 16 28 = some (.iload 4, 2) := rfl
theorem mc16_30 : mr_C 16 30 = some (.iload 5, 2) := rfl
theorem mc16_32 : mr_C 16 32 = some (.if_icmp .gt (71), 3) := rfl
theorem mc16_35 : mr_C 16 35 = some (.iload 4, 2) := rfl
theorem mc16_37 : mr_C 16 37 = some (.bipush 6, 2) := rfl
theorem mc16_39 : mr_C 16 39 = some (.ishr, 1) := rfl
theorem mc16_40 : mr_C 16 40 = some (.istore 6, 2) := rfl
theorem mc16_42 : mr_C 16 42 = some (.iload 6, 2) := rfl
theorem mc16_44 : mr_C 16 44 = some (.iload 5, 2) := rfl
theorem mc16_46 : mr_C 16 46 = some (.bipush 6, 2) := rfl
theorem mc16_48 : mr_C 16 48 = some (.ishr, 1) := rfl
theorem mc16_49 : mr_C 16 49 = some (.if_icmp .gt (54), 3) := rfl
theorem mc16_52 : mr_C 16 52 = some (.iload 6, 2) := rfl
theorem mc16_54 : mr_C 16 54 = some (.iload 4, 2) := rfl
theorem mc16_56 : mr_C 16 56 = some (.iload 5, 2) := rfl
theorem mc16_58 : mr_C 16 58 = some (.invokestatic 34, 3) := rfl
theorem mc16_61 : mr_C 16 61 = some (.lstore 7, 2) := rfl
theorem mc16_63 : mr_C 16 63 = some (.aload_n 0, 1) := rfl
theorem mc16_64 : mr_C 16 64 = some (.getfield 11, 3) := rfl
theorem mc16_67 : mr_C 16 67 = some (.iload 6, 2) := rfl
theorem mc16_69 : mr_C 16 69 = some (.iload_n 3, 1) := rfl
theorem mc16_70 : mr_C 16 70 = some (.ifCond .eq (16), 3) := rfl
theorem mc16_73 : mr_C 16 73 = some (.aload_n 0, 1) := rfl
theorem mc16_74 : mr_C 16 74 = some (.getfield 11, 3) := rfl
theorem mc16_77 : mr_C 16 77 = some (.iload 6, 2) := rfl
theorem mc16_79 : mr_C 16 79 = some (.laload, 1) := rfl
theorem mc16_80 : mr_C 16 80 = some (.lload 7, 2) := rfl
theorem mc16_82 : mr_C 16 82 = some (.lxor, 1) := rfl
theorem mc16_83 : mr_C 16 83 = some (.goto 13, 3) := rfl
theorem mc16_86 : mr_C 16 86 = some (.aload_n 0, 1) := rfl
theorem mc16_87 : mr_C 16 87 = some (.getfield 11, 3) := rfl
theorem mc16_90 : mr_C 16 90 = some (.iload 6, 2) := rfl
theorem mc16_92 : mr_C 16 92 = some (.laload, 1) := rfl
theorem mc16_93 : mr_C 16 93 = some (.lload 7, 2) := rfl
theorem mc16_95 : mr_C 16 95 = some (.lor, 1) := rfl
theorem mc16_96 : mr_C 16 96 = some (.lastore, 1) := rfl
theorem mc16_97 : mr_C 16 97 = some (.iinc 6 (1), 3) := rfl
theorem mc16_100 : mr_C 16 100 = some (.goto (-58), 3) := rfl
theorem mc16_103 : mr_C 16 103 = some (.return_, 1) := rfl
theorem vc16_0 {sc : Nat × (Int → Int)} {Q : mm_R → mm_M → Prop} {M : mm_M} {l0 : Nat} {l1 : Int} {l2 : Int} {l3 : Int} (ho : mr_ok M) (hg_l1 : mr_rg l1) (hg_l2 : mr_rg l2)
    (h : mr_rg ((max l1 (-1000)) - (-1000)) ∧ (mr_rg (((min l2 1000) - (-1000)) - 1) ∧ (((((min l2 1000) - (-1000)) - 1) < ((max l1 (-1000)) - (-1000)) → Q (.inl none) M) ∧ (¬ (((min l2 1000) - (-1000)) - 1) < ((max l1 (-1000)) - (-1000)) → 0 ≤ ((max l1 (-1000)) - (-1000)) ∧ (en_R sc 16 42 [mm_r l0, mm_i l1, mm_i l2, mm_i l3, mm_i ((max l1 (-1000)) - (-1000)), mm_i (((min l2 1000) - (-1000)) - 1), mm_i (((max l1 (-1000)) - (-1000)) / 64), mm_u, mm_u] [] M Q))))) : en_R sc 16 0 [mm_r l0, mm_i l1, mm_i l2, mm_i l3, mm_u, mm_u, mm_u, mm_u, mm_u] [] M Q := by
  obtain ⟨g1, h⟩ := h
  obtain ⟨g2, h⟩ := h
  refine en_iload_n mc16_0 rfl ?_
  refine en_sipush mc16_1 (by decide) ?_
  refine en_max mv16 mc16_4 (lk_m5_25) mv13 rfl ⟨Nat.le_of_ble_eq_true rfl, Nat.le_of_ble_eq_true rfl⟩ hg_l1 (⟨by decide, by decide⟩ : mr_rg (-1000)) ?_
  refine en_sipush mc16_7 (by decide) ?_
  refine en_isub mc16_10 ?_
  refine en_istore (ls' := [mm_r l0, mm_i l1, mm_i l2, mm_i l3, mm_i ((max l1 (-1000)) - (-1000)), mm_u, mm_u, mm_u, mm_u]) mc16_11 (Nat.le_of_ble_eq_true rfl) rfl ?_
  refine en_iload_n mc16_13 rfl ?_
  refine en_sipush mc16_14 (by decide) ?_
  refine en_min mv16 mc16_17 (lk_m5_31) mv14 rfl ⟨Nat.le_of_ble_eq_true rfl, Nat.le_of_ble_eq_true rfl⟩ hg_l2 (⟨by decide, by decide⟩ : mr_rg 1000) ?_
  refine en_sipush mc16_20 (by decide) ?_
  refine en_isub mc16_23 ?_
  refine en_iconst mc16_24 ?_
  refine en_isub mc16_25 ?_
  refine en_istore (ls' := [mm_r l0, mm_i l1, mm_i l2, mm_i l3, mm_i ((max l1 (-1000)) - (-1000)), mm_i (((min l2 1000) - (-1000)) - 1), mm_u, mm_u, mm_u]) mc16_26 (Nat.le_of_ble_eq_true rfl) rfl ?_
  refine en_iload mc16_28 rfl ?_
  refine en_iload mc16_30 rfl ?_
  refine en_icmp_gt 103 mc16_32 (by decide) g1 g2 (fun q => ?_) (fun q => ?_)
  · replace h := h.1 q
    exact en_vret mv16 mc16_103 rfl h
  · replace h := h.2 q
    obtain ⟨g3, h⟩ := h
    refine en_iload mc16_35 rfl ?_
    refine en_bipush mc16_37 (by decide) ?_
    refine en_ishr6 mc16_39 g3 g1 ?_
    refine en_istore (ls' := [mm_r l0, mm_i l1, mm_i l2, mm_i l3, mm_i ((max l1 (-1000)) - (-1000)), mm_i (((min l2 1000) - (-1000)) - 1), mm_i (((max l1 (-1000)) - (-1000)) / 64), mm_u, mm_u]) mc16_40 (Nat.le_of_ble_eq_true rfl) rfl ?_
    exact h
theorem vc16_42 {sc : Nat × (Int → Int)} {Q : mm_R → mm_M → Prop} {M : mm_M} {l0 : Nat} {l1 : Int} {l2 : Int} {l3 : Int} {l4 : Int} {l5 : Int} {l6 : Int} {l7 : mm_V} (ho : mr_ok M) (hg_l5 : mr_rg l5) (hg_l6 : mr_rg l6) (hR_l0 : mr_Rw l0) (hg_l3 : mr_rg l3)
    (h : 0 ≤ l5 ∧ (mr_rg (l5 / 64) ∧ (((l5 / 64) < l6 → Q (.inl none) M) ∧ (¬ (l5 / 64) < l6 → en_CJ sc 15 [mm_i l6, mm_i l4, mm_i l5, mm_u, mm_u] M (fun x3 M4 => mr_ok M4 → (l3 = 0 → 0 ≤ l6 ∧ (l6 < 32 ∧ (0 ≤ l6 ∧ (l6 < 32 ∧ (mr_rj (mr_or (M4.1 (l0 + 1) l6) x3) ∧ (en_R sc 16 42 [mm_r l0, mm_i l1, mm_i l2, mm_i l3, mm_i l4, mm_i l5, mm_i (l6 + 1), mm_j x3, mm_u] [] (mm_putN M4 (l0 + 1) l6 (mr_or (M4.1 (l0 + 1) l6) x3)) Q)))))) ∧ (¬ l3 = 0 → 0 ≤ l6 ∧ (l6 < 32 ∧ (0 ≤ l6 ∧ (l6 < 32 ∧ (mr_rj (mr_xor (M4.1 (l0 + 1) l6) x3) ∧ (en_R sc 16 42 [mm_r l0, mm_i l1, mm_i l2, mm_i l3, mm_i l4, mm_i l5, mm_i (l6 + 1), mm_j x3, mm_u] [] (mm_putN M4 (l0 + 1) l6 (mr_xor (M4.1 (l0 + 1) l6) x3)) Q))))))) (fun e M9 => Q (.inr e) M9))))) : en_R sc 16 42 [mm_r l0, mm_i l1, mm_i l2, mm_i l3, mm_i l4, mm_i l5, mm_i l6, l7, mm_u] [] M Q := by
  obtain ⟨g1, h⟩ := h
  obtain ⟨g2, h⟩ := h
  refine en_iload mc16_42 rfl ?_
  refine en_iload mc16_44 rfl ?_
  refine en_bipush mc16_46 (by decide) ?_
  refine en_ishr6 mc16_48 g1 hg_l5 ?_
  refine en_icmp_gt 103 mc16_49 (by decide) hg_l6 g2 (fun q => ?_) (fun q => ?_)
  · replace h := h.1 q
    exact en_vret mv16 mc16_103 rfl h
  · replace h := h.2 q
    refine en_iload mc16_52 rfl ?_
    refine en_iload mc16_54 rfl ?_
    refine en_iload mc16_56 rfl ?_
    refine en_callJ (lz := [mm_i l6, mm_i l4, mm_i l5, mm_u, mm_u]) mv16 mc16_58 rfl rfl (lk_m5_34) mv15 rfl (by decide) rfl (mk_cokS rfl) rfl (mk_nh rfl _) ho ?_
    refine en_CJ_mono h (fun x3 M4 h => ?_) (fun _ _ h => h)
    intro ho5
    replace h := h ho5
    refine en_lstore (ls' := [mm_r l0, mm_i l1, mm_i l2, mm_i l3, mm_i l4, mm_i l5, mm_i l6, mm_j x3, mm_u]) mc16_61 (Nat.le_of_ble_eq_true rfl) rfl ?_
    refine en_aload_n mc16_63 rfl ?_
    refine en_getR (b := (l0 + 1)) mv16 mc16_64 (lk_f5_11) (mk_R0 hR_l0) rfl (mk_fR hR_l0 ho5) ?_
    refine en_iload mc16_67 rfl ?_
    refine en_iload_n mc16_69 rfl ?_
    refine en_if_eq 86 mc16_70 (by decide) hg_l3 (fun q => ?_) (fun q => ?_)
    · replace h := h.1 q
      obtain ⟨g6, h⟩ := h
      obtain ⟨g7, h⟩ := h
      obtain ⟨g8, h⟩ := h
      obtain ⟨g9, h⟩ := h
      obtain ⟨g10, h⟩ := h
      refine en_aload_n mc16_86 rfl ?_
      refine en_getR (b := (l0 + 1)) mv16 mc16_87 (lk_f5_11) (mk_R0 hR_l0) rfl (mk_fR hR_l0 ho5) ?_
      refine en_iload mc16_90 rfl ?_
      refine en_lald mc16_92 (mk_R1 hR_l0) g6 g7 ?_
      refine en_lload mc16_93 rfl ?_
      refine en_lor mc16_95 ?_
      refine en_last mc16_96 (mk_R1 hR_l0) g8 g9 g10 ?_
      refine en_iinc (ls' := [mm_r l0, mm_i l1, mm_i l2, mm_i l3, mm_i l4, mm_i l5, mm_i (l6 + 1), mm_j x3, mm_u]) mc16_97 rfl rfl ?_
      refine en_goto 42 mc16_100 (by decide) ?_
      exact h
    · replace h := h.2 q
      obtain ⟨g11, h⟩ := h
      obtain ⟨g12, h⟩ := h
      obtain ⟨g13, h⟩ := h
      obtain ⟨g14, h⟩ := h
      obtain ⟨g15, h⟩ := h
      refine en_aload_n mc16_73 rfl ?_
      refine en_getR (b := (l0 + 1)) mv16 mc16_74 (lk_f5_11) (mk_R0 hR_l0) rfl (mk_fR hR_l0 ho5) ?_
      refine en_iload mc16_77 rfl ?_
      refine en_lald mc16_79 (mk_R1 hR_l0) g11 g12 ?_
      refine en_lload mc16_80 rfl ?_
      refine en_lxor mc16_82 ?_
      refine en_goto 96 mc16_83 (by decide) ?_
      refine en_last mc16_96 (mk_R1 hR_l0) g13 g14 g15 ?_
      refine en_iinc (ls' := [mm_r l0, mm_i l1, mm_i l2, mm_i l3, mm_i l4, mm_i l5, mm_i (l6 + 1), mm_j x3, mm_u]) mc16_97 rfl rfl ?_
      refine en_goto 42 mc16_100 (by decide) ?_
      exact h
/-! 17: CellAreas$Row.fill(II)V -/
theorem mc17_0 : mr_C 17 0 = some (.aload_n 0, 1) := rfl
theorem mc17_1 : mr_C 17 1 = some (.iload_n 1, 1) := rfl
theorem mc17_2 : mr_C 17 2 = some (.iload_n 2, 1) := rfl
theorem mc17_3 : mr_C 17 3 = some (.iconst 0, 1) := rfl
theorem mc17_4 : mr_C 17 4 = some (.invokevirtual 21, 3) := rfl
theorem mc17_7 : mr_C 17 7 = some (.return_, 1) := rfl
theorem vc17_0 {sc : Nat × (Int → Int)} {Q : mm_R → mm_M → Prop} {M : mm_M} {l0 : Nat} {l1 : Int} {l2 : Int} (ho : mr_ok M) (hR_l0 : mr_Rw l0)
    (h : en_CV sc 16 [mm_r l0, mm_i l1, mm_i l2, mm_i 0, mm_u, mm_u, mm_u, mm_u, mm_u] M (fun M2 => mr_ok M2 → Q (.inl none) M2) (fun e M9 => Q (.inr e) M9)) : en_R sc 17 0 [mm_r l0, mm_i l1, mm_i l2] [] M Q := by
  refine en_aload_n mc17_0 rfl ?_
  refine en_iload_n mc17_1 rfl ?_
  refine en_iload_n mc17_2 rfl ?_
  refine en_iconst mc17_3 ?_
  refine en_callV (lz := [mm_r l0, mm_i l1, mm_i l2, mm_i 0, mm_u, mm_u, mm_u, mm_u, mm_u]) mv17 mc17_4 rfl rfl (lk_m5_21) mv16 rfl (by decide) rfl (mk_cokV rfl (mk_R0 hR_l0)) rfl (mk_nh rfl _) ho ?_
  refine en_CV_mono h (fun M2 h => ?_) (fun _ _ h => h)
  intro ho3
  replace h := h ho3
  exact en_vret mv17 mc17_7 rfl h
/-! 18: CellAreas$Builder.start()V -/
theorem mc18_0 : mr_C 18 0 = some (.aload_n 0, 1) := rfl
theorem mc18_1 : mr_C 18 1 = some (.getfield 12, 3) := rfl
theorem mc18_4 : mr_C 18 4 = some (.iconst 0, 1) := rfl
theorem mc18_5 : mr_C 18 5 = some (.putfield 29, 3) := rfl
theorem mc18_8 : mr_C 18 8 = some (.aload_n 0, 1) := rfl
theorem mc18_9 : mr_C 18 9 = some (.iconst 0, 1) := rfl
theorem mc18_10 : mr_C 18 10 = some (.putfield 25, 3) := rfl
theorem mc18_13 : mr_C 18 13 = some (.return_, 1) := rfl
theorem vc18_0 {sc : Nat × (Int → Int)} {Q : mm_R → mm_M → Prop} {M : mm_M} (ho : mr_ok M)
    (h : ∃ b1, M.2.1 2 0 = some b1 ∧ mr_A b1 ∧ (Q (.inl none) (mm_putN (mm_putN M b1 0 0) 2 2 0))) : en_R sc 18 0 [mm_r 2] [] M Q := by
  refine en_aload_n mc18_0 rfl ?_
  obtain ⟨b1, g2, hA_b1_, h⟩ := h
  refine en_getR mv18 mc18_1 (lk_f2_12) (⟨rfl, by decide⟩ : mt_kd[2]? = some (.inl 2) ∧ 2 < 99) rfl g2 ?_
  refine en_iconst mc18_4 ?_
  refine en_putI mv18 mc18_5 (lk_f2_29) (mk_A0 hA_b1_) rfl rfl (⟨by decide, by decide⟩ : mr_rg 0) ?_
  refine en_aload_n mc18_8 rfl ?_
  refine en_iconst mc18_9 ?_
  refine en_putZ mv18 mc18_10 (lk_f2_25) (⟨rfl, by decide⟩ : mt_kd[2]? = some (.inl 2) ∧ 2 < 99) rfl rfl (by decide) ?_
  exact en_vret mv18 mc18_13 rfl h
/-! 19: java/lang/Integer.numberOfTrailingZeros(I)I -/
theorem mc19_0 : mr_C 19 0 = some (.iload_n 0, 1) := rfl
theorem mc19_1 : mr_C 19 1 = some (.iconst (-1), 1) := rfl
theorem mc19_2 : mr_C 19 2 = some (.ixor, 1) := rfl
theorem mc19_3 : mr_C 19 3 = some (.iload_n 0, 1) := rfl
theorem mc19_4 : mr_C 19 4 = some (.iconst 1, 1) := rfl
theorem mc19_5 : mr_C 19 5 = some (.isub, 1) := rfl
theorem mc19_6 : mr_C 19 6 = some (.iand, 1) := rfl
theorem mc19_7 : mr_C 19 7 = some (.istore_n 0, 1) := rfl
theorem mc19_8 : mr_C 19 8 = some (.iload_n 0, 1) := rfl
theorem mc19_9 : mr_C 19 9 = some (.ifCond .gt (8), 3) := rfl
theorem mc19_12 : mr_C 19 12 = some (.iload_n 0, 1) := rfl
theorem mc19_13 : mr_C 19 13 = some (.bipush 32, 2) := rfl
theorem mc19_15 : mr_C 19 15 = some (.iand, 1) := rfl
theorem mc19_16 : mr_C 19 16 = some (.ireturn, 1) := rfl
theorem mc19_17 : mr_C 19 17 = some (.iconst 1, 1) := rfl
theorem mc19_18 : mr_C 19 18 = some (.istore_n 1, 1) := rfl
theorem mc19_19 : mr_C 19 19 = some (.iload_n 0, 1) := rfl
theorem mc19_20 : mr_C 19 20 = some (.ldc_w 264, 3) := rfl
theorem mc19_23 : mr_C 19 23 = some (.if_icmp .le (11), 3) := rfl
theorem mc19_26 : mr_C 19 26 = some (.iinc 1 (16), 3) := rfl
theorem mc19_29 : mr_C 19 29 = some (.iload_n 0, 1) := rfl
theorem mc19_30 : mr_C 19 30 = some (.bipush 16, 2) := rfl
theorem mc19_32 : mr_C 19 32 = some (.iushr, 1) := rfl
theorem mc19_33 : mr_C 19 33 = some (.istore_n 0, 1) := rfl
theorem mc19_34 : mr_C 19 34 = some (.iload_n 0, 1) := rfl
theorem mc19_35 : mr_C 19 35 = some (.sipush 256, 3) := rfl
theorem mc19_38 : mr_C 19 38 = some (.if_icmp .le (11), 3) := rfl
theorem mc19_41 : mr_C 19 41 = some (.iinc 1 (8), 3) := rfl
theorem mc19_44 : mr_C 19 44 = some (.iload_n 0, 1) := rfl
theorem mc19_45 : mr_C 19 45 = some (.bipush 8, 2) := rfl
theorem mc19_47 : mr_C 19 47 = some (.iushr, 1) := rfl
theorem mc19_48 : mr_C 19 48 = some (.istore_n 0, 1) := rfl
theorem mc19_49 : mr_C 19 49 = some (.iload_n 0, 1) := rfl
theorem mc19_50 : mr_C 19 50 = some (.bipush 16, 2) := rfl
theorem mc19_52 : mr_C 19 52 = some (.if_icmp .le (10), 3) := rfl
theorem mc19_55 : mr_C 19 55 = some (.iinc 1 (4), 3) := rfl
theorem mc19_58 : mr_C 19 58 = some (.iload_n 0, 1) := rfl
theorem mc19_59 : mr_C 19 59 = some (.iconst 4, 1) := rfl
theorem mc19_60 : mr_C 19 60 = some (.iushr, 1) := rfl
theorem mc19_61 : mr_C 19 61 = some (.istore_n 0, 1) := rfl
theorem mc19_62 : mr_C 19 62 = some (.iload_n 0, 1) := rfl
theorem mc19_63 : mr_C 19 63 = some (.iconst 4, 1) := rfl
theorem mc19_64 : mr_C 19 64 = some (.if_icmp .le (10), 3) := rfl
theorem mc19_67 : mr_C 19 67 = some (.iinc 1 (2), 3) := rfl
theorem mc19_70 : mr_C 19 70 = some (.iload_n 0, 1) := rfl
theorem mc19_71 : mr_C 19 71 = some (.iconst 2, 1) := rfl
theorem mc19_72 : mr_C 19 72 = some (.iushr, 1) := rfl
theorem mc19_73 : mr_C 19 73 = some (.istore_n 0, 1) := rfl
theorem mc19_74 : mr_C 19 74 = some (.iload_n 1, 1) := rfl
theorem mc19_75 : mr_C 19 75 = some (.iload_n 0, 1) := rfl
theorem mc19_76 : mr_C 19 76 = some (.iconst 1, 1) := rfl
theorem mc19_77 : mr_C 19 77 = some (.iushr, 1) := rfl
theorem mc19_78 : mr_C 19 78 = some (.iadd, 1) := rfl
theorem mc19_79 : mr_C 19 79 = some (.ireturn, 1) := rfl
theorem vc19_0 {sc : Nat × (Int → Int)} {Q : mm_R → mm_M → Prop} {M : mm_M} {l0 : Int} (ho : mr_ok M)
    (h : (0 < (mr_iand (mr_ixor l0 (-1)) (l0 - 1)) → ((mr_iand (mr_ixor l0 (-1)) (l0 - 1)) ≤ 65536 → en_R sc 19 34 [mm_i (mr_iand (mr_ixor l0 (-1)) (l0 - 1)), mm_i 1] [] M Q) ∧ (¬ (mr_iand (mr_ixor l0 (-1)) (l0 - 1)) ≤ 65536 → en_R sc 19 34 [mm_i (mr_iushr (mr_iand (mr_ixor l0 (-1)) (l0 - 1)) 16), mm_i (1 + 16)] [] M Q)) ∧ (¬ 0 < (mr_iand (mr_ixor l0 (-1)) (l0 - 1)) → Q (.inl (some (mm_i (mr_iand (mr_iand (mr_ixor l0 (-1)) (l0 - 1)) 32)))) M)) : en_R sc 19 0 [mm_i l0, mm_u] [] M Q := by
  refine en_iload_n mc19_0 rfl ?_
  refine en_iconst mc19_1 ?_
  refine en_ixor mc19_2 ?_
  refine en_iload_n mc19_3 rfl ?_
  refine en_iconst mc19_4 ?_
  refine en_isub mc19_5 ?_
  refine en_iand mc19_6 ?_
  refine en_istore_n (ls' := [mm_i (mr_iand (mr_ixor l0 (-1)) (l0 - 1)), mm_u]) mc19_7 (Nat.le_of_ble_eq_true rfl) rfl ?_
  refine en_iload_n mc19_8 rfl ?_
  refine en_if_gt 17 mc19_9 (by decide) (mr_rgI _) (fun q => ?_) (fun q => ?_)
  · replace h := h.1 q
    refine en_iconst mc19_17 ?_
    refine en_istore_n (ls' := [mm_i (mr_iand (mr_ixor l0 (-1)) (l0 - 1)), mm_i 1]) mc19_18 (Nat.le_of_ble_eq_true rfl) rfl ?_
    refine en_iload_n mc19_19 rfl ?_
    refine en_ldcw mv19 mc19_20 rfl ?_
    refine en_icmp_le 34 mc19_23 (by decide) (mr_rgI _) (⟨by decide, by decide⟩ : mr_rg 65536) (fun q => ?_) (fun q => ?_)
    · replace h := h.1 q
      exact h
    · replace h := h.2 q
      refine en_iinc (ls' := [mm_i (mr_iand (mr_ixor l0 (-1)) (l0 - 1)), mm_i (1 + 16)]) mc19_26 rfl rfl ?_
      refine en_iload_n mc19_29 rfl ?_
      refine en_bipush mc19_30 (by decide) ?_
      refine en_iushr mc19_32 ?_
      refine en_istore_n (ls' := [mm_i (mr_iushr (mr_iand (mr_ixor l0 (-1)) (l0 - 1)) 16), mm_i (1 + 16)]) mc19_33 (Nat.le_of_ble_eq_true rfl) rfl ?_
      exact h
  · replace h := h.2 q
    refine en_iload_n mc19_12 rfl ?_
    refine en_bipush mc19_13 (by decide) ?_
    refine en_iand mc19_15 ?_
    exact en_iret mv19 mc19_16 rfl h
theorem vc19_34 {sc : Nat × (Int → Int)} {Q : mm_R → mm_M → Prop} {M : mm_M} {l0 : Int} {l1 : Int} (ho : mr_ok M) (hg_l0 : mr_rg l0)
    (h : (l0 ≤ 256 → en_R sc 19 49 [mm_i l0, mm_i l1] [] M Q) ∧ (¬ l0 ≤ 256 → en_R sc 19 49 [mm_i (mr_iushr l0 8), mm_i (l1 + 8)] [] M Q)) : en_R sc 19 34 [mm_i l0, mm_i l1] [] M Q := by
  refine en_iload_n mc19_34 rfl ?_
  refine en_sipush mc19_35 (by decide) ?_
  refine en_icmp_le 49 mc19_38 (by decide) hg_l0 (⟨by decide, by decide⟩ : mr_rg 256) (fun q => ?_) (fun q => ?_)
  · replace h := h.1 q
    exact h
  · replace h := h.2 q
    refine en_iinc (ls' := [mm_i l0, mm_i (l1 + 8)]) mc19_41 rfl rfl ?_
    refine en_iload_n mc19_44 rfl ?_
    refine en_bipush mc19_45 (by decide) ?_
    refine en_iushr mc19_47 ?_
    refine en_istore_n (ls' := [mm_i (mr_iushr l0 8), mm_i (l1 + 8)]) mc19_48 (Nat.le_of_ble_eq_true rfl) rfl ?_
    exact h
theorem vc19_49 {sc : Nat × (Int → Int)} {Q : mm_R → mm_M → Prop} {M : mm_M} {l0 : Int} {l1 : Int} (ho : mr_ok M) (hg_l0 : mr_rg l0)
    (h : (l0 ≤ 16 → en_R sc 19 62 [mm_i l0, mm_i l1] [] M Q) ∧ (¬ l0 ≤ 16 → en_R sc 19 62 [mm_i (mr_iushr l0 4), mm_i (l1 + 4)] [] M Q)) : en_R sc 19 49 [mm_i l0, mm_i l1] [] M Q := by
  refine en_iload_n mc19_49 rfl ?_
  refine en_bipush mc19_50 (by decide) ?_
  refine en_icmp_le 62 mc19_52 (by decide) hg_l0 (⟨by decide, by decide⟩ : mr_rg 16) (fun q => ?_) (fun q => ?_)
  · replace h := h.1 q
    exact h
  · replace h := h.2 q
    refine en_iinc (ls' := [mm_i l0, mm_i (l1 + 4)]) mc19_55 rfl rfl ?_
    refine en_iload_n mc19_58 rfl ?_
    refine en_iconst mc19_59 ?_
    refine en_iushr mc19_60 ?_
    refine en_istore_n (ls' := [mm_i (mr_iushr l0 4), mm_i (l1 + 4)]) mc19_61 (Nat.le_of_ble_eq_true rfl) rfl ?_
    exact h
theorem vc19_62 {sc : Nat × (Int → Int)} {Q : mm_R → mm_M → Prop} {M : mm_M} {l0 : Int} {l1 : Int} (ho : mr_ok M) (hg_l0 : mr_rg l0)
    (h : (l0 ≤ 4 → Q (.inl (some (mm_i (l1 + (mr_iushr l0 1))))) M) ∧ (¬ l0 ≤ 4 → Q (.inl (some (mm_i ((l1 + 2) + (mr_iushr (mr_iushr l0 2) 1))))) M)) : en_R sc 19 62 [mm_i l0, mm_i l1] [] M Q := by
  refine en_iload_n mc19_62 rfl ?_
  refine en_iconst mc19_63 ?_
  refine en_icmp_le 74 mc19_64 (by decide) hg_l0 (⟨by decide, by decide⟩ : mr_rg 4) (fun q => ?_) (fun q => ?_)
  · replace h := h.1 q
    refine en_iload_n mc19_74 rfl ?_
    refine en_iload_n mc19_75 rfl ?_
    refine en_iconst mc19_76 ?_
    refine en_iushr mc19_77 ?_
    refine en_iadd mc19_78 ?_
    exact en_iret mv19 mc19_79 rfl h
  · replace h := h.2 q
    refine en_iinc (ls' := [mm_i l0, mm_i (l1 + 2)]) mc19_67 rfl rfl ?_
    refine en_iload_n mc19_70 rfl ?_
    refine en_iconst mc19_71 ?_
    refine en_iushr mc19_72 ?_
    refine en_istore_n (ls' := [mm_i (mr_iushr l0 2), mm_i (l1 + 2)]) mc19_73 (Nat.le_of_ble_eq_true rfl) rfl ?_
    refine en_iload_n mc19_74 rfl ?_
    refine en_iload_n mc19_75 rfl ?_
    refine en_iconst mc19_76 ?_
    refine en_iushr mc19_77 ?_
    refine en_iadd mc19_78 ?_
    exact en_iret mv19 mc19_79 rfl h
/-! 20: java/lang/Long.numberOfTrailingZeros(J)I -/
theorem mc20_0 : mr_C 20 0 = some (.lload_n 0, 1) := rfl
theorem mc20_1 : mr_C 20 1 = some (.l2i, 1) := rfl
theorem mc20_2 : mr_C 20 2 = some (.istore_n 2, 1) := rfl
theorem mc20_3 : mr_C 20 3 = some (.iload_n 2, 1) := rfl
theorem mc20_4 : mr_C 20 4 = some (.ifCond .ne (17), 3) := rfl
theorem mc20_7 : mr_C 20 7 = some (.bipush 32, 2) := rfl
theorem mc20_9 : mr_C 20 9 = some (.lload_n 0, 1) := rfl
theorem mc20_10 : mr_C 20 10 = some (.bipush 32, 2) := rfl
theorem mc20_12 : mr_C 20 12 = some (.lushr, 1) := rfl
theorem mc20_13 : mr_C 20 13 = some (.l2i, 1) := rfl
theorem mc20_14 : mr_C 20 14 = some (.invokestatic 311, 3) := rfl
theorem mc20_17 : mr_C 20 17 = some (.iadd, 1) := rfl
theorem mc20_18 : mr_C 20 18 = some (.goto 7, 3) := rfl
theorem mc20_21 : mr_C 20 21 = some (.iload_n 2, 1) := rfl
theorem mc20_22 : mr_C 20 22 = some (.invokestatic 311, 3) := rfl
theorem mc20_25 : mr_C 20 25 = some (.ireturn, 1) := rfl
theorem vc20_0 {sc : Nat × (Int → Int)} {Q : mm_R → mm_M → Prop} {M : mm_M} {l0 : Int} (ho : mr_ok M) (hg_l0 : mr_rg l0)
    (h : (l0 ≠ 0 → en_CI sc 19 [mm_i l0, mm_u] M (fun x1 M2 => mr_ok M2 → Q (.inl (some (mm_i x1))) M2) (fun e M9 => Q (.inr e) M9)) ∧ (¬ (l0 ≠ 0) → en_CI sc 19 [mm_i (mr_ushr l0 32), mm_u] M (fun x4 M5 => mr_ok M5 → Q (.inl (some (mm_i (32 + x4)))) M5) (fun e M9 => Q (.inr e) M9))) : en_R sc 20 0 [mm_j l0, mm_u, mm_u] [] M Q := by
  refine en_lload_n mc20_0 rfl ?_
  refine en_l2i mc20_1 ?_
  refine en_istore_n (ls' := [mm_j l0, mm_u, mm_i l0]) mc20_2 (Nat.le_of_ble_eq_true rfl) rfl ?_
  refine en_iload_n mc20_3 rfl ?_
  refine en_if_ne 21 mc20_4 (by decide) hg_l0 (fun q => ?_) (fun q => ?_)
  · replace h := h.1 q
    refine en_iload_n mc20_21 rfl ?_
    refine en_callI (lz := [mm_i l0, mm_u]) mv20 mc20_22 rfl rfl (lk_m10_311) mv19 rfl (by decide) rfl (mk_cokS rfl) rfl (mk_nh rfl _) ho ?_
    refine en_CI_mono h (fun x1 M2 h => ?_) (fun _ _ h => h)
    intro ho3
    replace h := h ho3
    exact en_iret mv20 mc20_25 rfl h
  · replace h := h.2 q
    refine en_bipush mc20_7 (by decide) ?_
    refine en_lload_n mc20_9 rfl ?_
    refine en_bipush mc20_10 (by decide) ?_
    refine en_lushr mc20_12 ?_
    refine en_l2i mc20_13 ?_
    refine en_callI (lz := [mm_i (mr_ushr l0 32), mm_u]) mv20 mc20_14 rfl rfl (lk_m10_311) mv19 rfl (by decide) rfl (mk_cokS rfl) rfl (mk_nh rfl _) ho ?_
    refine en_CI_mono h (fun x4 M5 h => ?_) (fun _ _ h => h)
    intro ho6
    replace h := h ho6
    refine en_iadd mc20_17 ?_
    refine en_goto 25 mc20_18 (by decide) ?_
    exact en_iret mv20 mc20_25 rfl h
/-! 21: CellAreas$Row.seek(IJ)I -/
theorem mc21_0 : mr_C 21 0 = some (.iload_n 1, 1) := rfl
theorem mc21_1 : mr_C 21 1 = some (.sipush (-1000), 3) := rfl
theorem mc21_4 : mr_C 21 4 = some (.invokestatic 25, 3) := rfl
theorem mc21_7 : mr_C 21 7 = some (.sipush (-1000), 3) := rfl
theorem mc21_10 : mr_C 21 10 = some (.isub, 1) := rfl
theorem mc21_11 : mr_C 21 11 = some (.istore 4, 2) := rfl
theorem mc21_13 : mr_C 21 13 = some (.iload 4, 2) := rfl
theorem mc21_15 : mr_C 21 15 = some (.bipush 6, 2) := rfl
theorem mc21_17 : mr_C 21 17 = some (.ishr, 1) := rfl
theorem mc21_18 : mr_C 21 18 = some (.istore 5, 2) := rfl
theorem mc21_20 : mr_C 21 20 = some (.iload 5, 2) := rfl
theorem mc21_22 : mr_C 21 22 = some (.bipush 32, 2) := rfl
theorem mc21_24 : mr_C 21 24 = some (.if_icmp .ge (60), 3) := rfl
theorem mc21_27 : mr_C 21 27 = some (.aload_n 0, 1) := rfl
theorem mc21_28 : mr_C 21 28 = some (.getfield 11, 3) := rfl
theorem mc21_31 : mr_C 21 31 = some (.iload 5, 2) := rfl
theorem mc21_33 : mr_C 21 33 = some (.laload, 1) := rfl
theorem mc21_34 : mr_C 21 34 = some (.lload_n 2, 1) := rfl
theorem mc21_35 : mr_C 21 35 = some (.lxor, 1) := rfl
theorem mc21_36 : mr_C 21 36 = some (.iload 5, 2) := rfl
theorem mc21_38 : mr_C 21 38 = some (.iload 4, 2) := rfl
theorem mc21_40 : mr_C 21 40 = some (.sipush 2047, 3) := rfl
theorem mc21_43 : mr_C 21 43 = some (.invokestatic 34, 3) := rfl
theorem mc21_46 : mr_C 21 46 = some (.land, 1) := rfl
theorem mc21_47 : mr_C 21 47 = some (.lstore 6, 2) := rfl
theorem mc21_49 : mr_C 21 49 = some (.lload 6, 2) := rfl
theorem mc21_51 : mr_C 21 51 = some (.lconst 0, 1) := rfl
theorem mc21_52 : mr_C 21 52 = some (.lcmp, 1) := rfl
theorem mc21_53 : mr_C 21 53 = some (.ifCond .eq (25), 3) := rfl
theorem mc21_56 : mr_C 21 56 = some (.sipush 1000, 3) := rfl
theorem mc21_59 : mr_C 21 59 = some (.sipush (-1000), 3) := rfl
theorem mc21_62 : mr_C 21 62 = some (.iload 5, 2) := rfl
theorem mc21_64 : mr_C 21 64 = some (.bipush 64, 2) := rfl
theorem mc21_66 : mr_C 21 66 = some (.imul, 1) := rfl
theorem mc21_67 : mr_C 21 67 = some (.iadd, 1) := rfl
theorem mc21_68 : mr_C 21 68 = some (.lload 6, 2) := rfl
theorem mc21_70 : mr_C 21 70 = some (.invokestatic 58, 3) := rfl
theorem mc21_73 : mr_C 21 73 = some (.iadd, 1) := rfl
theorem mc21_74 : mr_C 21 74 = some (.invokestatic 31, 3) := rfl
theorem mc21_77 : mr_C 21 77 = some (.ireturn, 1) := rfl
theorem mc21_78 : mr_C 21 78 = some (.iinc 5 (1), 3) := rfl
theorem mc21_81 : mr_C 21 81 = some (.goto (-61), 3) := rfl
theorem mc21_84 : mr_C 21 84 = some (.sipush 1000, 3) := rfl
theorem mc21_87 : mr_C 21 87 = some (.ireturn, 1) := rfl
theorem vc21_0 {sc : Nat × (Int → Int)} {Q : mm_R → mm_M → Prop} {M : mm_M} {l0 : Nat} {l1 : Int} {l2 : Int} (ho : mr_ok M) (hg_l1 : mr_rg l1)
    (h : mr_rg ((max l1 (-1000)) - (-1000)) ∧ (0 ≤ ((max l1 (-1000)) - (-1000)) ∧ (en_R sc 21 20 [mm_r l0, mm_i l1, mm_j l2, mm_u, mm_i ((max l1 (-1000)) - (-1000)), mm_i (((max l1 (-1000)) - (-1000)) / 64), mm_u, mm_u] [] M Q))) : en_R sc 21 0 [mm_r l0, mm_i l1, mm_j l2, mm_u, mm_u, mm_u, mm_u, mm_u] [] M Q := by
  obtain ⟨g1, h⟩ := h
  obtain ⟨g2, h⟩ := h
  refine en_iload_n mc21_0 rfl ?_
  refine en_sipush mc21_1 (by decide) ?_
  refine en_max mv21 mc21_4 (lk_m5_25) mv13 rfl ⟨Nat.le_of_ble_eq_true rfl, Nat.le_of_ble_eq_true rfl⟩ hg_l1 (⟨by decide, by decide⟩ : mr_rg (-1000)) ?_
  refine en_sipush mc21_7 (by decide) ?_
  refine en_isub mc21_10 ?_
  refine en_istore (ls' := [mm_r l0, mm_i l1, mm_j l2, mm_u, mm_i ((max l1 (-1000)) - (-1000)), mm_u, mm_u, mm_u]) mc21_11 (Nat.le_of_ble_eq_true rfl) rfl ?_
  refine en_iload mc21_13 rfl ?_
  refine en_bipush mc21_15 (by decide) ?_
  refine en_ishr6 mc21_17 g2 g1 ?_
  refine en_istore (ls' := [mm_r l0, mm_i l1, mm_j l2, mm_u, mm_i ((max l1 (-1000)) - (-1000)), mm_i (((max l1 (-1000)) - (-1000)) / 64), mm_u, mm_u]) mc21_18 (Nat.le_of_ble_eq_true rfl) rfl ?_
  exact h
theorem vc21_20 {sc : Nat × (Int → Int)} {Q : mm_R → mm_M → Prop} {M : mm_M} {l0 : Nat} {l1 : Int} {l2 : Int} {l4 : Int} {l5 : Int} {l6 : mm_V} (ho : mr_ok M) (hg_l5 : mr_rg l5) (hR_l0 : mr_Rw l0)
    (h : (32 ≤ l5 → Q (.inl (some (mm_i 1000))) M) ∧ (¬ 32 ≤ l5 → 0 ≤ l5 ∧ (l5 < 32 ∧ (en_CJ sc 15 [mm_i l5, mm_i l4, mm_i 2047, mm_u, mm_u] M (fun x3 M4 => mr_ok M4 → mr_rj (mr_and (mr_xor (M.1 (l0 + 1) l5) l2) x3) ∧ (((mr_cmp (mr_and (mr_xor (M.1 (l0 + 1) l5) l2) x3) 0) = 0 → en_R sc 21 20 [mm_r l0, mm_i l1, mm_j l2, mm_u, mm_i l4, mm_i (l5 + 1), mm_j (mr_and (mr_xor (M.1 (l0 + 1) l5) l2) x3), mm_u] [] M4 Q) ∧ (¬ (mr_cmp (mr_and (mr_xor (M.1 (l0 + 1) l5) l2) x3) 0) = 0 → en_CI sc 20 [mm_j (mr_and (mr_xor (M.1 (l0 + 1) l5) l2) x3), mm_u, mm_u] M4 (fun x7 M8 => mr_ok M8 → mr_rg (((-1000) + (l5 * 64)) + x7) ∧ (Q (.inl (some (mm_i (min 1000 (((-1000) + (l5 * 64)) + x7))))) M8)) (fun e M9 => Q (.inr e) M9)))) (fun e M9 => Q (.inr e) M9))))) : en_R sc 21 20 [mm_r l0, mm_i l1, mm_j l2, mm_u, mm_i l4, mm_i l5, l6, mm_u] [] M Q := by
  refine en_iload mc21_20 rfl ?_
  refine en_bipush mc21_22 (by decide) ?_
  refine en_icmp_ge 84 mc21_24 (by decide) hg_l5 (⟨by decide, by decide⟩ : mr_rg 32) (fun q => ?_) (fun q => ?_)
  · replace h := h.1 q
    refine en_sipush mc21_84 (by decide) ?_
    exact en_iret mv21 mc21_87 rfl h
  · replace h := h.2 q
    obtain ⟨g1, h⟩ := h
    obtain ⟨g2, h⟩ := h
    refine en_aload_n mc21_27 rfl ?_
    refine en_getR (b := (l0 + 1)) mv21 mc21_28 (lk_f5_11) (mk_R0 hR_l0) rfl (mk_fR hR_l0 ho) ?_
    refine en_iload mc21_31 rfl ?_
    refine en_lald mc21_33 (mk_R1 hR_l0) g1 g2 ?_
    refine en_lload_n mc21_34 rfl ?_
    refine en_lxor mc21_35 ?_
    refine en_iload mc21_36 rfl ?_
    refine en_iload mc21_38 rfl ?_
    refine en_sipush mc21_40 (by decide) ?_
    refine en_callJ (lz := [mm_i l5, mm_i l4, mm_i 2047, mm_u, mm_u]) mv21 mc21_43 rfl rfl (lk_m5_34) mv15 rfl (by decide) rfl (mk_cokS rfl) rfl (mk_nh rfl _) ho ?_
    refine en_CJ_mono h (fun x3 M4 h => ?_) (fun _ _ h => h)
    intro ho5
    replace h := h ho5
    obtain ⟨g6, h⟩ := h
    refine en_land mc21_46 ?_
    refine en_lstore (ls' := [mm_r l0, mm_i l1, mm_j l2, mm_u, mm_i l4, mm_i l5, mm_j (mr_and (mr_xor (M.1 (l0 + 1) l5) l2) x3), mm_u]) mc21_47 (Nat.le_of_ble_eq_true rfl) rfl ?_
    refine en_lload mc21_49 rfl ?_
    refine en_lconst mc21_51 ?_
    refine en_lcmp mc21_52 g6 (⟨by decide, by decide⟩ : mr_rj 0) ?_
    refine en_if_eq 78 mc21_53 (by decide) (mk_cmp _ _) (fun q => ?_) (fun q => ?_)
    · replace h := h.1 q
      refine en_iinc (ls' := [mm_r l0, mm_i l1, mm_j l2, mm_u, mm_i l4, mm_i (l5 + 1), mm_j (mr_and (mr_xor (M.1 (l0 + 1) l5) l2) x3), mm_u]) mc21_78 rfl rfl ?_
      refine en_goto 20 mc21_81 (by decide) ?_
      exact h
    · replace h := h.2 q
      refine en_sipush mc21_56 (by decide) ?_
      refine en_sipush mc21_59 (by decide) ?_
      refine en_iload mc21_62 rfl ?_
      refine en_bipush mc21_64 (by decide) ?_
      refine en_imul mc21_66 ?_
      refine en_iadd mc21_67 ?_
      refine en_lload mc21_68 rfl ?_
      refine en_callI (lz := [mm_j (mr_and (mr_xor (M.1 (l0 + 1) l5) l2) x3), mm_u, mm_u]) mv21 mc21_70 rfl rfl (lk_m5_58) mv20 rfl (by decide) rfl (mk_cokS rfl) rfl (mk_nh rfl _) ho5 ?_
      refine en_CI_mono h (fun x7 M8 h => ?_) (fun _ _ h => h)
      intro ho9
      replace h := h ho9
      obtain ⟨g10, h⟩ := h
      refine en_iadd mc21_73 ?_
      refine en_min mv21 mc21_74 (lk_m5_31) mv14 rfl ⟨Nat.le_of_ble_eq_true rfl, Nat.le_of_ble_eq_true rfl⟩ (⟨by decide, by decide⟩ : mr_rg 1000) g10 ?_
      exact en_iret mv21 mc21_77 rfl h
/-! 22: CellAreas$Row.nextIn(I)I -/
theorem mc22_0 : mr_C 22 0 = some (.aload_n 0, 1) := rfl
theorem mc22_1 : mr_C 22 1 = some (.iload_n 1, 1) := rfl
theorem mc22_2 : mr_C 22 2 = some (.lconst 0, 1) := rfl
theorem mc22_3 : mr_C 22 3 = some (.invokevirtual 54, 3) := rfl
theorem mc22_6 : mr_C 22 6 = some (.ireturn, 1) := rfl
theorem vc22_0 {sc : Nat × (Int → Int)} {Q : mm_R → mm_M → Prop} {M : mm_M} {l0 : Nat} {l1 : Int} (ho : mr_ok M) (hR_l0 : mr_Rw l0)
    (h : en_CI sc 21 [mm_r l0, mm_i l1, mm_j 0, mm_u, mm_u, mm_u, mm_u, mm_u] M (fun x1 M2 => mr_ok M2 → Q (.inl (some (mm_i x1))) M2) (fun e M9 => Q (.inr e) M9)) : en_R sc 22 0 [mm_r l0, mm_i l1] [] M Q := by
  refine en_aload_n mc22_0 rfl ?_
  refine en_iload_n mc22_1 rfl ?_
  refine en_lconst mc22_2 ?_
  refine en_callI (lz := [mm_r l0, mm_i l1, mm_j 0, mm_u, mm_u, mm_u, mm_u, mm_u]) mv22 mc22_3 rfl rfl (lk_m5_54) mv21 rfl (by decide) rfl (mk_cokV rfl (mk_R0 hR_l0)) rfl (mk_nh rfl _) ho ?_
  refine en_CI_mono h (fun x1 M2 h => ?_) (fun _ _ h => h)
  intro ho3
  replace h := h ho3
  exact en_iret mv22 mc22_6 rfl h
/-! 23: CellAreas$Row.isEmpty()Z -/
theorem mc23_0 : mr_C 23 0 = some (.aload_n 0, 1) := rfl
theorem mc23_1 : mr_C 23 1 = some (.sipush (-1000), 3) := rfl
theorem mc23_4 : mr_C 23 4 = some (.invokevirtual 44, 3) := rfl
theorem mc23_7 : mr_C 23 7 = some (.sipush 1000, 3) := rfl
theorem mc23_10 : mr_C 23 10 = some (.if_icmp .ne (7), 3) := rfl
theorem mc23_13 : mr_C 23 13 = some (.iconst 1, 1) := rfl
theorem mc23_14 : mr_C 23 14 = some (.goto 4, 3) := rfl
theorem mc23_17 : mr_C 23 17 = some (.iconst 0, 1) := rfl
theorem mc23_18 : mr_C 23 18 = some (.ireturn, 1) := rfl
theorem vc23_0 {sc : Nat × (Int → Int)} {Q : mm_R → mm_M → Prop} {M : mm_M} {l0 : Nat} (ho : mr_ok M) (hR_l0 : mr_Rw l0)
    (h : en_CI sc 22 [mm_r l0, mm_i (-1000)] M (fun x1 M2 => mr_ok M2 → mr_rg x1 ∧ ((x1 ≠ 1000 → Q (.inl (some (mm_i 0))) M2) ∧ (¬ (x1 ≠ 1000) → Q (.inl (some (mm_i 1))) M2))) (fun e M9 => Q (.inr e) M9)) : en_R sc 23 0 [mm_r l0] [] M Q := by
  refine en_aload_n mc23_0 rfl ?_
  refine en_sipush mc23_1 (by decide) ?_
  refine en_callI (lz := [mm_r l0, mm_i (-1000)]) mv23 mc23_4 rfl rfl (lk_m5_44) mv22 rfl (by decide) rfl (mk_cokV rfl (mk_R0 hR_l0)) rfl (mk_nh rfl _) ho ?_
  refine en_CI_mono h (fun x1 M2 h => ?_) (fun _ _ h => h)
  intro ho3
  replace h := h ho3
  obtain ⟨g4, h⟩ := h
  refine en_sipush mc23_7 (by decide) ?_
  refine en_icmp_ne 17 mc23_10 (by decide) g4 (⟨by decide, by decide⟩ : mr_rg 1000) (fun q => ?_) (fun q => ?_)
  · replace h := h.1 q
    refine en_iconst mc23_17 ?_
    exact en_zret mv23 mc23_18 rfl (by decide) h
  · replace h := h.2 q
    refine en_iconst mc23_13 ?_
    refine en_goto 18 mc23_14 (by decide) ?_
    exact en_zret mv23 mc23_18 rfl (by decide) h
/-! 24: CellAreas$Row.sameAs(LCellAreas$Row;)Z -/
theorem mc24_0 : mr_C 24 0 = some (.iconst 0, 1) := rfl
theorem mc24_1 : mr_C 24 1 = some (.istore_n 2, 1) := rfl
theorem mc24_2 : mr_C 24 2 = some (.iload_n 2, 1) := rfl
theorem mc24_3 : mr_C 24 3 = some (.bipush 32, 2) := rfl
theorem mc24_5 : mr_C 24 5 = some (.if_icmp .ge (27), 3) := rfl
theorem mc24_8 : mr_C 24 8 = some (.aload_n 0, 1) := rfl
theorem mc24_9 : mr_C 24 9 = some (.getfield 11, 3) := rfl
theorem mc24_12 : mr_C 24 12 = some (.iload_n 2, 1) := rfl
theorem mc24_13 : mr_C 24 13 = some (.laload, 1) := rfl
theorem mc24_14 : mr_C 24 14 = some (.aload_n 1, 1) := rfl
theorem mc24_15 : mr_C 24 15 = some (.getfield 11, 3) := rfl
theorem mc24_18 : mr_C 24 18 = some (.iload_n 2, 1) := rfl
theorem mc24_19 : mr_C 24 19 = some (.laload, 1) := rfl
theorem mc24_20 : mr_C 24 20 = some (.lcmp, 1) := rfl
theorem mc24_21 : mr_C 24 21 = some (.ifCond .eq (5), 3) := rfl
theorem mc24_24 : mr_C 24 24 = some (.iconst 0, 1) := rfl
theorem mc24_25 : mr_C 24 25 = some (.ireturn, 1) := rfl
theorem mc24_26 : mr_C 24 26 = some (.iinc 2 (1), 3) := rfl
theorem mc24_29 : mr_C 24 29 = some (.goto (-27), 3) := rfl
theorem mc24_32 : mr_C 24 32 = some (.iconst 1, 1) := rfl
theorem mc24_33 : mr_C 24 33 = some (.ireturn, 1) := rfl
theorem vc24_0 {sc : Nat × (Int → Int)} {Q : mm_R → mm_M → Prop} {M : mm_M} {l0 : Nat} {l1 : Nat} (ho : mr_ok M)
    (h : en_R sc 24 2 [mm_r l0, mm_r l1, mm_i 0] [] M Q) : en_R sc 24 0 [mm_r l0, mm_r l1, mm_u] [] M Q := by
  refine en_iconst mc24_0 ?_
  refine en_istore_n (ls' := [mm_r l0, mm_r l1, mm_i 0]) mc24_1 (Nat.le_of_ble_eq_true rfl) rfl ?_
  exact h
theorem vc24_2 {sc : Nat × (Int → Int)} {Q : mm_R → mm_M → Prop} {M : mm_M} {l0 : Nat} {l1 : Nat} {l2 : Int} (ho : mr_ok M) (hg_l2 : mr_rg l2) (hR_l0 : mr_Rw l0) (hR_l1 : mr_Rw l1)
    (h : (32 ≤ l2 → Q (.inl (some (mm_i 1))) M) ∧ (¬ 32 ≤ l2 → 0 ≤ l2 ∧ (l2 < 32 ∧ (0 ≤ l2 ∧ (l2 < 32 ∧ (((mr_cmp (M.1 (l0 + 1) l2) (M.1 (l1 + 1) l2)) = 0 → en_R sc 24 2 [mm_r l0, mm_r l1, mm_i (l2 + 1)] [] M Q) ∧ (¬ (mr_cmp (M.1 (l0 + 1) l2) (M.1 (l1 + 1) l2)) = 0 → Q (.inl (some (mm_i 0))) M))))))) : en_R sc 24 2 [mm_r l0, mm_r l1, mm_i l2] [] M Q := by
  refine en_iload_n mc24_2 rfl ?_
  refine en_bipush mc24_3 (by decide) ?_
  refine en_icmp_ge 32 mc24_5 (by decide) hg_l2 (⟨by decide, by decide⟩ : mr_rg 32) (fun q => ?_) (fun q => ?_)
  · replace h := h.1 q
    refine en_iconst mc24_32 ?_
    exact en_zret mv24 mc24_33 rfl (by decide) h
  · replace h := h.2 q
    obtain ⟨g1, h⟩ := h
    obtain ⟨g2, h⟩ := h
    obtain ⟨g3, h⟩ := h
    obtain ⟨g4, h⟩ := h
    refine en_aload_n mc24_8 rfl ?_
    refine en_getR (b := (l0 + 1)) mv24 mc24_9 (lk_f5_11) (mk_R0 hR_l0) rfl (mk_fR hR_l0 ho) ?_
    refine en_iload_n mc24_12 rfl ?_
    refine en_lald mc24_13 (mk_R1 hR_l0) g1 g2 ?_
    refine en_aload_n mc24_14 rfl ?_
    refine en_getR (b := (l1 + 1)) mv24 mc24_15 (lk_f5_11) (mk_R0 hR_l1) rfl (mk_fR hR_l1 ho) ?_
    refine en_iload_n mc24_18 rfl ?_
    refine en_lald mc24_19 (mk_R1 hR_l1) g3 g4 ?_
    refine en_lcmp mc24_20 (ho.1 (l0 + 1) l2) (ho.1 (l1 + 1) l2) ?_
    refine en_if_eq 26 mc24_21 (by decide) (mk_cmp _ _) (fun q => ?_) (fun q => ?_)
    · replace h := h.1 q
      refine en_iinc (ls' := [mm_r l0, mm_r l1, mm_i (l2 + 1)]) mc24_26 rfl rfl ?_
      refine en_goto 2 mc24_29 (by decide) ?_
      exact h
    · replace h := h.2 q
      refine en_iconst mc24_24 ?_
      exact en_zret mv24 mc24_25 rfl (by decide) h
/-! 25: CellAreas$Row.nextOut(I)I -/
theorem mc25_0 : mr_C 25 0 = some (.aload_n 0, 1) := rfl
theorem mc25_1 : mr_C 25 1 = some (.iload_n 1, 1) := rfl
theorem mc25_2 : mr_C 25 2 = some (.ldc2_w 38, 3) := rfl
theorem mc25_5 : mr_C 25 5 = some (.invokevirtual 54, 3) := rfl
theorem mc25_8 : mr_C 25 8 = some (.ireturn, 1) := rfl
theorem vc25_0 {sc : Nat × (Int → Int)} {Q : mm_R → mm_M → Prop} {M : mm_M} {l0 : Nat} {l1 : Int} (ho : mr_ok M) (hR_l0 : mr_Rw l0)
    (h : en_CI sc 21 [mm_r l0, mm_i l1, mm_j (-1), mm_u, mm_u, mm_u, mm_u, mm_u] M (fun x1 M2 => mr_ok M2 → Q (.inl (some (mm_i x1))) M2) (fun e M9 => Q (.inr e) M9)) : en_R sc 25 0 [mm_r l0, mm_i l1] [] M Q := by
  refine en_aload_n mc25_0 rfl ?_
  refine en_iload_n mc25_1 rfl ?_
  refine en_ldc2 mv25 mc25_2 rfl ?_
  refine en_callI (lz := [mm_r l0, mm_i l1, mm_j (-1), mm_u, mm_u, mm_u, mm_u, mm_u]) mv25 mc25_5 rfl rfl (lk_m5_54) mv21 rfl (by decide) rfl (mk_cokV rfl (mk_R0 hR_l0)) rfl (mk_nh rfl _) ho ?_
  refine en_CI_mono h (fun x1 M2 h => ?_) (fun _ _ h => h)
  intro ho3
  replace h := h ho3
  exact en_iret mv25 mc25_8 rfl h
/-! 26: CellAreas$Builder.addStretches(ILCellAreas$Row;)V -/
theorem mc26_0 : mr_C 26 0 = some (.aload_n 0, 1) := rfl
theorem mc26_1 : mr_C 26 1 = some (.getfield 12, 3) := rfl
theorem mc26_4 : mr_C 26 4 = some (.getfield 56, 3) := rfl
theorem mc26_7 : mr_C 26 7 = some (.iload_n 1, 1) := rfl
theorem mc26_8 : mr_C 26 8 = some (.iaload, 1) := rfl
theorem mc26_9 : mr_C 26 9 = some (.istore_n 3, 1) := rfl
theorem mc26_10 : mr_C 26 10 = some (.aload_n 2, 1) := rfl
theorem mc26_11 : mr_C 26 11 = some (.sipush (-1000), 3) := rfl
theorem mc26_14 : mr_C 26 14 = some (.invokevirtual 59, 3) := rfl
theorem mc26_17 : mr_C 26 17 = some (.istore 4, 2) := rfl
theorem mc26_19 : mr_C 26 19 = some (.iload 4, 2) := rfl
theorem mc26_21 : mr_C 26 21 = some (.sipush 1000, 3) := rfl
theorem mc26_24 : mr_C 26 24 = some (.if_icmp .ge (57), 3) := rfl
theorem mc26_27 : mr_C 26 27 = some (.iload_n 3, 1) := rfl
theorem mc26_28 : mr_C 26 28 = some (.sipush 400, 3) := rfl
theorem mc26_31 : mr_C 26 31 = some (.if_icmp .ge (50), 3) := rfl
theorem mc26_34 : mr_C 26 34 = some (.aload_n 0, 1) := rfl
theorem mc26_35 : mr_C 26 35 = some (.getfield 12, 3) := rfl
theorem mc26_38 : mr_C 26 38 = some (.getfield 63, 3) := rfl
theorem mc26_41 : mr_C 26 41 = some (.iload_n 3, 1) := rfl
theorem mc26_42 : mr_C 26 42 = some (.iload 4, 2) := rfl
theorem mc26_44 : mr_C 26 44 = some (.iastore, 1) := rfl
theorem mc26_45 : mr_C 26 45 = some (.aload_n 0, 1) := rfl
theorem mc26_46 : mr_C 26 46 = some (.getfield 12, 3) := rfl
theorem mc26_49 : mr_C 26 49 = some (.getfield 66, 3) := rfl
theorem mc26_52 : mr_C 26 52 = some (.iload_n 3, 1) := rfl
theorem mc26_53 : mr_C 26 53 = some (.aload_n 2, 1) := rfl
theorem mc26_54 : mr_C 26 54 = some (.iload 4, 2) := rfl
theorem mc26_56 : mr_C 26 56 = some (.invokevirtual 69, 3) := rfl
theorem mc26_59 : mr_C 26 59 = some (.iastore, 1) := rfl
theorem mc26_60 : mr_C 26 60 = some (.aload_n 2, 1) := rfl
theorem mc26_61 : mr_C 26 61 = some (.aload_n 0, 1) := rfl
theorem mc26_62 : mr_C 26 62 = some (.getfield 12, 3) := rfl
theorem mc26_65 : mr_C 26 65 = some (.getfield 66, 3) := rfl
theorem mc26_68 : mr_C 26 68 = some (.iload_n 3, 1) := rfl
theorem mc26_69 : mr_C 26 69 = some (.iaload, 1) := rfl
theorem mc26_70 : mr_C 26 70 = some (.invokevirtual 59, 3) := rfl
theorem mc26_73 : mr_C 26 73 = some (.istore 4, 2) := rfl
theorem mc26_75 : mr_C 26 75 = some (.iinc 3 (1), 3) := rfl
theorem mc26_78 : mr_C 26 78 = some (.goto (-59), 3) := rfl
theorem mc26_81 : mr_C 26 81 = some (.aload_n 0, 1) := rfl
theorem mc26_82 : mr_C 26 82 = some (.getfield 12, 3) := rfl
theorem mc26_85 : mr_C 26 85 = some (.getfield 56, 3) := rfl
theorem mc26_88 : mr_C 26 88 = some (.iload_n 1, 1) := rfl
theorem mc26_89 : mr_C 26 89 = some (.iconst 1, 1) := rfl
theorem mc26_90 : mr_C 26 90 = some (.iadd, 1) := rfl
theorem mc26_91 : mr_C 26 91 = some (.iload_n 3, 1) := rfl
theorem mc26_92 : mr_C 26 92 = some (.iastore, 1) := rfl
theorem mc26_93 : mr_C 26 93 = some (.aload_n 0, 1) := rfl
theorem mc26_94 : mr_C 26 94 = some (.iload 4, 2) := rfl
theorem mc26_96 : mr_C 26 96 = some (.sipush 1000, 3) := rfl
theorem mc26_99 : mr_C 26 99 = some (.if_icmp .ge (7), 3) := rfl
theorem mc26_102 : mr_C 26 102 = some (.iconst 1, 1) := rfl
theorem mc26_103 : mr_C 26 103 = some (.goto 4, 3) := rfl
theorem mc26_106 : mr_C 26 106 = some (.iconst 0, 1) := rfl
theorem mc26_107 : mr_C 26 107 = some (.putfield 25, 3) := rfl
theorem mc26_110 : mr_C 26 110 = some (.return_, 1) := rfl
theorem vc26_0 {sc : Nat × (Int → Int)} {Q : mm_R → mm_M → Prop} {M : mm_M} {l1 : Int} {l2 : Nat} (ho : mr_ok M) (hR_l2 : mr_Rw l2)
    (h : ∃ b1, M.2.1 2 0 = some b1 ∧ mr_A b1 ∧ (0 ≤ l1 ∧ (l1 < 101 ∧ (en_CI sc 22 [mm_r l2, mm_i (-1000)] M (fun x5 M6 => mr_ok M6 → en_R sc 26 19 [mm_r 2, mm_i l1, mm_r l2, mm_i (M.1 (b1 + 3) l1), mm_i x5] [] M6 Q) (fun e M9 => Q (.inr e) M9))))) : en_R sc 26 0 [mm_r 2, mm_i l1, mm_r l2, mm_u, mm_u] [] M Q := by
  refine en_aload_n mc26_0 rfl ?_
  obtain ⟨b1, g2, hA_b1_, h⟩ := h
  refine en_getR mv26 mc26_1 (lk_f2_12) (⟨rfl, by decide⟩ : mt_kd[2]? = some (.inl 2) ∧ 2 < 99) rfl g2 ?_
  obtain ⟨g3, h⟩ := h
  obtain ⟨g4, h⟩ := h
  refine en_getR (b := (b1 + 3)) mv26 mc26_4 (lk_f2_56) (mk_A0 hA_b1_) rfl (mk_fA3 hA_b1_ ho) ?_
  refine en_iload_n mc26_7 rfl ?_
  refine en_iald mc26_8 (mk_A3 hA_b1_) g3 g4 ?_
  refine en_istore_n (ls' := [mm_r 2, mm_i l1, mm_r l2, mm_i (M.1 (b1 + 3) l1), mm_u]) mc26_9 (Nat.le_of_ble_eq_true rfl) rfl ?_
  refine en_aload_n mc26_10 rfl ?_
  refine en_sipush mc26_11 (by decide) ?_
  refine en_callI (lz := [mm_r l2, mm_i (-1000)]) mv26 mc26_14 rfl rfl (lk_m2_59) mv22 rfl (by decide) rfl (mk_cokV rfl (mk_R0 hR_l2)) rfl (mk_nh rfl _) ho ?_
  refine en_CI_mono h (fun x5 M6 h => ?_) (fun _ _ h => h)
  intro ho7
  replace h := h ho7
  refine en_istore (ls' := [mm_r 2, mm_i l1, mm_r l2, mm_i (M.1 (b1 + 3) l1), mm_i x5]) mc26_17 (Nat.le_of_ble_eq_true rfl) rfl ?_
  exact h
theorem vc26_19 {sc : Nat × (Int → Int)} {Q : mm_R → mm_M → Prop} {M : mm_M} {l1 : Int} {l2 : Nat} {l3 : Int} {l4 : Int} (ho : mr_ok M) (hg_l4 : mr_rg l4) (hg_l3 : mr_rg l3) (hR_l2 : mr_Rw l2)
    (h : (1000 ≤ l4 → en_R sc 26 81 [mm_r 2, mm_i l1, mm_r l2, mm_i l3, mm_i l4] [] M Q) ∧ (¬ 1000 ≤ l4 → (400 ≤ l3 → en_R sc 26 81 [mm_r 2, mm_i l1, mm_r l2, mm_i l3, mm_i l4] [] M Q) ∧ (¬ 400 ≤ l3 → ∃ b1, M.2.1 2 0 = some b1 ∧ mr_A b1 ∧ (0 ≤ l3 ∧ (l3 < 400 ∧ (∃ b5, (mm_putN M (b1 + 4) l3 l4).2.1 2 0 = some b5 ∧ mr_A b5 ∧ (en_CI sc 25 [mm_r l2, mm_i l4] (mm_putN M (b1 + 4) l3 l4) (fun x7 M8 => mr_ok M8 → 0 ≤ l3 ∧ (l3 < 400 ∧ (mr_rg x7 ∧ (∃ b13, (mm_putN M8 (b5 + 5) l3 x7).2.1 2 0 = some b13 ∧ mr_A b13 ∧ (0 ≤ l3 ∧ (l3 < 400 ∧ (en_CI sc 22 [mm_r l2, mm_i ((mm_putN M8 (b5 + 5) l3 x7).1 (b13 + 5) l3)] (mm_putN M8 (b5 + 5) l3 x7) (fun x17 M18 => mr_ok M18 → en_R sc 26 19 [mm_r 2, mm_i l1, mm_r l2, mm_i (l3 + 1), mm_i x17] [] M18 Q) (fun e M9 => Q (.inr e) M9)))))))) (fun e M9 => Q (.inr e) M9)))))))) : en_R sc 26 19 [mm_r 2, mm_i l1, mm_r l2, mm_i l3, mm_i l4] [] M Q := by
  refine en_iload mc26_19 rfl ?_
  refine en_sipush mc26_21 (by decide) ?_
  refine en_icmp_ge 81 mc26_24 (by decide) hg_l4 (⟨by decide, by decide⟩ : mr_rg 1000) (fun q => ?_) (fun q => ?_)
  · replace h := h.1 q
    exact h
  · replace h := h.2 q
    refine en_iload_n mc26_27 rfl ?_
    refine en_sipush mc26_28 (by decide) ?_
    refine en_icmp_ge 81 mc26_31 (by decide) hg_l3 (⟨by decide, by decide⟩ : mr_rg 400) (fun q => ?_) (fun q => ?_)
    · replace h := h.1 q
      exact h
    · replace h := h.2 q
      refine en_aload_n mc26_34 rfl ?_
      obtain ⟨b1, g2, hA_b1_, h⟩ := h
      refine en_getR mv26 mc26_35 (lk_f2_12) (⟨rfl, by decide⟩ : mt_kd[2]? = some (.inl 2) ∧ 2 < 99) rfl g2 ?_
      obtain ⟨g3, h⟩ := h
      obtain ⟨g4, h⟩ := h
      refine en_getR (b := (b1 + 4)) mv26 mc26_38 (lk_f2_63) (mk_A0 hA_b1_) rfl (mk_fA4 hA_b1_ ho) ?_
      refine en_iload_n mc26_41 rfl ?_
      refine en_iload mc26_42 rfl ?_
      refine en_iast mc26_44 (mk_A4 hA_b1_) g3 g4 hg_l4 ?_
      refine en_aload_n mc26_45 rfl ?_
      obtain ⟨b5, g6, hA_b5_, h⟩ := h
      refine en_getR mv26 mc26_46 (lk_f2_12) (⟨rfl, by decide⟩ : mt_kd[2]? = some (.inl 2) ∧ 2 < 99) rfl g6 ?_
      refine en_getR (b := (b5 + 5)) mv26 mc26_49 (lk_f2_66) (mk_A0 hA_b5_) rfl (mk_fA5 hA_b5_ (mr_ok_putI (a := (b1 + 4)) (k := l3) ho hg_l4)) ?_
      refine en_iload_n mc26_52 rfl ?_
      refine en_aload_n mc26_53 rfl ?_
      refine en_iload mc26_54 rfl ?_
      refine en_callI (lz := [mm_r l2, mm_i l4]) mv26 mc26_56 rfl rfl (lk_m2_69) mv25 rfl (by decide) rfl (mk_cokV rfl (mk_R0 hR_l2)) rfl (mk_nh rfl _) (mr_ok_putI (a := (b1 + 4)) (k := l3) ho hg_l4) ?_
      refine en_CI_mono h (fun x7 M8 h => ?_) (fun _ _ h => h)
      intro ho9
      replace h := h ho9
      obtain ⟨g10, h⟩ := h
      obtain ⟨g11, h⟩ := h
      obtain ⟨g12, h⟩ := h
      refine en_iast mc26_59 (mk_A5 hA_b5_) g10 g11 g12 ?_
      refine en_aload_n mc26_60 rfl ?_
      refine en_aload_n mc26_61 rfl ?_
      obtain ⟨b13, g14, hA_b13_, h⟩ := h
      refine en_getR mv26 mc26_62 (lk_f2_12) (⟨rfl, by decide⟩ : mt_kd[2]? = some (.inl 2) ∧ 2 < 99) rfl g14 ?_
      obtain ⟨g15, h⟩ := h
      obtain ⟨g16, h⟩ := h
      refine en_getR (b := (b13 + 5)) mv26 mc26_65 (lk_f2_66) (mk_A0 hA_b13_) rfl (mk_fA5 hA_b13_ (mr_ok_putI (a := (b5 + 5)) (k := l3) ho9 g12)) ?_
      refine en_iload_n mc26_68 rfl ?_
      refine en_iald mc26_69 (mk_A5 hA_b13_) g15 g16 ?_
      refine en_callI (lz := [mm_r l2, mm_i ((mm_putN M8 (b5 + 5) l3 x7).1 (b13 + 5) l3)]) mv26 mc26_70 rfl rfl (lk_m2_59) mv22 rfl (by decide) rfl (mk_cokV rfl (mk_R0 hR_l2)) rfl (mk_nh rfl _) (mr_ok_putI (a := (b5 + 5)) (k := l3) ho9 g12) ?_
      refine en_CI_mono h (fun x17 M18 h => ?_) (fun _ _ h => h)
      intro ho19
      replace h := h ho19
      refine en_istore (ls' := [mm_r 2, mm_i l1, mm_r l2, mm_i l3, mm_i x17]) mc26_73 (Nat.le_of_ble_eq_true rfl) rfl ?_
      refine en_iinc (ls' := [mm_r 2, mm_i l1, mm_r l2, mm_i (l3 + 1), mm_i x17]) mc26_75 rfl rfl ?_
      refine en_goto 19 mc26_78 (by decide) ?_
      exact h
theorem vc26_81 {sc : Nat × (Int → Int)} {Q : mm_R → mm_M → Prop} {M : mm_M} {l1 : Int} {l2 : Nat} {l3 : Int} {l4 : Int} (ho : mr_ok M) (hg_l3 : mr_rg l3) (hg_l4 : mr_rg l4)
    (h : ∃ b1, M.2.1 2 0 = some b1 ∧ mr_A b1 ∧ (0 ≤ (l1 + 1) ∧ ((l1 + 1) < 101 ∧ ((1000 ≤ l4 → Q (.inl none) (mm_putN (mm_putN M (b1 + 3) (l1 + 1) l3) 2 2 0)) ∧ (¬ 1000 ≤ l4 → Q (.inl none) (mm_putN (mm_putN M (b1 + 3) (l1 + 1) l3) 2 2 1)))))) : en_R sc 26 81 [mm_r 2, mm_i l1, mm_r l2, mm_i l3, mm_i l4] [] M Q := by
  refine en_aload_n mc26_81 rfl ?_
  obtain ⟨b1, g2, hA_b1_, h⟩ := h
  refine en_getR mv26 mc26_82 (lk_f2_12) (⟨rfl, by decide⟩ : mt_kd[2]? = some (.inl 2) ∧ 2 < 99) rfl g2 ?_
  obtain ⟨g3, h⟩ := h
  obtain ⟨g4, h⟩ := h
  refine en_getR (b := (b1 + 3)) mv26 mc26_85 (lk_f2_56) (mk_A0 hA_b1_) rfl (mk_fA3 hA_b1_ ho) ?_
  refine en_iload_n mc26_88 rfl ?_
  refine en_iconst mc26_89 ?_
  refine en_iadd mc26_90 ?_
  refine en_iload_n mc26_91 rfl ?_
  refine en_iast mc26_92 (mk_A3 hA_b1_) g3 g4 hg_l3 ?_
  refine en_aload_n mc26_93 rfl ?_
  refine en_iload mc26_94 rfl ?_
  refine en_sipush mc26_96 (by decide) ?_
  refine en_icmp_ge 106 mc26_99 (by decide) hg_l4 (⟨by decide, by decide⟩ : mr_rg 1000) (fun q => ?_) (fun q => ?_)
  · replace h := h.1 q
    refine en_iconst mc26_106 ?_
    refine en_putZ mv26 mc26_107 (lk_f2_25) (⟨rfl, by decide⟩ : mt_kd[2]? = some (.inl 2) ∧ 2 < 99) rfl rfl (by decide) ?_
    exact en_vret mv26 mc26_110 rfl h
  · replace h := h.2 q
    refine en_iconst mc26_102 ?_
    refine en_goto 107 mc26_103 (by decide) ?_
    refine en_putZ mv26 mc26_107 (lk_f2_25) (⟨rfl, by decide⟩ : mt_kd[2]? = some (.inl 2) ∧ 2 < 99) rfl rfl (by decide) ?_
    exact en_vret mv26 mc26_110 rfl h
/-! 28: CellAreas$Row.copyFrom(LCellAreas$Row;)V -/
theorem mc28_0 : mr_C 28 0 = some (.aload_n 1, 1) := rfl
theorem mc28_1 : mr_C 28 1 = some (.getfield 11, 3) := rfl
theorem mc28_4 : mr_C 28 4 = some (.iconst 0, 1) := rfl
theorem mc28_5 : mr_C 28 5 = some (.aload_n 0, 1) := rfl
theorem mc28_6 : mr_C 28 6 = some (.getfield 11, 3) := rfl
theorem mc28_9 : mr_C 28 9 = some (.iconst 0, 1) := rfl
theorem mc28_10 : mr_C 28 10 = some (.bipush 32, 2) := rfl
theorem mc28_12 : mr_C 28 12 = some (.invokestatic 48, 3) := rfl
theorem mc28_15 : mr_C 28 15 = some (.return_, 1) := rfl
theorem vc28_0 {sc : Nat × (Int → Int)} {Q : mm_R → mm_M → Prop} {M : mm_M} {l0 : Nat} {l1 : Nat} (ho : mr_ok M) (hR_l1 : mr_Rw l1) (hR_l0 : mr_Rw l0)
    (h : Q (.inl none) (mm_cpy M (l1 + 1) (l0 + 1) 0 0 32)) : en_R sc 28 0 [mm_r l0, mm_r l1] [] M Q := by
  refine en_aload_n mc28_0 rfl ?_
  refine en_getR (b := (l1 + 1)) mv28 mc28_1 (lk_f5_11) (mk_R0 hR_l1) rfl (mk_fR hR_l1 ho) ?_
  refine en_iconst mc28_4 ?_
  refine en_aload_n mc28_5 rfl ?_
  refine en_getR (b := (l0 + 1)) mv28 mc28_6 (lk_f5_11) (mk_R0 hR_l0) rfl (mk_fR hR_l0 ho) ?_
  refine en_iconst mc28_9 ?_
  refine en_bipush mc28_10 (by decide) ?_
  refine en_acopy mv28 mc28_12 (lk_m5_48) mv27 rfl ⟨Nat.le_of_ble_eq_true rfl, Nat.le_of_ble_eq_true rfl⟩ (mk_R1 hR_l1) (mk_R1 hR_l0) (by decide) (by decide) (by decide) (by decide) (by decide) ?_
  exact en_vret mv28 mc28_15 rfl h
/-! 29: CellAreas$Builder.add(IILCellAreas$Row;)V -/
theorem mc29_0 : mr_C 29 0 = some (.aload_n 0, 1) := rfl
theorem mc29_1 : mr_C 29 1 = some (.getfield 25, 3) := rfl
theorem mc29_4 : mr_C 29 4 = some (.ifCond .ne (15), 3) := rfl
theorem mc29_7 : mr_C 29 7 = some (.iload_n 1, 1) := rfl
theorem mc29_8 : mr_C 29 8 = some (.iload_n 2, 1) := rfl
theorem mc29_9 : mr_C 29 9 = some (.if_icmp .ge (10), 3) := rfl
theorem mc29_12 : mr_C 29 12 = some (.aload_n 3, 1) := rfl
theorem mc29_13 : mr_C 29 13 = some (.invokevirtual 33, 3) := rfl
theorem mc29_16 : mr_C 29 16 = some (.ifCond .eq (4), 3) := rfl
theorem mc29_19 : mr_C 29 19 = some (.return_, 1) := rfl
theorem mc29_20 : mr_C 29 20 = some (.aload_n 0, 1) := rfl
theorem mc29_21 : mr_C 29 21 = some (.getfield 12, 3) := rfl
theorem mc29_24 : mr_C 29 24 = some (.getfield 29, 3) := rfl
theorem mc29_27 : mr_C 29 27 = some (.istore 4, 2) := rfl
theorem mc29_29 : mr_C 29 29 = some (.iload 4, 2) := rfl
theorem mc29_31 : mr_C 29 31 = some (.ifCond .le (44), 3) := rfl
theorem mc29_34 : mr_C 29 34 = some (.aload_n 0, 1) := rfl
theorem mc29_35 : mr_C 29 35 = some (.getfield 12, 3) := rfl
theorem mc29_38 : mr_C 29 38 = some (.getfield 37, 3) := rfl
theorem mc29_41 : mr_C 29 41 = some (.iload 4, 2) := rfl
theorem mc29_43 : mr_C 29 43 = some (.iconst 1, 1) := rfl
theorem mc29_44 : mr_C 29 44 = some (.isub, 1) := rfl
theorem mc29_45 : mr_C 29 45 = some (.iaload, 1) := rfl
theorem mc29_46 : mr_C 29 46 = some (.iload_n 1, 1) := rfl
theorem mc29_47 : mr_C 29 47 = some (.if_icmp .ne (28), 3) := rfl
theorem mc29_50 : mr_C 29 50 = some (.aload_n 0, 1) := rfl
theorem mc29_51 : mr_C 29 51 = some (.getfield 21, 3) := rfl
theorem mc29_54 : mr_C 29 54 = some (.aload_n 3, 1) := rfl
theorem mc29_55 : mr_C 29 55 = some (.invokevirtual 41, 3) := rfl
theorem mc29_58 : mr_C 29 58 = some (.ifCond .eq (17), 3) := rfl
theorem mc29_61 : mr_C 29 61 = some (.aload_n 0, 1) := rfl
theorem mc29_62 : mr_C 29 62 = some (.getfield 12, 3) := rfl
theorem mc29_65 : mr_C 29 65 = some (.getfield 37, 3) := rfl
theorem mc29_68 : mr_C 29 68 = some (.iload 4, 2) := rfl
theorem mc29_70 : mr_C 29 70 = some (.iconst 1, 1) := rfl
theorem mc29_71 : mr_C 29 71 = some (.isub, 1) := rfl
theorem mc29_72 : mr_C 29 72 = some (.iload_n 2, 1) := rfl
theorem mc29_73 : mr_C 29 73 = some (.iastore, 1) := rfl
theorem mc29_74 : mr_C 29 74 = some (.return_, 1) := rfl
theorem mc29_75 : mr_C 29 75 = some (.iload 4, 2) := rfl
theorem mc29_77 : mr_C 29 77 = some (.bipush 100, 2) := rfl
theorem mc29_79 : mr_C 29 79 = some (.if_icmp .ne (9), 3) := rfl
theorem mc29_82 : mr_C 29 82 = some (.aload_n 0, 1) := rfl
theorem mc29_83 : mr_C 29 83 = some (.iconst 1, 1) := rfl
theorem mc29_84 : mr_C 29 84 = some (.putfield 25, 3) := rfl
theorem mc29_87 : mr_C 29 87 = some (.return_, 1) := rfl
theorem mc29_88 : mr_C 29 88 = some (.aload_n 0, 1) := rfl
theorem mc29_89 : mr_C 29 89 = some (.getfield 12, 3) := rfl
theorem mc29_92 : mr_C 29 92 = some (.getfield 45, 3) := rfl
theorem mc29_95 : mr_C 29 95 = some (.iload 4, 2) := rfl
theorem mc29_97 : mr_C 29 97 = some (.iload_n 1, 1) := rfl
theorem mc29_98 : mr_C 29 98 = some (.iastore, 1) := rfl
theorem mc29_99 : mr_C 29 99 = some (.aload_n 0, 1) := rfl
theorem mc29_100 : mr_C 29 100 = some (.getfield 12, 3) := rfl
theorem mc29_103 : mr_C 29 103 = some (.getfield 37, 3) := rfl
theorem mc29_106 : mr_C 29 106 = some (.iload 4, 2) := rfl
theorem mc29_108 : mr_C 29 108 = some (.iload_n 2, 1) := by decide +kernel
theorem mc29_109 : mr_C 29 109 = some (.iastore, 1) := by decide +kernel
theorem mc29_110 : mr_C 29 110 = some (.aload_n 0, 1) := by decide +kernel
theorem mc29_111 : mr_C 29 111 = some (.iload 4, 2) := by decide +kernel
theorem mc29_113 : mr_C 29 113 = some (.aload_n 3, 1) := by decide +kernel
theorem mc29_114 : mr_C 29 114 = some (.invokevirtual 48, 3) := by decide +kernel
theorem mc29_117 : mr_C 29 117 = some (.aload_n 0, 1) := by decide +kernel
theorem mc29_118 : mr_C 29 118 = some (.getfield 12, 3) := by decide +kernel
theorem mc29_121 : mr_C 29 121 = some (.iload 4, 2) := by decide +kernel
theorem mc29_123 : mr_C 29 123 = some (.iconst 1, 1) := by decide +kernel
theorem mc29_124 : mr_C 29 124 = some (.iadd, 1) := by decide +kernel
theorem mc29_125 : mr_C 29 125 = some (.putfield 29, 3) := by decide +kernel
theorem mc29_128 : mr_C 29 128 = some (.aload_n 0, 1) := by decide +kernel
theorem mc29_129 : mr_C 29 129 = some (.getfield 21, 3) := by decide +kernel
theorem mc29_132 : mr_C 29 132 = some (.aload_n 3, 1) := by decide +kernel
theorem mc29_133 : mr_C 29 133 = some (.invokevirtual 52, 3) := by decide +kernel
theorem mc29_136 : mr_C 29 136 = some (.return_, 1) := by decide +kernel
theorem vc29_0 {sc : Nat × (Int → Int)} {Q : mm_R → mm_M → Prop} {M : mm_M} {l1 : Int} {l2 : Int} {l3 : Nat} (ho : mr_ok M) (hg_l1 : mr_rg l1) (hg_l2 : mr_rg l2) (hR_l3 : mr_Rw l3)
    (h : ((M.1 2 2) ≠ 0 → Q (.inl none) M) ∧ (¬ ((M.1 2 2) ≠ 0) → (l2 ≤ l1 → Q (.inl none) M) ∧ (¬ l2 ≤ l1 → en_CI sc 23 [mm_r l3] M (fun x1 M2 => mr_ok M2 → mr_rg x1 ∧ ((x1 = 0 → ∃ b5, M2.2.1 2 0 = some b5 ∧ mr_A b5 ∧ (((M2.1 b5 0) ≤ 0 → en_R sc 29 75 [mm_r 2, mm_i l1, mm_i l2, mm_r l3, mm_i (M2.1 b5 0)] [] M2 Q) ∧ (¬ (M2.1 b5 0) ≤ 0 → ∃ b7, M2.2.1 2 0 = some b7 ∧ mr_A b7 ∧ (0 ≤ ((M2.1 b5 0) - 1) ∧ (((M2.1 b5 0) - 1) < 100 ∧ (((M2.1 (b7 + 2) ((M2.1 b5 0) - 1)) ≠ l1 → en_R sc 29 75 [mm_r 2, mm_i l1, mm_i l2, mm_r l3, mm_i (M2.1 b5 0)] [] M2 Q) ∧ (¬ ((M2.1 (b7 + 2) ((M2.1 b5 0) - 1)) ≠ l1) → en_CI sc 24 [mm_r 9, mm_r l3, mm_u] M2 (fun x11 M12 => mr_ok M12 → mr_rg x11 ∧ ((x11 = 0 → en_R sc 29 75 [mm_r 2, mm_i l1, mm_i l2, mm_r l3, mm_i (M2.1 b5 0)] [] M12 Q) ∧ (¬ x11 = 0 → ∃ b15, M12.2.1 2 0 = some b15 ∧ mr_A b15 ∧ (0 ≤ ((M2.1 b5 0) - 1) ∧ (((M2.1 b5 0) - 1) < 100 ∧ (Q (.inl none) (mm_putN M12 (b15 + 2) ((M2.1 b5 0) - 1) l2))))))) (fun e M9 => Q (.inr e) M9)))))))) ∧ (¬ x1 = 0 → Q (.inl none) M2))) (fun e M9 => Q (.inr e) M9)))) : en_R sc 29 0 [mm_r 2, mm_i l1, mm_i l2, mm_r l3, mm_u] [] M Q := by
  refine en_aload_n mc29_0 rfl ?_
  refine en_getI mv29 mc29_1 (lk_f2_25) (⟨rfl, by decide⟩ : mt_kd[2]? = some (.inl 2) ∧ 2 < 99) (Or.inr rfl) ?_
  refine en_if_ne 19 mc29_4 (by decide) (ho.2.1 2 2 (by unfold mr_lg; omega)) (fun q => ?_) (fun q => ?_)
  · replace h := h.1 q
    exact en_vret mv29 mc29_19 rfl h
  · replace h := h.2 q
    refine en_iload_n mc29_7 rfl ?_
    refine en_iload_n mc29_8 rfl ?_
    refine en_icmp_ge 19 mc29_9 (by decide) hg_l1 hg_l2 (fun q => ?_) (fun q => ?_)
    · replace h := h.1 q
      exact en_vret mv29 mc29_19 rfl h
    · replace h := h.2 q
      refine en_aload_n mc29_12 rfl ?_
      refine en_callI (lz := [mm_r l3]) mv29 mc29_13 rfl rfl (lk_m2_33) mv23 rfl (by decide) rfl (mk_cokV rfl (mk_R0 hR_l3)) rfl (mk_nh rfl _) ho ?_
      refine en_CI_mono h (fun x1 M2 h => ?_) (fun _ _ h => h)
      intro ho3
      replace h := h ho3
      obtain ⟨g4, h⟩ := h
      refine en_if_eq 20 mc29_16 (by decide) g4 (fun q => ?_) (fun q => ?_)
      · replace h := h.1 q
        refine en_aload_n mc29_20 rfl ?_
        obtain ⟨b5, g6, hA_b5_, h⟩ := h
        refine en_getR mv29 mc29_21 (lk_f2_12) (⟨rfl, by decide⟩ : mt_kd[2]? = some (.inl 2) ∧ 2 < 99) rfl g6 ?_
        refine en_getI mv29 mc29_24 (lk_f2_29) (mk_A0 hA_b5_) (Or.inl rfl) ?_
        refine en_istore (ls' := [mm_r 2, mm_i l1, mm_i l2, mm_r l3, mm_i (M2.1 b5 0)]) mc29_27 (Nat.le_of_ble_eq_true rfl) rfl ?_
        refine en_iload mc29_29 rfl ?_
        refine en_if_le 75 mc29_31 (by decide) (ho3.2.1 b5 0 (mk_nA0 hA_b5_ _)) (fun q => ?_) (fun q => ?_)
        · replace h := h.1 q
          exact h
        · replace h := h.2 q
          refine en_aload_n mc29_34 rfl ?_
          obtain ⟨b7, g8, hA_b7_, h⟩ := h
          refine en_getR mv29 mc29_35 (lk_f2_12) (⟨rfl, by decide⟩ : mt_kd[2]? = some (.inl 2) ∧ 2 < 99) rfl g8 ?_
          obtain ⟨g9, h⟩ := h
          obtain ⟨g10, h⟩ := h
          refine en_getR (b := (b7 + 2)) mv29 mc29_38 (lk_f2_37) (mk_A0 hA_b7_) rfl (mk_fA2 hA_b7_ ho3) ?_
          refine en_iload mc29_41 rfl ?_
          refine en_iconst mc29_43 ?_
          refine en_isub mc29_44 ?_
          refine en_iald mc29_45 (mk_A2 hA_b7_) g9 g10 ?_
          refine en_iload_n mc29_46 rfl ?_
          refine en_icmp_ne 75 mc29_47 (by decide) (ho3.2.1 (b7 + 2) ((M2.1 b5 0) - 1) ((mk_nA2 hA_b7_) _)) hg_l1 (fun q => ?_) (fun q => ?_)
          · replace h := h.1 q
            exact h
          · replace h := h.2 q
            refine en_aload_n mc29_50 rfl ?_
            refine en_getR (b := 9) mv29 mc29_51 (lk_f2_21) (⟨rfl, by decide⟩ : mt_kd[2]? = some (.inl 2) ∧ 2 < 99) rfl (mk_fc ho3 (by decide +kernel)) ?_
            refine en_aload_n mc29_54 rfl ?_
            refine en_callI (lz := [mm_r 9, mm_r l3, mm_u]) mv29 mc29_55 rfl rfl (lk_m2_41) mv24 rfl (by decide) rfl (mk_cokV rfl (mk_R0 (by unfold mr_Rw; decide : mr_Rw 9))) rfl (mk_nh rfl _) ho3 ?_
            refine en_CI_mono h (fun x11 M12 h => ?_) (fun _ _ h => h)
            intro ho13
            replace h := h ho13
            obtain ⟨g14, h⟩ := h
            refine en_if_eq 75 mc29_58 (by decide) g14 (fun q => ?_) (fun q => ?_)
            · replace h := h.1 q
              exact h
            · replace h := h.2 q
              refine en_aload_n mc29_61 rfl ?_
              obtain ⟨b15, g16, hA_b15_, h⟩ := h
              refine en_getR mv29 mc29_62 (lk_f2_12) (⟨rfl, by decide⟩ : mt_kd[2]? = some (.inl 2) ∧ 2 < 99) rfl g16 ?_
              obtain ⟨g17, h⟩ := h
              obtain ⟨g18, h⟩ := h
              refine en_getR (b := (b15 + 2)) mv29 mc29_65 (lk_f2_37) (mk_A0 hA_b15_) rfl (mk_fA2 hA_b15_ ho13) ?_
              refine en_iload mc29_68 rfl ?_
              refine en_iconst mc29_70 ?_
              refine en_isub mc29_71 ?_
              refine en_iload_n mc29_72 rfl ?_
              refine en_iast mc29_73 (mk_A2 hA_b15_) g17 g18 hg_l2 ?_
              exact en_vret mv29 mc29_74 rfl h
      · replace h := h.2 q
        exact en_vret mv29 mc29_19 rfl h
theorem vc29_75 {sc : Nat × (Int → Int)} {Q : mm_R → mm_M → Prop} {M : mm_M} {l1 : Int} {l2 : Int} {l3 : Nat} {l4 : Int} (ho : mr_ok M) (hg_l4 : mr_rg l4) (hg_l1 : mr_rg l1) (hg_l2 : mr_rg l2)
    (h : (l4 ≠ 100 → ∃ b1, M.2.1 2 0 = some b1 ∧ mr_A b1 ∧ (0 ≤ l4 ∧ (l4 < 100 ∧ (∃ b5, (mm_putN M (b1 + 1) l4 l1).2.1 2 0 = some b5 ∧ mr_A b5 ∧ (0 ≤ l4 ∧ (l4 < 100 ∧ (en_CV sc 26 [mm_r 2, mm_i l4, mm_r l3, mm_u, mm_u] (mm_putN (mm_putN M (b1 + 1) l4 l1) (b5 + 2) l4 l2) (fun M10 => mr_ok M10 → ∃ b12, M10.2.1 2 0 = some b12 ∧ mr_A b12 ∧ (mr_rg (l4 + 1) ∧ (en_CV sc 28 [mm_r 9, mm_r l3] (mm_putN M10 b12 0 (l4 + 1)) (fun M16 => mr_ok M16 → Q (.inl none) M16) (fun e M9 => Q (.inr e) M9)))) (fun e M9 => Q (.inr e) M9)))))))) ∧ (¬ (l4 ≠ 100) → Q (.inl none) (mm_putN M 2 2 1))) : en_R sc 29 75 [mm_r 2, mm_i l1, mm_i l2, mm_r l3, mm_i l4] [] M Q := by
  refine en_iload mc29_75 rfl ?_
  refine en_bipush mc29_77 (by decide) ?_
  refine en_icmp_ne 88 mc29_79 (by decide) hg_l4 (⟨by decide, by decide⟩ : mr_rg 100) (fun q => ?_) (fun q => ?_)
  · replace h := h.1 q
    refine en_aload_n mc29_88 rfl ?_
    obtain ⟨b1, g2, hA_b1_, h⟩ := h
    refine en_getR mv29 mc29_89 (lk_f2_12) (⟨rfl, by decide⟩ : mt_kd[2]? = some (.inl 2) ∧ 2 < 99) rfl g2 ?_
    obtain ⟨g3, h⟩ := h
    obtain ⟨g4, h⟩ := h
    refine en_getR (b := (b1 + 1)) mv29 mc29_92 (lk_f2_45) (mk_A0 hA_b1_) rfl (mk_fA1 hA_b1_ ho) ?_
    refine en_iload mc29_95 rfl ?_
    refine en_iload_n mc29_97 rfl ?_
    refine en_iast mc29_98 (mk_A1 hA_b1_) g3 g4 hg_l1 ?_
    refine en_aload_n mc29_99 rfl ?_
    obtain ⟨b5, g6, hA_b5_, h⟩ := h
    refine en_getR mv29 mc29_100 (lk_f2_12) (⟨rfl, by decide⟩ : mt_kd[2]? = some (.inl 2) ∧ 2 < 99) rfl g6 ?_
    obtain ⟨g7, h⟩ := h
    obtain ⟨g8, h⟩ := h
    refine en_getR (b := (b5 + 2)) mv29 mc29_103 (lk_f2_37) (mk_A0 hA_b5_) rfl (mk_fA2 hA_b5_ (mr_ok_putI (a := (b1 + 1)) (k := l4) ho hg_l1)) ?_
    refine en_iload mc29_106 rfl ?_
    refine en_iload_n mc29_108 rfl ?_
    refine en_iast mc29_109 (mk_A2 hA_b5_) g7 g8 hg_l2 ?_
    refine en_aload_n mc29_110 rfl ?_
    refine en_iload mc29_111 rfl ?_
    refine en_aload_n mc29_113 rfl ?_
    refine en_callV (lz := [mm_r 2, mm_i l4, mm_r l3, mm_u, mm_u]) mv29 mc29_114 rfl rfl (lk_m2_48) mv26 rfl (by decide) rfl (mk_cokV rfl (⟨rfl, by decide⟩ : mt_kd[2]? = some (.inl 2) ∧ 2 < 99)) rfl (mk_nh rfl _) (mr_ok_putI (a := (b5 + 2)) (k := l4) (mr_ok_putI (a := (b1 + 1)) (k := l4) ho hg_l1) hg_l2) ?_
    refine en_CV_mono h (fun M10 h => ?_) (fun _ _ h => h)
    intro ho11
    replace h := h ho11
    refine en_aload_n mc29_117 rfl ?_
    obtain ⟨b12, g13, hA_b12_, h⟩ := h
    refine en_getR mv29 mc29_118 (lk_f2_12) (⟨rfl, by decide⟩ : mt_kd[2]? = some (.inl 2) ∧ 2 < 99) rfl g13 ?_
    obtain ⟨g14, h⟩ := h
    refine en_iload mc29_121 rfl ?_
    refine en_iconst mc29_123 ?_
    refine en_iadd mc29_124 ?_
    refine en_putI mv29 mc29_125 (lk_f2_29) (mk_A0 hA_b12_) rfl rfl g14 ?_
    refine en_aload_n mc29_128 rfl ?_
    refine en_getR (b := 9) mv29 mc29_129 (lk_f2_21) (⟨rfl, by decide⟩ : mt_kd[2]? = some (.inl 2) ∧ 2 < 99) rfl (mk_fc (mr_ok_putI (a := b12) (k := 0) ho11 g14) (by decide +kernel)) ?_
    refine en_aload_n mc29_132 rfl ?_
    refine en_callV (lz := [mm_r 9, mm_r l3]) mv29 mc29_133 rfl rfl (lk_m2_52) mv28 rfl (by decide) rfl (mk_cokV rfl (mk_R0 (by unfold mr_Rw; decide : mr_Rw 9))) rfl (mk_nh rfl _) (mr_ok_putI (a := b12) (k := 0) ho11 g14) ?_
    refine en_CV_mono h (fun M16 h => ?_) (fun _ _ h => h)
    intro ho17
    replace h := h ho17
    exact en_vret mv29 mc29_136 rfl h
  · replace h := h.2 q
    refine en_aload_n mc29_82 rfl ?_
    refine en_iconst mc29_83 ?_
    refine en_putZ mv29 mc29_84 (lk_f2_25) (⟨rfl, by decide⟩ : mt_kd[2]? = some (.inl 2) ∧ 2 < 99) rfl rfl (by decide) ?_
    exact en_vret mv29 mc29_87 rfl h
/-! 30: CellAreas.keep(I)I -/
theorem mc30_0 : mr_C 30 0 = some (.aload_n 0, 1) := rfl
theorem mc30_1 : mr_C 30 1 = some (.getfield 18, 3) := rfl
theorem mc30_4 : mr_C 30 4 = some (.getfield 95, 3) := rfl
theorem mc30_7 : mr_C 30 7 = some (.ifCond .eq (6), 3) := rfl
theorem mc30_10 : mr_C 30 10 = some (.bipush (-2), 2) := rfl
theorem mc30_12 : mr_C 30 12 = some (.ireturn, 1) := rfl
theorem mc30_13 : mr_C 30 13 = some (.aload_n 0, 1) := rfl
theorem mc30_14 : mr_C 30 14 = some (.getfield 11, 3) := rfl
theorem mc30_17 : mr_C 30 17 = some (.iload_n 1, 1) := rfl
theorem mc30_18 : mr_C 30 18 = some (.aaload, 1) := rfl
theorem mc30_19 : mr_C 30 19 = some (.astore_n 2, 1) := rfl
theorem mc30_20 : mr_C 30 20 = some (.aload_n 0, 1) := rfl
theorem mc30_21 : mr_C 30 21 = some (.getfield 11, 3) := rfl
theorem mc30_24 : mr_C 30 24 = some (.iload_n 1, 1) := rfl
theorem mc30_25 : mr_C 30 25 = some (.aload_n 0, 1) := rfl
theorem mc30_26 : mr_C 30 26 = some (.getfield 18, 3) := rfl
theorem mc30_29 : mr_C 30 29 = some (.getfield 248, 3) := rfl
theorem mc30_32 : mr_C 30 32 = some (.aastore, 1) := rfl
theorem mc30_33 : mr_C 30 33 = some (.aload_n 0, 1) := rfl
theorem mc30_34 : mr_C 30 34 = some (.getfield 18, 3) := rfl
theorem mc30_37 : mr_C 30 37 = some (.aload_n 2, 1) := rfl
theorem mc30_38 : mr_C 30 38 = some (.putfield 248, 3) := rfl
theorem mc30_41 : mr_C 30 41 = some (.aload_n 0, 1) := rfl
theorem mc30_42 : mr_C 30 42 = some (.getfield 42, 3) := rfl
theorem mc30_45 : mr_C 30 45 = some (.iload_n 1, 1) := rfl
theorem mc30_46 : mr_C 30 46 = some (.if_icmp .ne (8), 3) := rfl
theorem mc30_49 : mr_C 30 49 = some (.aload_n 0, 1) := rfl
theorem mc30_50 : mr_C 30 50 = some (.iconst (-1), 1) := rfl
theorem mc30_51 : mr_C 30 51 = some (.putfield 42, 3) := rfl
theorem mc30_54 : mr_C 30 54 = some (.aload_n 0, 1) := rfl
theorem mc30_55 : mr_C 30 55 = some (.getfield 11, 3) := rfl
theorem mc30_58 : mr_C 30 58 = some (.iload_n 1, 1) := rfl
theorem mc30_59 : mr_C 30 59 = some (.aaload, 1) := rfl
theorem mc30_60 : mr_C 30 60 = some (.getfield 118, 3) := rfl
theorem mc30_63 : mr_C 30 63 = some (.ireturn, 1) := rfl
theorem vc30_0 {sc : Nat × (Int → Int)} {Q : mm_R → mm_M → Prop} {M : mm_M} {l1 : Int} (ho : mr_ok M) (hg_l1 : mr_rg l1)
    (h : ((M.1 2 2) = 0 → 0 ≤ l1 ∧ (l1 < 8 ∧ (∃ b3, M.2.1 1 l1 = some b3 ∧ mr_A b3 ∧ (∃ b5, M.2.1 2 0 = some b5 ∧ mr_A b5 ∧ (0 ≤ l1 ∧ (l1 < 8 ∧ ((((mm_putR (mm_putR M 1 l1 (some b5)) 2 0 (some b3)).1 0 6) ≠ l1 → 0 ≤ l1 ∧ (l1 < 8 ∧ (∃ b11, (mm_putR (mm_putR M 1 l1 (some b5)) 2 0 (some b3)).2.1 1 l1 = some b11 ∧ mr_A b11 ∧ (Q (.inl (some (mm_i ((mm_putR (mm_putR M 1 l1 (some b5)) 2 0 (some b3)).1 b11 0)))) (mm_putR (mm_putR M 1 l1 (some b5)) 2 0 (some b3)))))) ∧ (¬ (((mm_putR (mm_putR M 1 l1 (some b5)) 2 0 (some b3)).1 0 6) ≠ l1) → 0 ≤ l1 ∧ (l1 < 8 ∧ (∃ b15, (mm_putN (mm_putR (mm_putR M 1 l1 (some b5)) 2 0 (some b3)) 0 6 (-1)).2.1 1 l1 = some b15 ∧ mr_A b15 ∧ (Q (.inl (some (mm_i ((mm_putN (mm_putR (mm_putR M 1 l1 (some b5)) 2 0 (some b3)) 0 6 (-1)).1 b15 0)))) (mm_putN (mm_putR (mm_putR M 1 l1 (some b5)) 2 0 (some b3)) 0 6 (-1))))))))))))) ∧ (¬ (M.1 2 2) = 0 → Q (.inl (some (mm_i (-2)))) M)) : en_R sc 30 0 [mm_r 0, mm_i l1, mm_u] [] M Q := by
  refine en_aload_n mc30_0 rfl ?_
  refine en_getR (b := 2) mv30 mc30_1 (lk_f6_18) (⟨rfl, by decide⟩ : mt_kd[0]? = some (.inl 6) ∧ 0 < 99) rfl (mk_fc ho (by decide +kernel)) ?_
  refine en_getI mv30 mc30_4 (lk_f6_95) (⟨rfl, by decide⟩ : mt_kd[2]? = some (.inl 2) ∧ 2 < 99) (Or.inr rfl) ?_
  refine en_if_eq 13 mc30_7 (by decide) (ho.2.1 2 2 (by unfold mr_lg; omega)) (fun q => ?_) (fun q => ?_)
  · replace h := h.1 q
    obtain ⟨g1, h⟩ := h
    obtain ⟨g2, h⟩ := h
    refine en_aload_n mc30_13 rfl ?_
    refine en_getR (b := 1) mv30 mc30_14 (lk_f6_11) (⟨rfl, by decide⟩ : mt_kd[0]? = some (.inl 6) ∧ 0 < 99) rfl (mk_fc ho (by decide +kernel)) ?_
    refine en_iload_n mc30_17 rfl ?_
    obtain ⟨b3, g4, hA_b3_, h⟩ := h
    refine en_aald mc30_18 g1 g2 g4 ?_
    refine en_astore_n (ls' := [mm_r 0, mm_i l1, mm_r b3]) mc30_19 (Nat.le_of_ble_eq_true rfl) rfl ?_
    refine en_aload_n mc30_20 rfl ?_
    refine en_getR (b := 1) mv30 mc30_21 (lk_f6_11) (⟨rfl, by decide⟩ : mt_kd[0]? = some (.inl 6) ∧ 0 < 99) rfl (mk_fc ho (by decide +kernel)) ?_
    refine en_iload_n mc30_24 rfl ?_
    refine en_aload_n mc30_25 rfl ?_
    refine en_getR (b := 2) mv30 mc30_26 (lk_f6_18) (⟨rfl, by decide⟩ : mt_kd[0]? = some (.inl 6) ∧ 0 < 99) rfl (mk_fc ho (by decide +kernel)) ?_
    obtain ⟨b5, g6, hA_b5_, h⟩ := h
    refine en_getR mv30 mc30_29 (lk_f6_248) (⟨rfl, by decide⟩ : mt_kd[2]? = some (.inl 2) ∧ 2 < 99) rfl g6 ?_
    obtain ⟨g7, h⟩ := h
    obtain ⟨g8, h⟩ := h
    refine en_aast mc30_32 g7 g8 (mk_A0 hA_b5_) ?_
    refine en_aload_n mc30_33 rfl ?_
    refine en_getR (b := 2) mv30 mc30_34 (lk_f6_18) (⟨rfl, by decide⟩ : mt_kd[0]? = some (.inl 6) ∧ 0 < 99) rfl (mk_fc (mr_ok_putR (a := 1) (k := l1) ho (fun e he z => mr_rf1 e he z.1)) (by decide +kernel)) ?_
    refine en_aload_n mc30_37 rfl ?_
    refine en_putR mv30 mc30_38 (lk_f6_248) (⟨rfl, by decide⟩ : mt_kd[2]? = some (.inl 2) ∧ 2 < 99) rfl rfl ?_
    refine en_aload_n mc30_41 rfl ?_
    refine en_getI mv30 mc30_42 (lk_f6_42) (⟨rfl, by decide⟩ : mt_kd[0]? = some (.inl 6) ∧ 0 < 99) (Or.inl rfl) ?_
    refine en_iload_n mc30_45 rfl ?_
    refine en_icmp_ne 54 mc30_46 (by decide) ((mr_ok_putR (a := 2) (k := 0) (mr_ok_putR (a := 1) (k := l1) ho (fun e he z => mr_rf1 e he z.1)) mr_rf2).2.1 0 6 (by unfold mr_lg; omega)) hg_l1 (fun q => ?_) (fun q => ?_)
    · replace h := h.1 q
      obtain ⟨g9, h⟩ := h
      obtain ⟨g10, h⟩ := h
      refine en_aload_n mc30_54 rfl ?_
      refine en_getR (b := 1) mv30 mc30_55 (lk_f6_11) (⟨rfl, by decide⟩ : mt_kd[0]? = some (.inl 6) ∧ 0 < 99) rfl (mk_fc (mr_ok_putR (a := 2) (k := 0) (mr_ok_putR (a := 1) (k := l1) ho (fun e he z => mr_rf1 e he z.1)) mr_rf2) (by decide +kernel)) ?_
      refine en_iload_n mc30_58 rfl ?_
      obtain ⟨b11, g12, hA_b11_, h⟩ := h
      refine en_aald mc30_59 g9 g10 g12 ?_
      refine en_getI mv30 mc30_60 (lk_f6_118) (mk_A0 hA_b11_) (Or.inl rfl) ?_
      exact en_iret mv30 mc30_63 rfl h
    · replace h := h.2 q
      obtain ⟨g13, h⟩ := h
      obtain ⟨g14, h⟩ := h
      refine en_aload_n mc30_49 rfl ?_
      refine en_iconst mc30_50 ?_
      refine en_putI mv30 mc30_51 (lk_f6_42) (⟨rfl, by decide⟩ : mt_kd[0]? = some (.inl 6) ∧ 0 < 99) rfl rfl (⟨by decide, by decide⟩ : mr_rg (-1)) ?_
      refine en_aload_n mc30_54 rfl ?_
      refine en_getR (b := 1) mv30 mc30_55 (lk_f6_11) (⟨rfl, by decide⟩ : mt_kd[0]? = some (.inl 6) ∧ 0 < 99) rfl (mk_fc (mr_ok_putI (a := 0) (k := 6) (mr_ok_putR (a := 2) (k := 0) (mr_ok_putR (a := 1) (k := l1) ho (fun e he z => mr_rf1 e he z.1)) mr_rf2) (⟨by decide, by decide⟩ : mr_rg (-1))) (by decide +kernel)) ?_
      refine en_iload_n mc30_58 rfl ?_
      obtain ⟨b15, g16, hA_b15_, h⟩ := h
      refine en_aald mc30_59 g13 g14 g16 ?_
      refine en_getI mv30 mc30_60 (lk_f6_118) (mk_A0 hA_b15_) (Or.inl rfl) ?_
      exact en_iret mv30 mc30_63 rfl h
  · replace h := h.2 q
    refine en_bipush mc30_10 (by decide) ?_
    exact en_iret mv30 mc30_12 rfl h
/-! 31: CellAreas.box(IIIII)V -/
theorem mc31_0 : mr_C 31 0 = some (.iload_n 1, 1) := rfl
theorem mc31_1 : mr_C 31 1 = some (.invokestatic 61, 3) := rfl
theorem mc31_4 : mr_C 31 4 = some (.iload_n 2, 1) := rfl
theorem mc31_5 : mr_C 31 5 = some (.sipush (-1000), 3) := rfl
theorem mc31_8 : mr_C 31 8 = some (.sipush 1000, 3) := rfl
theorem mc31_11 : mr_C 31 11 = some (.invokestatic 65, 3) := rfl
theorem mc31_14 : mr_C 31 14 = some (.iload_n 3, 1) := rfl
theorem mc31_15 : mr_C 31 15 = some (.sipush (-1000), 3) := rfl
theorem mc31_18 : mr_C 31 18 = some (.sipush 1000, 3) := rfl
theorem mc31_21 : mr_C 31 21 = some (.invokestatic 65, 3) := rfl
theorem mc31_24 : mr_C 31 24 = some (.iload 4, 2) := rfl
theorem mc31_26 : mr_C 31 26 = some (.iload_n 2, 1) := rfl
theorem mc31_27 : mr_C 31 27 = some (.iconst 1, 1) := rfl
theorem mc31_28 : mr_C 31 28 = some (.iadd, 1) := rfl
theorem mc31_29 : mr_C 31 29 = some (.sipush 1000, 3) := rfl
theorem mc31_32 : mr_C 31 32 = some (.invokestatic 65, 3) := rfl
theorem mc31_35 : mr_C 31 35 = some (.iload 5, 2) := rfl
theorem mc31_37 : mr_C 31 37 = some (.iload_n 3, 1) := rfl
theorem mc31_38 : mr_C 31 38 = some (.iconst 1, 1) := rfl
theorem mc31_39 : mr_C 31 39 = some (.iadd, 1) := rfl
theorem mc31_40 : mr_C 31 40 = some (.sipush 1000, 3) := rfl
theorem mc31_43 : mr_C 31 43 = some (.invokestatic 65, 3) := rfl
theorem mc31_46 : mr_C 31 46 = some (.aload_n 0, 1) := rfl
theorem mc31_47 : mr_C 31 47 = some (.getfield 25, 3) := rfl
theorem mc31_50 : mr_C 31 50 = some (.invokevirtual 69, 3) := rfl
theorem mc31_53 : mr_C 31 53 = some (.aload_n 0, 1) := rfl
theorem mc31_54 : mr_C 31 54 = some (.getfield 25, 3) := rfl
theorem mc31_57 : mr_C 31 57 = some (.iload_n 2, 1) := rfl
theorem mc31_58 : mr_C 31 58 = some (.iload 4, 2) := rfl
theorem mc31_60 : mr_C 31 60 = some (.invokevirtual 72, 3) := rfl
theorem mc31_63 : mr_C 31 63 = some (.aload_n 0, 1) := rfl
theorem mc31_64 : mr_C 31 64 = some (.getfield 18, 3) := rfl
theorem mc31_67 : mr_C 31 67 = some (.invokevirtual 76, 3) := rfl
theorem mc31_70 : mr_C 31 70 = some (.aload_n 0, 1) := rfl
theorem mc31_71 : mr_C 31 71 = some (.getfield 18, 3) := rfl
theorem mc31_74 : mr_C 31 74 = some (.iload_n 3, 1) := rfl
theorem mc31_75 : mr_C 31 75 = some (.iload 5, 2) := rfl
theorem mc31_77 : mr_C 31 77 = some (.aload_n 0, 1) := rfl
theorem mc31_78 : mr_C 31 78 = some (.getfield 25, 3) := rfl
theorem mc31_81 : mr_C 31 81 = some (.invokevirtual 79, 3) := rfl
theorem mc31_84 : mr_C 31 84 = some (.aload_n 0, 1) := rfl
theorem mc31_85 : mr_C 31 85 = some (.iload_n 1, 1) := rfl
theorem mc31_86 : mr_C 31 86 = some (.invokevirtual 83, 3) := rfl
theorem mc31_89 : mr_C 31 89 = some (.pop, 1) := rfl
theorem mc31_90 : mr_C 31 90 = some (.return_, 1) := rfl
theorem vc31_0 {sc : Nat × (Int → Int)} {Q : mm_R → mm_M → Prop} {M : mm_M} {l1 : Int} {l2 : Int} {l3 : Int} {l4 : Int} {l5 : Int} (ho : mr_ok M)
    (h : en_CV sc 9 [mm_i l1] M (fun M2 => mr_ok M2 → en_CV sc 10 [mm_i l2, mm_i (-1000), mm_i 1000] M2 (fun M5 => mr_ok M5 → en_CV sc 10 [mm_i l3, mm_i (-1000), mm_i 1000] M5 (fun M8 => mr_ok M8 → en_CV sc 10 [mm_i l4, mm_i (l2 + 1), mm_i 1000] M8 (fun M11 => mr_ok M11 → en_CV sc 10 [mm_i l5, mm_i (l3 + 1), mm_i 1000] M11 (fun M14 => mr_ok M14 → en_CV sc 12 [mm_r 11] M14 (fun M17 => mr_ok M17 → en_CV sc 17 [mm_r 11, mm_i l2, mm_i l4] M17 (fun M20 => mr_ok M20 → en_CV sc 18 [mm_r 2] M20 (fun M23 => mr_ok M23 → en_CV sc 29 [mm_r 2, mm_i l3, mm_i l5, mm_r 11, mm_u] M23 (fun M26 => mr_ok M26 → en_CI sc 30 [mm_r 0, mm_i l1, mm_u] M26 (fun x28 M29 => mr_ok M29 → Q (.inl none) M29) (fun e M9 => Q (.inr e) M9)) (fun e M9 => Q (.inr e) M9)) (fun e M9 => Q (.inr e) M9)) (fun e M9 => Q (.inr e) M9)) (fun e M9 => Q (.inr e) M9)) (fun e M9 => Q (.inr e) M9)) (fun e M9 => Q (.inr e) M9)) (fun e M9 => Q (.inr e) M9)) (fun e M9 => Q (.inr e) M9)) (fun e M9 => Q (.inr e) M9)) : en_R sc 31 0 [mm_r 0, mm_i l1, mm_i l2, mm_i l3, mm_i l4, mm_i l5] [] M Q := by
  refine en_iload_n mc31_0 rfl ?_
  refine en_callV (lz := [mm_i l1]) mv31 mc31_1 rfl rfl (lk_m6_61) mv9 rfl (by decide) rfl (mk_cokS rfl) rfl (mk_nh rfl _) ho ?_
  refine en_CV_mono h (fun M2 h => ?_) (fun _ _ h => h)
  intro ho3
  replace h := h ho3
  refine en_iload_n mc31_4 rfl ?_
  refine en_sipush mc31_5 (by decide) ?_
  refine en_sipush mc31_8 (by decide) ?_
  refine en_callV (lz := [mm_i l2, mm_i (-1000), mm_i 1000]) mv31 mc31_11 rfl rfl (lk_m6_65) mv10 rfl (by decide) rfl (mk_cokS rfl) rfl (mk_nh rfl _) ho3 ?_
  refine en_CV_mono h (fun M5 h => ?_) (fun _ _ h => h)
  intro ho6
  replace h := h ho6
  refine en_iload_n mc31_14 rfl ?_
  refine en_sipush mc31_15 (by decide) ?_
  refine en_sipush mc31_18 (by decide) ?_
  refine en_callV (lz := [mm_i l3, mm_i (-1000), mm_i 1000]) mv31 mc31_21 rfl rfl (lk_m6_65) mv10 rfl (by decide) rfl (mk_cokS rfl) rfl (mk_nh rfl _) ho6 ?_
  refine en_CV_mono h (fun M8 h => ?_) (fun _ _ h => h)
  intro ho9
  replace h := h ho9
  refine en_iload mc31_24 rfl ?_
  refine en_iload_n mc31_26 rfl ?_
  refine en_iconst mc31_27 ?_
  refine en_iadd mc31_28 ?_
  refine en_sipush mc31_29 (by decide) ?_
  refine en_callV (lz := [mm_i l4, mm_i (l2 + 1), mm_i 1000]) mv31 mc31_32 rfl rfl (lk_m6_65) mv10 rfl (by decide) rfl (mk_cokS rfl) rfl (mk_nh rfl _) ho9 ?_
  refine en_CV_mono h (fun M11 h => ?_) (fun _ _ h => h)
  intro ho12
  replace h := h ho12
  refine en_iload mc31_35 rfl ?_
  refine en_iload_n mc31_37 rfl ?_
  refine en_iconst mc31_38 ?_
  refine en_iadd mc31_39 ?_
  refine en_sipush mc31_40 (by decide) ?_
  refine en_callV (lz := [mm_i l5, mm_i (l3 + 1), mm_i 1000]) mv31 mc31_43 rfl rfl (lk_m6_65) mv10 rfl (by decide) rfl (mk_cokS rfl) rfl (mk_nh rfl _) ho12 ?_
  refine en_CV_mono h (fun M14 h => ?_) (fun _ _ h => h)
  intro ho15
  replace h := h ho15
  refine en_aload_n mc31_46 rfl ?_
  refine en_getR (b := 11) mv31 mc31_47 (lk_f6_25) (⟨rfl, by decide⟩ : mt_kd[0]? = some (.inl 6) ∧ 0 < 99) rfl (mk_fc ho15 (by decide +kernel)) ?_
  refine en_callV (lz := [mm_r 11]) mv31 mc31_50 rfl rfl (lk_m6_69) mv12 rfl (by decide) rfl (mk_cokV rfl (mk_R0 (by unfold mr_Rw; decide : mr_Rw 11))) rfl (mk_nh rfl _) ho15 ?_
  refine en_CV_mono h (fun M17 h => ?_) (fun _ _ h => h)
  intro ho18
  replace h := h ho18
  refine en_aload_n mc31_53 rfl ?_
  refine en_getR (b := 11) mv31 mc31_54 (lk_f6_25) (⟨rfl, by decide⟩ : mt_kd[0]? = some (.inl 6) ∧ 0 < 99) rfl (mk_fc ho18 (by decide +kernel)) ?_
  refine en_iload_n mc31_57 rfl ?_
  refine en_iload mc31_58 rfl ?_
  refine en_callV (lz := [mm_r 11, mm_i l2, mm_i l4]) mv31 mc31_60 rfl rfl (lk_m6_72) mv17 rfl (by decide) rfl (mk_cokV rfl (mk_R0 (by unfold mr_Rw; decide : mr_Rw 11))) rfl (mk_nh rfl _) ho18 ?_
  refine en_CV_mono h (fun M20 h => ?_) (fun _ _ h => h)
  intro ho21
  replace h := h ho21
  refine en_aload_n mc31_63 rfl ?_
  refine en_getR (b := 2) mv31 mc31_64 (lk_f6_18) (⟨rfl, by decide⟩ : mt_kd[0]? = some (.inl 6) ∧ 0 < 99) rfl (mk_fc ho21 (by decide +kernel)) ?_
  refine en_callV (lz := [mm_r 2]) mv31 mc31_67 rfl rfl (lk_m6_76) mv18 rfl (by decide) rfl (mk_cokV rfl (⟨rfl, by decide⟩ : mt_kd[2]? = some (.inl 2) ∧ 2 < 99)) rfl (mk_nh rfl _) ho21 ?_
  refine en_CV_mono h (fun M23 h => ?_) (fun _ _ h => h)
  intro ho24
  replace h := h ho24
  refine en_aload_n mc31_70 rfl ?_
  refine en_getR (b := 2) mv31 mc31_71 (lk_f6_18) (⟨rfl, by decide⟩ : mt_kd[0]? = some (.inl 6) ∧ 0 < 99) rfl (mk_fc ho24 (by decide +kernel)) ?_
  refine en_iload_n mc31_74 rfl ?_
  refine en_iload mc31_75 rfl ?_
  refine en_aload_n mc31_77 rfl ?_
  refine en_getR (b := 11) mv31 mc31_78 (lk_f6_25) (⟨rfl, by decide⟩ : mt_kd[0]? = some (.inl 6) ∧ 0 < 99) rfl (mk_fc ho24 (by decide +kernel)) ?_
  refine en_callV (lz := [mm_r 2, mm_i l3, mm_i l5, mm_r 11, mm_u]) mv31 mc31_81 rfl rfl (lk_m6_79) mv29 rfl (by decide) rfl (mk_cokV rfl (⟨rfl, by decide⟩ : mt_kd[2]? = some (.inl 2) ∧ 2 < 99)) rfl (mk_nh rfl _) ho24 ?_
  refine en_CV_mono h (fun M26 h => ?_) (fun _ _ h => h)
  intro ho27
  replace h := h ho27
  refine en_aload_n mc31_84 rfl ?_
  refine en_iload_n mc31_85 rfl ?_
  refine en_callI (lz := [mm_r 0, mm_i l1, mm_u]) mv31 mc31_86 rfl rfl (lk_m6_83) mv30 rfl (by decide) rfl (mk_cokV rfl (⟨rfl, by decide⟩ : mt_kd[0]? = some (.inl 6) ∧ 0 < 99)) rfl (mk_nh rfl _) ho27 ?_
  refine en_CI_mono h (fun x28 M29 h => ?_) (fun _ _ h => h)
  intro ho30
  replace h := h ho30
  refine en_pop mc31_89 rfl ?_
  exact en_vret mv31 mc31_90 rfl h
/-! 33: CellAreasModel.isIn(III)Z -/
theorem mc33_0 : mr_C 33 0 = some (.iload_n 0, 1) := rfl
theorem mc33_1 : mr_C 33 1 = some (.iload_n 1, 1) := rfl
theorem mc33_2 : mr_C 33 2 = some (.if_icmp .lt (12), 3) := rfl
theorem mc33_5 : mr_C 33 5 = some (.iload_n 0, 1) := rfl
theorem mc33_6 : mr_C 33 6 = some (.iload_n 2, 1) := rfl
theorem mc33_7 : mr_C 33 7 = some (.if_icmp .gt (7), 3) := rfl
theorem mc33_10 : mr_C 33 10 = some (.iconst 1, 1) := rfl
theorem mc33_11 : mr_C 33 11 = some (.goto 4, 3) := rfl
theorem mc33_14 : mr_C 33 14 = some (.iconst 0, 1) := rfl
theorem mc33_15 : mr_C 33 15 = some (.ireturn, 1) := rfl
theorem vc33_0 {sc : Nat × (Int → Int)} {Q : mm_R → mm_M → Prop} {M : mm_M} {l0 : Int} {l1 : Int} {l2 : Int} (ho : mr_ok M) (hg_l0 : mr_rg l0) (hg_l1 : mr_rg l1) (hg_l2 : mr_rg l2)
    (h : (l0 < l1 → Q (.inl (some (mm_i 0))) M) ∧ (¬ l0 < l1 → (l2 < l0 → Q (.inl (some (mm_i 0))) M) ∧ (¬ l2 < l0 → Q (.inl (some (mm_i 1))) M))) : en_R sc 33 0 [mm_i l0, mm_i l1, mm_i l2] [] M Q := by
  refine en_iload_n mc33_0 rfl ?_
  refine en_iload_n mc33_1 rfl ?_
  refine en_icmp_lt 14 mc33_2 (by decide) hg_l0 hg_l1 (fun q => ?_) (fun q => ?_)
  · replace h := h.1 q
    refine en_iconst mc33_14 ?_
    exact en_zret mv33 mc33_15 rfl (by decide) h
  · replace h := h.2 q
    refine en_iload_n mc33_5 rfl ?_
    refine en_iload_n mc33_6 rfl ?_
    refine en_icmp_gt 14 mc33_7 (by decide) hg_l0 hg_l2 (fun q => ?_) (fun q => ?_)
    · replace h := h.1 q
      refine en_iconst mc33_14 ?_
      exact en_zret mv33 mc33_15 rfl (by decide) h
    · replace h := h.2 q
      refine en_iconst mc33_10 ?_
      refine en_goto 15 mc33_11 (by decide) ?_
      exact en_zret mv33 mc33_15 rfl (by decide) h
/-! 34: CellAreasModel.isArea(I)Z -/
theorem mc34_0 : mr_C 34 0 = some (.iload_n 1, 1) := rfl
theorem mc34_1 : mr_C 34 1 = some (.ifCond .lt (13), 3) := rfl
theorem mc34_4 : mr_C 34 4 = some (.iload_n 1, 1) := rfl
theorem mc34_5 : mr_C 34 5 = some (.bipush 8, 2) := rfl
theorem mc34_7 : mr_C 34 7 = some (.if_icmp .ge (7), 3) := rfl
theorem mc34_10 : mr_C 34 10 = some (.iconst 1, 1) := rfl
theorem mc34_11 : mr_C 34 11 = some (.goto 4, 3) := rfl
theorem mc34_14 : mr_C 34 14 = some (.iconst 0, 1) := rfl
theorem mc34_15 : mr_C 34 15 = some (.ireturn, 1) := rfl
theorem vc34_0 {sc : Nat × (Int → Int)} {Q : mm_R → mm_M → Prop} {M : mm_M} {l1 : Int} (ho : mr_ok M) (hg_l1 : mr_rg l1)
    (h : (l1 < 0 → Q (.inl (some (mm_i 0))) M) ∧ (¬ l1 < 0 → (8 ≤ l1 → Q (.inl (some (mm_i 0))) M) ∧ (¬ 8 ≤ l1 → Q (.inl (some (mm_i 1))) M))) : en_R sc 34 0 [mm_r 72, mm_i l1] [] M Q := by
  refine en_iload_n mc34_0 rfl ?_
  refine en_if_lt 14 mc34_1 (by decide) hg_l1 (fun q => ?_) (fun q => ?_)
  · replace h := h.1 q
    refine en_iconst mc34_14 ?_
    exact en_zret mv34 mc34_15 rfl (by decide) h
  · replace h := h.2 q
    refine en_iload_n mc34_4 rfl ?_
    refine en_bipush mc34_5 (by decide) ?_
    refine en_icmp_ge 14 mc34_7 (by decide) hg_l1 (⟨by decide, by decide⟩ : mr_rg 8) (fun q => ?_) (fun q => ?_)
    · replace h := h.1 q
      refine en_iconst mc34_14 ?_
      exact en_zret mv34 mc34_15 rfl (by decide) h
    · replace h := h.2 q
      refine en_iconst mc34_10 ?_
      refine en_goto 15 mc34_11 (by decide) ?_
      exact en_zret mv34 mc34_15 rfl (by decide) h
/-! 35: CellAreasModel.begin()V -/
theorem mc35_0 : mr_C 35 0 = some (.aload_n 0, 1) := rfl
theorem mc35_1 : mr_C 35 1 = some (.getfield 22, 3) := rfl
theorem mc35_4 : mr_C 35 4 = some (.bipush 8, 2) := rfl
theorem mc35_6 : mr_C 35 6 = some (.iconst 0, 1) := rfl
theorem mc35_7 : mr_C 35 7 = some (.iastore, 1) := rfl
theorem mc35_8 : mr_C 35 8 = some (.aload_n 0, 1) := rfl
theorem mc35_9 : mr_C 35 9 = some (.getfield 31, 3) := rfl
theorem mc35_12 : mr_C 35 12 = some (.bipush 8, 2) := rfl
theorem mc35_14 : mr_C 35 14 = some (.iconst 0, 1) := rfl
theorem mc35_15 : mr_C 35 15 = some (.iastore, 1) := rfl
theorem mc35_16 : mr_C 35 16 = some (.aload_n 0, 1) := rfl
theorem mc35_17 : mr_C 35 17 = some (.iconst 0, 1) := rfl
theorem mc35_18 : mr_C 35 18 = some (.putfield 93, 3) := rfl
theorem mc35_21 : mr_C 35 21 = some (.aload_n 0, 1) := rfl
theorem mc35_22 : mr_C 35 22 = some (.iconst 0, 1) := rfl
theorem mc35_23 : mr_C 35 23 = some (.putfield 97, 3) := rfl
theorem mc35_26 : mr_C 35 26 = some (.return_, 1) := rfl
theorem vc35_0 {sc : Nat × (Int → Int)} {Q : mm_R → mm_M → Prop} {M : mm_M} (ho : mr_ok M)
    (h : Q (.inl none) (mm_putN (mm_putN (mm_putN (mm_putN M 77 8 0) 80 8 0) 72 20 0) 72 19 0)) : en_R sc 35 0 [mm_r 72] [] M Q := by
  refine en_aload_n mc35_0 rfl ?_
  refine en_getR (b := 77) mv35 mc35_1 (lk_f7_22) (⟨rfl, by decide⟩ : mt_kd[72]? = some (.inl 7) ∧ 72 < 99) rfl (mk_fc ho (by decide +kernel)) ?_
  refine en_bipush mc35_4 (by decide) ?_
  refine en_iconst mc35_6 ?_
  refine en_iast mc35_7 (⟨rfl, by decide, by decide⟩ : mt_kd[77]? = some (.inr (.int, 9)) ∧ 77 < 99 ∧ 9 < 2147483648) (by decide) (by decide) (⟨by decide, by decide⟩ : mr_rg 0) ?_
  refine en_aload_n mc35_8 rfl ?_
  refine en_getR (b := 80) mv35 mc35_9 (lk_f7_31) (⟨rfl, by decide⟩ : mt_kd[72]? = some (.inl 7) ∧ 72 < 99) rfl (mk_fc (mr_ok_putI (a := 77) (k := 8) ho (⟨by decide, by decide⟩ : mr_rg 0)) (by decide +kernel)) ?_
  refine en_bipush mc35_12 (by decide) ?_
  refine en_iconst mc35_14 ?_
  refine en_iast mc35_15 (⟨rfl, by decide, by decide⟩ : mt_kd[80]? = some (.inr (.int, 9)) ∧ 80 < 99 ∧ 9 < 2147483648) (by decide) (by decide) (⟨by decide, by decide⟩ : mr_rg 0) ?_
  refine en_aload_n mc35_16 rfl ?_
  refine en_iconst mc35_17 ?_
  refine en_putZ mv35 mc35_18 (lk_f7_93) (⟨rfl, by decide⟩ : mt_kd[72]? = some (.inl 7) ∧ 72 < 99) rfl rfl (by decide) ?_
  refine en_aload_n mc35_21 rfl ?_
  refine en_iconst mc35_22 ?_
  refine en_putI mv35 mc35_23 (lk_f7_97) (⟨rfl, by decide⟩ : mt_kd[72]? = some (.inl 7) ∧ 72 < 99) rfl rfl (⟨by decide, by decide⟩ : mr_rg 0) ?_
  exact en_vret mv35 mc35_26 rfl h
/-! 36: CellAreasModel.push(II)V -/
theorem mc36_0 : mr_C 36 0 = some (.aload_n 0, 1) := rfl
theorem mc36_1 : mr_C 36 1 = some (.getfield 100, 3) := rfl
theorem mc36_4 : mr_C 36 4 = some (.ifCond .le (62), 3) := rfl
theorem mc36_7 : mr_C 36 7 = some (.aload_n 0, 1) := rfl
theorem mc36_8 : mr_C 36 8 = some (.getfield 49, 3) := rfl
theorem mc36_11 : mr_C 36 11 = some (.aload_n 0, 1) := rfl
theorem mc36_12 : mr_C 36 12 = some (.getfield 100, 3) := rfl
theorem mc36_15 : mr_C 36 15 = some (.iconst 1, 1) := rfl
theorem mc36_16 : mr_C 36 16 = some (.isub, 1) := rfl
theorem mc36_17 : mr_C 36 17 = some (.iaload, 1) := rfl
theorem mc36_18 : mr_C 36 18 = some (.iload_n 1, 1) := rfl
theorem mc36_19 : mr_C 36 19 = some (.if_icmp .lt (47), 3) := rfl
theorem mc36_22 : mr_C 36 22 = some (.aload_n 0, 1) := rfl
theorem mc36_23 : mr_C 36 23 = some (.getfield 49, 3) := rfl
theorem mc36_26 : mr_C 36 26 = some (.aload_n 0, 1) := rfl
theorem mc36_27 : mr_C 36 27 = some (.getfield 100, 3) := rfl
theorem mc36_30 : mr_C 36 30 = some (.iconst 1, 1) := rfl
theorem mc36_31 : mr_C 36 31 = some (.isub, 1) := rfl
theorem mc36_32 : mr_C 36 32 = some (.iload_n 2, 1) := rfl
theorem mc36_33 : mr_C 36 33 = some (.aload_n 0, 1) := rfl
theorem mc36_34 : mr_C 36 34 = some (.getfield 49, 3) := rfl
theorem mc36_37 : mr_C 36 37 = some (.aload_n 0, 1) := rfl
theorem mc36_38 : mr_C 36 38 = some (.getfield 100, 3) := rfl
theorem mc36_41 : mr_C 36 41 = some (.iconst 1, 1) := rfl
theorem mc36_42 : mr_C 36 42 = some (.isub, 1) := rfl
theorem mc36_43 : mr_C 36 43 = some (.iaload, 1) := rfl
theorem mc36_44 : mr_C 36 44 = some (.if_icmp .le (7), 3) := rfl
theorem mc36_47 : mr_C 36 47 = some (.iload_n 2, 1) := rfl
theorem mc36_48 : mr_C 36 48 = some (.goto 14, 3) := rfl
theorem mc36_51 : mr_C 36 51 = some (.aload_n 0, 1) := rfl
theorem mc36_52 : mr_C 36 52 = some (.getfield 49, 3) := rfl
theorem mc36_55 : mr_C 36 55 = some (.aload_n 0, 1) := rfl
theorem mc36_56 : mr_C 36 56 = some (.getfield 100, 3) := rfl
theorem mc36_59 : mr_C 36 59 = some (.iconst 1, 1) := rfl
theorem mc36_60 : mr_C 36 60 = some (.isub, 1) := rfl
theorem mc36_61 : mr_C 36 61 = some (.iaload, 1) := rfl
theorem mc36_62 : mr_C 36 62 = some (.iastore, 1) := rfl
theorem mc36_63 : mr_C 36 63 = some (.goto 38, 3) := rfl
theorem mc36_66 : mr_C 36 66 = some (.iload_n 1, 1) := rfl
theorem mc36_67 : mr_C 36 67 = some (.iload_n 2, 1) := rfl
theorem mc36_68 : mr_C 36 68 = some (.if_icmp .ge (33), 3) := rfl
theorem mc36_71 : mr_C 36 71 = some (.aload_n 0, 1) := rfl
theorem mc36_72 : mr_C 36 72 = some (.getfield 46, 3) := rfl
theorem mc36_75 : mr_C 36 75 = some (.aload_n 0, 1) := rfl
theorem mc36_76 : mr_C 36 76 = some (.getfield 100, 3) := rfl
theorem mc36_79 : mr_C 36 79 = some (.iload_n 1, 1) := rfl
theorem mc36_80 : mr_C 36 80 = some (.iastore, 1) := rfl
theorem mc36_81 : mr_C 36 81 = some (.aload_n 0, 1) := rfl
theorem mc36_82 : mr_C 36 82 = some (.getfield 49, 3) := rfl
theorem mc36_85 : mr_C 36 85 = some (.aload_n 0, 1) := rfl
theorem mc36_86 : mr_C 36 86 = some (.getfield 100, 3) := rfl
theorem mc36_89 : mr_C 36 89 = some (.iload_n 2, 1) := rfl
theorem mc36_90 : mr_C 36 90 = some (.iastore, 1) := by decide +kernel
theorem mc36_91 : mr_C 36 91 = some (.aload_n 0, 1) := by decide +kernel
theorem mc36_92 : mr_C 36 92 = some (.dup, 1) := by decide +kernel
theorem mc36_93 : mr_C 36 93 = some (.getfield 100, 3) := by decide +kernel
theorem mc36_96 : mr_C 36 96 = some (.iconst 1, 1) := by decide +kernel
theorem mc36_97 : mr_C 36 97 = some (.iadd, 1) := by decide +kernel
theorem mc36_98 : mr_C 36 98 = some (.putfield 100, 3) := by decide +kernel
theorem mc36_101 : mr_C 36 101 = some (.return_, 1) := by decide +kernel
theorem vc36_0 {sc : Nat × (Int → Int)} {Q : mm_R → mm_M → Prop} {M : mm_M} {l1 : Int} {l2 : Int} (ho : mr_ok M) (hg_l1 : mr_rg l1) (hg_l2 : mr_rg l2)
    (h : ((M.1 72 17) ≤ 0 → en_R sc 36 66 [mm_r 72, mm_i l1, mm_i l2] [] M Q) ∧ (¬ (M.1 72 17) ≤ 0 → 0 ≤ ((M.1 72 17) - 1) ∧ (((M.1 72 17) - 1) < 1200 ∧ (((M.1 86 ((M.1 72 17) - 1)) < l1 → en_R sc 36 66 [mm_r 72, mm_i l1, mm_i l2] [] M Q) ∧ (¬ (M.1 86 ((M.1 72 17) - 1)) < l1 → 0 ≤ ((M.1 72 17) - 1) ∧ (((M.1 72 17) - 1) < 1200 ∧ ((l2 ≤ (M.1 86 ((M.1 72 17) - 1)) → 0 ≤ ((M.1 72 17) - 1) ∧ (((M.1 72 17) - 1) < 1200 ∧ (0 ≤ ((M.1 72 17) - 1) ∧ (((M.1 72 17) - 1) < 1200 ∧ (Q (.inl none) (mm_putN M 86 ((M.1 72 17) - 1) (M.1 86 ((M.1 72 17) - 1)))))))) ∧ (¬ l2 ≤ (M.1 86 ((M.1 72 17) - 1)) → 0 ≤ ((M.1 72 17) - 1) ∧ (((M.1 72 17) - 1) < 1200 ∧ (Q (.inl none) (mm_putN M 86 ((M.1 72 17) - 1) l2))))))))))) : en_R sc 36 0 [mm_r 72, mm_i l1, mm_i l2] [] M Q := by
  refine en_aload_n mc36_0 rfl ?_
  refine en_getI mv36 mc36_1 (lk_f7_100) (⟨rfl, by decide⟩ : mt_kd[72]? = some (.inl 7) ∧ 72 < 99) (Or.inl rfl) ?_
  refine en_if_le 66 mc36_4 (by decide) (ho.2.1 72 17 (by unfold mr_lg; omega)) (fun q => ?_) (fun q => ?_)
  · replace h := h.1 q
    exact h
  · replace h := h.2 q
    obtain ⟨g1, h⟩ := h
    obtain ⟨g2, h⟩ := h
    refine en_aload_n mc36_7 rfl ?_
    refine en_getR (b := 86) mv36 mc36_8 (lk_f7_49) (⟨rfl, by decide⟩ : mt_kd[72]? = some (.inl 7) ∧ 72 < 99) rfl (mk_fc ho (by decide +kernel)) ?_
    refine en_aload_n mc36_11 rfl ?_
    refine en_getI mv36 mc36_12 (lk_f7_100) (⟨rfl, by decide⟩ : mt_kd[72]? = some (.inl 7) ∧ 72 < 99) (Or.inl rfl) ?_
    refine en_iconst mc36_15 ?_
    refine en_isub mc36_16 ?_
    refine en_iald mc36_17 (⟨rfl, by decide, by decide⟩ : mt_kd[86]? = some (.inr (.int, 1200)) ∧ 86 < 99 ∧ 1200 < 2147483648) g1 g2 ?_
    refine en_iload_n mc36_18 rfl ?_
    refine en_icmp_lt 66 mc36_19 (by decide) (ho.2.1 86 ((M.1 72 17) - 1) (by unfold mr_lg; omega)) hg_l1 (fun q => ?_) (fun q => ?_)
    · replace h := h.1 q
      exact h
    · replace h := h.2 q
      obtain ⟨g3, h⟩ := h
      obtain ⟨g4, h⟩ := h
      refine en_aload_n mc36_22 rfl ?_
      refine en_getR (b := 86) mv36 mc36_23 (lk_f7_49) (⟨rfl, by decide⟩ : mt_kd[72]? = some (.inl 7) ∧ 72 < 99) rfl (mk_fc ho (by decide +kernel)) ?_
      refine en_aload_n mc36_26 rfl ?_
      refine en_getI mv36 mc36_27 (lk_f7_100) (⟨rfl, by decide⟩ : mt_kd[72]? = some (.inl 7) ∧ 72 < 99) (Or.inl rfl) ?_
      refine en_iconst mc36_30 ?_
      refine en_isub mc36_31 ?_
      refine en_iload_n mc36_32 rfl ?_
      refine en_aload_n mc36_33 rfl ?_
      refine en_getR (b := 86) mv36 mc36_34 (lk_f7_49) (⟨rfl, by decide⟩ : mt_kd[72]? = some (.inl 7) ∧ 72 < 99) rfl (mk_fc ho (by decide +kernel)) ?_
      refine en_aload_n mc36_37 rfl ?_
      refine en_getI mv36 mc36_38 (lk_f7_100) (⟨rfl, by decide⟩ : mt_kd[72]? = some (.inl 7) ∧ 72 < 99) (Or.inl rfl) ?_
      refine en_iconst mc36_41 ?_
      refine en_isub mc36_42 ?_
      refine en_iald mc36_43 (⟨rfl, by decide, by decide⟩ : mt_kd[86]? = some (.inr (.int, 1200)) ∧ 86 < 99 ∧ 1200 < 2147483648) g3 g4 ?_
      refine en_icmp_le 51 mc36_44 (by decide) hg_l2 (ho.2.1 86 ((M.1 72 17) - 1) (by unfold mr_lg; omega)) (fun q => ?_) (fun q => ?_)
      · replace h := h.1 q
        obtain ⟨g5, h⟩ := h
        obtain ⟨g6, h⟩ := h
        obtain ⟨g7, h⟩ := h
        obtain ⟨g8, h⟩ := h
        refine en_aload_n mc36_51 rfl ?_
        refine en_getR (b := 86) mv36 mc36_52 (lk_f7_49) (⟨rfl, by decide⟩ : mt_kd[72]? = some (.inl 7) ∧ 72 < 99) rfl (mk_fc ho (by decide +kernel)) ?_
        refine en_aload_n mc36_55 rfl ?_
        refine en_getI mv36 mc36_56 (lk_f7_100) (⟨rfl, by decide⟩ : mt_kd[72]? = some (.inl 7) ∧ 72 < 99) (Or.inl rfl) ?_
        refine en_iconst mc36_59 ?_
        refine en_isub mc36_60 ?_
        refine en_iald mc36_61 (⟨rfl, by decide, by decide⟩ : mt_kd[86]? = some (.inr (.int, 1200)) ∧ 86 < 99 ∧ 1200 < 2147483648) g5 g6 ?_
        refine en_iast mc36_62 (⟨rfl, by decide, by decide⟩ : mt_kd[86]? = some (.inr (.int, 1200)) ∧ 86 < 99 ∧ 1200 < 2147483648) g7 g8 (ho.2.1 86 ((M.1 72 17) - 1) (by unfold mr_lg; omega)) ?_
        refine en_goto 101 mc36_63 (by decide) ?_
        exact en_vret mv36 mc36_101 rfl h
      · replace h := h.2 q
        obtain ⟨g9, h⟩ := h
        obtain ⟨g10, h⟩ := h
        refine en_iload_n mc36_47 rfl ?_
        refine en_goto 62 mc36_48 (by decide) ?_
        refine en_iast mc36_62 (⟨rfl, by decide, by decide⟩ : mt_kd[86]? = some (.inr (.int, 1200)) ∧ 86 < 99 ∧ 1200 < 2147483648) g9 g10 hg_l2 ?_
        refine en_goto 101 mc36_63 (by decide) ?_
        exact en_vret mv36 mc36_101 rfl h
theorem vc36_66 {sc : Nat × (Int → Int)} {Q : mm_R → mm_M → Prop} {M : mm_M} {l1 : Int} {l2 : Int} (ho : mr_ok M) (hg_l1 : mr_rg l1) (hg_l2 : mr_rg l2)
    (h : (l2 ≤ l1 → Q (.inl none) M) ∧ (¬ l2 ≤ l1 → 0 ≤ (M.1 72 17) ∧ ((M.1 72 17) < 1200 ∧ (0 ≤ ((mm_putN M 85 (M.1 72 17) l1).1 72 17) ∧ (((mm_putN M 85 (M.1 72 17) l1).1 72 17) < 1200 ∧ (mr_rg (((mm_putN (mm_putN M 85 (M.1 72 17) l1) 86 ((mm_putN M 85 (M.1 72 17) l1).1 72 17) l2).1 72 17) + 1) ∧ (Q (.inl none) (mm_putN (mm_putN (mm_putN M 85 (M.1 72 17) l1) 86 ((mm_putN M 85 (M.1 72 17) l1).1 72 17) l2) 72 17 (((mm_putN (mm_putN M 85 (M.1 72 17) l1) 86 ((mm_putN M 85 (M.1 72 17) l1).1 72 17) l2).1 72 17) + 1))))))))) : en_R sc 36 66 [mm_r 72, mm_i l1, mm_i l2] [] M Q := by
  refine en_iload_n mc36_66 rfl ?_
  refine en_iload_n mc36_67 rfl ?_
  refine en_icmp_ge 101 mc36_68 (by decide) hg_l1 hg_l2 (fun q => ?_) (fun q => ?_)
  · replace h := h.1 q
    exact en_vret mv36 mc36_101 rfl h
  · replace h := h.2 q
    obtain ⟨g1, h⟩ := h
    obtain ⟨g2, h⟩ := h
    obtain ⟨g3, h⟩ := h
    obtain ⟨g4, h⟩ := h
    obtain ⟨g5, h⟩ := h
    refine en_aload_n mc36_71 rfl ?_
    refine en_getR (b := 85) mv36 mc36_72 (lk_f7_46) (⟨rfl, by decide⟩ : mt_kd[72]? = some (.inl 7) ∧ 72 < 99) rfl (mk_fc ho (by decide +kernel)) ?_
    refine en_aload_n mc36_75 rfl ?_
    refine en_getI mv36 mc36_76 (lk_f7_100) (⟨rfl, by decide⟩ : mt_kd[72]? = some (.inl 7) ∧ 72 < 99) (Or.inl rfl) ?_
    refine en_iload_n mc36_79 rfl ?_
    refine en_iast mc36_80 (⟨rfl, by decide, by decide⟩ : mt_kd[85]? = some (.inr (.int, 1200)) ∧ 85 < 99 ∧ 1200 < 2147483648) g1 g2 hg_l1 ?_
    refine en_aload_n mc36_81 rfl ?_
    refine en_getR (b := 86) mv36 mc36_82 (lk_f7_49) (⟨rfl, by decide⟩ : mt_kd[72]? = some (.inl 7) ∧ 72 < 99) rfl (mk_fc (mr_ok_putI (a := 85) (k := (M.1 72 17)) ho hg_l1) (by decide +kernel)) ?_
    refine en_aload_n mc36_85 rfl ?_
    refine en_getI mv36 mc36_86 (lk_f7_100) (⟨rfl, by decide⟩ : mt_kd[72]? = some (.inl 7) ∧ 72 < 99) (Or.inl rfl) ?_
    refine en_iload_n mc36_89 rfl ?_
    refine en_iast mc36_90 (⟨rfl, by decide, by decide⟩ : mt_kd[86]? = some (.inr (.int, 1200)) ∧ 86 < 99 ∧ 1200 < 2147483648) g3 g4 hg_l2 ?_
    refine en_aload_n mc36_91 rfl ?_
    refine en_dup mc36_92 rfl ?_
    refine en_getI mv36 mc36_93 (lk_f7_100) (⟨rfl, by decide⟩ : mt_kd[72]? = some (.inl 7) ∧ 72 < 99) (Or.inl rfl) ?_
    refine en_iconst mc36_96 ?_
    refine en_iadd mc36_97 ?_
    refine en_putI mv36 mc36_98 (lk_f7_100) (⟨rfl, by decide⟩ : mt_kd[72]? = some (.inl 7) ∧ 72 < 99) rfl rfl g5 ?_
    exact en_vret mv36 mc36_101 rfl h
/-! 37: CellAreasModel.isLikeLast()Z -/
theorem mc37_0 : mr_C 37 0 = some (.sipush 816, 3) := rfl
theorem mc37_3 : mr_C 37 3 = some (.aload_n 0, 1) := rfl
theorem mc37_4 : mr_C 37 4 = some (.getfield 22, 3) := rfl
theorem mc37_7 : mr_C 37 7 = some (.bipush 8, 2) := rfl
theorem mc37_9 : mr_C 37 9 = some (.iaload, 1) := rfl
theorem mc37_10 : mr_C 37 10 = some (.iadd, 1) := rfl
theorem mc37_11 : mr_C 37 11 = some (.iconst 1, 1) := rfl
theorem mc37_12 : mr_C 37 12 = some (.isub, 1) := rfl
theorem mc37_13 : mr_C 37 13 = some (.istore_n 1, 1) := rfl
theorem mc37_14 : mr_C 37 14 = some (.aload_n 0, 1) := rfl
theorem mc37_15 : mr_C 37 15 = some (.getfield 19, 3) := rfl
theorem mc37_18 : mr_C 37 18 = some (.iload_n 1, 1) := rfl
theorem mc37_19 : mr_C 37 19 = some (.iaload, 1) := rfl
theorem mc37_20 : mr_C 37 20 = some (.aload_n 0, 1) := rfl
theorem mc37_21 : mr_C 37 21 = some (.getfield 100, 3) := rfl
theorem mc37_24 : mr_C 37 24 = some (.if_icmp .ne (7), 3) := rfl
theorem mc37_27 : mr_C 37 27 = some (.iconst 1, 1) := rfl
theorem mc37_28 : mr_C 37 28 = some (.goto 4, 3) := rfl
theorem mc37_31 : mr_C 37 31 = some (.iconst 0, 1) := rfl
theorem mc37_32 : mr_C 37 32 = some (.istore_n 2, 1) := rfl
theorem mc37_33 : mr_C 37 33 = some (.iconst 0, 1) := rfl
theorem mc37_34 : mr_C 37 34 = some (.istore_n 3, 1) := rfl
theorem mc37_35 : mr_C 37 35 = some (.iload_n 3, 1) := rfl
theorem mc37_36 : mr_C 37 36 = some (.aload_n 0, 1) := rfl
theorem mc37_37 : mr_C 37 37 = some (.getfield 100, 3) := rfl
theorem mc37_40 : mr_C 37 40 = some (.if_icmp .ge (63), 3) := rfl
theorem mc37_43 : mr_C 37 43 = some (.iload_n 2, 1) := rfl
theorem mc37_44 : mr_C 37 44 = some (.ifCond .eq (59), 3) := rfl
theorem mc37_47 : mr_C 37 47 = some (.aload_n 0, 1) := rfl
theorem mc37_48 : mr_C 37 48 = some (.getfield 25, 3) := rfl
theorem mc37_51 : mr_C 37 51 = some (.aload_n 0, 1) := rfl
theorem mc37_52 : mr_C 37 52 = some (.getfield 16, 3) := rfl
theorem mc37_55 : mr_C 37 55 = some (.iload_n 1, 1) := rfl
theorem mc37_56 : mr_C 37 56 = some (.iaload, 1) := rfl
theorem mc37_57 : mr_C 37 57 = some (.iload_n 3, 1) := rfl
theorem mc37_58 : mr_C 37 58 = some (.iadd, 1) := rfl
theorem mc37_59 : mr_C 37 59 = some (.iaload, 1) := rfl
theorem mc37_60 : mr_C 37 60 = some (.aload_n 0, 1) := rfl
theorem mc37_61 : mr_C 37 61 = some (.getfield 46, 3) := rfl
theorem mc37_64 : mr_C 37 64 = some (.iload_n 3, 1) := rfl
theorem mc37_65 : mr_C 37 65 = some (.iaload, 1) := rfl
theorem mc37_66 : mr_C 37 66 = some (.if_icmp .ne (29), 3) := rfl
theorem mc37_69 : mr_C 37 69 = some (.aload_n 0, 1) := rfl
theorem mc37_70 : mr_C 37 70 = some (.getfield 28, 3) := rfl
theorem mc37_73 : mr_C 37 73 = some (.aload_n 0, 1) := rfl
theorem mc37_74 : mr_C 37 74 = some (.getfield 16, 3) := rfl
theorem mc37_77 : mr_C 37 77 = some (.iload_n 1, 1) := rfl
theorem mc37_78 : mr_C 37 78 = some (.iaload, 1) := rfl
theorem mc37_79 : mr_C 37 79 = some (.iload_n 3, 1) := rfl
theorem mc37_80 : mr_C 37 80 = some (.iadd, 1) := rfl
theorem mc37_81 : mr_C 37 81 = some (.iaload, 1) := rfl
theorem mc37_82 : mr_C 37 82 = some (.aload_n 0, 1) := rfl
theorem mc37_83 : mr_C 37 83 = some (.getfield 49, 3) := by decide +kernel
theorem mc37_86 : mr_C 37 86 = some (.iload_n 3, 1) := by decide +kernel
theorem mc37_87 : mr_C 37 87 = some (.iaload, 1) := by decide +kernel
theorem mc37_88 : mr_C 37 88 = some (.if_icmp .ne (7), 3) := by decide +kernel
theorem mc37_91 : mr_C 37 91 = some (.iconst 1, 1) := by decide +kernel
theorem mc37_92 : mr_C 37 92 = some (.goto 4, 3) := by decide +kernel
theorem mc37_95 : mr_C 37 95 = some (.iconst 0, 1) := by decide +kernel
theorem mc37_96 : mr_C 37 96 = some (.istore_n 2, 1) := by decide +kernel
theorem mc37_97 : mr_C 37 97 = some (.iinc 3 (1), 3) := by decide +kernel
theorem mc37_100 : mr_C 37 100 = some (.goto (-65), 3) := by decide +kernel
theorem mc37_103 : mr_C 37 103 = some (.iload_n 2, 1) := by decide +kernel
theorem mc37_104 : mr_C 37 104 = some (.ireturn, 1) := by decide +kernel
theorem vc37_0 {sc : Nat × (Int → Int)} {Q : mm_R → mm_M → Prop} {M : mm_M} (ho : mr_ok M)
    (h : 0 ≤ ((816 + (M.1 77 8)) - 1) ∧ (((816 + (M.1 77 8)) - 1) < 918 ∧ (((M.1 76 ((816 + (M.1 77 8)) - 1)) ≠ (M.1 72 17) → en_R sc 37 35 [mm_r 72, mm_i ((816 + (M.1 77 8)) - 1), mm_i 0, mm_i 0] [] M Q) ∧ (¬ ((M.1 76 ((816 + (M.1 77 8)) - 1)) ≠ (M.1 72 17)) → en_R sc 37 35 [mm_r 72, mm_i ((816 + (M.1 77 8)) - 1), mm_i 1, mm_i 0] [] M Q)))) : en_R sc 37 0 [mm_r 72, mm_u, mm_u, mm_u] [] M Q := by
  obtain ⟨g1, h⟩ := h
  obtain ⟨g2, h⟩ := h
  refine en_sipush mc37_0 (by decide) ?_
  refine en_aload_n mc37_3 rfl ?_
  refine en_getR (b := 77) mv37 mc37_4 (lk_f7_22) (⟨rfl, by decide⟩ : mt_kd[72]? = some (.inl 7) ∧ 72 < 99) rfl (mk_fc ho (by decide +kernel)) ?_
  refine en_bipush mc37_7 (by decide) ?_
  refine en_iald mc37_9 (⟨rfl, by decide, by decide⟩ : mt_kd[77]? = some (.inr (.int, 9)) ∧ 77 < 99 ∧ 9 < 2147483648) (by decide) (by decide) ?_
  refine en_iadd mc37_10 ?_
  refine en_iconst mc37_11 ?_
  refine en_isub mc37_12 ?_
  refine en_istore_n (ls' := [mm_r 72, mm_i ((816 + (M.1 77 8)) - 1), mm_u, mm_u]) mc37_13 (Nat.le_of_ble_eq_true rfl) rfl ?_
  refine en_aload_n mc37_14 rfl ?_
  refine en_getR (b := 76) mv37 mc37_15 (lk_f7_19) (⟨rfl, by decide⟩ : mt_kd[72]? = some (.inl 7) ∧ 72 < 99) rfl (mk_fc ho (by decide +kernel)) ?_
  refine en_iload_n mc37_18 rfl ?_
  refine en_iald mc37_19 (⟨rfl, by decide, by decide⟩ : mt_kd[76]? = some (.inr (.int, 918)) ∧ 76 < 99 ∧ 918 < 2147483648) g1 g2 ?_
  refine en_aload_n mc37_20 rfl ?_
  refine en_getI mv37 mc37_21 (lk_f7_100) (⟨rfl, by decide⟩ : mt_kd[72]? = some (.inl 7) ∧ 72 < 99) (Or.inl rfl) ?_
  refine en_icmp_ne 31 mc37_24 (by decide) (ho.2.1 76 ((816 + (M.1 77 8)) - 1) (by unfold mr_lg; omega)) (ho.2.1 72 17 (by unfold mr_lg; omega)) (fun q => ?_) (fun q => ?_)
  · replace h := h.1 q
    refine en_iconst mc37_31 ?_
    refine en_istore_n (ls' := [mm_r 72, mm_i ((816 + (M.1 77 8)) - 1), mm_i 0, mm_u]) mc37_32 (Nat.le_of_ble_eq_true rfl) rfl ?_
    refine en_iconst mc37_33 ?_
    refine en_istore_n (ls' := [mm_r 72, mm_i ((816 + (M.1 77 8)) - 1), mm_i 0, mm_i 0]) mc37_34 (Nat.le_of_ble_eq_true rfl) rfl ?_
    exact h
  · replace h := h.2 q
    refine en_iconst mc37_27 ?_
    refine en_goto 32 mc37_28 (by decide) ?_
    refine en_istore_n (ls' := [mm_r 72, mm_i ((816 + (M.1 77 8)) - 1), mm_i 1, mm_u]) mc37_32 (Nat.le_of_ble_eq_true rfl) rfl ?_
    refine en_iconst mc37_33 ?_
    refine en_istore_n (ls' := [mm_r 72, mm_i ((816 + (M.1 77 8)) - 1), mm_i 1, mm_i 0]) mc37_34 (Nat.le_of_ble_eq_true rfl) rfl ?_
    exact h
theorem vc37_35 {sc : Nat × (Int → Int)} {Q : mm_R → mm_M → Prop} {M : mm_M} {l1 : Int} {l2 : Int} {l3 : Int} (ho : mr_ok M) (hg_l3 : mr_rg l3) (hg_l2 : mr_rg l2)
    (h : ((M.1 72 17) ≤ l3 → (l2 = 0 ∨ l2 = 1) ∧ (Q (.inl (some (mm_i l2))) M)) ∧ (¬ (M.1 72 17) ≤ l3 → (l2 = 0 → (l2 = 0 ∨ l2 = 1) ∧ (Q (.inl (some (mm_i l2))) M)) ∧ (¬ l2 = 0 → 0 ≤ l1 ∧ (l1 < 918 ∧ (0 ≤ ((M.1 75 l1) + l3) ∧ (((M.1 75 l1) + l3) < 3618 ∧ (0 ≤ l3 ∧ (l3 < 1200 ∧ (((M.1 78 ((M.1 75 l1) + l3)) ≠ (M.1 85 l3) → en_R sc 37 35 [mm_r 72, mm_i l1, mm_i 0, mm_i (l3 + 1)] [] M Q) ∧ (¬ ((M.1 78 ((M.1 75 l1) + l3)) ≠ (M.1 85 l3)) → 0 ≤ l1 ∧ (l1 < 918 ∧ (0 ≤ ((M.1 75 l1) + l3) ∧ (((M.1 75 l1) + l3) < 3618 ∧ (0 ≤ l3 ∧ (l3 < 1200 ∧ (((M.1 79 ((M.1 75 l1) + l3)) ≠ (M.1 86 l3) → en_R sc 37 35 [mm_r 72, mm_i l1, mm_i 0, mm_i (l3 + 1)] [] M Q) ∧ (¬ ((M.1 79 ((M.1 75 l1) + l3)) ≠ (M.1 86 l3)) → en_R sc 37 35 [mm_r 72, mm_i l1, mm_i 1, mm_i (l3 + 1)] [] M Q))))))))))))))))) : en_R sc 37 35 [mm_r 72, mm_i l1, mm_i l2, mm_i l3] [] M Q := by
  refine en_iload_n mc37_35 rfl ?_
  refine en_aload_n mc37_36 rfl ?_
  refine en_getI mv37 mc37_37 (lk_f7_100) (⟨rfl, by decide⟩ : mt_kd[72]? = some (.inl 7) ∧ 72 < 99) (Or.inl rfl) ?_
  refine en_icmp_ge 103 mc37_40 (by decide) hg_l3 (ho.2.1 72 17 (by unfold mr_lg; omega)) (fun q => ?_) (fun q => ?_)
  · replace h := h.1 q
    obtain ⟨g1, h⟩ := h
    refine en_iload_n mc37_103 rfl ?_
    exact en_zret mv37 mc37_104 rfl g1 h
  · replace h := h.2 q
    refine en_iload_n mc37_43 rfl ?_
    refine en_if_eq 103 mc37_44 (by decide) hg_l2 (fun q => ?_) (fun q => ?_)
    · replace h := h.1 q
      obtain ⟨g2, h⟩ := h
      refine en_iload_n mc37_103 rfl ?_
      exact en_zret mv37 mc37_104 rfl g2 h
    · replace h := h.2 q
      obtain ⟨g3, h⟩ := h
      obtain ⟨g4, h⟩ := h
      obtain ⟨g5, h⟩ := h
      obtain ⟨g6, h⟩ := h
      obtain ⟨g7, h⟩ := h
      obtain ⟨g8, h⟩ := h
      refine en_aload_n mc37_47 rfl ?_
      refine en_getR (b := 78) mv37 mc37_48 (lk_f7_25) (⟨rfl, by decide⟩ : mt_kd[72]? = some (.inl 7) ∧ 72 < 99) rfl (mk_fc ho (by decide +kernel)) ?_
      refine en_aload_n mc37_51 rfl ?_
      refine en_getR (b := 75) mv37 mc37_52 (lk_f7_16) (⟨rfl, by decide⟩ : mt_kd[72]? = some (.inl 7) ∧ 72 < 99) rfl (mk_fc ho (by decide +kernel)) ?_
      refine en_iload_n mc37_55 rfl ?_
      refine en_iald mc37_56 (⟨rfl, by decide, by decide⟩ : mt_kd[75]? = some (.inr (.int, 918)) ∧ 75 < 99 ∧ 918 < 2147483648) g3 g4 ?_
      refine en_iload_n mc37_57 rfl ?_
      refine en_iadd mc37_58 ?_
      refine en_iald mc37_59 (⟨rfl, by decide, by decide⟩ : mt_kd[78]? = some (.inr (.int, 3618)) ∧ 78 < 99 ∧ 3618 < 2147483648) g5 g6 ?_
      refine en_aload_n mc37_60 rfl ?_
      refine en_getR (b := 85) mv37 mc37_61 (lk_f7_46) (⟨rfl, by decide⟩ : mt_kd[72]? = some (.inl 7) ∧ 72 < 99) rfl (mk_fc ho (by decide +kernel)) ?_
      refine en_iload_n mc37_64 rfl ?_
      refine en_iald mc37_65 (⟨rfl, by decide, by decide⟩ : mt_kd[85]? = some (.inr (.int, 1200)) ∧ 85 < 99 ∧ 1200 < 2147483648) g7 g8 ?_
      refine en_icmp_ne 95 mc37_66 (by decide) (ho.2.1 78 ((M.1 75 l1) + l3) (by unfold mr_lg; omega)) (ho.2.1 85 l3 (by unfold mr_lg; omega)) (fun q => ?_) (fun q => ?_)
      · replace h := h.1 q
        refine en_iconst mc37_95 ?_
        refine en_istore_n (ls' := [mm_r 72, mm_i l1, mm_i 0, mm_i l3]) mc37_96 (Nat.le_of_ble_eq_true rfl) rfl ?_
        refine en_iinc (ls' := [mm_r 72, mm_i l1, mm_i 0, mm_i (l3 + 1)]) mc37_97 rfl rfl ?_
        refine en_goto 35 mc37_100 (by decide) ?_
        exact h
      · replace h := h.2 q
        obtain ⟨g9, h⟩ := h
        obtain ⟨g10, h⟩ := h
        obtain ⟨g11, h⟩ := h
        obtain ⟨g12, h⟩ := h
        obtain ⟨g13, h⟩ := h
        obtain ⟨g14, h⟩ := h
        refine en_aload_n mc37_69 rfl ?_
        refine en_getR (b := 79) mv37 mc37_70 (lk_f7_28) (⟨rfl, by decide⟩ : mt_kd[72]? = some (.inl 7) ∧ 72 < 99) rfl (mk_fc ho (by decide +kernel)) ?_
        refine en_aload_n mc37_73 rfl ?_
        refine en_getR (b := 75) mv37 mc37_74 (lk_f7_16) (⟨rfl, by decide⟩ : mt_kd[72]? = some (.inl 7) ∧ 72 < 99) rfl (mk_fc ho (by decide +kernel)) ?_
        refine en_iload_n mc37_77 rfl ?_
        refine en_iald mc37_78 (⟨rfl, by decide, by decide⟩ : mt_kd[75]? = some (.inr (.int, 918)) ∧ 75 < 99 ∧ 918 < 2147483648) g9 g10 ?_
        refine en_iload_n mc37_79 rfl ?_
        refine en_iadd mc37_80 ?_
        refine en_iald mc37_81 (⟨rfl, by decide, by decide⟩ : mt_kd[79]? = some (.inr (.int, 3618)) ∧ 79 < 99 ∧ 3618 < 2147483648) g11 g12 ?_
        refine en_aload_n mc37_82 rfl ?_
        refine en_getR (b := 86) mv37 mc37_83 (lk_f7_49) (⟨rfl, by decide⟩ : mt_kd[72]? = some (.inl 7) ∧ 72 < 99) rfl (mk_fc ho (by decide +kernel)) ?_
        refine en_iload_n mc37_86 rfl ?_
        refine en_iald mc37_87 (⟨rfl, by decide, by decide⟩ : mt_kd[86]? = some (.inr (.int, 1200)) ∧ 86 < 99 ∧ 1200 < 2147483648) g13 g14 ?_
        refine en_icmp_ne 95 mc37_88 (by decide) (ho.2.1 79 ((M.1 75 l1) + l3) (by unfold mr_lg; omega)) (ho.2.1 86 l3 (by unfold mr_lg; omega)) (fun q => ?_) (fun q => ?_)
        · replace h := h.1 q
          refine en_iconst mc37_95 ?_
          refine en_istore_n (ls' := [mm_r 72, mm_i l1, mm_i 0, mm_i l3]) mc37_96 (Nat.le_of_ble_eq_true rfl) rfl ?_
          refine en_iinc (ls' := [mm_r 72, mm_i l1, mm_i 0, mm_i (l3 + 1)]) mc37_97 rfl rfl ?_
          refine en_goto 35 mc37_100 (by decide) ?_
          exact h
        · replace h := h.2 q
          refine en_iconst mc37_91 ?_
          refine en_goto 96 mc37_92 (by decide) ?_
          refine en_istore_n (ls' := [mm_r 72, mm_i l1, mm_i 1, mm_i l3]) mc37_96 (Nat.le_of_ble_eq_true rfl) rfl ?_
          refine en_iinc (ls' := [mm_r 72, mm_i l1, mm_i 1, mm_i (l3 + 1)]) mc37_97 rfl rfl ?_
          refine en_goto 35 mc37_100 (by decide) ?_
          exact h
/-! 38: CellAreasModel.addRow(II)V -/
theorem mc38_0 : mr_C 38 0 = some (.aload_n 0, 1) := rfl
theorem mc38_1 : mr_C 38 1 = some (.getfield 100, 3) := rfl
theorem mc38_4 : mr_C 38 4 = some (.ifCond .eq (15), 3) := rfl
theorem mc38_7 : mr_C 38 7 = some (.iload_n 1, 1) := rfl
theorem mc38_8 : mr_C 38 8 = some (.iload_n 2, 1) := rfl
theorem mc38_9 : mr_C 38 9 = some (.if_icmp .ge (10), 3) := rfl
theorem mc38_12 : mr_C 38 12 = some (.aload_n 0, 1) := rfl
theorem mc38_13 : mr_C 38 13 = some (.getfield 93, 3) := rfl
theorem mc38_16 : mr_C 38 16 = some (.ifCond .eq (4), 3) := rfl
theorem mc38_19 : mr_C 38 19 = some (.return_, 1) := rfl
theorem mc38_20 : mr_C 38 20 = some (.sipush 816, 3) := rfl
theorem mc38_23 : mr_C 38 23 = some (.aload_n 0, 1) := rfl
theorem mc38_24 : mr_C 38 24 = some (.getfield 22, 3) := rfl
theorem mc38_27 : mr_C 38 27 = some (.bipush 8, 2) := rfl
theorem mc38_29 : mr_C 38 29 = some (.iaload, 1) := rfl
theorem mc38_30 : mr_C 38 30 = some (.iadd, 1) := rfl
theorem mc38_31 : mr_C 38 31 = some (.istore_n 3, 1) := rfl
theorem mc38_32 : mr_C 38 32 = some (.aload_n 0, 1) := rfl
theorem mc38_33 : mr_C 38 33 = some (.getfield 22, 3) := rfl
theorem mc38_36 : mr_C 38 36 = some (.bipush 8, 2) := rfl
theorem mc38_38 : mr_C 38 38 = some (.iaload, 1) := rfl
theorem mc38_39 : mr_C 38 39 = some (.ifCond .le (32), 3) := rfl
theorem mc38_42 : mr_C 38 42 = some (.aload_n 0, 1) := rfl
theorem mc38_43 : mr_C 38 43 = some (.getfield 13, 3) := rfl
theorem mc38_46 : mr_C 38 46 = some (.iload_n 3, 1) := rfl
theorem mc38_47 : mr_C 38 47 = some (.iconst 1, 1) := rfl
theorem mc38_48 : mr_C 38 48 = some (.isub, 1) := rfl
theorem mc38_49 : mr_C 38 49 = some (.iaload, 1) := rfl
theorem mc38_50 : mr_C 38 50 = some (.iload_n 1, 1) := rfl
theorem mc38_51 : mr_C 38 51 = some (.if_icmp .ne (20), 3) := rfl
theorem mc38_54 : mr_C 38 54 = some (.aload_n 0, 1) := rfl
theorem mc38_55 : mr_C 38 55 = some (.invokevirtual 103, 3) := rfl
theorem mc38_58 : mr_C 38 58 = some (.ifCond .eq (13), 3) := rfl
theorem mc38_61 : mr_C 38 61 = some (.aload_n 0, 1) := rfl
theorem mc38_62 : mr_C 38 62 = some (.getfield 13, 3) := rfl
theorem mc38_65 : mr_C 38 65 = some (.iload_n 3, 1) := rfl
theorem mc38_66 : mr_C 38 66 = some (.iconst 1, 1) := rfl
theorem mc38_67 : mr_C 38 67 = some (.isub, 1) := rfl
theorem mc38_68 : mr_C 38 68 = some (.iload_n 2, 1) := rfl
theorem mc38_69 : mr_C 38 69 = some (.iastore, 1) := rfl
theorem mc38_70 : mr_C 38 70 = some (.return_, 1) := rfl
theorem mc38_71 : mr_C 38 71 = some (.aload_n 0, 1) := rfl
theorem mc38_72 : mr_C 38 72 = some (.getfield 22, 3) := rfl
theorem mc38_75 : mr_C 38 75 = some (.bipush 8, 2) := rfl
theorem mc38_77 : mr_C 38 77 = some (.iaload, 1) := rfl
theorem mc38_78 : mr_C 38 78 = some (.bipush 100, 2) := rfl
theorem mc38_80 : mr_C 38 80 = some (.if_icmp .eq (21), 3) := rfl
theorem mc38_83 : mr_C 38 83 = some (.aload_n 0, 1) := rfl
theorem mc38_84 : mr_C 38 84 = some (.getfield 31, 3) := rfl
theorem mc38_87 : mr_C 38 87 = some (.bipush 8, 2) := rfl
theorem mc38_89 : mr_C 38 89 = some (.iaload, 1) := rfl
theorem mc38_90 : mr_C 38 90 = some (.aload_n 0, 1) := by decide +kernel
theorem mc38_91 : mr_C 38 91 = some (.getfield 100, 3) := by decide +kernel
theorem mc38_94 : mr_C 38 94 = some (.iadd, 1) := by decide +kernel
theorem mc38_95 : mr_C 38 95 = some (.sipush 400, 3) := by decide +kernel
theorem mc38_98 : mr_C 38 98 = some (.if_icmp .le (9), 3) := by decide +kernel
theorem mc38_101 : mr_C 38 101 = some (.aload_n 0, 1) := by decide +kernel
theorem mc38_102 : mr_C 38 102 = some (.iconst 1, 1) := by decide +kernel
theorem mc38_103 : mr_C 38 103 = some (.putfield 93, 3) := by decide +kernel
theorem mc38_106 : mr_C 38 106 = some (.return_, 1) := by decide +kernel
theorem mc38_107 : mr_C 38 107 = some (.aload_n 0, 1) := by decide +kernel
theorem mc38_108 : mr_C 38 108 = some (.getfield 7, 3) := by decide +kernel
theorem mc38_111 : mr_C 38 111 = some (.iload_n 3, 1) := by decide +kernel
theorem mc38_112 : mr_C 38 112 = some (.iload_n 1, 1) := by decide +kernel
theorem mc38_113 : mr_C 38 113 = some (.iastore, 1) := by decide +kernel
theorem mc38_114 : mr_C 38 114 = some (.aload_n 0, 1) := by decide +kernel
theorem mc38_115 : mr_C 38 115 = some (.getfield 13, 3) := by decide +kernel
theorem mc38_118 : mr_C 38 118 = some (.iload_n 3, 1) := by decide +kernel
theorem mc38_119 : mr_C 38 119 = some (.iload_n 2, 1) := by decide +kernel
theorem mc38_120 : mr_C 38 120 = some (.iastore, 1) := by decide +kernel
theorem mc38_121 : mr_C 38 121 = some (.aload_n 0, 1) := by decide +kernel
theorem mc38_122 : mr_C 38 122 = some (.getfield 16, 3) := by decide +kernel
theorem mc38_125 : mr_C 38 125 = some (.iload_n 3, 1) := by decide +kernel
theorem mc38_126 : mr_C 38 126 = some (.sipush 3216, 3) := by decide +kernel
theorem mc38_129 : mr_C 38 129 = some (.aload_n 0, 1) := by decide +kernel
theorem mc38_130 : mr_C 38 130 = some (.getfield 31, 3) := by decide +kernel
theorem mc38_133 : mr_C 38 133 = some (.bipush 8, 2) := by decide +kernel
theorem mc38_135 : mr_C 38 135 = some (.iaload, 1) := by decide +kernel
theorem mc38_136 : mr_C 38 136 = some (.iadd, 1) := by decide +kernel
theorem mc38_137 : mr_C 38 137 = some (.iastore, 1) := by decide +kernel
theorem mc38_138 : mr_C 38 138 = some (.aload_n 0, 1) := by decide +kernel
theorem mc38_139 : mr_C 38 139 = some (.getfield 19, 3) := by decide +kernel
theorem mc38_142 : mr_C 38 142 = some (.iload_n 3, 1) := by decide +kernel
theorem mc38_143 : mr_C 38 143 = some (.aload_n 0, 1) := by decide +kernel
theorem mc38_144 : mr_C 38 144 = some (.getfield 100, 3) := by decide +kernel
theorem mc38_147 : mr_C 38 147 = some (.iastore, 1) := by decide +kernel
theorem mc38_148 : mr_C 38 148 = some (.iconst 0, 1) := by decide +kernel
theorem mc38_149 : mr_C 38 149 = some (.istore 4, 2) := by decide +kernel
theorem mc38_151 : mr_C 38 151 = some (.iload 4, 2) := by decide +kernel
theorem mc38_153 : mr_C 38 153 = some (.aload_n 0, 1) := by decide +kernel
theorem mc38_154 : mr_C 38 154 = some (.getfield 100, 3) := by decide +kernel
theorem mc38_157 : mr_C 38 157 = some (.if_icmp .ge (51), 3) := by decide +kernel
theorem mc38_160 : mr_C 38 160 = some (.aload_n 0, 1) := by decide +kernel
theorem mc38_161 : mr_C 38 161 = some (.getfield 25, 3) := by decide +kernel
theorem mc38_164 : mr_C 38 164 = some (.aload_n 0, 1) := by decide +kernel
theorem mc38_165 : mr_C 38 165 = some (.getfield 16, 3) := by decide +kernel
theorem mc38_168 : mr_C 38 168 = some (.iload_n 3, 1) := by decide +kernel
theorem mc38_169 : mr_C 38 169 = some (.iaload, 1) := by decide +kernel
theorem mc38_170 : mr_C 38 170 = some (.iload 4, 2) := by decide +kernel
theorem mc38_172 : mr_C 38 172 = some (.iadd, 1) := by decide +kernel
theorem mc38_173 : mr_C 38 173 = some (.aload_n 0, 1) := by decide +kernel
theorem mc38_174 : mr_C 38 174 = some (.getfield 46, 3) := by decide +kernel
theorem mc38_177 : mr_C 38 177 = some (.iload 4, 2) := by decide +kernel
theorem mc38_179 : mr_C 38 179 = some (.iaload, 1) := by decide +kernel
theorem mc38_180 : mr_C 38 180 = some (.iastore, 1) := by decide +kernel
theorem mc38_181 : mr_C 38 181 = some (.aload_n 0, 1) := by decide +kernel
theorem mc38_182 : mr_C 38 182 = some (.getfield 28, 3) := by decide +kernel
theorem mc38_185 : mr_C 38 185 = some (.aload_n 0, 1) := by decide +kernel
theorem mc38_186 : mr_C 38 186 = some (.getfield 16, 3) := by decide +kernel
theorem mc38_189 : mr_C 38 189 = some (.iload_n 3, 1) := by decide +kernel
theorem mc38_190 : mr_C 38 190 = some (.iaload, 1) := by decide +kernel
theorem mc38_191 : mr_C 38 191 = some (.iload 4, 2) := by decide +kernel
theorem mc38_193 : mr_C 38 193 = some (.iadd, 1) := by decide +kernel
theorem mc38_194 : mr_C 38 194 = some (.aload_n 0, 1) := by decide +kernel
theorem mc38_195 : mr_C 38 195 = some (.getfield 49, 3) := by decide +kernel
theorem mc38_198 : mr_C 38 198 = some (.iload 4, 2) := by decide +kernel
theorem mc38_200 : mr_C 38 200 = some (.iaload, 1) := by decide +kernel
theorem mc38_201 : mr_C 38 201 = some (.iastore, 1) := by decide +kernel
theorem mc38_202 : mr_C 38 202 = some (.iinc 4 (1), 3) := by decide +kernel
theorem mc38_205 : mr_C 38 205 = some (.goto (-54), 3) := by decide +kernel
theorem mc38_208 : mr_C 38 208 = some (.aload_n 0, 1) := by decide +kernel
theorem mc38_209 : mr_C 38 209 = some (.getfield 31, 3) := by decide +kernel
theorem mc38_212 : mr_C 38 212 = some (.bipush 8, 2) := by decide +kernel
theorem mc38_214 : mr_C 38 214 = some (.aload_n 0, 1) := by decide +kernel
theorem mc38_215 : mr_C 38 215 = some (.getfield 31, 3) := by decide +kernel
theorem mc38_218 : mr_C 38 218 = some (.bipush 8, 2) := by decide +kernel
theorem mc38_220 : mr_C 38 220 = some (.iaload, 1) := by decide +kernel
theorem mc38_221 : mr_C 38 221 = some (.aload_n 0, 1) := by decide +kernel
theorem mc38_222 : mr_C 38 222 = some (.getfield 100, 3) := by decide +kernel
theorem mc38_225 : mr_C 38 225 = some (.iadd, 1) := by decide +kernel
theorem mc38_226 : mr_C 38 226 = some (.iastore, 1) := by decide +kernel
theorem mc38_227 : mr_C 38 227 = some (.aload_n 0, 1) := by decide +kernel
theorem mc38_228 : mr_C 38 228 = some (.getfield 22, 3) := by decide +kernel
theorem mc38_231 : mr_C 38 231 = some (.bipush 8, 2) := by decide +kernel
theorem mc38_233 : mr_C 38 233 = some (.dup2, 1) := by decide +kernel
theorem mc38_234 : mr_C 38 234 = some (.iaload, 1) := by decide +kernel
theorem mc38_235 : mr_C 38 235 = some (.iconst 1, 1) := by decide +kernel
theorem mc38_236 : mr_C 38 236 = some (.iadd, 1) := by decide +kernel
theorem mc38_237 : mr_C 38 237 = some (.iastore, 1) := by decide +kernel
theorem mc38_238 : mr_C 38 238 = some (.return_, 1) := by decide +kernel
theorem vc38_0 {sc : Nat × (Int → Int)} {Q : mm_R → mm_M → Prop} {M : mm_M} {l1 : Int} {l2 : Int} (ho : mr_ok M) (hg_l1 : mr_rg l1) (hg_l2 : mr_rg l2)
    (h : ((M.1 72 17) = 0 → Q (.inl none) M) ∧ (¬ (M.1 72 17) = 0 → (l2 ≤ l1 → Q (.inl none) M) ∧ (¬ l2 ≤ l1 → ((M.1 72 20) = 0 → ((M.1 77 8) ≤ 0 → en_R sc 38 71 [mm_r 72, mm_i l1, mm_i l2, mm_i (816 + (M.1 77 8)), mm_u] [] M Q) ∧ (¬ (M.1 77 8) ≤ 0 → 0 ≤ ((816 + (M.1 77 8)) - 1) ∧ (((816 + (M.1 77 8)) - 1) < 918 ∧ (((M.1 74 ((816 + (M.1 77 8)) - 1)) ≠ l1 → en_R sc 38 71 [mm_r 72, mm_i l1, mm_i l2, mm_i (816 + (M.1 77 8)), mm_u] [] M Q) ∧ (¬ ((M.1 74 ((816 + (M.1 77 8)) - 1)) ≠ l1) → en_CI sc 37 [mm_r 72, mm_u, mm_u, mm_u] M (fun x3 M4 => mr_ok M4 → mr_rg x3 ∧ ((x3 = 0 → en_R sc 38 71 [mm_r 72, mm_i l1, mm_i l2, mm_i (816 + (M.1 77 8)), mm_u] [] M4 Q) ∧ (¬ x3 = 0 → 0 ≤ ((816 + (M.1 77 8)) - 1) ∧ (((816 + (M.1 77 8)) - 1) < 918 ∧ (Q (.inl none) (mm_putN M4 74 ((816 + (M.1 77 8)) - 1) l2)))))) (fun e M9 => Q (.inr e) M9)))))) ∧ (¬ (M.1 72 20) = 0 → Q (.inl none) M)))) : en_R sc 38 0 [mm_r 72, mm_i l1, mm_i l2, mm_u, mm_u] [] M Q := by
  refine en_aload_n mc38_0 rfl ?_
  refine en_getI mv38 mc38_1 (lk_f7_100) (⟨rfl, by decide⟩ : mt_kd[72]? = some (.inl 7) ∧ 72 < 99) (Or.inl rfl) ?_
  refine en_if_eq 19 mc38_4 (by decide) (ho.2.1 72 17 (by unfold mr_lg; omega)) (fun q => ?_) (fun q => ?_)
  · replace h := h.1 q
    exact en_vret mv38 mc38_19 rfl h
  · replace h := h.2 q
    refine en_iload_n mc38_7 rfl ?_
    refine en_iload_n mc38_8 rfl ?_
    refine en_icmp_ge 19 mc38_9 (by decide) hg_l1 hg_l2 (fun q => ?_) (fun q => ?_)
    · replace h := h.1 q
      exact en_vret mv38 mc38_19 rfl h
    · replace h := h.2 q
      refine en_aload_n mc38_12 rfl ?_
      refine en_getI mv38 mc38_13 (lk_f7_93) (⟨rfl, by decide⟩ : mt_kd[72]? = some (.inl 7) ∧ 72 < 99) (Or.inr rfl) ?_
      refine en_if_eq 20 mc38_16 (by decide) (ho.2.1 72 20 (by unfold mr_lg; omega)) (fun q => ?_) (fun q => ?_)
      · replace h := h.1 q
        refine en_sipush mc38_20 (by decide) ?_
        refine en_aload_n mc38_23 rfl ?_
        refine en_getR (b := 77) mv38 mc38_24 (lk_f7_22) (⟨rfl, by decide⟩ : mt_kd[72]? = some (.inl 7) ∧ 72 < 99) rfl (mk_fc ho (by decide +kernel)) ?_
        refine en_bipush mc38_27 (by decide) ?_
        refine en_iald mc38_29 (⟨rfl, by decide, by decide⟩ : mt_kd[77]? = some (.inr (.int, 9)) ∧ 77 < 99 ∧ 9 < 2147483648) (by decide) (by decide) ?_
        refine en_iadd mc38_30 ?_
        refine en_istore_n (ls' := [mm_r 72, mm_i l1, mm_i l2, mm_i (816 + (M.1 77 8)), mm_u]) mc38_31 (Nat.le_of_ble_eq_true rfl) rfl ?_
        refine en_aload_n mc38_32 rfl ?_
        refine en_getR (b := 77) mv38 mc38_33 (lk_f7_22) (⟨rfl, by decide⟩ : mt_kd[72]? = some (.inl 7) ∧ 72 < 99) rfl (mk_fc ho (by decide +kernel)) ?_
        refine en_bipush mc38_36 (by decide) ?_
        refine en_iald mc38_38 (⟨rfl, by decide, by decide⟩ : mt_kd[77]? = some (.inr (.int, 9)) ∧ 77 < 99 ∧ 9 < 2147483648) (by decide) (by decide) ?_
        refine en_if_le 71 mc38_39 (by decide) (ho.2.1 77 8 (by unfold mr_lg; omega)) (fun q => ?_) (fun q => ?_)
        · replace h := h.1 q
          exact h
        · replace h := h.2 q
          obtain ⟨g1, h⟩ := h
          obtain ⟨g2, h⟩ := h
          refine en_aload_n mc38_42 rfl ?_
          refine en_getR (b := 74) mv38 mc38_43 (lk_f7_13) (⟨rfl, by decide⟩ : mt_kd[72]? = some (.inl 7) ∧ 72 < 99) rfl (mk_fc ho (by decide +kernel)) ?_
          refine en_iload_n mc38_46 rfl ?_
          refine en_iconst mc38_47 ?_
          refine en_isub mc38_48 ?_
          refine en_iald mc38_49 (⟨rfl, by decide, by decide⟩ : mt_kd[74]? = some (.inr (.int, 918)) ∧ 74 < 99 ∧ 918 < 2147483648) g1 g2 ?_
          refine en_iload_n mc38_50 rfl ?_
          refine en_icmp_ne 71 mc38_51 (by decide) (ho.2.1 74 ((816 + (M.1 77 8)) - 1) (by unfold mr_lg; omega)) hg_l1 (fun q => ?_) (fun q => ?_)
          · replace h := h.1 q
            exact h
          · replace h := h.2 q
            refine en_aload_n mc38_54 rfl ?_
            refine en_callI (lz := [mm_r 72, mm_u, mm_u, mm_u]) mv38 mc38_55 rfl rfl (lk_m7_103) mv37 rfl (by decide) rfl (mk_cokV rfl (⟨rfl, by decide⟩ : mt_kd[72]? = some (.inl 7) ∧ 72 < 99)) rfl (mk_nh rfl _) ho ?_
            refine en_CI_mono h (fun x3 M4 h => ?_) (fun _ _ h => h)
            intro ho5
            replace h := h ho5
            obtain ⟨g6, h⟩ := h
            refine en_if_eq 71 mc38_58 (by decide) g6 (fun q => ?_) (fun q => ?_)
            · replace h := h.1 q
              exact h
            · replace h := h.2 q
              obtain ⟨g7, h⟩ := h
              obtain ⟨g8, h⟩ := h
              refine en_aload_n mc38_61 rfl ?_
              refine en_getR (b := 74) mv38 mc38_62 (lk_f7_13) (⟨rfl, by decide⟩ : mt_kd[72]? = some (.inl 7) ∧ 72 < 99) rfl (mk_fc ho5 (by decide +kernel)) ?_
              refine en_iload_n mc38_65 rfl ?_
              refine en_iconst mc38_66 ?_
              refine en_isub mc38_67 ?_
              refine en_iload_n mc38_68 rfl ?_
              refine en_iast mc38_69 (⟨rfl, by decide, by decide⟩ : mt_kd[74]? = some (.inr (.int, 918)) ∧ 74 < 99 ∧ 918 < 2147483648) g7 g8 hg_l2 ?_
              exact en_vret mv38 mc38_70 rfl h
      · replace h := h.2 q
        exact en_vret mv38 mc38_19 rfl h
theorem vc38_71 {sc : Nat × (Int → Int)} {Q : mm_R → mm_M → Prop} {M : mm_M} {l1 : Int} {l2 : Int} {l3 : Int} (ho : mr_ok M) (hg_l1 : mr_rg l1) (hg_l2 : mr_rg l2)
    (h : ((M.1 77 8) = 100 → Q (.inl none) (mm_putN M 72 20 1)) ∧ (¬ (M.1 77 8) = 100 → mr_rg ((M.1 80 8) + (M.1 72 17)) ∧ ((((M.1 80 8) + (M.1 72 17)) ≤ 400 → 0 ≤ l3 ∧ (l3 < 918 ∧ (0 ≤ l3 ∧ (l3 < 918 ∧ (0 ≤ l3 ∧ (l3 < 918 ∧ (mr_rg (3216 + ((mm_putN (mm_putN M 73 l3 l1) 74 l3 l2).1 80 8)) ∧ (0 ≤ l3 ∧ (l3 < 918 ∧ (en_R sc 38 151 [mm_r 72, mm_i l1, mm_i l2, mm_i l3, mm_i 0] [] (mm_putN (mm_putN (mm_putN (mm_putN M 73 l3 l1) 74 l3 l2) 75 l3 (3216 + ((mm_putN (mm_putN M 73 l3 l1) 74 l3 l2).1 80 8))) 76 l3 ((mm_putN (mm_putN (mm_putN M 73 l3 l1) 74 l3 l2) 75 l3 (3216 + ((mm_putN (mm_putN M 73 l3 l1) 74 l3 l2).1 80 8))).1 72 17)) Q)))))))))) ∧ (¬ ((M.1 80 8) + (M.1 72 17)) ≤ 400 → Q (.inl none) (mm_putN M 72 20 1))))) : en_R sc 38 71 [mm_r 72, mm_i l1, mm_i l2, mm_i l3, mm_u] [] M Q := by
  refine en_aload_n mc38_71 rfl ?_
  refine en_getR (b := 77) mv38 mc38_72 (lk_f7_22) (⟨rfl, by decide⟩ : mt_kd[72]? = some (.inl 7) ∧ 72 < 99) rfl (mk_fc ho (by decide +kernel)) ?_
  refine en_bipush mc38_75 (by decide) ?_
  refine en_iald mc38_77 (⟨rfl, by decide, by decide⟩ : mt_kd[77]? = some (.inr (.int, 9)) ∧ 77 < 99 ∧ 9 < 2147483648) (by decide) (by decide) ?_
  refine en_bipush mc38_78 (by decide) ?_
  refine en_icmp_eq 101 mc38_80 (by decide) (ho.2.1 77 8 (by unfold mr_lg; omega)) (⟨by decide, by decide⟩ : mr_rg 100) (fun q => ?_) (fun q => ?_)
  · replace h := h.1 q
    refine en_aload_n mc38_101 rfl ?_
    refine en_iconst mc38_102 ?_
    refine en_putZ mv38 mc38_103 (lk_f7_93) (⟨rfl, by decide⟩ : mt_kd[72]? = some (.inl 7) ∧ 72 < 99) rfl rfl (by decide) ?_
    exact en_vret mv38 mc38_106 rfl h
  · replace h := h.2 q
    obtain ⟨g1, h⟩ := h
    refine en_aload_n mc38_83 rfl ?_
    refine en_getR (b := 80) mv38 mc38_84 (lk_f7_31) (⟨rfl, by decide⟩ : mt_kd[72]? = some (.inl 7) ∧ 72 < 99) rfl (mk_fc ho (by decide +kernel)) ?_
    refine en_bipush mc38_87 (by decide) ?_
    refine en_iald mc38_89 (⟨rfl, by decide, by decide⟩ : mt_kd[80]? = some (.inr (.int, 9)) ∧ 80 < 99 ∧ 9 < 2147483648) (by decide) (by decide) ?_
    refine en_aload_n mc38_90 rfl ?_
    refine en_getI mv38 mc38_91 (lk_f7_100) (⟨rfl, by decide⟩ : mt_kd[72]? = some (.inl 7) ∧ 72 < 99) (Or.inl rfl) ?_
    refine en_iadd mc38_94 ?_
    refine en_sipush mc38_95 (by decide) ?_
    refine en_icmp_le 107 mc38_98 (by decide) g1 (⟨by decide, by decide⟩ : mr_rg 400) (fun q => ?_) (fun q => ?_)
    · replace h := h.1 q
      obtain ⟨g2, h⟩ := h
      obtain ⟨g3, h⟩ := h
      obtain ⟨g4, h⟩ := h
      obtain ⟨g5, h⟩ := h
      obtain ⟨g6, h⟩ := h
      obtain ⟨g7, h⟩ := h
      obtain ⟨g8, h⟩ := h
      obtain ⟨g9, h⟩ := h
      obtain ⟨g10, h⟩ := h
      refine en_aload_n mc38_107 rfl ?_
      refine en_getR (b := 73) mv38 mc38_108 (lk_f7_7) (⟨rfl, by decide⟩ : mt_kd[72]? = some (.inl 7) ∧ 72 < 99) rfl (mk_fc ho (by decide +kernel)) ?_
      refine en_iload_n mc38_111 rfl ?_
      refine en_iload_n mc38_112 rfl ?_
      refine en_iast mc38_113 (⟨rfl, by decide, by decide⟩ : mt_kd[73]? = some (.inr (.int, 918)) ∧ 73 < 99 ∧ 918 < 2147483648) g2 g3 hg_l1 ?_
      refine en_aload_n mc38_114 rfl ?_
      refine en_getR (b := 74) mv38 mc38_115 (lk_f7_13) (⟨rfl, by decide⟩ : mt_kd[72]? = some (.inl 7) ∧ 72 < 99) rfl (mk_fc (mr_ok_putI (a := 73) (k := l3) ho hg_l1) (by decide +kernel)) ?_
      refine en_iload_n mc38_118 rfl ?_
      refine en_iload_n mc38_119 rfl ?_
      refine en_iast mc38_120 (⟨rfl, by decide, by decide⟩ : mt_kd[74]? = some (.inr (.int, 918)) ∧ 74 < 99 ∧ 918 < 2147483648) g4 g5 hg_l2 ?_
      refine en_aload_n mc38_121 rfl ?_
      refine en_getR (b := 75) mv38 mc38_122 (lk_f7_16) (⟨rfl, by decide⟩ : mt_kd[72]? = some (.inl 7) ∧ 72 < 99) rfl (mk_fc (mr_ok_putI (a := 74) (k := l3) (mr_ok_putI (a := 73) (k := l3) ho hg_l1) hg_l2) (by decide +kernel)) ?_
      refine en_iload_n mc38_125 rfl ?_
      refine en_sipush mc38_126 (by decide) ?_
      refine en_aload_n mc38_129 rfl ?_
      refine en_getR (b := 80) mv38 mc38_130 (lk_f7_31) (⟨rfl, by decide⟩ : mt_kd[72]? = some (.inl 7) ∧ 72 < 99) rfl (mk_fc (mr_ok_putI (a := 74) (k := l3) (mr_ok_putI (a := 73) (k := l3) ho hg_l1) hg_l2) (by decide +kernel)) ?_
      refine en_bipush mc38_133 (by decide) ?_
      refine en_iald mc38_135 (⟨rfl, by decide, by decide⟩ : mt_kd[80]? = some (.inr (.int, 9)) ∧ 80 < 99 ∧ 9 < 2147483648) (by decide) (by decide) ?_
      refine en_iadd mc38_136 ?_
      refine en_iast mc38_137 (⟨rfl, by decide, by decide⟩ : mt_kd[75]? = some (.inr (.int, 918)) ∧ 75 < 99 ∧ 918 < 2147483648) g6 g7 g8 ?_
      refine en_aload_n mc38_138 rfl ?_
      refine en_getR (b := 76) mv38 mc38_139 (lk_f7_19) (⟨rfl, by decide⟩ : mt_kd[72]? = some (.inl 7) ∧ 72 < 99) rfl (mk_fc (mr_ok_putI (a := 75) (k := l3) (mr_ok_putI (a := 74) (k := l3) (mr_ok_putI (a := 73) (k := l3) ho hg_l1) hg_l2) g8) (by decide +kernel)) ?_
      refine en_iload_n mc38_142 rfl ?_
      refine en_aload_n mc38_143 rfl ?_
      refine en_getI mv38 mc38_144 (lk_f7_100) (⟨rfl, by decide⟩ : mt_kd[72]? = some (.inl 7) ∧ 72 < 99) (Or.inl rfl) ?_
      refine en_iast mc38_147 (⟨rfl, by decide, by decide⟩ : mt_kd[76]? = some (.inr (.int, 918)) ∧ 76 < 99 ∧ 918 < 2147483648) g9 g10 ((mr_ok_putI (a := 75) (k := l3) (mr_ok_putI (a := 74) (k := l3) (mr_ok_putI (a := 73) (k := l3) ho hg_l1) hg_l2) g8).2.1 72 17 (by unfold mr_lg; omega)) ?_
      refine en_iconst mc38_148 ?_
      refine en_istore (ls' := [mm_r 72, mm_i l1, mm_i l2, mm_i l3, mm_i 0]) mc38_149 (Nat.le_of_ble_eq_true rfl) rfl ?_
      exact h
    · replace h := h.2 q
      refine en_aload_n mc38_101 rfl ?_
      refine en_iconst mc38_102 ?_
      refine en_putZ mv38 mc38_103 (lk_f7_93) (⟨rfl, by decide⟩ : mt_kd[72]? = some (.inl 7) ∧ 72 < 99) rfl rfl (by decide) ?_
      exact en_vret mv38 mc38_106 rfl h
theorem vc38_151 {sc : Nat × (Int → Int)} {Q : mm_R → mm_M → Prop} {M : mm_M} {l1 : Int} {l2 : Int} {l3 : Int} {l4 : Int} (ho : mr_ok M) (hg_l4 : mr_rg l4)
    (h : ((M.1 72 17) ≤ l4 → mr_rg ((M.1 80 8) + (M.1 72 17)) ∧ (mr_rg (((mm_putN M 80 8 ((M.1 80 8) + (M.1 72 17))).1 77 8) + 1) ∧ (Q (.inl none) (mm_putN (mm_putN M 80 8 ((M.1 80 8) + (M.1 72 17))) 77 8 (((mm_putN M 80 8 ((M.1 80 8) + (M.1 72 17))).1 77 8) + 1))))) ∧ (¬ (M.1 72 17) ≤ l4 → 0 ≤ l3 ∧ (l3 < 918 ∧ (0 ≤ l4 ∧ (l4 < 1200 ∧ (0 ≤ ((M.1 75 l3) + l4) ∧ (((M.1 75 l3) + l4) < 3618 ∧ (0 ≤ l3 ∧ (l3 < 918 ∧ (0 ≤ l4 ∧ (l4 < 1200 ∧ (0 ≤ (((mm_putN M 78 ((M.1 75 l3) + l4) (M.1 85 l4)).1 75 l3) + l4) ∧ ((((mm_putN M 78 ((M.1 75 l3) + l4) (M.1 85 l4)).1 75 l3) + l4) < 3618 ∧ (en_R sc 38 151 [mm_r 72, mm_i l1, mm_i l2, mm_i l3, mm_i (l4 + 1)] [] (mm_putN (mm_putN M 78 ((M.1 75 l3) + l4) (M.1 85 l4)) 79 (((mm_putN M 78 ((M.1 75 l3) + l4) (M.1 85 l4)).1 75 l3) + l4) ((mm_putN M 78 ((M.1 75 l3) + l4) (M.1 85 l4)).1 86 l4)) Q)))))))))))))) : en_R sc 38 151 [mm_r 72, mm_i l1, mm_i l2, mm_i l3, mm_i l4] [] M Q := by
  refine en_iload mc38_151 rfl ?_
  refine en_aload_n mc38_153 rfl ?_
  refine en_getI mv38 mc38_154 (lk_f7_100) (⟨rfl, by decide⟩ : mt_kd[72]? = some (.inl 7) ∧ 72 < 99) (Or.inl rfl) ?_
  refine en_icmp_ge 208 mc38_157 (by decide) hg_l4 (ho.2.1 72 17 (by unfold mr_lg; omega)) (fun q => ?_) (fun q => ?_)
  · replace h := h.1 q
    obtain ⟨g1, h⟩ := h
    obtain ⟨g2, h⟩ := h
    refine en_aload_n mc38_208 rfl ?_
    refine en_getR (b := 80) mv38 mc38_209 (lk_f7_31) (⟨rfl, by decide⟩ : mt_kd[72]? = some (.inl 7) ∧ 72 < 99) rfl (mk_fc ho (by decide +kernel)) ?_
    refine en_bipush mc38_212 (by decide) ?_
    refine en_aload_n mc38_214 rfl ?_
    refine en_getR (b := 80) mv38 mc38_215 (lk_f7_31) (⟨rfl, by decide⟩ : mt_kd[72]? = some (.inl 7) ∧ 72 < 99) rfl (mk_fc ho (by decide +kernel)) ?_
    refine en_bipush mc38_218 (by decide) ?_
    refine en_iald mc38_220 (⟨rfl, by decide, by decide⟩ : mt_kd[80]? = some (.inr (.int, 9)) ∧ 80 < 99 ∧ 9 < 2147483648) (by decide) (by decide) ?_
    refine en_aload_n mc38_221 rfl ?_
    refine en_getI mv38 mc38_222 (lk_f7_100) (⟨rfl, by decide⟩ : mt_kd[72]? = some (.inl 7) ∧ 72 < 99) (Or.inl rfl) ?_
    refine en_iadd mc38_225 ?_
    refine en_iast mc38_226 (⟨rfl, by decide, by decide⟩ : mt_kd[80]? = some (.inr (.int, 9)) ∧ 80 < 99 ∧ 9 < 2147483648) (by decide) (by decide) g1 ?_
    refine en_aload_n mc38_227 rfl ?_
    refine en_getR (b := 77) mv38 mc38_228 (lk_f7_22) (⟨rfl, by decide⟩ : mt_kd[72]? = some (.inl 7) ∧ 72 < 99) rfl (mk_fc (mr_ok_putI (a := 80) (k := 8) ho g1) (by decide +kernel)) ?_
    refine en_bipush mc38_231 (by decide) ?_
    refine en_dup2 mc38_233 rfl rfl ?_
    refine en_iald mc38_234 (⟨rfl, by decide, by decide⟩ : mt_kd[77]? = some (.inr (.int, 9)) ∧ 77 < 99 ∧ 9 < 2147483648) (by decide) (by decide) ?_
    refine en_iconst mc38_235 ?_
    refine en_iadd mc38_236 ?_
    refine en_iast mc38_237 (⟨rfl, by decide, by decide⟩ : mt_kd[77]? = some (.inr (.int, 9)) ∧ 77 < 99 ∧ 9 < 2147483648) (by decide) (by decide) g2 ?_
    exact en_vret mv38 mc38_238 rfl h
  · replace h := h.2 q
    obtain ⟨g3, h⟩ := h
    obtain ⟨g4, h⟩ := h
    obtain ⟨g5, h⟩ := h
    obtain ⟨g6, h⟩ := h
    obtain ⟨g7, h⟩ := h
    obtain ⟨g8, h⟩ := h
    obtain ⟨g9, h⟩ := h
    obtain ⟨g10, h⟩ := h
    obtain ⟨g11, h⟩ := h
    obtain ⟨g12, h⟩ := h
    obtain ⟨g13, h⟩ := h
    obtain ⟨g14, h⟩ := h
    refine en_aload_n mc38_160 rfl ?_
    refine en_getR (b := 78) mv38 mc38_161 (lk_f7_25) (⟨rfl, by decide⟩ : mt_kd[72]? = some (.inl 7) ∧ 72 < 99) rfl (mk_fc ho (by decide +kernel)) ?_
    refine en_aload_n mc38_164 rfl ?_
    refine en_getR (b := 75) mv38 mc38_165 (lk_f7_16) (⟨rfl, by decide⟩ : mt_kd[72]? = some (.inl 7) ∧ 72 < 99) rfl (mk_fc ho (by decide +kernel)) ?_
    refine en_iload_n mc38_168 rfl ?_
    refine en_iald mc38_169 (⟨rfl, by decide, by decide⟩ : mt_kd[75]? = some (.inr (.int, 918)) ∧ 75 < 99 ∧ 918 < 2147483648) g3 g4 ?_
    refine en_iload mc38_170 rfl ?_
    refine en_iadd mc38_172 ?_
    refine en_aload_n mc38_173 rfl ?_
    refine en_getR (b := 85) mv38 mc38_174 (lk_f7_46) (⟨rfl, by decide⟩ : mt_kd[72]? = some (.inl 7) ∧ 72 < 99) rfl (mk_fc ho (by decide +kernel)) ?_
    refine en_iload mc38_177 rfl ?_
    refine en_iald mc38_179 (⟨rfl, by decide, by decide⟩ : mt_kd[85]? = some (.inr (.int, 1200)) ∧ 85 < 99 ∧ 1200 < 2147483648) g5 g6 ?_
    refine en_iast mc38_180 (⟨rfl, by decide, by decide⟩ : mt_kd[78]? = some (.inr (.int, 3618)) ∧ 78 < 99 ∧ 3618 < 2147483648) g7 g8 (ho.2.1 85 l4 (by unfold mr_lg; omega)) ?_
    refine en_aload_n mc38_181 rfl ?_
    refine en_getR (b := 79) mv38 mc38_182 (lk_f7_28) (⟨rfl, by decide⟩ : mt_kd[72]? = some (.inl 7) ∧ 72 < 99) rfl (mk_fc (mr_ok_putI (a := 78) (k := ((M.1 75 l3) + l4)) ho (ho.2.1 85 l4 (by unfold mr_lg; omega))) (by decide +kernel)) ?_
    refine en_aload_n mc38_185 rfl ?_
    refine en_getR (b := 75) mv38 mc38_186 (lk_f7_16) (⟨rfl, by decide⟩ : mt_kd[72]? = some (.inl 7) ∧ 72 < 99) rfl (mk_fc (mr_ok_putI (a := 78) (k := ((M.1 75 l3) + l4)) ho (ho.2.1 85 l4 (by unfold mr_lg; omega))) (by decide +kernel)) ?_
    refine en_iload_n mc38_189 rfl ?_
    refine en_iald mc38_190 (⟨rfl, by decide, by decide⟩ : mt_kd[75]? = some (.inr (.int, 918)) ∧ 75 < 99 ∧ 918 < 2147483648) g9 g10 ?_
    refine en_iload mc38_191 rfl ?_
    refine en_iadd mc38_193 ?_
    refine en_aload_n mc38_194 rfl ?_
    refine en_getR (b := 86) mv38 mc38_195 (lk_f7_49) (⟨rfl, by decide⟩ : mt_kd[72]? = some (.inl 7) ∧ 72 < 99) rfl (mk_fc (mr_ok_putI (a := 78) (k := ((M.1 75 l3) + l4)) ho (ho.2.1 85 l4 (by unfold mr_lg; omega))) (by decide +kernel)) ?_
    refine en_iload mc38_198 rfl ?_
    refine en_iald mc38_200 (⟨rfl, by decide, by decide⟩ : mt_kd[86]? = some (.inr (.int, 1200)) ∧ 86 < 99 ∧ 1200 < 2147483648) g11 g12 ?_
    refine en_iast mc38_201 (⟨rfl, by decide, by decide⟩ : mt_kd[79]? = some (.inr (.int, 3618)) ∧ 79 < 99 ∧ 3618 < 2147483648) g13 g14 ((mr_ok_putI (a := 78) (k := ((M.1 75 l3) + l4)) ho (ho.2.1 85 l4 (by unfold mr_lg; omega))).2.1 86 l4 (by unfold mr_lg; omega)) ?_
    refine en_iinc (ls' := [mm_r 72, mm_i l1, mm_i l2, mm_i l3, mm_i (l4 + 1)]) mc38_202 rfl rfl ?_
    refine en_goto 151 mc38_205 (by decide) ?_
    exact h
/-! 39: CellAreasModel.finish(I)I -/
theorem mc39_0 : mr_C 39 0 = some (.aload_n 0, 1) := rfl
theorem mc39_1 : mr_C 39 1 = some (.getfield 93, 3) := rfl
theorem mc39_4 : mr_C 39 4 = some (.ifCond .eq (6), 3) := rfl
theorem mc39_7 : mr_C 39 7 = some (.bipush (-2), 2) := rfl
theorem mc39_9 : mr_C 39 9 = some (.ireturn, 1) := rfl
theorem mc39_10 : mr_C 39 10 = some (.aload_n 0, 1) := rfl
theorem mc39_11 : mr_C 39 11 = some (.getfield 22, 3) := rfl
theorem mc39_14 : mr_C 39 14 = some (.iload_n 1, 1) := rfl
theorem mc39_15 : mr_C 39 15 = some (.aload_n 0, 1) := rfl
theorem mc39_16 : mr_C 39 16 = some (.getfield 22, 3) := rfl
theorem mc39_19 : mr_C 39 19 = some (.bipush 8, 2) := rfl
theorem mc39_21 : mr_C 39 21 = some (.iaload, 1) := rfl
theorem mc39_22 : mr_C 39 22 = some (.iastore, 1) := rfl
theorem mc39_23 : mr_C 39 23 = some (.aload_n 0, 1) := rfl
theorem mc39_24 : mr_C 39 24 = some (.getfield 31, 3) := rfl
theorem mc39_27 : mr_C 39 27 = some (.iload_n 1, 1) := rfl
theorem mc39_28 : mr_C 39 28 = some (.aload_n 0, 1) := rfl
theorem mc39_29 : mr_C 39 29 = some (.getfield 31, 3) := rfl
theorem mc39_32 : mr_C 39 32 = some (.bipush 8, 2) := rfl
theorem mc39_34 : mr_C 39 34 = some (.iaload, 1) := rfl
theorem mc39_35 : mr_C 39 35 = some (.iastore, 1) := rfl
theorem mc39_36 : mr_C 39 36 = some (.iconst 0, 1) := rfl
theorem mc39_37 : mr_C 39 37 = some (.istore_n 2, 1) := rfl
theorem mc39_38 : mr_C 39 38 = some (.iload_n 2, 1) := rfl
theorem mc39_39 : mr_C 39 39 = some (.aload_n 0, 1) := rfl
theorem mc39_40 : mr_C 39 40 = some (.getfield 22, 3) := rfl
theorem mc39_43 : mr_C 39 43 = some (.iload_n 1, 1) := rfl
theorem mc39_44 : mr_C 39 44 = some (.iaload, 1) := rfl
theorem mc39_45 : mr_C 39 45 = some (.if_icmp .ge (103), 3) := rfl
theorem mc39_48 : mr_C 39 48 = some (.aload_n 0, 1) := rfl
theorem mc39_49 : mr_C 39 49 = some (.getfield 7, 3) := rfl
theorem mc39_52 : mr_C 39 52 = some (.bipush 102, 2) := rfl
theorem mc39_54 : mr_C 39 54 = some (.iload_n 1, 1) := rfl
theorem mc39_55 : mr_C 39 55 = some (.imul, 1) := rfl
theorem mc39_56 : mr_C 39 56 = some (.iload_n 2, 1) := rfl
theorem mc39_57 : mr_C 39 57 = some (.iadd, 1) := rfl
theorem mc39_58 : mr_C 39 58 = some (.aload_n 0, 1) := rfl
theorem mc39_59 : mr_C 39 59 = some (.getfield 7, 3) := rfl
theorem mc39_62 : mr_C 39 62 = some (.sipush 816, 3) := rfl
theorem mc39_65 : mr_C 39 65 = some (.iload_n 2, 1) := rfl
theorem mc39_66 : mr_C 39 66 = some (.iadd, 1) := rfl
theorem mc39_67 : mr_C 39 67 = some (.iaload, 1) := rfl
theorem mc39_68 : mr_C 39 68 = some (.iastore, 1) := rfl
theorem mc39_69 : mr_C 39 69 = some (.aload_n 0, 1) := rfl
theorem mc39_70 : mr_C 39 70 = some (.getfield 13, 3) := rfl
theorem mc39_73 : mr_C 39 73 = some (.bipush 102, 2) := rfl
theorem mc39_75 : mr_C 39 75 = some (.iload_n 1, 1) := rfl
theorem mc39_76 : mr_C 39 76 = some (.imul, 1) := rfl
theorem mc39_77 : mr_C 39 77 = some (.iload_n 2, 1) := rfl
theorem mc39_78 : mr_C 39 78 = some (.iadd, 1) := rfl
theorem mc39_79 : mr_C 39 79 = some (.aload_n 0, 1) := rfl
theorem mc39_80 : mr_C 39 80 = some (.getfield 13, 3) := by decide +kernel
theorem mc39_83 : mr_C 39 83 = some (.sipush 816, 3) := by decide +kernel
theorem mc39_86 : mr_C 39 86 = some (.iload_n 2, 1) := by decide +kernel
theorem mc39_87 : mr_C 39 87 = some (.iadd, 1) := by decide +kernel
theorem mc39_88 : mr_C 39 88 = some (.iaload, 1) := by decide +kernel
theorem mc39_89 : mr_C 39 89 = some (.iastore, 1) := by decide +kernel
theorem mc39_90 : mr_C 39 90 = some (.aload_n 0, 1) := by decide +kernel
theorem mc39_91 : mr_C 39 91 = some (.getfield 19, 3) := by decide +kernel
theorem mc39_94 : mr_C 39 94 = some (.bipush 102, 2) := by decide +kernel
theorem mc39_96 : mr_C 39 96 = some (.iload_n 1, 1) := by decide +kernel
theorem mc39_97 : mr_C 39 97 = some (.imul, 1) := by decide +kernel
theorem mc39_98 : mr_C 39 98 = some (.iload_n 2, 1) := by decide +kernel
theorem mc39_99 : mr_C 39 99 = some (.iadd, 1) := by decide +kernel
theorem mc39_100 : mr_C 39 100 = some (.aload_n 0, 1) := by decide +kernel
theorem mc39_101 : mr_C 39 101 = some (.getfield 19, 3) := by decide +kernel
theorem mc39_104 : mr_C 39 104 = some (.sipush 816, 3) := by decide +kernel
theorem mc39_107 : mr_C 39 107 = some (.iload_n 2, 1) := by decide +kernel
theorem mc39_108 : mr_C 39 108 = some (.iadd, 1) := by decide +kernel
theorem mc39_109 : mr_C 39 109 = some (.iaload, 1) := by decide +kernel
theorem mc39_110 : mr_C 39 110 = some (.iastore, 1) := by decide +kernel
theorem mc39_111 : mr_C 39 111 = some (.aload_n 0, 1) := by decide +kernel
theorem mc39_112 : mr_C 39 112 = some (.getfield 16, 3) := by decide +kernel
theorem mc39_115 : mr_C 39 115 = some (.bipush 102, 2) := by decide +kernel
theorem mc39_117 : mr_C 39 117 = some (.iload_n 1, 1) := by decide +kernel
theorem mc39_118 : mr_C 39 118 = some (.imul, 1) := by decide +kernel
theorem mc39_119 : mr_C 39 119 = some (.iload_n 2, 1) := by decide +kernel
theorem mc39_120 : mr_C 39 120 = some (.iadd, 1) := by decide +kernel
theorem mc39_121 : mr_C 39 121 = some (.aload_n 0, 1) := by decide +kernel
theorem mc39_122 : mr_C 39 122 = some (.getfield 16, 3) := by decide +kernel
theorem mc39_125 : mr_C 39 125 = some (.sipush 816, 3) := by decide +kernel
theorem mc39_128 : mr_C 39 128 = some (.iload_n 2, 1) := by decide +kernel
theorem mc39_129 : mr_C 39 129 = some (.iadd, 1) := by decide +kernel
theorem mc39_130 : mr_C 39 130 = some (.iaload, 1) := by decide +kernel
theorem mc39_131 : mr_C 39 131 = some (.sipush 3216, 3) := by decide +kernel
theorem mc39_134 : mr_C 39 134 = some (.isub, 1) := by decide +kernel
theorem mc39_135 : mr_C 39 135 = some (.sipush 402, 3) := by decide +kernel
theorem mc39_138 : mr_C 39 138 = some (.iload_n 1, 1) := by decide +kernel
theorem mc39_139 : mr_C 39 139 = some (.imul, 1) := by decide +kernel
theorem mc39_140 : mr_C 39 140 = some (.iadd, 1) := by decide +kernel
theorem mc39_141 : mr_C 39 141 = some (.iastore, 1) := by decide +kernel
theorem mc39_142 : mr_C 39 142 = some (.iinc 2 (1), 3) := by decide +kernel
theorem mc39_145 : mr_C 39 145 = some (.goto (-107), 3) := by decide +kernel
theorem mc39_148 : mr_C 39 148 = some (.iconst 0, 1) := by decide +kernel
theorem mc39_149 : mr_C 39 149 = some (.istore_n 2, 1) := by decide +kernel
theorem mc39_150 : mr_C 39 150 = some (.iload_n 2, 1) := by decide +kernel
theorem mc39_151 : mr_C 39 151 = some (.aload_n 0, 1) := by decide +kernel
theorem mc39_152 : mr_C 39 152 = some (.getfield 31, 3) := by decide +kernel
theorem mc39_155 : mr_C 39 155 = some (.iload_n 1, 1) := by decide +kernel
theorem mc39_156 : mr_C 39 156 = some (.iaload, 1) := by decide +kernel
theorem mc39_157 : mr_C 39 157 = some (.if_icmp .ge (53), 3) := by decide +kernel
theorem mc39_160 : mr_C 39 160 = some (.aload_n 0, 1) := by decide +kernel
theorem mc39_161 : mr_C 39 161 = some (.getfield 25, 3) := by decide +kernel
theorem mc39_164 : mr_C 39 164 = some (.sipush 402, 3) := by decide +kernel
theorem mc39_167 : mr_C 39 167 = some (.iload_n 1, 1) := by decide +kernel
theorem mc39_168 : mr_C 39 168 = some (.imul, 1) := by decide +kernel
theorem mc39_169 : mr_C 39 169 = some (.iload_n 2, 1) := by decide +kernel
theorem mc39_170 : mr_C 39 170 = some (.iadd, 1) := by decide +kernel
theorem mc39_171 : mr_C 39 171 = some (.aload_n 0, 1) := by decide +kernel
theorem mc39_172 : mr_C 39 172 = some (.getfield 25, 3) := by decide +kernel
theorem mc39_175 : mr_C 39 175 = some (.sipush 3216, 3) := by decide +kernel
theorem mc39_178 : mr_C 39 178 = some (.iload_n 2, 1) := by decide +kernel
theorem mc39_179 : mr_C 39 179 = some (.iadd, 1) := by decide +kernel
theorem mc39_180 : mr_C 39 180 = some (.iaload, 1) := by decide +kernel
theorem mc39_181 : mr_C 39 181 = some (.iastore, 1) := by decide +kernel
theorem mc39_182 : mr_C 39 182 = some (.aload_n 0, 1) := by decide +kernel
theorem mc39_183 : mr_C 39 183 = some (.getfield 28, 3) := by decide +kernel
theorem mc39_186 : mr_C 39 186 = some (.sipush 402, 3) := by decide +kernel
theorem mc39_189 : mr_C 39 189 = some (.iload_n 1, 1) := by decide +kernel
theorem mc39_190 : mr_C 39 190 = some (.imul, 1) := by decide +kernel
theorem mc39_191 : mr_C 39 191 = some (.iload_n 2, 1) := by decide +kernel
theorem mc39_192 : mr_C 39 192 = some (.iadd, 1) := by decide +kernel
theorem mc39_193 : mr_C 39 193 = some (.aload_n 0, 1) := by decide +kernel
theorem mc39_194 : mr_C 39 194 = some (.getfield 28, 3) := by decide +kernel
theorem mc39_197 : mr_C 39 197 = some (.sipush 3216, 3) := by decide +kernel
theorem mc39_200 : mr_C 39 200 = some (.iload_n 2, 1) := by decide +kernel
theorem mc39_201 : mr_C 39 201 = some (.iadd, 1) := by decide +kernel
theorem mc39_202 : mr_C 39 202 = some (.iaload, 1) := by decide +kernel
theorem mc39_203 : mr_C 39 203 = some (.iastore, 1) := by decide +kernel
theorem mc39_204 : mr_C 39 204 = some (.iinc 2 (1), 3) := by decide +kernel
theorem mc39_207 : mr_C 39 207 = some (.goto (-57), 3) := by decide +kernel
theorem mc39_210 : mr_C 39 210 = some (.aload_n 0, 1) := by decide +kernel
theorem mc39_211 : mr_C 39 211 = some (.getfield 22, 3) := by decide +kernel
theorem mc39_214 : mr_C 39 214 = some (.iload_n 1, 1) := by decide +kernel
theorem mc39_215 : mr_C 39 215 = some (.iaload, 1) := by decide +kernel
theorem mc39_216 : mr_C 39 216 = some (.ireturn, 1) := by decide +kernel
theorem vc39_0 {sc : Nat × (Int → Int)} {Q : mm_R → mm_M → Prop} {M : mm_M} {l1 : Int} (ho : mr_ok M)
    (h : ((M.1 72 20) = 0 → 0 ≤ l1 ∧ (l1 < 9 ∧ (0 ≤ l1 ∧ (l1 < 9 ∧ (en_R sc 39 38 [mm_r 72, mm_i l1, mm_i 0] [] (mm_putN (mm_putN M 77 l1 (M.1 77 8)) 80 l1 ((mm_putN M 77 l1 (M.1 77 8)).1 80 8)) Q))))) ∧ (¬ (M.1 72 20) = 0 → Q (.inl (some (mm_i (-2)))) M)) : en_R sc 39 0 [mm_r 72, mm_i l1, mm_u] [] M Q := by
  refine en_aload_n mc39_0 rfl ?_
  refine en_getI mv39 mc39_1 (lk_f7_93) (⟨rfl, by decide⟩ : mt_kd[72]? = some (.inl 7) ∧ 72 < 99) (Or.inr rfl) ?_
  refine en_if_eq 10 mc39_4 (by decide) (ho.2.1 72 20 (by unfold mr_lg; omega)) (fun q => ?_) (fun q => ?_)
  · replace h := h.1 q
    obtain ⟨g1, h⟩ := h
    obtain ⟨g2, h⟩ := h
    obtain ⟨g3, h⟩ := h
    obtain ⟨g4, h⟩ := h
    refine en_aload_n mc39_10 rfl ?_
    refine en_getR (b := 77) mv39 mc39_11 (lk_f7_22) (⟨rfl, by decide⟩ : mt_kd[72]? = some (.inl 7) ∧ 72 < 99) rfl (mk_fc ho (by decide +kernel)) ?_
    refine en_iload_n mc39_14 rfl ?_
    refine en_aload_n mc39_15 rfl ?_
    refine en_getR (b := 77) mv39 mc39_16 (lk_f7_22) (⟨rfl, by decide⟩ : mt_kd[72]? = some (.inl 7) ∧ 72 < 99) rfl (mk_fc ho (by decide +kernel)) ?_
    refine en_bipush mc39_19 (by decide) ?_
    refine en_iald mc39_21 (⟨rfl, by decide, by decide⟩ : mt_kd[77]? = some (.inr (.int, 9)) ∧ 77 < 99 ∧ 9 < 2147483648) (by decide) (by decide) ?_
    refine en_iast mc39_22 (⟨rfl, by decide, by decide⟩ : mt_kd[77]? = some (.inr (.int, 9)) ∧ 77 < 99 ∧ 9 < 2147483648) g1 g2 (ho.2.1 77 8 (by unfold mr_lg; omega)) ?_
    refine en_aload_n mc39_23 rfl ?_
    refine en_getR (b := 80) mv39 mc39_24 (lk_f7_31) (⟨rfl, by decide⟩ : mt_kd[72]? = some (.inl 7) ∧ 72 < 99) rfl (mk_fc (mr_ok_putI (a := 77) (k := l1) ho (ho.2.1 77 8 (by unfold mr_lg; omega))) (by decide +kernel)) ?_
    refine en_iload_n mc39_27 rfl ?_
    refine en_aload_n mc39_28 rfl ?_
    refine en_getR (b := 80) mv39 mc39_29 (lk_f7_31) (⟨rfl, by decide⟩ : mt_kd[72]? = some (.inl 7) ∧ 72 < 99) rfl (mk_fc (mr_ok_putI (a := 77) (k := l1) ho (ho.2.1 77 8 (by unfold mr_lg; omega))) (by decide +kernel)) ?_
    refine en_bipush mc39_32 (by decide) ?_
    refine en_iald mc39_34 (⟨rfl, by decide, by decide⟩ : mt_kd[80]? = some (.inr (.int, 9)) ∧ 80 < 99 ∧ 9 < 2147483648) (by decide) (by decide) ?_
    refine en_iast mc39_35 (⟨rfl, by decide, by decide⟩ : mt_kd[80]? = some (.inr (.int, 9)) ∧ 80 < 99 ∧ 9 < 2147483648) g3 g4 ((mr_ok_putI (a := 77) (k := l1) ho (ho.2.1 77 8 (by unfold mr_lg; omega))).2.1 80 8 (by unfold mr_lg; omega)) ?_
    refine en_iconst mc39_36 ?_
    refine en_istore_n (ls' := [mm_r 72, mm_i l1, mm_i 0]) mc39_37 (Nat.le_of_ble_eq_true rfl) rfl ?_
    exact h
  · replace h := h.2 q
    refine en_bipush mc39_7 (by decide) ?_
    exact en_iret mv39 mc39_9 rfl h
theorem vc39_38 {sc : Nat × (Int → Int)} {Q : mm_R → mm_M → Prop} {M : mm_M} {l1 : Int} {l2 : Int} (ho : mr_ok M) (hg_l2 : mr_rg l2)
    (h : 0 ≤ l1 ∧ (l1 < 9 ∧ (((M.1 77 l1) ≤ l2 → en_R sc 39 150 [mm_r 72, mm_i l1, mm_i 0] [] M Q) ∧ (¬ (M.1 77 l1) ≤ l2 → 0 ≤ (816 + l2) ∧ ((816 + l2) < 918 ∧ (0 ≤ ((102 * l1) + l2) ∧ (((102 * l1) + l2) < 918 ∧ (0 ≤ (816 + l2) ∧ ((816 + l2) < 918 ∧ (0 ≤ ((102 * l1) + l2) ∧ (((102 * l1) + l2) < 918 ∧ (0 ≤ (816 + l2) ∧ ((816 + l2) < 918 ∧ (0 ≤ ((102 * l1) + l2) ∧ (((102 * l1) + l2) < 918 ∧ (0 ≤ (816 + l2) ∧ ((816 + l2) < 918 ∧ (0 ≤ ((102 * l1) + l2) ∧ (((102 * l1) + l2) < 918 ∧ (mr_rg ((((mm_putN (mm_putN (mm_putN M 73 ((102 * l1) + l2) (M.1 73 (816 + l2))) 74 ((102 * l1) + l2) ((mm_putN M 73 ((102 * l1) + l2) (M.1 73 (816 + l2))).1 74 (816 + l2))) 76 ((102 * l1) + l2) ((mm_putN (mm_putN M 73 ((102 * l1) + l2) (M.1 73 (816 + l2))) 74 ((102 * l1) + l2) ((mm_putN M 73 ((102 * l1) + l2) (M.1 73 (816 + l2))).1 74 (816 + l2))).1 76 (816 + l2))).1 75 (816 + l2)) - 3216) + (402 * l1)) ∧ (en_R sc 39 38 [mm_r 72, mm_i l1, mm_i (l2 + 1)] [] (mm_putN (mm_putN (mm_putN (mm_putN M 73 ((102 * l1) + l2) (M.1 73 (816 + l2))) 74 ((102 * l1) + l2) ((mm_putN M 73 ((102 * l1) + l2) (M.1 73 (816 + l2))).1 74 (816 + l2))) 76 ((102 * l1) + l2) ((mm_putN (mm_putN M 73 ((102 * l1) + l2) (M.1 73 (816 + l2))) 74 ((102 * l1) + l2) ((mm_putN M 73 ((102 * l1) + l2) (M.1 73 (816 + l2))).1 74 (816 + l2))).1 76 (816 + l2))) 75 ((102 * l1) + l2) ((((mm_putN (mm_putN (mm_putN M 73 ((102 * l1) + l2) (M.1 73 (816 + l2))) 74 ((102 * l1) + l2) ((mm_putN M 73 ((102 * l1) + l2) (M.1 73 (816 + l2))).1 74 (816 + l2))) 76 ((102 * l1) + l2) ((mm_putN (mm_putN M 73 ((102 * l1) + l2) (M.1 73 (816 + l2))) 74 ((102 * l1) + l2) ((mm_putN M 73 ((102 * l1) + l2) (M.1 73 (816 + l2))).1 74 (816 + l2))).1 76 (816 + l2))).1 75 (816 + l2)) - 3216) + (402 * l1))) Q))))))))))))))))))))) : en_R sc 39 38 [mm_r 72, mm_i l1, mm_i l2] [] M Q := by
  obtain ⟨g1, h⟩ := h
  obtain ⟨g2, h⟩ := h
  refine en_iload_n mc39_38 rfl ?_
  refine en_aload_n mc39_39 rfl ?_
  refine en_getR (b := 77) mv39 mc39_40 (lk_f7_22) (⟨rfl, by decide⟩ : mt_kd[72]? = some (.inl 7) ∧ 72 < 99) rfl (mk_fc ho (by decide +kernel)) ?_
  refine en_iload_n mc39_43 rfl ?_
  refine en_iald mc39_44 (⟨rfl, by decide, by decide⟩ : mt_kd[77]? = some (.inr (.int, 9)) ∧ 77 < 99 ∧ 9 < 2147483648) g1 g2 ?_
  refine en_icmp_ge 148 mc39_45 (by decide) hg_l2 (ho.2.1 77 l1 (by unfold mr_lg; omega)) (fun q => ?_) (fun q => ?_)
  · replace h := h.1 q
    refine en_iconst mc39_148 ?_
    refine en_istore_n (ls' := [mm_r 72, mm_i l1, mm_i 0]) mc39_149 (Nat.le_of_ble_eq_true rfl) rfl ?_
    exact h
  · replace h := h.2 q
    obtain ⟨g3, h⟩ := h
    obtain ⟨g4, h⟩ := h
    obtain ⟨g5, h⟩ := h
    obtain ⟨g6, h⟩ := h
    obtain ⟨g7, h⟩ := h
    obtain ⟨g8, h⟩ := h
    obtain ⟨g9, h⟩ := h
    obtain ⟨g10, h⟩ := h
    obtain ⟨g11, h⟩ := h
    obtain ⟨g12, h⟩ := h
    obtain ⟨g13, h⟩ := h
    obtain ⟨g14, h⟩ := h
    obtain ⟨g15, h⟩ := h
    obtain ⟨g16, h⟩ := h
    obtain ⟨g17, h⟩ := h
    obtain ⟨g18, h⟩ := h
    obtain ⟨g19, h⟩ := h
    refine en_aload_n mc39_48 rfl ?_
    refine en_getR (b := 73) mv39 mc39_49 (lk_f7_7) (⟨rfl, by decide⟩ : mt_kd[72]? = some (.inl 7) ∧ 72 < 99) rfl (mk_fc ho (by decide +kernel)) ?_
    refine en_bipush mc39_52 (by decide) ?_
    refine en_iload_n mc39_54 rfl ?_
    refine en_imul mc39_55 ?_
    refine en_iload_n mc39_56 rfl ?_
    refine en_iadd mc39_57 ?_
    refine en_aload_n mc39_58 rfl ?_
    refine en_getR (b := 73) mv39 mc39_59 (lk_f7_7) (⟨rfl, by decide⟩ : mt_kd[72]? = some (.inl 7) ∧ 72 < 99) rfl (mk_fc ho (by decide +kernel)) ?_
    refine en_sipush mc39_62 (by decide) ?_
    refine en_iload_n mc39_65 rfl ?_
    refine en_iadd mc39_66 ?_
    refine en_iald mc39_67 (⟨rfl, by decide, by decide⟩ : mt_kd[73]? = some (.inr (.int, 918)) ∧ 73 < 99 ∧ 918 < 2147483648) g3 g4 ?_
    refine en_iast mc39_68 (⟨rfl, by decide, by decide⟩ : mt_kd[73]? = some (.inr (.int, 918)) ∧ 73 < 99 ∧ 918 < 2147483648) g5 g6 (ho.2.1 73 (816 + l2) (by unfold mr_lg; omega)) ?_
    refine en_aload_n mc39_69 rfl ?_
    refine en_getR (b := 74) mv39 mc39_70 (lk_f7_13) (⟨rfl, by decide⟩ : mt_kd[72]? = some (.inl 7) ∧ 72 < 99) rfl (mk_fc (mr_ok_putI (a := 73) (k := ((102 * l1) + l2)) ho (ho.2.1 73 (816 + l2) (by unfold mr_lg; omega))) (by decide +kernel)) ?_
    refine en_bipush mc39_73 (by decide) ?_
    refine en_iload_n mc39_75 rfl ?_
    refine en_imul mc39_76 ?_
    refine en_iload_n mc39_77 rfl ?_
    refine en_iadd mc39_78 ?_
    refine en_aload_n mc39_79 rfl ?_
    refine en_getR (b := 74) mv39 mc39_80 (lk_f7_13) (⟨rfl, by decide⟩ : mt_kd[72]? = some (.inl 7) ∧ 72 < 99) rfl (mk_fc (mr_ok_putI (a := 73) (k := ((102 * l1) + l2)) ho (ho.2.1 73 (816 + l2) (by unfold mr_lg; omega))) (by decide +kernel)) ?_
    refine en_sipush mc39_83 (by decide) ?_
    refine en_iload_n mc39_86 rfl ?_
    refine en_iadd mc39_87 ?_
    refine en_iald mc39_88 (⟨rfl, by decide, by decide⟩ : mt_kd[74]? = some (.inr (.int, 918)) ∧ 74 < 99 ∧ 918 < 2147483648) g7 g8 ?_
    refine en_iast mc39_89 (⟨rfl, by decide, by decide⟩ : mt_kd[74]? = some (.inr (.int, 918)) ∧ 74 < 99 ∧ 918 < 2147483648) g9 g10 ((mr_ok_putI (a := 73) (k := ((102 * l1) + l2)) ho (ho.2.1 73 (816 + l2) (by unfold mr_lg; omega))).2.1 74 (816 + l2) (by unfold mr_lg; omega)) ?_
    refine en_aload_n mc39_90 rfl ?_
    refine en_getR (b := 76) mv39 mc39_91 (lk_f7_19) (⟨rfl, by decide⟩ : mt_kd[72]? = some (.inl 7) ∧ 72 < 99) rfl (mk_fc (mr_ok_putI (a := 74) (k := ((102 * l1) + l2)) (mr_ok_putI (a := 73) (k := ((102 * l1) + l2)) ho (ho.2.1 73 (816 + l2) (by unfold mr_lg; omega))) ((mr_ok_putI (a := 73) (k := ((102 * l1) + l2)) ho (ho.2.1 73 (816 + l2) (by unfold mr_lg; omega))).2.1 74 (816 + l2) (by unfold mr_lg; omega))) (by decide +kernel)) ?_
    refine en_bipush mc39_94 (by decide) ?_
    refine en_iload_n mc39_96 rfl ?_
    refine en_imul mc39_97 ?_
    refine en_iload_n mc39_98 rfl ?_
    refine en_iadd mc39_99 ?_
    refine en_aload_n mc39_100 rfl ?_
    refine en_getR (b := 76) mv39 mc39_101 (lk_f7_19) (⟨rfl, by decide⟩ : mt_kd[72]? = some (.inl 7) ∧ 72 < 99) rfl (mk_fc (mr_ok_putI (a := 74) (k := ((102 * l1) + l2)) (mr_ok_putI (a := 73) (k := ((102 * l1) + l2)) ho (ho.2.1 73 (816 + l2) (by unfold mr_lg; omega))) ((mr_ok_putI (a := 73) (k := ((102 * l1) + l2)) ho (ho.2.1 73 (816 + l2) (by unfold mr_lg; omega))).2.1 74 (816 + l2) (by unfold mr_lg; omega))) (by decide +kernel)) ?_
    refine en_sipush mc39_104 (by decide) ?_
    refine en_iload_n mc39_107 rfl ?_
    refine en_iadd mc39_108 ?_
    refine en_iald mc39_109 (⟨rfl, by decide, by decide⟩ : mt_kd[76]? = some (.inr (.int, 918)) ∧ 76 < 99 ∧ 918 < 2147483648) g11 g12 ?_
    refine en_iast mc39_110 (⟨rfl, by decide, by decide⟩ : mt_kd[76]? = some (.inr (.int, 918)) ∧ 76 < 99 ∧ 918 < 2147483648) g13 g14 ((mr_ok_putI (a := 74) (k := ((102 * l1) + l2)) (mr_ok_putI (a := 73) (k := ((102 * l1) + l2)) ho (ho.2.1 73 (816 + l2) (by unfold mr_lg; omega))) ((mr_ok_putI (a := 73) (k := ((102 * l1) + l2)) ho (ho.2.1 73 (816 + l2) (by unfold mr_lg; omega))).2.1 74 (816 + l2) (by unfold mr_lg; omega))).2.1 76 (816 + l2) (by unfold mr_lg; omega)) ?_
    refine en_aload_n mc39_111 rfl ?_
    refine en_getR (b := 75) mv39 mc39_112 (lk_f7_16) (⟨rfl, by decide⟩ : mt_kd[72]? = some (.inl 7) ∧ 72 < 99) rfl (mk_fc (mr_ok_putI (a := 76) (k := ((102 * l1) + l2)) (mr_ok_putI (a := 74) (k := ((102 * l1) + l2)) (mr_ok_putI (a := 73) (k := ((102 * l1) + l2)) ho (ho.2.1 73 (816 + l2) (by unfold mr_lg; omega))) ((mr_ok_putI (a := 73) (k := ((102 * l1) + l2)) ho (ho.2.1 73 (816 + l2) (by unfold mr_lg; omega))).2.1 74 (816 + l2) (by unfold mr_lg; omega))) ((mr_ok_putI (a := 74) (k := ((102 * l1) + l2)) (mr_ok_putI (a := 73) (k := ((102 * l1) + l2)) ho (ho.2.1 73 (816 + l2) (by unfold mr_lg; omega))) ((mr_ok_putI (a := 73) (k := ((102 * l1) + l2)) ho (ho.2.1 73 (816 + l2) (by unfold mr_lg; omega))).2.1 74 (816 + l2) (by unfold mr_lg; omega))).2.1 76 (816 + l2) (by unfold mr_lg; omega))) (by decide +kernel)) ?_
    refine en_bipush mc39_115 (by decide) ?_
    refine en_iload_n mc39_117 rfl ?_
    refine en_imul mc39_118 ?_
    refine en_iload_n mc39_119 rfl ?_
    refine en_iadd mc39_120 ?_
    refine en_aload_n mc39_121 rfl ?_
    refine en_getR (b := 75) mv39 mc39_122 (lk_f7_16) (⟨rfl, by decide⟩ : mt_kd[72]? = some (.inl 7) ∧ 72 < 99) rfl (mk_fc (mr_ok_putI (a := 76) (k := ((102 * l1) + l2)) (mr_ok_putI (a := 74) (k := ((102 * l1) + l2)) (mr_ok_putI (a := 73) (k := ((102 * l1) + l2)) ho (ho.2.1 73 (816 + l2) (by unfold mr_lg; omega))) ((mr_ok_putI (a := 73) (k := ((102 * l1) + l2)) ho (ho.2.1 73 (816 + l2) (by unfold mr_lg; omega))).2.1 74 (816 + l2) (by unfold mr_lg; omega))) ((mr_ok_putI (a := 74) (k := ((102 * l1) + l2)) (mr_ok_putI (a := 73) (k := ((102 * l1) + l2)) ho (ho.2.1 73 (816 + l2) (by unfold mr_lg; omega))) ((mr_ok_putI (a := 73) (k := ((102 * l1) + l2)) ho (ho.2.1 73 (816 + l2) (by unfold mr_lg; omega))).2.1 74 (816 + l2) (by unfold mr_lg; omega))).2.1 76 (816 + l2) (by unfold mr_lg; omega))) (by decide +kernel)) ?_
    refine en_sipush mc39_125 (by decide) ?_
    refine en_iload_n mc39_128 rfl ?_
    refine en_iadd mc39_129 ?_
    refine en_iald mc39_130 (⟨rfl, by decide, by decide⟩ : mt_kd[75]? = some (.inr (.int, 918)) ∧ 75 < 99 ∧ 918 < 2147483648) g15 g16 ?_
    refine en_sipush mc39_131 (by decide) ?_
    refine en_isub mc39_134 ?_
    refine en_sipush mc39_135 (by decide) ?_
    refine en_iload_n mc39_138 rfl ?_
    refine en_imul mc39_139 ?_
    refine en_iadd mc39_140 ?_
    refine en_iast mc39_141 (⟨rfl, by decide, by decide⟩ : mt_kd[75]? = some (.inr (.int, 918)) ∧ 75 < 99 ∧ 918 < 2147483648) g17 g18 g19 ?_
    refine en_iinc (ls' := [mm_r 72, mm_i l1, mm_i (l2 + 1)]) mc39_142 rfl rfl ?_
    refine en_goto 38 mc39_145 (by decide) ?_
    exact h
theorem vc39_150 {sc : Nat × (Int → Int)} {Q : mm_R → mm_M → Prop} {M : mm_M} {l1 : Int} {l2 : Int} (ho : mr_ok M) (hg_l2 : mr_rg l2)
    (h : 0 ≤ l1 ∧ (l1 < 9 ∧ (((M.1 80 l1) ≤ l2 → 0 ≤ l1 ∧ (l1 < 9 ∧ (Q (.inl (some (mm_i (M.1 77 l1)))) M))) ∧ (¬ (M.1 80 l1) ≤ l2 → 0 ≤ (3216 + l2) ∧ ((3216 + l2) < 3618 ∧ (0 ≤ ((402 * l1) + l2) ∧ (((402 * l1) + l2) < 3618 ∧ (0 ≤ (3216 + l2) ∧ ((3216 + l2) < 3618 ∧ (0 ≤ ((402 * l1) + l2) ∧ (((402 * l1) + l2) < 3618 ∧ (en_R sc 39 150 [mm_r 72, mm_i l1, mm_i (l2 + 1)] [] (mm_putN (mm_putN M 78 ((402 * l1) + l2) (M.1 78 (3216 + l2))) 79 ((402 * l1) + l2) ((mm_putN M 78 ((402 * l1) + l2) (M.1 78 (3216 + l2))).1 79 (3216 + l2))) Q)))))))))))) : en_R sc 39 150 [mm_r 72, mm_i l1, mm_i l2] [] M Q := by
  obtain ⟨g1, h⟩ := h
  obtain ⟨g2, h⟩ := h
  refine en_iload_n mc39_150 rfl ?_
  refine en_aload_n mc39_151 rfl ?_
  refine en_getR (b := 80) mv39 mc39_152 (lk_f7_31) (⟨rfl, by decide⟩ : mt_kd[72]? = some (.inl 7) ∧ 72 < 99) rfl (mk_fc ho (by decide +kernel)) ?_
  refine en_iload_n mc39_155 rfl ?_
  refine en_iald mc39_156 (⟨rfl, by decide, by decide⟩ : mt_kd[80]? = some (.inr (.int, 9)) ∧ 80 < 99 ∧ 9 < 2147483648) g1 g2 ?_
  refine en_icmp_ge 210 mc39_157 (by decide) hg_l2 (ho.2.1 80 l1 (by unfold mr_lg; omega)) (fun q => ?_) (fun q => ?_)
  · replace h := h.1 q
    obtain ⟨g3, h⟩ := h
    obtain ⟨g4, h⟩ := h
    refine en_aload_n mc39_210 rfl ?_
    refine en_getR (b := 77) mv39 mc39_211 (lk_f7_22) (⟨rfl, by decide⟩ : mt_kd[72]? = some (.inl 7) ∧ 72 < 99) rfl (mk_fc ho (by decide +kernel)) ?_
    refine en_iload_n mc39_214 rfl ?_
    refine en_iald mc39_215 (⟨rfl, by decide, by decide⟩ : mt_kd[77]? = some (.inr (.int, 9)) ∧ 77 < 99 ∧ 9 < 2147483648) g3 g4 ?_
    exact en_iret mv39 mc39_216 rfl h
  · replace h := h.2 q
    obtain ⟨g5, h⟩ := h
    obtain ⟨g6, h⟩ := h
    obtain ⟨g7, h⟩ := h
    obtain ⟨g8, h⟩ := h
    obtain ⟨g9, h⟩ := h
    obtain ⟨g10, h⟩ := h
    obtain ⟨g11, h⟩ := h
    obtain ⟨g12, h⟩ := h
    refine en_aload_n mc39_160 rfl ?_
    refine en_getR (b := 78) mv39 mc39_161 (lk_f7_25) (⟨rfl, by decide⟩ : mt_kd[72]? = some (.inl 7) ∧ 72 < 99) rfl (mk_fc ho (by decide +kernel)) ?_
    refine en_sipush mc39_164 (by decide) ?_
    refine en_iload_n mc39_167 rfl ?_
    refine en_imul mc39_168 ?_
    refine en_iload_n mc39_169 rfl ?_
    refine en_iadd mc39_170 ?_
    refine en_aload_n mc39_171 rfl ?_
    refine en_getR (b := 78) mv39 mc39_172 (lk_f7_25) (⟨rfl, by decide⟩ : mt_kd[72]? = some (.inl 7) ∧ 72 < 99) rfl (mk_fc ho (by decide +kernel)) ?_
    refine en_sipush mc39_175 (by decide) ?_
    refine en_iload_n mc39_178 rfl ?_
    refine en_iadd mc39_179 ?_
    refine en_iald mc39_180 (⟨rfl, by decide, by decide⟩ : mt_kd[78]? = some (.inr (.int, 3618)) ∧ 78 < 99 ∧ 3618 < 2147483648) g5 g6 ?_
    refine en_iast mc39_181 (⟨rfl, by decide, by decide⟩ : mt_kd[78]? = some (.inr (.int, 3618)) ∧ 78 < 99 ∧ 3618 < 2147483648) g7 g8 (ho.2.1 78 (3216 + l2) (by unfold mr_lg; omega)) ?_
    refine en_aload_n mc39_182 rfl ?_
    refine en_getR (b := 79) mv39 mc39_183 (lk_f7_28) (⟨rfl, by decide⟩ : mt_kd[72]? = some (.inl 7) ∧ 72 < 99) rfl (mk_fc (mr_ok_putI (a := 78) (k := ((402 * l1) + l2)) ho (ho.2.1 78 (3216 + l2) (by unfold mr_lg; omega))) (by decide +kernel)) ?_
    refine en_sipush mc39_186 (by decide) ?_
    refine en_iload_n mc39_189 rfl ?_
    refine en_imul mc39_190 ?_
    refine en_iload_n mc39_191 rfl ?_
    refine en_iadd mc39_192 ?_
    refine en_aload_n mc39_193 rfl ?_
    refine en_getR (b := 79) mv39 mc39_194 (lk_f7_28) (⟨rfl, by decide⟩ : mt_kd[72]? = some (.inl 7) ∧ 72 < 99) rfl (mk_fc (mr_ok_putI (a := 78) (k := ((402 * l1) + l2)) ho (ho.2.1 78 (3216 + l2) (by unfold mr_lg; omega))) (by decide +kernel)) ?_
    refine en_sipush mc39_197 (by decide) ?_
    refine en_iload_n mc39_200 rfl ?_
    refine en_iadd mc39_201 ?_
    refine en_iald mc39_202 (⟨rfl, by decide, by decide⟩ : mt_kd[79]? = some (.inr (.int, 3618)) ∧ 79 < 99 ∧ 3618 < 2147483648) g9 g10 ?_
    refine en_iast mc39_203 (⟨rfl, by decide, by decide⟩ : mt_kd[79]? = some (.inr (.int, 3618)) ∧ 79 < 99 ∧ 3618 < 2147483648) g11 g12 ((mr_ok_putI (a := 78) (k := ((402 * l1) + l2)) ho (ho.2.1 78 (3216 + l2) (by unfold mr_lg; omega))).2.1 79 (3216 + l2) (by unfold mr_lg; omega)) ?_
    refine en_iinc (ls' := [mm_r 72, mm_i l1, mm_i (l2 + 1)]) mc39_204 rfl rfl ?_
    refine en_goto 150 mc39_207 (by decide) ?_
    exact h
