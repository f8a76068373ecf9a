/-! 190: CellAreasModel.gap(IIII)I -/
theorem mc190_0 : mr_C 190 0 = some (.iload_n 2, 1) := by decide +kernel
theorem mc190_1 : mr_C 190 1 = some (.iload_n 1, 1) := by decide +kernel
theorem mc190_2 : mr_C 190 2 = some (.if_icmp .lt (11), 3) := by decide +kernel
theorem mc190_5 : mr_C 190 5 = some (.iload_n 2, 1) := by decide +kernel
theorem mc190_6 : mr_C 190 6 = some (.iload_n 1, 1) := by decide +kernel
theorem mc190_7 : mr_C 190 7 = some (.isub, 1) := by decide +kernel
theorem mc190_8 : mr_C 190 8 = some (.iconst 1, 1) := by decide +kernel
theorem mc190_9 : mr_C 190 9 = some (.iadd, 1) := by decide +kernel
theorem mc190_10 : mr_C 190 10 = some (.goto 17, 3) := by decide +kernel
theorem mc190_13 : mr_C 190 13 = some (.iload_n 0, 1) := by decide +kernel
theorem mc190_14 : mr_C 190 14 = some (.iload_n 3, 1) := by decide +kernel
theorem mc190_15 : mr_C 190 15 = some (.if_icmp .lt (11), 3) := by decide +kernel
theorem mc190_18 : mr_C 190 18 = some (.iload_n 0, 1) := by decide +kernel
theorem mc190_19 : mr_C 190 19 = some (.iload_n 3, 1) := by decide +kernel
theorem mc190_20 : mr_C 190 20 = some (.isub, 1) := by decide +kernel
theorem mc190_21 : mr_C 190 21 = some (.iconst 1, 1) := by decide +kernel
theorem mc190_22 : mr_C 190 22 = some (.iadd, 1) := by decide +kernel
theorem mc190_23 : mr_C 190 23 = some (.goto 4, 3) := by decide +kernel
theorem mc190_26 : mr_C 190 26 = some (.iconst 0, 1) := by decide +kernel
theorem mc190_27 : mr_C 190 27 = some (.ireturn, 1) := by decide +kernel
theorem vc190_0 {sc : Nat × (Int → Int)} {Q : mm_R → mm_M → Prop} {M : mm_M} {l0 : Int} {l1 : Int} {l2 : Int} {l3 : Int} (ho : mr_ok M) (hg_l2 : mr_rg l2) (hg_l1 : mr_rg l1) (hg_l0 : mr_rg l0) (hg_l3 : mr_rg l3)
    (h : (l2 < l1 → (l0 < l3 → Q (.inl (some (mm_i 0))) M) ∧ (¬ l0 < l3 → Q (.inl (some (mm_i ((l0 - l3) + 1)))) M)) ∧ (¬ l2 < l1 → Q (.inl (some (mm_i ((l2 - l1) + 1)))) M)) : en_R sc 190 0 [mm_i l0, mm_i l1, mm_i l2, mm_i l3] [] M Q := by
  refine en_iload_n mc190_0 rfl ?_
  refine en_iload_n mc190_1 rfl ?_
  refine en_icmp_lt 13 mc190_2 (by decide) hg_l2 hg_l1 (fun q => ?_) (fun q => ?_)
  · replace h := h.1 q
    refine en_iload_n mc190_13 rfl ?_
    refine en_iload_n mc190_14 rfl ?_
    refine en_icmp_lt 26 mc190_15 (by decide) hg_l0 hg_l3 (fun q => ?_) (fun q => ?_)
    · replace h := h.1 q
      refine en_iconst mc190_26 ?_
      exact en_iret mv190 mc190_27 rfl h
    · replace h := h.2 q
      refine en_iload_n mc190_18 rfl ?_
      refine en_iload_n mc190_19 rfl ?_
      refine en_isub mc190_20 ?_
      refine en_iconst mc190_21 ?_
      refine en_iadd mc190_22 ?_
      refine en_goto 27 mc190_23 (by decide) ?_
      exact en_iret mv190 mc190_27 rfl h
  · replace h := h.2 q
    refine en_iload_n mc190_5 rfl ?_
    refine en_iload_n mc190_6 rfl ?_
    refine en_isub mc190_7 ?_
    refine en_iconst mc190_8 ?_
    refine en_iadd mc190_9 ?_
    refine en_goto 27 mc190_10 (by decide) ?_
    exact en_iret mv190 mc190_27 rfl h
/-! 191: CellAreasModel.distance(II)I -/
theorem mc191_0 : mr_C 191 0 = some (.aload_n 0, 1) := by decide +kernel
theorem mc191_1 : mr_C 191 1 = some (.iload_n 1, 1) := by decide +kernel
theorem mc191_2 : mr_C 191 2 = some (.iload_n 2, 1) := by decide +kernel
theorem mc191_3 : mr_C 191 3 = some (.invokevirtual 167, 3) := by decide +kernel
theorem mc191_6 : mr_C 191 6 = some (.ifCond .ne (5), 3) := by decide +kernel
theorem mc191_9 : mr_C 191 9 = some (.iconst 0, 1) := by decide +kernel
theorem mc191_10 : mr_C 191 10 = some (.ireturn, 1) := by decide +kernel
theorem mc191_11 : mr_C 191 11 = some (.iconst (-1), 1) := by decide +kernel
theorem mc191_12 : mr_C 191 12 = some (.istore_n 3, 1) := by decide +kernel
theorem mc191_13 : mr_C 191 13 = some (.bipush 102, 2) := by decide +kernel
theorem mc191_15 : mr_C 191 15 = some (.iload_n 1, 1) := by decide +kernel
theorem mc191_16 : mr_C 191 16 = some (.imul, 1) := by decide +kernel
theorem mc191_17 : mr_C 191 17 = some (.istore 4, 2) := by decide +kernel
theorem mc191_19 : mr_C 191 19 = some (.iload 4, 2) := by decide +kernel
theorem mc191_21 : mr_C 191 21 = some (.aload_n 0, 1) := by decide +kernel
theorem mc191_22 : mr_C 191 22 = some (.iload_n 1, 1) := by decide +kernel
theorem mc191_23 : mr_C 191 23 = some (.invokevirtual 107, 3) := by decide +kernel
theorem mc191_26 : mr_C 191 26 = some (.if_icmp .ge (200), 3) := by decide +kernel
theorem mc191_29 : mr_C 191 29 = some (.bipush 102, 2) := by decide +kernel
theorem mc191_31 : mr_C 191 31 = some (.iload_n 2, 1) := by decide +kernel
theorem mc191_32 : mr_C 191 32 = some (.imul, 1) := by decide +kernel
theorem mc191_33 : mr_C 191 33 = some (.istore 5, 2) := by decide +kernel
theorem mc191_35 : mr_C 191 35 = some (.iload 5, 2) := by decide +kernel
theorem mc191_37 : mr_C 191 37 = some (.aload_n 0, 1) := by decide +kernel
theorem mc191_38 : mr_C 191 38 = some (.iload_n 2, 1) := by decide +kernel
theorem mc191_39 : mr_C 191 39 = some (.invokevirtual 107, 3) := by decide +kernel
theorem mc191_42 : mr_C 191 42 = some (.if_icmp .ge (178), 3) := by decide +kernel
theorem mc191_45 : mr_C 191 45 = some (.aload_n 0, 1) := by decide +kernel
theorem mc191_46 : mr_C 191 46 = some (.getfield 7, 3) := by decide +kernel
theorem mc191_49 : mr_C 191 49 = some (.iload 4, 2) := by decide +kernel
theorem mc191_51 : mr_C 191 51 = some (.iaload, 1) := by decide +kernel
theorem mc191_52 : mr_C 191 52 = some (.aload_n 0, 1) := by decide +kernel
theorem mc191_53 : mr_C 191 53 = some (.getfield 13, 3) := by decide +kernel
theorem mc191_56 : mr_C 191 56 = some (.iload 4, 2) := by decide +kernel
theorem mc191_58 : mr_C 191 58 = some (.iaload, 1) := by decide +kernel
theorem mc191_59 : mr_C 191 59 = some (.aload_n 0, 1) := by decide +kernel
theorem mc191_60 : mr_C 191 60 = some (.getfield 7, 3) := by decide +kernel
theorem mc191_63 : mr_C 191 63 = some (.iload 5, 2) := by decide +kernel
theorem mc191_65 : mr_C 191 65 = some (.iaload, 1) := by decide +kernel
theorem mc191_66 : mr_C 191 66 = some (.aload_n 0, 1) := by decide +kernel
theorem mc191_67 : mr_C 191 67 = some (.getfield 13, 3) := by decide +kernel
theorem mc191_70 : mr_C 191 70 = some (.iload 5, 2) := by decide +kernel
theorem mc191_72 : mr_C 191 72 = some (.iaload, 1) := by decide +kernel
theorem mc191_73 : mr_C 191 73 = some (.invokestatic 294, 3) := by decide +kernel
theorem mc191_76 : mr_C 191 76 = some (.istore 6, 2) := by decide +kernel
theorem mc191_78 : mr_C 191 78 = some (.aload_n 0, 1) := by decide +kernel
theorem mc191_79 : mr_C 191 79 = some (.getfield 16, 3) := by decide +kernel
theorem mc191_82 : mr_C 191 82 = some (.iload 4, 2) := by decide +kernel
theorem mc191_84 : mr_C 191 84 = some (.iaload, 1) := by decide +kernel
theorem mc191_85 : mr_C 191 85 = some (.istore 7, 2) := by decide +kernel
theorem mc191_87 : mr_C 191 87 = some (.iload 7, 2) := by decide +kernel
theorem mc191_89 : mr_C 191 89 = some (.aload_n 0, 1) := by decide +kernel
theorem mc191_90 : mr_C 191 90 = some (.getfield 16, 3) := by decide +kernel
theorem mc191_93 : mr_C 191 93 = some (.iload 4, 2) := by decide +kernel
theorem mc191_95 : mr_C 191 95 = some (.iaload, 1) := by decide +kernel
theorem mc191_96 : mr_C 191 96 = some (.aload_n 0, 1) := by decide +kernel
theorem mc191_97 : mr_C 191 97 = some (.getfield 19, 3) := by decide +kernel
theorem mc191_100 : mr_C 191 100 = some (.iload 4, 2) := by decide +kernel
theorem mc191_102 : mr_C 191 102 = some (.iaload, 1) := by decide +kernel
theorem mc191_103 : mr_C 191 103 = some (.iadd, 1) := by decide +kernel
theorem mc191_104 : mr_C 191 104 = some (.if_icmp .ge (110), 3) := by decide +kernel
theorem mc191_107 : mr_C 191 107 = some (.aload_n 0, 1) := by decide +kernel
theorem mc191_108 : mr_C 191 108 = some (.getfield 16, 3) := by decide +kernel
theorem mc191_111 : mr_C 191 111 = some (.iload 5, 2) := by decide +kernel
theorem mc191_113 : mr_C 191 113 = some (.iaload, 1) := by decide +kernel
theorem mc191_114 : mr_C 191 114 = some (.istore 8, 2) := by decide +kernel
theorem mc191_116 : mr_C 191 116 = some (.iload 8, 2) := by decide +kernel
theorem mc191_118 : mr_C 191 118 = some (.aload_n 0, 1) := by decide +kernel
theorem mc191_119 : mr_C 191 119 = some (.getfield 16, 3) := by decide +kernel
theorem mc191_122 : mr_C 191 122 = some (.iload 5, 2) := by decide +kernel
theorem mc191_124 : mr_C 191 124 = some (.iaload, 1) := by decide +kernel
theorem mc191_125 : mr_C 191 125 = some (.aload_n 0, 1) := by decide +kernel
theorem mc191_126 : mr_C 191 126 = some (.getfield 19, 3) := by decide +kernel
theorem mc191_129 : mr_C 191 129 = some (.iload 5, 2) := by decide +kernel
theorem mc191_131 : mr_C 191 131 = some (.iaload, 1) := by decide +kernel
theorem mc191_132 : mr_C 191 132 = some (.iadd, 1) := by decide +kernel
theorem mc191_133 : mr_C 191 133 = some (.if_icmp .ge (75), 3) := by decide +kernel
theorem mc191_136 : mr_C 191 136 = some (.aload_n 0, 1) := by decide +kernel
theorem mc191_137 : mr_C 191 137 = some (.getfield 25, 3) := by decide +kernel
theorem mc191_140 : mr_C 191 140 = some (.iload 7, 2) := by decide +kernel
theorem mc191_142 : mr_C 191 142 = some (.iaload, 1) := by decide +kernel
theorem mc191_143 : mr_C 191 143 = some (.aload_n 0, 1) := by decide +kernel
theorem mc191_144 : mr_C 191 144 = some (.getfield 28, 3) := by decide +kernel
theorem mc191_147 : mr_C 191 147 = some (.iload 7, 2) := by decide +kernel
theorem mc191_149 : mr_C 191 149 = some (.iaload, 1) := by decide +kernel
theorem mc191_150 : mr_C 191 150 = some (.aload_n 0, 1) := by decide +kernel
theorem mc191_151 : mr_C 191 151 = some (.getfield 25, 3) := by decide +kernel
theorem mc191_154 : mr_C 191 154 = some (.iload 8, 2) := by decide +kernel
theorem mc191_156 : mr_C 191 156 = some (.iaload, 1) := by decide +kernel
theorem mc191_157 : mr_C 191 157 = some (.aload_n 0, 1) := by decide +kernel
theorem mc191_158 : mr_C 191 158 = some (.getfield 28, 3) := by decide +kernel
theorem mc191_161 : mr_C 191 161 = some (.iload 8, 2) := by decide +kernel
theorem mc191_163 : mr_C 191 163 = some (.iaload, 1) := by decide +kernel
theorem mc191_164 : mr_C 191 164 = some (.invokestatic 294, 3) := by decide +kernel
theorem mc191_167 : mr_C 191 167 = some (.istore 9, 2) := by decide +kernel
theorem mc191_169 : mr_C 191 169 = some (.iload 6, 2) := by decide +kernel
theorem mc191_171 : mr_C 191 171 = some (.iload 9, 2) := by decide +kernel
theorem mc191_173 : mr_C 191 173 = some (.if_icmp .le (8), 3) := by decide +kernel
theorem mc191_176 : mr_C 191 176 = some (.iload 6, 2) := by decide +kernel
theorem mc191_178 : mr_C 191 178 = some (.goto 5, 3) := by decide +kernel
theorem mc191_181 : mr_C 191 181 = some (.iload 9, 2) := by decide +kernel
theorem mc191_183 : mr_C 191 183 = some (.istore 10, 2) := by decide +kernel
theorem mc191_185 : mr_C 191 185 = some (.iload_n 3, 1) := by decide +kernel
theorem mc191_186 : mr_C 191 186 = some (.ifCond .lt (9), 3) := by decide +kernel
theorem mc191_189 : mr_C 191 189 = some (.iload 10, 2) := by decide +kernel
theorem mc191_191 : mr_C 191 191 = some (.iload_n 3, 1) := by decide +kernel
theorem mc191_192 : mr_C 191 192 = some (.if_icmp .ge (8), 3) := by decide +kernel
theorem mc191_195 : mr_C 191 195 = some (.iload 10, 2) := by decide +kernel
theorem mc191_197 : mr_C 191 197 = some (.goto 4, 3) := by decide +kernel
theorem mc191_200 : mr_C 191 200 = some (.iload_n 3, 1) := by decide +kernel
theorem mc191_201 : mr_C 191 201 = some (.istore_n 3, 1) := by decide +kernel
theorem mc191_202 : mr_C 191 202 = some (.iinc 8 (1), 3) := by decide +kernel
theorem mc191_205 : mr_C 191 205 = some (.goto (-89), 3) := by decide +kernel
theorem mc191_208 : mr_C 191 208 = some (.iinc 7 (1), 3) := by decide +kernel
theorem mc191_211 : mr_C 191 211 = some (.goto (-124), 3) := by decide +kernel
theorem mc191_214 : mr_C 191 214 = some (.iinc 5 (1), 3) := by decide +kernel
theorem mc191_217 : mr_C 191 217 = some (.goto (-182), 3) := by decide +kernel
theorem mc191_220 : mr_C 191 220 = some (.iinc 4 (1), 3) := by decide +kernel
theorem mc191_223 : mr_C 191 223 = some (.goto (-204), 3) := by decide +kernel
theorem mc191_226 : mr_C 191 226 = some (.iload_n 3, 1) := by decide +kernel
theorem mc191_227 : mr_C 191 227 = some (.ireturn, 1) := by decide +kernel
theorem vc191_0 {sc : Nat × (Int → Int)} {Q : mm_R → mm_M → Prop} {M : mm_M} {l1 : Int} {l2 : Int} (ho : mr_ok M)
    (h : en_CI sc 70 [mm_r 72, mm_i l1, mm_i l2] M (fun x1 M2 => mr_ok M2 → mr_rg x1 ∧ ((x1 ≠ 0 → en_R sc 191 19 [mm_r 72, mm_i l1, mm_i l2, mm_i (-1), mm_i (102 * l1), mm_u, mm_u, mm_u, mm_u, mm_u, mm_u] [] M2 Q) ∧ (¬ (x1 ≠ 0) → Q (.inl (some (mm_i 0))) M2))) (fun e M9 => Q (.inr e) M9)) : en_R sc 191 0 [mm_r 72, mm_i l1, mm_i l2, mm_u, mm_u, mm_u, mm_u, mm_u, mm_u, mm_u, mm_u] [] M Q := by
  refine en_aload_n mc191_0 rfl ?_
  refine en_iload_n mc191_1 rfl ?_
  refine en_iload_n mc191_2 rfl ?_
  refine en_callI (lz := [mm_r 72, mm_i l1, mm_i l2]) mv191 mc191_3 rfl rfl (lk_m7_167) mv70 rfl (by decide) rfl (mk_cokV rfl (⟨rfl, by decide⟩ : mt_kd[72]? = some (.inl 7) ∧ 72 < 99)) rfl (mk_nh rfl _) ho ?_
  refine en_CI_mono h (fun x1 M2 h => ?_) (fun _ _ h => h)
  intro ho3
  replace h := h ho3
  obtain ⟨g4, h⟩ := h
  refine en_if_ne 11 mc191_6 (by decide) g4 (fun q => ?_) (fun q => ?_)
  · replace h := h.1 q
    refine en_iconst mc191_11 ?_
    refine en_istore_n (ls' := [mm_r 72, mm_i l1, mm_i l2, mm_i (-1), mm_u, mm_u, mm_u, mm_u, mm_u, mm_u, mm_u]) mc191_12 (Nat.le_of_ble_eq_true rfl) rfl ?_
    refine en_bipush mc191_13 (by decide) ?_
    refine en_iload_n mc191_15 rfl ?_
    refine en_imul mc191_16 ?_
    refine en_istore (ls' := [mm_r 72, mm_i l1, mm_i l2, mm_i (-1), mm_i (102 * l1), mm_u, mm_u, mm_u, mm_u, mm_u, mm_u]) mc191_17 (Nat.le_of_ble_eq_true rfl) rfl ?_
    exact h
  · replace h := h.2 q
    refine en_iconst mc191_9 ?_
    exact en_iret mv191 mc191_10 rfl h
theorem vc191_19 {sc : Nat × (Int → Int)} {Q : mm_R → mm_M → Prop} {M : mm_M} {l1 : Int} {l2 : Int} {l3 : Int} {l4 : Int} {l5 : mm_V} {l6 : mm_V} {l7 : mm_V} {l8 : mm_V} {l9 : mm_V} {l10 : mm_V} (ho : mr_ok M) (hg_l4 : mr_rg l4)
    (h : en_CI sc 45 [mm_r 72, mm_i l1] M (fun x1 M2 => mr_ok M2 → mr_rg x1 ∧ ((x1 ≤ l4 → Q (.inl (some (mm_i l3))) M2) ∧ (¬ x1 ≤ l4 → en_R sc 191 35 [mm_r 72, mm_i l1, mm_i l2, mm_i l3, mm_i l4, mm_i (102 * l2), l6, l7, l8, l9, l10] [] M2 Q))) (fun e M9 => Q (.inr e) M9)) : en_R sc 191 19 [mm_r 72, mm_i l1, mm_i l2, mm_i l3, mm_i l4, l5, l6, l7, l8, l9, l10] [] M Q := by
  refine en_iload mc191_19 rfl ?_
  refine en_aload_n mc191_21 rfl ?_
  refine en_iload_n mc191_22 rfl ?_
  refine en_callI (lz := [mm_r 72, mm_i l1]) mv191 mc191_23 rfl rfl (lk_m7_107) mv45 rfl (by decide) rfl (mk_cokV rfl (⟨rfl, by decide⟩ : mt_kd[72]? = some (.inl 7) ∧ 72 < 99)) rfl (mk_nh rfl _) ho ?_
  refine en_CI_mono h (fun x1 M2 h => ?_) (fun _ _ h => h)
  intro ho3
  replace h := h ho3
  obtain ⟨g4, h⟩ := h
  refine en_icmp_ge 226 mc191_26 (by decide) hg_l4 g4 (fun q => ?_) (fun q => ?_)
  · replace h := h.1 q
    refine en_iload_n mc191_226 rfl ?_
    exact en_iret mv191 mc191_227 rfl h
  · replace h := h.2 q
    refine en_bipush mc191_29 (by decide) ?_
    refine en_iload_n mc191_31 rfl ?_
    refine en_imul mc191_32 ?_
    refine en_istore (ls' := [mm_r 72, mm_i l1, mm_i l2, mm_i l3, mm_i l4, mm_i (102 * l2), l6, l7, l8, l9, l10]) mc191_33 (Nat.le_of_ble_eq_true rfl) rfl ?_
    exact h
theorem vc191_35 {sc : Nat × (Int → Int)} {Q : mm_R → mm_M → Prop} {M : mm_M} {l1 : Int} {l2 : Int} {l3 : Int} {l4 : Int} {l5 : Int} {l6 : mm_V} {l7 : mm_V} {l8 : mm_V} {l9 : mm_V} {l10 : mm_V} (ho : mr_ok M) (hg_l5 : mr_rg l5)
    (h : en_CI sc 45 [mm_r 72, mm_i l2] M (fun x1 M2 => mr_ok M2 → mr_rg x1 ∧ ((x1 ≤ l5 → en_R sc 191 19 [mm_r 72, mm_i l1, mm_i l2, mm_i l3, mm_i (l4 + 1), mm_i l5, l6, l7, l8, l9, l10] [] M2 Q) ∧ (¬ x1 ≤ l5 → 0 ≤ l4 ∧ (l4 < 918 ∧ (0 ≤ l4 ∧ (l4 < 918 ∧ (0 ≤ l5 ∧ (l5 < 918 ∧ (0 ≤ l5 ∧ (l5 < 918 ∧ (en_CI sc 190 [mm_i (M2.1 73 l4), mm_i (M2.1 74 l4), mm_i (M2.1 73 l5), mm_i (M2.1 74 l5)] M2 (fun x13 M14 => mr_ok M14 → 0 ≤ l4 ∧ (l4 < 918 ∧ (en_R sc 191 87 [mm_r 72, mm_i l1, mm_i l2, mm_i l3, mm_i l4, mm_i l5, mm_i x13, mm_i (M14.1 75 l4), l8, l9, l10] [] M14 Q))) (fun e M9 => Q (.inr e) M9)))))))))))) (fun e M9 => Q (.inr e) M9)) : en_R sc 191 35 [mm_r 72, mm_i l1, mm_i l2, mm_i l3, mm_i l4, mm_i l5, l6, l7, l8, l9, l10] [] M Q := by
  refine en_iload mc191_35 rfl ?_
  refine en_aload_n mc191_37 rfl ?_
  refine en_iload_n mc191_38 rfl ?_
  refine en_callI (lz := [mm_r 72, mm_i l2]) mv191 mc191_39 rfl rfl (lk_m7_107) mv45 rfl (by decide) rfl (mk_cokV rfl (⟨rfl, by decide⟩ : mt_kd[72]? = some (.inl 7) ∧ 72 < 99)) rfl (mk_nh rfl _) ho ?_
  refine en_CI_mono h (fun x1 M2 h => ?_) (fun _ _ h => h)
  intro ho3
  replace h := h ho3
  obtain ⟨g4, h⟩ := h
  refine en_icmp_ge 220 mc191_42 (by decide) hg_l5 g4 (fun q => ?_) (fun q => ?_)
  · replace h := h.1 q
    refine en_iinc (ls' := [mm_r 72, mm_i l1, mm_i l2, mm_i l3, mm_i (l4 + 1), mm_i l5, l6, l7, l8, l9, l10]) mc191_220 rfl rfl ?_
    refine en_goto 19 mc191_223 (by decide) ?_
    exact h
  · replace h := h.2 q
    obtain ⟨g5, h⟩ := h
    obtain ⟨g6, h⟩ := h
    obtain ⟨g7, h⟩ := h
    obtain ⟨g8, h⟩ := h
    obtain ⟨g9, h⟩ := h
    obtain ⟨g10, h⟩ := h
    obtain ⟨g11, h⟩ := h
    obtain ⟨g12, h⟩ := h
    refine en_aload_n mc191_45 rfl ?_
    refine en_getR (b := 73) mv191 mc191_46 (lk_f7_7) (⟨rfl, by decide⟩ : mt_kd[72]? = some (.inl 7) ∧ 72 < 99) rfl (mk_fc ho3 (by decide +kernel)) ?_
    refine en_iload mc191_49 rfl ?_
    refine en_iald mc191_51 (⟨rfl, by decide, by decide⟩ : mt_kd[73]? = some (.inr (.int, 918)) ∧ 73 < 99 ∧ 918 < 2147483648) g5 g6 ?_
    refine en_aload_n mc191_52 rfl ?_
    refine en_getR (b := 74) mv191 mc191_53 (lk_f7_13) (⟨rfl, by decide⟩ : mt_kd[72]? = some (.inl 7) ∧ 72 < 99) rfl (mk_fc ho3 (by decide +kernel)) ?_
    refine en_iload mc191_56 rfl ?_
    refine en_iald mc191_58 (⟨rfl, by decide, by decide⟩ : mt_kd[74]? = some (.inr (.int, 918)) ∧ 74 < 99 ∧ 918 < 2147483648) g7 g8 ?_
    refine en_aload_n mc191_59 rfl ?_
    refine en_getR (b := 73) mv191 mc191_60 (lk_f7_7) (⟨rfl, by decide⟩ : mt_kd[72]? = some (.inl 7) ∧ 72 < 99) rfl (mk_fc ho3 (by decide +kernel)) ?_
    refine en_iload mc191_63 rfl ?_
    refine en_iald mc191_65 (⟨rfl, by decide, by decide⟩ : mt_kd[73]? = some (.inr (.int, 918)) ∧ 73 < 99 ∧ 918 < 2147483648) g9 g10 ?_
    refine en_aload_n mc191_66 rfl ?_
    refine en_getR (b := 74) mv191 mc191_67 (lk_f7_13) (⟨rfl, by decide⟩ : mt_kd[72]? = some (.inl 7) ∧ 72 < 99) rfl (mk_fc ho3 (by decide +kernel)) ?_
    refine en_iload mc191_70 rfl ?_
    refine en_iald mc191_72 (⟨rfl, by decide, by decide⟩ : mt_kd[74]? = some (.inr (.int, 918)) ∧ 74 < 99 ∧ 918 < 2147483648) g11 g12 ?_
    refine en_callI (lz := [mm_i (M2.1 73 l4), mm_i (M2.1 74 l4), mm_i (M2.1 73 l5), mm_i (M2.1 74 l5)]) mv191 mc191_73 rfl rfl (lk_m7_294) mv190 rfl (by decide) rfl (mk_cokS rfl) rfl (mk_nh rfl _) ho3 ?_
    refine en_CI_mono h (fun x13 M14 h => ?_) (fun _ _ h => h)
    intro ho15
    replace h := h ho15
    obtain ⟨g16, h⟩ := h
    obtain ⟨g17, h⟩ := h
    refine en_istore (ls' := [mm_r 72, mm_i l1, mm_i l2, mm_i l3, mm_i l4, mm_i l5, mm_i x13, l7, l8, l9, l10]) mc191_76 (Nat.le_of_ble_eq_true rfl) rfl ?_
    refine en_aload_n mc191_78 rfl ?_
    refine en_getR (b := 75) mv191 mc191_79 (lk_f7_16) (⟨rfl, by decide⟩ : mt_kd[72]? = some (.inl 7) ∧ 72 < 99) rfl (mk_fc ho15 (by decide +kernel)) ?_
    refine en_iload mc191_82 rfl ?_
    refine en_iald mc191_84 (⟨rfl, by decide, by decide⟩ : mt_kd[75]? = some (.inr (.int, 918)) ∧ 75 < 99 ∧ 918 < 2147483648) g16 g17 ?_
    refine en_istore (ls' := [mm_r 72, mm_i l1, mm_i l2, mm_i l3, mm_i l4, mm_i l5, mm_i x13, mm_i (M14.1 75 l4), l8, l9, l10]) mc191_85 (Nat.le_of_ble_eq_true rfl) rfl ?_
    exact h
theorem vc191_87 {sc : Nat × (Int → Int)} {Q : mm_R → mm_M → Prop} {M : mm_M} {l1 : Int} {l2 : Int} {l3 : Int} {l4 : Int} {l5 : Int} {l6 : Int} {l7 : Int} {l8 : mm_V} {l9 : mm_V} {l10 : mm_V} (ho : mr_ok M) (hg_l7 : mr_rg l7)
    (h : 0 ≤ l4 ∧ (l4 < 918 ∧ (0 ≤ l4 ∧ (l4 < 918 ∧ (mr_rg ((M.1 75 l4) + (M.1 76 l4)) ∧ ((((M.1 75 l4) + (M.1 76 l4)) ≤ l7 → en_R sc 191 35 [mm_r 72, mm_i l1, mm_i l2, mm_i l3, mm_i l4, mm_i (l5 + 1), mm_i l6, mm_i l7, l8, l9, l10] [] M Q) ∧ (¬ ((M.1 75 l4) + (M.1 76 l4)) ≤ l7 → 0 ≤ l5 ∧ (l5 < 918 ∧ (en_R sc 191 116 [mm_r 72, mm_i l1, mm_i l2, mm_i l3, mm_i l4, mm_i l5, mm_i l6, mm_i l7, mm_i (M.1 75 l5), l9, l10] [] M Q))))))))) : en_R sc 191 87 [mm_r 72, mm_i l1, mm_i l2, mm_i l3, mm_i l4, mm_i l5, mm_i l6, mm_i l7, l8, l9, l10] [] M Q := by
  obtain ⟨g1, h⟩ := h
  obtain ⟨g2, h⟩ := h
  obtain ⟨g3, h⟩ := h
  obtain ⟨g4, h⟩ := h
  obtain ⟨g5, h⟩ := h
  refine en_iload mc191_87 rfl ?_
  refine en_aload_n mc191_89 rfl ?_
  refine en_getR (b := 75) mv191 mc191_90 (lk_f7_16) (⟨rfl, by decide⟩ : mt_kd[72]? = some (.inl 7) ∧ 72 < 99) rfl (mk_fc ho (by decide +kernel)) ?_
  refine en_iload mc191_93 rfl ?_
  refine en_iald mc191_95 (⟨rfl, by decide, by decide⟩ : mt_kd[75]? = some (.inr (.int, 918)) ∧ 75 < 99 ∧ 918 < 2147483648) g1 g2 ?_
  refine en_aload_n mc191_96 rfl ?_
  refine en_getR (b := 76) mv191 mc191_97 (lk_f7_19) (⟨rfl, by decide⟩ : mt_kd[72]? = some (.inl 7) ∧ 72 < 99) rfl (mk_fc ho (by decide +kernel)) ?_
  refine en_iload mc191_100 rfl ?_
  refine en_iald mc191_102 (⟨rfl, by decide, by decide⟩ : mt_kd[76]? = some (.inr (.int, 918)) ∧ 76 < 99 ∧ 918 < 2147483648) g3 g4 ?_
  refine en_iadd mc191_103 ?_
  refine en_icmp_ge 214 mc191_104 (by decide) hg_l7 g5 (fun q => ?_) (fun q => ?_)
  · replace h := h.1 q
    refine en_iinc (ls' := [mm_r 72, mm_i l1, mm_i l2, mm_i l3, mm_i l4, mm_i (l5 + 1), mm_i l6, mm_i l7, l8, l9, l10]) mc191_214 rfl rfl ?_
    refine en_goto 35 mc191_217 (by decide) ?_
    exact h
  · replace h := h.2 q
    obtain ⟨g6, h⟩ := h
    obtain ⟨g7, h⟩ := h
    refine en_aload_n mc191_107 rfl ?_
    refine en_getR (b := 75) mv191 mc191_108 (lk_f7_16) (⟨rfl, by decide⟩ : mt_kd[72]? = some (.inl 7) ∧ 72 < 99) rfl (mk_fc ho (by decide +kernel)) ?_
    refine en_iload mc191_111 rfl ?_
    refine en_iald mc191_113 (⟨rfl, by decide, by decide⟩ : mt_kd[75]? = some (.inr (.int, 918)) ∧ 75 < 99 ∧ 918 < 2147483648) g6 g7 ?_
    refine en_istore (ls' := [mm_r 72, mm_i l1, mm_i l2, mm_i l3, mm_i l4, mm_i l5, mm_i l6, mm_i l7, mm_i (M.1 75 l5), l9, l10]) mc191_114 (Nat.le_of_ble_eq_true rfl) rfl ?_
    exact h
theorem vc191_116 {sc : Nat × (Int → Int)} {Q : mm_R → mm_M → Prop} {M : mm_M} {l1 : Int} {l2 : Int} {l3 : Int} {l4 : Int} {l5 : Int} {l6 : Int} {l7 : Int} {l8 : Int} {l9 : mm_V} {l10 : mm_V} (ho : mr_ok M) (hg_l8 : mr_rg l8) (hg_l6 : mr_rg l6)
    (h : 0 ≤ l5 ∧ (l5 < 918 ∧ (0 ≤ l5 ∧ (l5 < 918 ∧ (mr_rg ((M.1 75 l5) + (M.1 76 l5)) ∧ ((((M.1 75 l5) + (M.1 76 l5)) ≤ l8 → en_R sc 191 87 [mm_r 72, mm_i l1, mm_i l2, mm_i l3, mm_i l4, mm_i l5, mm_i l6, mm_i (l7 + 1), mm_i l8, l9, l10] [] M Q) ∧ (¬ ((M.1 75 l5) + (M.1 76 l5)) ≤ l8 → 0 ≤ l7 ∧ (l7 < 3618 ∧ (0 ≤ l7 ∧ (l7 < 3618 ∧ (0 ≤ l8 ∧ (l8 < 3618 ∧ (0 ≤ l8 ∧ (l8 < 3618 ∧ (en_CI sc 190 [mm_i (M.1 78 l7), mm_i (M.1 79 l7), mm_i (M.1 78 l8), mm_i (M.1 79 l8)] M (fun x14 M15 => mr_ok M15 → mr_rg x14 ∧ ((l6 ≤ x14 → en_R sc 191 183 [mm_r 72, mm_i l1, mm_i l2, mm_i l3, mm_i l4, mm_i l5, mm_i l6, mm_i l7, mm_i l8, mm_i x14, l10] [mm_i x14] M15 Q) ∧ (¬ l6 ≤ x14 → en_R sc 191 183 [mm_r 72, mm_i l1, mm_i l2, mm_i l3, mm_i l4, mm_i l5, mm_i l6, mm_i l7, mm_i l8, mm_i x14, l10] [mm_i l6] M15 Q))) (fun e M9 => Q (.inr e) M9)))))))))))))))) : en_R sc 191 116 [mm_r 72, mm_i l1, mm_i l2, mm_i l3, mm_i l4, mm_i l5, mm_i l6, mm_i l7, mm_i l8, l9, l10] [] M Q := by
  obtain ⟨g1, h⟩ := h
  obtain ⟨g2, h⟩ := h
  obtain ⟨g3, h⟩ := h
  obtain ⟨g4, h⟩ := h
  obtain ⟨g5, h⟩ := h
  refine en_iload mc191_116 rfl ?_
  refine en_aload_n mc191_118 rfl ?_
  refine en_getR (b := 75) mv191 mc191_119 (lk_f7_16) (⟨rfl, by decide⟩ : mt_kd[72]? = some (.inl 7) ∧ 72 < 99) rfl (mk_fc ho (by decide +kernel)) ?_
  refine en_iload mc191_122 rfl ?_
  refine en_iald mc191_124 (⟨rfl, by decide, by decide⟩ : mt_kd[75]? = some (.inr (.int, 918)) ∧ 75 < 99 ∧ 918 < 2147483648) g1 g2 ?_
  refine en_aload_n mc191_125 rfl ?_
  refine en_getR (b := 76) mv191 mc191_126 (lk_f7_19) (⟨rfl, by decide⟩ : mt_kd[72]? = some (.inl 7) ∧ 72 < 99) rfl (mk_fc ho (by decide +kernel)) ?_
  refine en_iload mc191_129 rfl ?_
  refine en_iald mc191_131 (⟨rfl, by decide, by decide⟩ : mt_kd[76]? = some (.inr (.int, 918)) ∧ 76 < 99 ∧ 918 < 2147483648) g3 g4 ?_
  refine en_iadd mc191_132 ?_
  refine en_icmp_ge 208 mc191_133 (by decide) hg_l8 g5 (fun q => ?_) (fun q => ?_)
  · replace h := h.1 q
    refine en_iinc (ls' := [mm_r 72, mm_i l1, mm_i l2, mm_i l3, mm_i l4, mm_i l5, mm_i l6, mm_i (l7 + 1), mm_i l8, l9, l10]) mc191_208 rfl rfl ?_
    refine en_goto 87 mc191_211 (by decide) ?_
    exact h
  · replace h := h.2 q
    obtain ⟨g6, h⟩ := h
    obtain ⟨g7, h⟩ := h
    obtain ⟨g8, h⟩ := h
    obtain ⟨g9, h⟩ := h
    obtain ⟨g10, h⟩ := h
    obtain ⟨g11, h⟩ := h
    obtain ⟨g12, h⟩ := h
    obtain ⟨g13, h⟩ := h
    refine en_aload_n mc191_136 rfl ?_
    refine en_getR (b := 78) mv191 mc191_137 (lk_f7_25) (⟨rfl, by decide⟩ : mt_kd[72]? = some (.inl 7) ∧ 72 < 99) rfl (mk_fc ho (by decide +kernel)) ?_
    refine en_iload mc191_140 rfl ?_
    refine en_iald mc191_142 (⟨rfl, by decide, by decide⟩ : mt_kd[78]? = some (.inr (.int, 3618)) ∧ 78 < 99 ∧ 3618 < 2147483648) g6 g7 ?_
    refine en_aload_n mc191_143 rfl ?_
    refine en_getR (b := 79) mv191 mc191_144 (lk_f7_28) (⟨rfl, by decide⟩ : mt_kd[72]? = some (.inl 7) ∧ 72 < 99) rfl (mk_fc ho (by decide +kernel)) ?_
    refine en_iload mc191_147 rfl ?_
    refine en_iald mc191_149 (⟨rfl, by decide, by decide⟩ : mt_kd[79]? = some (.inr (.int, 3618)) ∧ 79 < 99 ∧ 3618 < 2147483648) g8 g9 ?_
    refine en_aload_n mc191_150 rfl ?_
    refine en_getR (b := 78) mv191 mc191_151 (lk_f7_25) (⟨rfl, by decide⟩ : mt_kd[72]? = some (.inl 7) ∧ 72 < 99) rfl (mk_fc ho (by decide +kernel)) ?_
    refine en_iload mc191_154 rfl ?_
    refine en_iald mc191_156 (⟨rfl, by decide, by decide⟩ : mt_kd[78]? = some (.inr (.int, 3618)) ∧ 78 < 99 ∧ 3618 < 2147483648) g10 g11 ?_
    refine en_aload_n mc191_157 rfl ?_
    refine en_getR (b := 79) mv191 mc191_158 (lk_f7_28) (⟨rfl, by decide⟩ : mt_kd[72]? = some (.inl 7) ∧ 72 < 99) rfl (mk_fc ho (by decide +kernel)) ?_
    refine en_iload mc191_161 rfl ?_
    refine en_iald mc191_163 (⟨rfl, by decide, by decide⟩ : mt_kd[79]? = some (.inr (.int, 3618)) ∧ 79 < 99 ∧ 3618 < 2147483648) g12 g13 ?_
    refine en_callI (lz := [mm_i (M.1 78 l7), mm_i (M.1 79 l7), mm_i (M.1 78 l8), mm_i (M.1 79 l8)]) mv191 mc191_164 rfl rfl (lk_m7_294) mv190 rfl (by decide) rfl (mk_cokS rfl) rfl (mk_nh rfl _) ho ?_
    refine en_CI_mono h (fun x14 M15 h => ?_) (fun _ _ h => h)
    intro ho16
    replace h := h ho16
    obtain ⟨g17, h⟩ := h
    refine en_istore (ls' := [mm_r 72, mm_i l1, mm_i l2, mm_i l3, mm_i l4, mm_i l5, mm_i l6, mm_i l7, mm_i l8, mm_i x14, l10]) mc191_167 (Nat.le_of_ble_eq_true rfl) rfl ?_
    refine en_iload mc191_169 rfl ?_
    refine en_iload mc191_171 rfl ?_
    refine en_icmp_le 181 mc191_173 (by decide) hg_l6 g17 (fun q => ?_) (fun q => ?_)
    · replace h := h.1 q
      refine en_iload mc191_181 rfl ?_
      exact h
    · replace h := h.2 q
      refine en_iload mc191_176 rfl ?_
      refine en_goto 183 mc191_178 (by decide) ?_
      exact h
theorem vc191_183 {sc : Nat × (Int → Int)} {Q : mm_R → mm_M → Prop} {M : mm_M} {l1 : Int} {l2 : Int} {l3 : Int} {l4 : Int} {l5 : Int} {l6 : Int} {l7 : Int} {l8 : Int} {l9 : Int} {l10 : mm_V} {s0 : Int} (ho : mr_ok M) (hg_l3 : mr_rg l3) (hg_s0 : mr_rg s0)
    (h : (l3 < 0 → en_R sc 191 116 [mm_r 72, mm_i l1, mm_i l2, mm_i s0, mm_i l4, mm_i l5, mm_i l6, mm_i l7, mm_i (l8 + 1), mm_i l9, mm_i s0] [] M Q) ∧ (¬ l3 < 0 → (l3 ≤ s0 → en_R sc 191 116 [mm_r 72, mm_i l1, mm_i l2, mm_i l3, mm_i l4, mm_i l5, mm_i l6, mm_i l7, mm_i (l8 + 1), mm_i l9, mm_i s0] [] M Q) ∧ (¬ l3 ≤ s0 → en_R sc 191 116 [mm_r 72, mm_i l1, mm_i l2, mm_i s0, mm_i l4, mm_i l5, mm_i l6, mm_i l7, mm_i (l8 + 1), mm_i l9, mm_i s0] [] M Q))) : en_R sc 191 183 [mm_r 72, mm_i l1, mm_i l2, mm_i l3, mm_i l4, mm_i l5, mm_i l6, mm_i l7, mm_i l8, mm_i l9, l10] [mm_i s0] M Q := by
  refine en_istore (ls' := [mm_r 72, mm_i l1, mm_i l2, mm_i l3, mm_i l4, mm_i l5, mm_i l6, mm_i l7, mm_i l8, mm_i l9, mm_i s0]) mc191_183 (Nat.le_of_ble_eq_true rfl) rfl ?_
  refine en_iload_n mc191_185 rfl ?_
  refine en_if_lt 195 mc191_186 (by decide) hg_l3 (fun q => ?_) (fun q => ?_)
  · replace h := h.1 q
    refine en_iload mc191_195 rfl ?_
    refine en_goto 201 mc191_197 (by decide) ?_
    refine en_istore_n (ls' := [mm_r 72, mm_i l1, mm_i l2, mm_i s0, mm_i l4, mm_i l5, mm_i l6, mm_i l7, mm_i l8, mm_i l9, mm_i s0]) mc191_201 (Nat.le_of_ble_eq_true rfl) rfl ?_
    refine en_iinc (ls' := [mm_r 72, mm_i l1, mm_i l2, mm_i s0, mm_i l4, mm_i l5, mm_i l6, mm_i l7, mm_i (l8 + 1), mm_i l9, mm_i s0]) mc191_202 rfl rfl ?_
    refine en_goto 116 mc191_205 (by decide) ?_
    exact h
  · replace h := h.2 q
    refine en_iload mc191_189 rfl ?_
    refine en_iload_n mc191_191 rfl ?_
    refine en_icmp_ge 200 mc191_192 (by decide) hg_s0 hg_l3 (fun q => ?_) (fun q => ?_)
    · replace h := h.1 q
      refine en_iload_n mc191_200 rfl ?_
      refine en_istore_n (ls' := [mm_r 72, mm_i l1, mm_i l2, mm_i l3, mm_i l4, mm_i l5, mm_i l6, mm_i l7, mm_i l8, mm_i l9, mm_i s0]) mc191_201 (Nat.le_of_ble_eq_true rfl) rfl ?_
      refine en_iinc (ls' := [mm_r 72, mm_i l1, mm_i l2, mm_i l3, mm_i l4, mm_i l5, mm_i l6, mm_i l7, mm_i (l8 + 1), mm_i l9, mm_i s0]) mc191_202 rfl rfl ?_
      refine en_goto 116 mc191_205 (by decide) ?_
      exact h
    · replace h := h.2 q
      refine en_iload mc191_195 rfl ?_
      refine en_goto 201 mc191_197 (by decide) ?_
      refine en_istore_n (ls' := [mm_r 72, mm_i l1, mm_i l2, mm_i s0, mm_i l4, mm_i l5, mm_i l6, mm_i l7, mm_i l8, mm_i l9, mm_i s0]) mc191_201 (Nat.le_of_ble_eq_true rfl) rfl ?_
      refine en_iinc (ls' := [mm_r 72, mm_i l1, mm_i l2, mm_i s0, mm_i l4, mm_i l5, mm_i l6, mm_i l7, mm_i (l8 + 1), mm_i l9, mm_i s0]) mc191_202 rfl rfl ?_
      refine en_goto 116 mc191_205 (by decide) ?_
      exact h
/-! 192: CellAreas$Loops.markRows(LCellAreas$Row;)V -/
theorem mc192_0 : mr_C 192 0 = some (.iconst 0, 1) := by decide +kernel
theorem mc192_1 : mr_C 192 1 = some (.istore_n 2, 1) := by decide +kernel
theorem mc192_2 : mr_C 192 2 = some (.iload_n 2, 1) := by decide +kernel
theorem mc192_3 : mr_C 192 3 = some (.aload_n 0, 1) := by decide +kernel
theorem mc192_4 : mr_C 192 4 = some (.getfield 15, 3) := by decide +kernel
theorem mc192_7 : mr_C 192 7 = some (.if_icmp .ge (25), 3) := by decide +kernel
theorem mc192_10 : mr_C 192 10 = some (.aload_n 1, 1) := by decide +kernel
theorem mc192_11 : mr_C 192 11 = some (.aload_n 0, 1) := by decide +kernel
theorem mc192_12 : mr_C 192 12 = some (.iload_n 2, 1) := by decide +kernel
theorem mc192_13 : mr_C 192 13 = some (.invokevirtual 112, 3) := by decide +kernel
theorem mc192_16 : mr_C 192 16 = some (.aload_n 0, 1) := by decide +kernel
theorem mc192_17 : mr_C 192 17 = some (.iload_n 2, 1) := by decide +kernel
theorem mc192_18 : mr_C 192 18 = some (.invokevirtual 112, 3) := by decide +kernel
theorem mc192_21 : mr_C 192 21 = some (.iconst 1, 1) := by decide +kernel
theorem mc192_22 : mr_C 192 22 = some (.iadd, 1) := by decide +kernel
theorem mc192_23 : mr_C 192 23 = some (.invokevirtual 134, 3) := by decide +kernel
theorem mc192_26 : mr_C 192 26 = some (.iinc 2 (1), 3) := by decide +kernel
theorem mc192_29 : mr_C 192 29 = some (.goto (-27), 3) := by decide +kernel
theorem mc192_32 : mr_C 192 32 = some (.return_, 1) := by decide +kernel
theorem vc192_0 {sc : Nat × (Int → Int)} {Q : mm_R → mm_M → Prop} {M : mm_M} {l1 : Nat} (ho : mr_ok M)
    (h : en_R sc 192 2 [mm_r 17, mm_r l1, mm_i 0] [] M Q) : en_R sc 192 0 [mm_r 17, mm_r l1, mm_u] [] M Q := by
  refine en_iconst mc192_0 ?_
  refine en_istore_n (ls' := [mm_r 17, mm_r l1, mm_i 0]) mc192_1 (Nat.le_of_ble_eq_true rfl) rfl ?_
  exact h
theorem vc192_2 {sc : Nat × (Int → Int)} {Q : mm_R → mm_M → Prop} {M : mm_M} {l1 : Nat} {l2 : Int} (ho : mr_ok M) (hg_l2 : mr_rg l2) (hR_l1 : mr_Rw l1)
    (h : ((M.1 17 1) ≤ l2 → Q (.inl none) M) ∧ (¬ (M.1 17 1) ≤ l2 → en_CI sc 130 [mm_r 17, mm_i l2] M (fun x1 M2 => mr_ok M2 → en_CI sc 130 [mm_r 17, mm_i l2] M2 (fun x4 M5 => mr_ok M5 → en_CV sc 17 [mm_r l1, mm_i x1, mm_i (x4 + 1)] M5 (fun M8 => mr_ok M8 → en_R sc 192 2 [mm_r 17, mm_r l1, mm_i (l2 + 1)] [] M8 Q) (fun e M9 => Q (.inr e) M9)) (fun e M9 => Q (.inr e) M9)) (fun e M9 => Q (.inr e) M9))) : en_R sc 192 2 [mm_r 17, mm_r l1, mm_i l2] [] M Q := by
  refine en_iload_n mc192_2 rfl ?_
  refine en_aload_n mc192_3 rfl ?_
  refine en_getI mv192 mc192_4 (lk_f3_15) (⟨rfl, by decide⟩ : mt_kd[17]? = some (.inl 3) ∧ 17 < 99) (Or.inl rfl) ?_
  refine en_icmp_ge 32 mc192_7 (by decide) hg_l2 (ho.2.1 17 1 (by unfold mr_lg; omega)) (fun q => ?_) (fun q => ?_)
  · replace h := h.1 q
    exact en_vret mv192 mc192_32 rfl h
  · replace h := h.2 q
    refine en_aload_n mc192_10 rfl ?_
    refine en_aload_n mc192_11 rfl ?_
    refine en_iload_n mc192_12 rfl ?_
    refine en_callI (lz := [mm_r 17, mm_i l2]) mv192 mc192_13 rfl rfl (lk_m3_112) mv130 rfl (by decide) rfl (mk_cokV rfl (⟨rfl, by decide⟩ : mt_kd[17]? = some (.inl 3) ∧ 17 < 99)) rfl (mk_nh rfl _) ho ?_
    refine en_CI_mono h (fun x1 M2 h => ?_) (fun _ _ h => h)
    intro ho3
    replace h := h ho3
    refine en_aload_n mc192_16 rfl ?_
    refine en_iload_n mc192_17 rfl ?_
    refine en_callI (lz := [mm_r 17, mm_i l2]) mv192 mc192_18 rfl rfl (lk_m3_112) mv130 rfl (by decide) rfl (mk_cokV rfl (⟨rfl, by decide⟩ : mt_kd[17]? = some (.inl 3) ∧ 17 < 99)) rfl (mk_nh rfl _) ho3 ?_
    refine en_CI_mono h (fun x4 M5 h => ?_) (fun _ _ h => h)
    intro ho6
    replace h := h ho6
    refine en_iconst mc192_21 ?_
    refine en_iadd mc192_22 ?_
    refine en_callV (lz := [mm_r l1, mm_i x1, mm_i (x4 + 1)]) mv192 mc192_23 rfl rfl (lk_m3_134) mv17 rfl (by decide) rfl (mk_cokV rfl (mk_R0 hR_l1)) rfl (mk_nh rfl _) ho6 ?_
    refine en_CV_mono h (fun M8 h => ?_) (fun _ _ h => h)
    intro ho9
    replace h := h ho9
    refine en_iinc (ls' := [mm_r 17, mm_r l1, mm_i (l2 + 1)]) mc192_26 rfl rfl ?_
    refine en_goto 2 mc192_29 (by decide) ?_
    exact h
/-! 193: CellAreas$Loops.layInsideOfAll(ILCellAreas$Row;)V -/
theorem mc193_0 : mr_C 193 0 = some (.iconst 0, 1) := by decide +kernel
theorem mc193_1 : mr_C 193 1 = some (.istore_n 3, 1) := by decide +kernel
theorem mc193_2 : mr_C 193 2 = some (.iload_n 3, 1) := by decide +kernel
theorem mc193_3 : mr_C 193 3 = some (.aload_n 0, 1) := by decide +kernel
theorem mc193_4 : mr_C 193 4 = some (.getfield 9, 3) := by decide +kernel
theorem mc193_7 : mr_C 193 7 = some (.if_icmp .ge (111), 3) := by decide +kernel
theorem mc193_10 : mr_C 193 10 = some (.aload_n 0, 1) := by decide +kernel
theorem mc193_11 : mr_C 193 11 = some (.getfield 22, 3) := by decide +kernel
theorem mc193_14 : mr_C 193 14 = some (.iload_n 3, 1) := by decide +kernel
theorem mc193_15 : mr_C 193 15 = some (.iaload, 1) := by decide +kernel
theorem mc193_16 : mr_C 193 16 = some (.istore 4, 2) := by decide +kernel
theorem mc193_18 : mr_C 193 18 = some (.iload 4, 2) := by decide +kernel
theorem mc193_20 : mr_C 193 20 = some (.aload_n 0, 1) := by decide +kernel
theorem mc193_21 : mr_C 193 21 = some (.getfield 22, 3) := by decide +kernel
theorem mc193_24 : mr_C 193 24 = some (.iload_n 3, 1) := by decide +kernel
theorem mc193_25 : mr_C 193 25 = some (.iconst 1, 1) := by decide +kernel
theorem mc193_26 : mr_C 193 26 = some (.iadd, 1) := by decide +kernel
theorem mc193_27 : mr_C 193 27 = some (.iaload, 1) := by decide +kernel
theorem mc193_28 : mr_C 193 28 = some (.if_icmp .ge (84), 3) := by decide +kernel
theorem mc193_31 : mr_C 193 31 = some (.aload_n 0, 1) := by decide +kernel
theorem mc193_32 : mr_C 193 32 = some (.iload_n 3, 1) := by decide +kernel
theorem mc193_33 : mr_C 193 33 = some (.iload 4, 2) := by decide +kernel
theorem mc193_35 : mr_C 193 35 = some (.invokevirtual 101, 3) := by decide +kernel
theorem mc193_38 : mr_C 193 38 = some (.istore 5, 2) := by decide +kernel
theorem mc193_40 : mr_C 193 40 = some (.aload_n 0, 1) := by decide +kernel
theorem mc193_41 : mr_C 193 41 = some (.iload 4, 2) := by decide +kernel
theorem mc193_43 : mr_C 193 43 = some (.invokevirtual 104, 3) := by decide +kernel
theorem mc193_46 : mr_C 193 46 = some (.aload_n 0, 1) := by decide +kernel
theorem mc193_47 : mr_C 193 47 = some (.iload 5, 2) := by decide +kernel
theorem mc193_49 : mr_C 193 49 = some (.invokevirtual 104, 3) := by decide +kernel
theorem mc193_52 : mr_C 193 52 = some (.if_icmp .ne (54), 3) := by decide +kernel
theorem mc193_55 : mr_C 193 55 = some (.aload_n 0, 1) := by decide +kernel
theorem mc193_56 : mr_C 193 56 = some (.iload 4, 2) := by decide +kernel
theorem mc193_58 : mr_C 193 58 = some (.invokevirtual 112, 3) := by decide +kernel
theorem mc193_61 : mr_C 193 61 = some (.aload_n 0, 1) := by decide +kernel
theorem mc193_62 : mr_C 193 62 = some (.iload 5, 2) := by decide +kernel
theorem mc193_64 : mr_C 193 64 = some (.invokevirtual 112, 3) := by decide +kernel
theorem mc193_67 : mr_C 193 67 = some (.invokestatic 128, 3) := by decide +kernel
theorem mc193_70 : mr_C 193 70 = some (.iload_n 1, 1) := by decide +kernel
theorem mc193_71 : mr_C 193 71 = some (.if_icmp .gt (35), 3) := by decide +kernel
theorem mc193_74 : mr_C 193 74 = some (.iload_n 1, 1) := by decide +kernel
theorem mc193_75 : mr_C 193 75 = some (.aload_n 0, 1) := by decide +kernel
theorem mc193_76 : mr_C 193 76 = some (.iload 4, 2) := by decide +kernel
theorem mc193_78 : mr_C 193 78 = some (.invokevirtual 112, 3) := by decide +kernel
theorem mc193_81 : mr_C 193 81 = some (.aload_n 0, 1) := by decide +kernel
theorem mc193_82 : mr_C 193 82 = some (.iload 5, 2) := by decide +kernel
theorem mc193_84 : mr_C 193 84 = some (.invokevirtual 112, 3) := by decide +kernel
theorem mc193_87 : mr_C 193 87 = some (.invokestatic 131, 3) := by decide +kernel
theorem mc193_90 : mr_C 193 90 = some (.if_icmp .ge (16), 3) := by decide +kernel
theorem mc193_93 : mr_C 193 93 = some (.aload_n 2, 1) := by decide +kernel
theorem mc193_94 : mr_C 193 94 = some (.aload_n 0, 1) := by decide +kernel
theorem mc193_95 : mr_C 193 95 = some (.iload 4, 2) := by decide +kernel
theorem mc193_97 : mr_C 193 97 = some (.invokevirtual 104, 3) := by decide +kernel
theorem mc193_100 : mr_C 193 100 = some (.sipush 1000, 3) := by decide +kernel
theorem mc193_103 : mr_C 193 103 = some (.invokevirtual 123, 3) := by decide +kernel
theorem mc193_106 : mr_C 193 106 = some (.iinc 4 (1), 3) := by decide +kernel
theorem mc193_109 : mr_C 193 109 = some (.goto (-91), 3) := by decide +kernel
theorem mc193_112 : mr_C 193 112 = some (.iinc 3 (1), 3) := by decide +kernel
theorem mc193_115 : mr_C 193 115 = some (.goto (-113), 3) := by decide +kernel
theorem mc193_118 : mr_C 193 118 = some (.return_, 1) := by decide +kernel
theorem vc193_0 {sc : Nat × (Int → Int)} {Q : mm_R → mm_M → Prop} {M : mm_M} {l1 : Int} {l2 : Nat} (ho : mr_ok M)
    (h : en_R sc 193 2 [mm_r 17, mm_i l1, mm_r l2, mm_i 0, mm_u, mm_u] [] M Q) : en_R sc 193 0 [mm_r 17, mm_i l1, mm_r l2, mm_u, mm_u, mm_u] [] M Q := by
  refine en_iconst mc193_0 ?_
  refine en_istore_n (ls' := [mm_r 17, mm_i l1, mm_r l2, mm_i 0, mm_u, mm_u]) mc193_1 (Nat.le_of_ble_eq_true rfl) rfl ?_
  exact h
theorem vc193_2 {sc : Nat × (Int → Int)} {Q : mm_R → mm_M → Prop} {M : mm_M} {l1 : Int} {l2 : Nat} {l3 : Int} {l4 : mm_V} {l5 : mm_V} (ho : mr_ok M) (hg_l3 : mr_rg l3)
    (h : ((M.1 17 0) ≤ l3 → Q (.inl none) M) ∧ (¬ (M.1 17 0) ≤ l3 → 0 ≤ l3 ∧ (l3 < 401 ∧ (en_R sc 193 18 [mm_r 17, mm_i l1, mm_r l2, mm_i l3, mm_i (M.1 19 l3), l5] [] M Q)))) : en_R sc 193 2 [mm_r 17, mm_i l1, mm_r l2, mm_i l3, l4, l5] [] M Q := by
  refine en_iload_n mc193_2 rfl ?_
  refine en_aload_n mc193_3 rfl ?_
  refine en_getI mv193 mc193_4 (lk_f3_9) (⟨rfl, by decide⟩ : mt_kd[17]? = some (.inl 3) ∧ 17 < 99) (Or.inl rfl) ?_
  refine en_icmp_ge 118 mc193_7 (by decide) hg_l3 (ho.2.1 17 0 (by unfold mr_lg; omega)) (fun q => ?_) (fun q => ?_)
  · replace h := h.1 q
    exact en_vret mv193 mc193_118 rfl h
  · replace h := h.2 q
    obtain ⟨g1, h⟩ := h
    obtain ⟨g2, h⟩ := h
    refine en_aload_n mc193_10 rfl ?_
    refine en_getR (b := 19) mv193 mc193_11 (lk_f3_22) (⟨rfl, by decide⟩ : mt_kd[17]? = some (.inl 3) ∧ 17 < 99) rfl (mk_fc ho (by decide +kernel)) ?_
    refine en_iload_n mc193_14 rfl ?_
    refine en_iald mc193_15 (⟨rfl, by decide, by decide⟩ : mt_kd[19]? = some (.inr (.int, 401)) ∧ 19 < 99 ∧ 401 < 2147483648) g1 g2 ?_
    refine en_istore (ls' := [mm_r 17, mm_i l1, mm_r l2, mm_i l3, mm_i (M.1 19 l3), l5]) mc193_16 (Nat.le_of_ble_eq_true rfl) rfl ?_
    exact h
theorem vc193_18 {sc : Nat × (Int → Int)} {Q : mm_R → mm_M → Prop} {M : mm_M} {l1 : Int} {l2 : Nat} {l3 : Int} {l4 : Int} {l5 : mm_V} (ho : mr_ok M) (hg_l4 : mr_rg l4) (hg_l1 : mr_rg l1) (hR_l2 : mr_Rw l2)
    (h : 0 ≤ (l3 + 1) ∧ ((l3 + 1) < 401 ∧ (((M.1 19 (l3 + 1)) ≤ l4 → en_R sc 193 2 [mm_r 17, mm_i l1, mm_r l2, mm_i (l3 + 1), mm_i l4, l5] [] M Q) ∧ (¬ (M.1 19 (l3 + 1)) ≤ l4 → en_CI sc 127 [mm_r 17, mm_i l3, mm_i l4] M (fun x3 M4 => mr_ok M4 → en_CI sc 128 [mm_r 17, mm_i l4] M4 (fun x6 M7 => mr_ok M7 → en_CI sc 128 [mm_r 17, mm_i x3] M7 (fun x9 M10 => mr_ok M10 → mr_rg x6 ∧ (mr_rg x9 ∧ ((x6 ≠ x9 → en_R sc 193 18 [mm_r 17, mm_i l1, mm_r l2, mm_i l3, mm_i (l4 + 1), mm_i x3] [] M10 Q) ∧ (¬ (x6 ≠ x9) → en_CI sc 130 [mm_r 17, mm_i l4] M10 (fun x14 M15 => mr_ok M15 → en_CI sc 130 [mm_r 17, mm_i x3] M15 (fun x17 M18 => mr_ok M18 → mr_rg x14 ∧ (mr_rg x17 ∧ (mr_rg (min x14 x17) ∧ ((l1 < (min x14 x17) → en_R sc 193 18 [mm_r 17, mm_i l1, mm_r l2, mm_i l3, mm_i (l4 + 1), mm_i x3] [] M18 Q) ∧ (¬ l1 < (min x14 x17) → en_CI sc 130 [mm_r 17, mm_i l4] M18 (fun x23 M24 => mr_ok M24 → en_CI sc 130 [mm_r 17, mm_i x3] M24 (fun x26 M27 => mr_ok M27 → mr_rg x23 ∧ (mr_rg x26 ∧ (mr_rg (max x23 x26) ∧ (((max x23 x26) ≤ l1 → en_R sc 193 18 [mm_r 17, mm_i l1, mm_r l2, mm_i l3, mm_i (l4 + 1), mm_i x3] [] M27 Q) ∧ (¬ (max x23 x26) ≤ l1 → en_CI sc 128 [mm_r 17, mm_i l4] M27 (fun x32 M33 => mr_ok M33 → en_CV sc 67 [mm_r l2, mm_i x32, mm_i 1000] M33 (fun M36 => mr_ok M36 → en_R sc 193 18 [mm_r 17, mm_i l1, mm_r l2, mm_i l3, mm_i (l4 + 1), mm_i x3] [] M36 Q) (fun e M9 => Q (.inr e) M9)) (fun e M9 => Q (.inr e) M9)))))) (fun e M9 => Q (.inr e) M9)) (fun e M9 => Q (.inr e) M9)))))) (fun e M9 => Q (.inr e) M9)) (fun e M9 => Q (.inr e) M9))))) (fun e M9 => Q (.inr e) M9)) (fun e M9 => Q (.inr e) M9)) (fun e M9 => Q (.inr e) M9))))) : en_R sc 193 18 [mm_r 17, mm_i l1, mm_r l2, mm_i l3, mm_i l4, l5] [] M Q := by
  obtain ⟨g1, h⟩ := h
  obtain ⟨g2, h⟩ := h
  refine en_iload mc193_18 rfl ?_
  refine en_aload_n mc193_20 rfl ?_
  refine en_getR (b := 19) mv193 mc193_21 (lk_f3_22) (⟨rfl, by decide⟩ : mt_kd[17]? = some (.inl 3) ∧ 17 < 99) rfl (mk_fc ho (by decide +kernel)) ?_
  refine en_iload_n mc193_24 rfl ?_
  refine en_iconst mc193_25 ?_
  refine en_iadd mc193_26 ?_
  refine en_iald mc193_27 (⟨rfl, by decide, by decide⟩ : mt_kd[19]? = some (.inr (.int, 401)) ∧ 19 < 99 ∧ 401 < 2147483648) g1 g2 ?_
  refine en_icmp_ge 112 mc193_28 (by decide) hg_l4 (ho.2.1 19 (l3 + 1) (by unfold mr_lg; omega)) (fun q => ?_) (fun q => ?_)
  · replace h := h.1 q
    refine en_iinc (ls' := [mm_r 17, mm_i l1, mm_r l2, mm_i (l3 + 1), mm_i l4, l5]) mc193_112 rfl rfl ?_
    refine en_goto 2 mc193_115 (by decide) ?_
    exact h
  · replace h := h.2 q
    refine en_aload_n mc193_31 rfl ?_
    refine en_iload_n mc193_32 rfl ?_
    refine en_iload mc193_33 rfl ?_
    refine en_callI (lz := [mm_r 17, mm_i l3, mm_i l4]) mv193 mc193_35 rfl rfl (lk_m3_101) mv127 rfl (by decide) rfl (mk_cokV rfl (⟨rfl, by decide⟩ : mt_kd[17]? = some (.inl 3) ∧ 17 < 99)) rfl (mk_nh rfl _) ho ?_
    refine en_CI_mono h (fun x3 M4 h => ?_) (fun _ _ h => h)
    intro ho5
    replace h := h ho5
    refine en_istore (ls' := [mm_r 17, mm_i l1, mm_r l2, mm_i l3, mm_i l4, mm_i x3]) mc193_38 (Nat.le_of_ble_eq_true rfl) rfl ?_
    refine en_aload_n mc193_40 rfl ?_
    refine en_iload mc193_41 rfl ?_
    refine en_callI (lz := [mm_r 17, mm_i l4]) mv193 mc193_43 rfl rfl (lk_m3_104) mv128 rfl (by decide) rfl (mk_cokV rfl (⟨rfl, by decide⟩ : mt_kd[17]? = some (.inl 3) ∧ 17 < 99)) rfl (mk_nh rfl _) ho5 ?_
    refine en_CI_mono h (fun x6 M7 h => ?_) (fun _ _ h => h)
    intro ho8
    replace h := h ho8
    refine en_aload_n mc193_46 rfl ?_
    refine en_iload mc193_47 rfl ?_
    refine en_callI (lz := [mm_r 17, mm_i x3]) mv193 mc193_49 rfl rfl (lk_m3_104) mv128 rfl (by decide) rfl (mk_cokV rfl (⟨rfl, by decide⟩ : mt_kd[17]? = some (.inl 3) ∧ 17 < 99)) rfl (mk_nh rfl _) ho8 ?_
    refine en_CI_mono h (fun x9 M10 h => ?_) (fun _ _ h => h)
    intro ho11
    replace h := h ho11
    obtain ⟨g12, h⟩ := h
    obtain ⟨g13, h⟩ := h
    refine en_icmp_ne 106 mc193_52 (by decide) g12 g13 (fun q => ?_) (fun q => ?_)
    · replace h := h.1 q
      refine en_iinc (ls' := [mm_r 17, mm_i l1, mm_r l2, mm_i l3, mm_i (l4 + 1), mm_i x3]) mc193_106 rfl rfl ?_
      refine en_goto 18 mc193_109 (by decide) ?_
      exact h
    · replace h := h.2 q
      refine en_aload_n mc193_55 rfl ?_
      refine en_iload mc193_56 rfl ?_
      refine en_callI (lz := [mm_r 17, mm_i l4]) mv193 mc193_58 rfl rfl (lk_m3_112) mv130 rfl (by decide) rfl (mk_cokV rfl (⟨rfl, by decide⟩ : mt_kd[17]? = some (.inl 3) ∧ 17 < 99)) rfl (mk_nh rfl _) ho11 ?_
      refine en_CI_mono h (fun x14 M15 h => ?_) (fun _ _ h => h)
      intro ho16
      replace h := h ho16
      refine en_aload_n mc193_61 rfl ?_
      refine en_iload mc193_62 rfl ?_
      refine en_callI (lz := [mm_r 17, mm_i x3]) mv193 mc193_64 rfl rfl (lk_m3_112) mv130 rfl (by decide) rfl (mk_cokV rfl (⟨rfl, by decide⟩ : mt_kd[17]? = some (.inl 3) ∧ 17 < 99)) rfl (mk_nh rfl _) ho16 ?_
      refine en_CI_mono h (fun x17 M18 h => ?_) (fun _ _ h => h)
      intro ho19
      replace h := h ho19
      obtain ⟨g20, h⟩ := h
      obtain ⟨g21, h⟩ := h
      obtain ⟨g22, h⟩ := h
      refine en_min mv193 mc193_67 (lk_m3_128) mv14 rfl ⟨Nat.le_of_ble_eq_true rfl, Nat.le_of_ble_eq_true rfl⟩ g20 g21 ?_
      refine en_iload_n mc193_70 rfl ?_
      refine en_icmp_gt 106 mc193_71 (by decide) g22 hg_l1 (fun q => ?_) (fun q => ?_)
      · replace h := h.1 q
        refine en_iinc (ls' := [mm_r 17, mm_i l1, mm_r l2, mm_i l3, mm_i (l4 + 1), mm_i x3]) mc193_106 rfl rfl ?_
        refine en_goto 18 mc193_109 (by decide) ?_
        exact h
      · replace h := h.2 q
        refine en_iload_n mc193_74 rfl ?_
        refine en_aload_n mc193_75 rfl ?_
        refine en_iload mc193_76 rfl ?_
        refine en_callI (lz := [mm_r 17, mm_i l4]) mv193 mc193_78 rfl rfl (lk_m3_112) mv130 rfl (by decide) rfl (mk_cokV rfl (⟨rfl, by decide⟩ : mt_kd[17]? = some (.inl 3) ∧ 17 < 99)) rfl (mk_nh rfl _) ho19 ?_
        refine en_CI_mono h (fun x23 M24 h => ?_) (fun _ _ h => h)
        intro ho25
        replace h := h ho25
        refine en_aload_n mc193_81 rfl ?_
        refine en_iload mc193_82 rfl ?_
        refine en_callI (lz := [mm_r 17, mm_i x3]) mv193 mc193_84 rfl rfl (lk_m3_112) mv130 rfl (by decide) rfl (mk_cokV rfl (⟨rfl, by decide⟩ : mt_kd[17]? = some (.inl 3) ∧ 17 < 99)) rfl (mk_nh rfl _) ho25 ?_
        refine en_CI_mono h (fun x26 M27 h => ?_) (fun _ _ h => h)
        intro ho28
        replace h := h ho28
        obtain ⟨g29, h⟩ := h
        obtain ⟨g30, h⟩ := h
        obtain ⟨g31, h⟩ := h
        refine en_max mv193 mc193_87 (lk_m3_131) mv13 rfl ⟨Nat.le_of_ble_eq_true rfl, Nat.le_of_ble_eq_true rfl⟩ g29 g30 ?_
        refine en_icmp_ge 106 mc193_90 (by decide) hg_l1 g31 (fun q => ?_) (fun q => ?_)
        · replace h := h.1 q
          refine en_iinc (ls' := [mm_r 17, mm_i l1, mm_r l2, mm_i l3, mm_i (l4 + 1), mm_i x3]) mc193_106 rfl rfl ?_
          refine en_goto 18 mc193_109 (by decide) ?_
          exact h
        · replace h := h.2 q
          refine en_aload_n mc193_93 rfl ?_
          refine en_aload_n mc193_94 rfl ?_
          refine en_iload mc193_95 rfl ?_
          refine en_callI (lz := [mm_r 17, mm_i l4]) mv193 mc193_97 rfl rfl (lk_m3_104) mv128 rfl (by decide) rfl (mk_cokV rfl (⟨rfl, by decide⟩ : mt_kd[17]? = some (.inl 3) ∧ 17 < 99)) rfl (mk_nh rfl _) ho28 ?_
          refine en_CI_mono h (fun x32 M33 h => ?_) (fun _ _ h => h)
          intro ho34
          replace h := h ho34
          refine en_sipush mc193_100 (by decide) ?_
          refine en_callV (lz := [mm_r l2, mm_i x32, mm_i 1000]) mv193 mc193_103 rfl rfl (lk_m3_123) mv67 rfl (by decide) rfl (mk_cokV rfl (mk_R0 hR_l2)) rfl (mk_nh rfl _) ho34 ?_
          refine en_CV_mono h (fun M36 h => ?_) (fun _ _ h => h)
          intro ho37
          replace h := h ho37
          refine en_iinc (ls' := [mm_r 17, mm_i l1, mm_r l2, mm_i l3, mm_i (l4 + 1), mm_i x3]) mc193_106 rfl rfl ?_
          refine en_goto 18 mc193_109 (by decide) ?_
          exact h
/-! 194: CellAreas$Area.sameAs(LCellAreas$Area;)Z -/
theorem mc194_0 : mr_C 194 0 = some (.aload_n 0, 1) := by decide +kernel
theorem mc194_1 : mr_C 194 1 = some (.getfield 9, 3) := by decide +kernel
theorem mc194_4 : mr_C 194 4 = some (.aload_n 1, 1) := by decide +kernel
theorem mc194_5 : mr_C 194 5 = some (.getfield 9, 3) := by decide +kernel
theorem mc194_8 : mr_C 194 8 = some (.if_icmp .ne (14), 3) := by decide +kernel
theorem mc194_11 : mr_C 194 11 = some (.aload_n 0, 1) := by decide +kernel
theorem mc194_12 : mr_C 194 12 = some (.invokevirtual 48, 3) := by decide +kernel
theorem mc194_15 : mr_C 194 15 = some (.aload_n 1, 1) := by decide +kernel
theorem mc194_16 : mr_C 194 16 = some (.invokevirtual 48, 3) := by decide +kernel
theorem mc194_19 : mr_C 194 19 = some (.if_icmp .eq (5), 3) := by decide +kernel
theorem mc194_22 : mr_C 194 22 = some (.iconst 0, 1) := by decide +kernel
theorem mc194_23 : mr_C 194 23 = some (.ireturn, 1) := by decide +kernel
theorem mc194_24 : mr_C 194 24 = some (.iconst 0, 1) := by decide +kernel
theorem mc194_25 : mr_C 194 25 = some (.istore_n 2, 1) := by decide +kernel
theorem mc194_26 : mr_C 194 26 = some (.iload_n 2, 1) := by decide +kernel
theorem mc194_27 : mr_C 194 27 = some (.aload_n 0, 1) := by decide +kernel
theorem mc194_28 : mr_C 194 28 = some (.getfield 9, 3) := by decide +kernel
theorem mc194_31 : mr_C 194 31 = some (.if_icmp .ge (56), 3) := by decide +kernel
theorem mc194_34 : mr_C 194 34 = some (.aload_n 0, 1) := by decide +kernel
theorem mc194_35 : mr_C 194 35 = some (.getfield 15, 3) := by decide +kernel
theorem mc194_38 : mr_C 194 38 = some (.iload_n 2, 1) := by decide +kernel
theorem mc194_39 : mr_C 194 39 = some (.iaload, 1) := by decide +kernel
theorem mc194_40 : mr_C 194 40 = some (.aload_n 1, 1) := by decide +kernel
theorem mc194_41 : mr_C 194 41 = some (.getfield 15, 3) := by decide +kernel
theorem mc194_44 : mr_C 194 44 = some (.iload_n 2, 1) := by decide +kernel
theorem mc194_45 : mr_C 194 45 = some (.iaload, 1) := by decide +kernel
theorem mc194_46 : mr_C 194 46 = some (.if_icmp .ne (33), 3) := by decide +kernel
theorem mc194_49 : mr_C 194 49 = some (.aload_n 0, 1) := by decide +kernel
theorem mc194_50 : mr_C 194 50 = some (.getfield 19, 3) := by decide +kernel
theorem mc194_53 : mr_C 194 53 = some (.iload_n 2, 1) := by decide +kernel
theorem mc194_54 : mr_C 194 54 = some (.iaload, 1) := by decide +kernel
theorem mc194_55 : mr_C 194 55 = some (.aload_n 1, 1) := by decide +kernel
theorem mc194_56 : mr_C 194 56 = some (.getfield 19, 3) := by decide +kernel
theorem mc194_59 : mr_C 194 59 = some (.iload_n 2, 1) := by decide +kernel
theorem mc194_60 : mr_C 194 60 = some (.iaload, 1) := by decide +kernel
theorem mc194_61 : mr_C 194 61 = some (.if_icmp .ne (18), 3) := by decide +kernel
theorem mc194_64 : mr_C 194 64 = some (.aload_n 0, 1) := by decide +kernel
theorem mc194_65 : mr_C 194 65 = some (.getfield 22, 3) := by decide +kernel
theorem mc194_68 : mr_C 194 68 = some (.iload_n 2, 1) := by decide +kernel
theorem mc194_69 : mr_C 194 69 = some (.iaload, 1) := by decide +kernel
theorem mc194_70 : mr_C 194 70 = some (.aload_n 1, 1) := by decide +kernel
theorem mc194_71 : mr_C 194 71 = some (.getfield 22, 3) := by decide +kernel
theorem mc194_74 : mr_C 194 74 = some (.iload_n 2, 1) := by decide +kernel
theorem mc194_75 : mr_C 194 75 = some (.iaload, 1) := by decide +kernel
theorem mc194_76 : mr_C 194 76 = some (.if_icmp .eq (5), 3) := by decide +kernel
theorem mc194_79 : mr_C 194 79 = some (.iconst 0, 1) := by decide +kernel
theorem mc194_80 : mr_C 194 80 = some (.ireturn, 1) := by decide +kernel
theorem mc194_81 : mr_C 194 81 = some (.iinc 2 (1), 3) := by decide +kernel
theorem mc194_84 : mr_C 194 84 = some (.goto (-58), 3) := by decide +kernel
theorem mc194_87 : mr_C 194 87 = some (.iconst 0, 1) := by decide +kernel
theorem mc194_88 : mr_C 194 88 = some (.istore_n 2, 1) := by decide +kernel
theorem mc194_89 : mr_C 194 89 = some (.iload_n 2, 1) := by decide +kernel
theorem mc194_90 : mr_C 194 90 = some (.aload_n 0, 1) := by decide +kernel
theorem mc194_91 : mr_C 194 91 = some (.invokevirtual 48, 3) := by decide +kernel
theorem mc194_94 : mr_C 194 94 = some (.if_icmp .ge (41), 3) := by decide +kernel
theorem mc194_97 : mr_C 194 97 = some (.aload_n 0, 1) := by decide +kernel
theorem mc194_98 : mr_C 194 98 = some (.getfield 25, 3) := by decide +kernel
theorem mc194_101 : mr_C 194 101 = some (.iload_n 2, 1) := by decide +kernel
theorem mc194_102 : mr_C 194 102 = some (.iaload, 1) := by decide +kernel
theorem mc194_103 : mr_C 194 103 = some (.aload_n 1, 1) := by decide +kernel
theorem mc194_104 : mr_C 194 104 = some (.getfield 25, 3) := by decide +kernel
theorem mc194_107 : mr_C 194 107 = some (.iload_n 2, 1) := by decide +kernel
theorem mc194_108 : mr_C 194 108 = some (.iaload, 1) := by decide +kernel
theorem mc194_109 : mr_C 194 109 = some (.if_icmp .ne (18), 3) := by decide +kernel
theorem mc194_112 : mr_C 194 112 = some (.aload_n 0, 1) := by decide +kernel
theorem mc194_113 : mr_C 194 113 = some (.getfield 28, 3) := by decide +kernel
theorem mc194_116 : mr_C 194 116 = some (.iload_n 2, 1) := by decide +kernel
theorem mc194_117 : mr_C 194 117 = some (.iaload, 1) := by decide +kernel
theorem mc194_118 : mr_C 194 118 = some (.aload_n 1, 1) := by decide +kernel
theorem mc194_119 : mr_C 194 119 = some (.getfield 28, 3) := by decide +kernel
theorem mc194_122 : mr_C 194 122 = some (.iload_n 2, 1) := by decide +kernel
theorem mc194_123 : mr_C 194 123 = some (.iaload, 1) := by decide +kernel
theorem mc194_124 : mr_C 194 124 = some (.if_icmp .eq (5), 3) := by decide +kernel
theorem mc194_127 : mr_C 194 127 = some (.iconst 0, 1) := by decide +kernel
theorem mc194_128 : mr_C 194 128 = some (.ireturn, 1) := by decide +kernel
theorem mc194_129 : mr_C 194 129 = some (.iinc 2 (1), 3) := by decide +kernel
theorem mc194_132 : mr_C 194 132 = some (.goto (-43), 3) := by decide +kernel
theorem mc194_135 : mr_C 194 135 = some (.iconst 1, 1) := by decide +kernel
theorem mc194_136 : mr_C 194 136 = some (.ireturn, 1) := by decide +kernel
theorem vc194_0 {sc : Nat × (Int → Int)} {Q : mm_R → mm_M → Prop} {M : mm_M} {l0 : Nat} {l1 : Nat} (ho : mr_ok M) (hA_l0 : mr_A l0) (hA_l1 : mr_A l1)
    (h : ((M.1 l0 0) ≠ (M.1 l1 0) → Q (.inl (some (mm_i 0))) M) ∧ (¬ ((M.1 l0 0) ≠ (M.1 l1 0)) → en_CI sc 79 [mm_r l0] M (fun x1 M2 => mr_ok M2 → en_CI sc 79 [mm_r l1] M2 (fun x4 M5 => mr_ok M5 → mr_rg x1 ∧ (mr_rg x4 ∧ ((x1 = x4 → en_R sc 194 26 [mm_r l0, mm_r l1, mm_i 0] [] M5 Q) ∧ (¬ x1 = x4 → Q (.inl (some (mm_i 0))) M5)))) (fun e M9 => Q (.inr e) M9)) (fun e M9 => Q (.inr e) M9))) : en_R sc 194 0 [mm_r l0, mm_r l1, mm_u] [] M Q := by
  refine en_aload_n mc194_0 rfl ?_
  refine en_getI mv194 mc194_1 (lk_f0_9) (mk_A0 hA_l0) (Or.inl rfl) ?_
  refine en_aload_n mc194_4 rfl ?_
  refine en_getI mv194 mc194_5 (lk_f0_9) (mk_A0 hA_l1) (Or.inl rfl) ?_
  refine en_icmp_ne 22 mc194_8 (by decide) (ho.2.1 l0 0 (mk_nA0 hA_l0 _)) (ho.2.1 l1 0 (mk_nA0 hA_l1 _)) (fun q => ?_) (fun q => ?_)
  · replace h := h.1 q
    refine en_iconst mc194_22 ?_
    exact en_zret mv194 mc194_23 rfl (by decide) h
  · replace h := h.2 q
    refine en_aload_n mc194_11 rfl ?_
    refine en_callI (lz := [mm_r l0]) mv194 mc194_12 rfl rfl (lk_m0_48) mv79 rfl (by decide) rfl (mk_cokV rfl (mk_A0 hA_l0)) rfl (mk_nh rfl _) ho ?_
    refine en_CI_mono h (fun x1 M2 h => ?_) (fun _ _ h => h)
    intro ho3
    replace h := h ho3
    refine en_aload_n mc194_15 rfl ?_
    refine en_callI (lz := [mm_r l1]) mv194 mc194_16 rfl rfl (lk_m0_48) mv79 rfl (by decide) rfl (mk_cokV rfl (mk_A0 hA_l1)) rfl (mk_nh rfl _) ho3 ?_
    refine en_CI_mono h (fun x4 M5 h => ?_) (fun _ _ h => h)
    intro ho6
    replace h := h ho6
    obtain ⟨g7, h⟩ := h
    obtain ⟨g8, h⟩ := h
    refine en_icmp_eq 24 mc194_19 (by decide) g7 g8 (fun q => ?_) (fun q => ?_)
    · replace h := h.1 q
      refine en_iconst mc194_24 ?_
      refine en_istore_n (ls' := [mm_r l0, mm_r l1, mm_i 0]) mc194_25 (Nat.le_of_ble_eq_true rfl) rfl ?_
      exact h
    · replace h := h.2 q
      refine en_iconst mc194_22 ?_
      exact en_zret mv194 mc194_23 rfl (by decide) h
theorem vc194_26 {sc : Nat × (Int → Int)} {Q : mm_R → mm_M → Prop} {M : mm_M} {l0 : Nat} {l1 : Nat} {l2 : Int} (ho : mr_ok M) (hA_l0 : mr_A l0) (hg_l2 : mr_rg l2) (hA_l1 : mr_A l1)
    (h : ((M.1 l0 0) ≤ l2 → en_R sc 194 89 [mm_r l0, mm_r l1, mm_i 0] [] M Q) ∧ (¬ (M.1 l0 0) ≤ l2 → 0 ≤ l2 ∧ (l2 < 100 ∧ (0 ≤ l2 ∧ (l2 < 100 ∧ (((M.1 (l0 + 1) l2) ≠ (M.1 (l1 + 1) l2) → Q (.inl (some (mm_i 0))) M) ∧ (¬ ((M.1 (l0 + 1) l2) ≠ (M.1 (l1 + 1) l2)) → 0 ≤ l2 ∧ (l2 < 100 ∧ (0 ≤ l2 ∧ (l2 < 100 ∧ (((M.1 (l0 + 2) l2) ≠ (M.1 (l1 + 2) l2) → Q (.inl (some (mm_i 0))) M) ∧ (¬ ((M.1 (l0 + 2) l2) ≠ (M.1 (l1 + 2) l2)) → 0 ≤ l2 ∧ (l2 < 101 ∧ (0 ≤ l2 ∧ (l2 < 101 ∧ (((M.1 (l0 + 3) l2) = (M.1 (l1 + 3) l2) → en_R sc 194 26 [mm_r l0, mm_r l1, mm_i (l2 + 1)] [] M Q) ∧ (¬ (M.1 (l0 + 3) l2) = (M.1 (l1 + 3) l2) → Q (.inl (some (mm_i 0))) M))))))))))))))))) : en_R sc 194 26 [mm_r l0, mm_r l1, mm_i l2] [] M Q := by
  refine en_iload_n mc194_26 rfl ?_
  refine en_aload_n mc194_27 rfl ?_
  refine en_getI mv194 mc194_28 (lk_f0_9) (mk_A0 hA_l0) (Or.inl rfl) ?_
  refine en_icmp_ge 87 mc194_31 (by decide) hg_l2 (ho.2.1 l0 0 (mk_nA0 hA_l0 _)) (fun q => ?_) (fun q => ?_)
  · replace h := h.1 q
    refine en_iconst mc194_87 ?_
    refine en_istore_n (ls' := [mm_r l0, mm_r l1, mm_i 0]) mc194_88 (Nat.le_of_ble_eq_true rfl) rfl ?_
    exact h
  · replace h := h.2 q
    obtain ⟨g1, h⟩ := h
    obtain ⟨g2, h⟩ := h
    obtain ⟨g3, h⟩ := h
    obtain ⟨g4, h⟩ := h
    refine en_aload_n mc194_34 rfl ?_
    refine en_getR (b := (l0 + 1)) mv194 mc194_35 (lk_f0_15) (mk_A0 hA_l0) rfl (mk_fA1 hA_l0 ho) ?_
    refine en_iload_n mc194_38 rfl ?_
    refine en_iald mc194_39 (mk_A1 hA_l0) g1 g2 ?_
    refine en_aload_n mc194_40 rfl ?_
    refine en_getR (b := (l1 + 1)) mv194 mc194_41 (lk_f0_15) (mk_A0 hA_l1) rfl (mk_fA1 hA_l1 ho) ?_
    refine en_iload_n mc194_44 rfl ?_
    refine en_iald mc194_45 (mk_A1 hA_l1) g3 g4 ?_
    refine en_icmp_ne 79 mc194_46 (by decide) (ho.2.1 (l0 + 1) l2 ((mk_nA1 hA_l0) _)) (ho.2.1 (l1 + 1) l2 ((mk_nA1 hA_l1) _)) (fun q => ?_) (fun q => ?_)
    · replace h := h.1 q
      refine en_iconst mc194_79 ?_
      exact en_zret mv194 mc194_80 rfl (by decide) h
    · replace h := h.2 q
      obtain ⟨g5, h⟩ := h
      obtain ⟨g6, h⟩ := h
      obtain ⟨g7, h⟩ := h
      obtain ⟨g8, h⟩ := h
      refine en_aload_n mc194_49 rfl ?_
      refine en_getR (b := (l0 + 2)) mv194 mc194_50 (lk_f0_19) (mk_A0 hA_l0) rfl (mk_fA2 hA_l0 ho) ?_
      refine en_iload_n mc194_53 rfl ?_
      refine en_iald mc194_54 (mk_A2 hA_l0) g5 g6 ?_
      refine en_aload_n mc194_55 rfl ?_
      refine en_getR (b := (l1 + 2)) mv194 mc194_56 (lk_f0_19) (mk_A0 hA_l1) rfl (mk_fA2 hA_l1 ho) ?_
      refine en_iload_n mc194_59 rfl ?_
      refine en_iald mc194_60 (mk_A2 hA_l1) g7 g8 ?_
      refine en_icmp_ne 79 mc194_61 (by decide) (ho.2.1 (l0 + 2) l2 ((mk_nA2 hA_l0) _)) (ho.2.1 (l1 + 2) l2 ((mk_nA2 hA_l1) _)) (fun q => ?_) (fun q => ?_)
      · replace h := h.1 q
        refine en_iconst mc194_79 ?_
        exact en_zret mv194 mc194_80 rfl (by decide) h
      · replace h := h.2 q
        obtain ⟨g9, h⟩ := h
        obtain ⟨g10, h⟩ := h
        obtain ⟨g11, h⟩ := h
        obtain ⟨g12, h⟩ := h
        refine en_aload_n mc194_64 rfl ?_
        refine en_getR (b := (l0 + 3)) mv194 mc194_65 (lk_f0_22) (mk_A0 hA_l0) rfl (mk_fA3 hA_l0 ho) ?_
        refine en_iload_n mc194_68 rfl ?_
        refine en_iald mc194_69 (mk_A3 hA_l0) g9 g10 ?_
        refine en_aload_n mc194_70 rfl ?_
        refine en_getR (b := (l1 + 3)) mv194 mc194_71 (lk_f0_22) (mk_A0 hA_l1) rfl (mk_fA3 hA_l1 ho) ?_
        refine en_iload_n mc194_74 rfl ?_
        refine en_iald mc194_75 (mk_A3 hA_l1) g11 g12 ?_
        refine en_icmp_eq 81 mc194_76 (by decide) (ho.2.1 (l0 + 3) l2 ((mk_nA3 hA_l0) _)) (ho.2.1 (l1 + 3) l2 ((mk_nA3 hA_l1) _)) (fun q => ?_) (fun q => ?_)
        · replace h := h.1 q
          refine en_iinc (ls' := [mm_r l0, mm_r l1, mm_i (l2 + 1)]) mc194_81 rfl rfl ?_
          refine en_goto 26 mc194_84 (by decide) ?_
          exact h
        · replace h := h.2 q
          refine en_iconst mc194_79 ?_
          exact en_zret mv194 mc194_80 rfl (by decide) h
theorem vc194_89 {sc : Nat × (Int → Int)} {Q : mm_R → mm_M → Prop} {M : mm_M} {l0 : Nat} {l1 : Nat} {l2 : Int} (ho : mr_ok M) (hA_l0 : mr_A l0) (hg_l2 : mr_rg l2) (hA_l1 : mr_A l1)
    (h : en_CI sc 79 [mm_r l0] M (fun x1 M2 => mr_ok M2 → mr_rg x1 ∧ ((x1 ≤ l2 → Q (.inl (some (mm_i 1))) M2) ∧ (¬ x1 ≤ l2 → 0 ≤ l2 ∧ (l2 < 400 ∧ (0 ≤ l2 ∧ (l2 < 400 ∧ (((M2.1 (l0 + 4) l2) ≠ (M2.1 (l1 + 4) l2) → Q (.inl (some (mm_i 0))) M2) ∧ (¬ ((M2.1 (l0 + 4) l2) ≠ (M2.1 (l1 + 4) l2)) → 0 ≤ l2 ∧ (l2 < 400 ∧ (0 ≤ l2 ∧ (l2 < 400 ∧ (((M2.1 (l0 + 5) l2) = (M2.1 (l1 + 5) l2) → en_R sc 194 89 [mm_r l0, mm_r l1, mm_i (l2 + 1)] [] M2 Q) ∧ (¬ (M2.1 (l0 + 5) l2) = (M2.1 (l1 + 5) l2) → Q (.inl (some (mm_i 0))) M2))))))))))))) (fun e M9 => Q (.inr e) M9)) : en_R sc 194 89 [mm_r l0, mm_r l1, mm_i l2] [] M Q := by
  refine en_iload_n mc194_89 rfl ?_
  refine en_aload_n mc194_90 rfl ?_
  refine en_callI (lz := [mm_r l0]) mv194 mc194_91 rfl rfl (lk_m0_48) mv79 rfl (by decide) rfl (mk_cokV rfl (mk_A0 hA_l0)) rfl (mk_nh rfl _) ho ?_
  refine en_CI_mono h (fun x1 M2 h => ?_) (fun _ _ h => h)
  intro ho3
  replace h := h ho3
  obtain ⟨g4, h⟩ := h
  refine en_icmp_ge 135 mc194_94 (by decide) hg_l2 g4 (fun q => ?_) (fun q => ?_)
  · replace h := h.1 q
    refine en_iconst mc194_135 ?_
    exact en_zret mv194 mc194_136 rfl (by decide) h
  · replace h := h.2 q
    obtain ⟨g5, h⟩ := h
    obtain ⟨g6, h⟩ := h
    obtain ⟨g7, h⟩ := h
    obtain ⟨g8, h⟩ := h
    refine en_aload_n mc194_97 rfl ?_
    refine en_getR (b := (l0 + 4)) mv194 mc194_98 (lk_f0_25) (mk_A0 hA_l0) rfl (mk_fA4 hA_l0 ho3) ?_
    refine en_iload_n mc194_101 rfl ?_
    refine en_iald mc194_102 (mk_A4 hA_l0) g5 g6 ?_
    refine en_aload_n mc194_103 rfl ?_
    refine en_getR (b := (l1 + 4)) mv194 mc194_104 (lk_f0_25) (mk_A0 hA_l1) rfl (mk_fA4 hA_l1 ho3) ?_
    refine en_iload_n mc194_107 rfl ?_
    refine en_iald mc194_108 (mk_A4 hA_l1) g7 g8 ?_
    refine en_icmp_ne 127 mc194_109 (by decide) (ho3.2.1 (l0 + 4) l2 ((mk_nA4 hA_l0) _)) (ho3.2.1 (l1 + 4) l2 ((mk_nA4 hA_l1) _)) (fun q => ?_) (fun q => ?_)
    · replace h := h.1 q
      refine en_iconst mc194_127 ?_
      exact en_zret mv194 mc194_128 rfl (by decide) h
    · replace h := h.2 q
      obtain ⟨g9, h⟩ := h
      obtain ⟨g10, h⟩ := h
      obtain ⟨g11, h⟩ := h
      obtain ⟨g12, h⟩ := h
      refine en_aload_n mc194_112 rfl ?_
      refine en_getR (b := (l0 + 5)) mv194 mc194_113 (lk_f0_28) (mk_A0 hA_l0) rfl (mk_fA5 hA_l0 ho3) ?_
      refine en_iload_n mc194_116 rfl ?_
      refine en_iald mc194_117 (mk_A5 hA_l0) g9 g10 ?_
      refine en_aload_n mc194_118 rfl ?_
      refine en_getR (b := (l1 + 5)) mv194 mc194_119 (lk_f0_28) (mk_A0 hA_l1) rfl (mk_fA5 hA_l1 ho3) ?_
      refine en_iload_n mc194_122 rfl ?_
      refine en_iald mc194_123 (mk_A5 hA_l1) g11 g12 ?_
      refine en_icmp_eq 129 mc194_124 (by decide) (ho3.2.1 (l0 + 5) l2 ((mk_nA5 hA_l0) _)) (ho3.2.1 (l1 + 5) l2 ((mk_nA5 hA_l1) _)) (fun q => ?_) (fun q => ?_)
      · replace h := h.1 q
        refine en_iinc (ls' := [mm_r l0, mm_r l1, mm_i (l2 + 1)]) mc194_129 rfl rfl ?_
        refine en_goto 89 mc194_132 (by decide) ?_
        exact h
      · replace h := h.2 q
        refine en_iconst mc194_127 ?_
        exact en_zret mv194 mc194_128 rfl (by decide) h
/-! 195: CellAreas$Loops.allGoRound()I -/
theorem mc195_0 : mr_C 195 0 = some (.iconst 0, 1) := by decide +kernel
theorem mc195_1 : mr_C 195 1 = some (.istore_n 1, 1) := by decide +kernel
theorem mc195_2 : mr_C 195 2 = some (.iconst 0, 1) := by decide +kernel
theorem mc195_3 : mr_C 195 3 = some (.istore_n 2, 1) := by decide +kernel
theorem mc195_4 : mr_C 195 4 = some (.iload_n 2, 1) := by decide +kernel
theorem mc195_5 : mr_C 195 5 = some (.aload_n 0, 1) := by decide +kernel
theorem mc195_6 : mr_C 195 6 = some (.getfield 9, 3) := by decide +kernel
theorem mc195_9 : mr_C 195 9 = some (.if_icmp .ge (17), 3) := by decide +kernel
theorem mc195_12 : mr_C 195 12 = some (.iload_n 1, 1) := by decide +kernel
theorem mc195_13 : mr_C 195 13 = some (.aload_n 0, 1) := by decide +kernel
theorem mc195_14 : mr_C 195 14 = some (.iload_n 2, 1) := by decide +kernel
theorem mc195_15 : mr_C 195 15 = some (.invokevirtual 120, 3) := by decide +kernel
theorem mc195_18 : mr_C 195 18 = some (.iadd, 1) := by decide +kernel
theorem mc195_19 : mr_C 195 19 = some (.istore_n 1, 1) := by decide +kernel
theorem mc195_20 : mr_C 195 20 = some (.iinc 2 (1), 3) := by decide +kernel
theorem mc195_23 : mr_C 195 23 = some (.goto (-19), 3) := by decide +kernel
theorem mc195_26 : mr_C 195 26 = some (.iload_n 1, 1) := by decide +kernel
theorem mc195_27 : mr_C 195 27 = some (.ireturn, 1) := by decide +kernel
theorem vc195_0 {sc : Nat × (Int → Int)} {Q : mm_R → mm_M → Prop} {M : mm_M} (ho : mr_ok M)
    (h : en_R sc 195 4 [mm_r 17, mm_i 0, mm_i 0] [] M Q) : en_R sc 195 0 [mm_r 17, mm_u, mm_u] [] M Q := by
  refine en_iconst mc195_0 ?_
  refine en_istore_n (ls' := [mm_r 17, mm_i 0, mm_u]) mc195_1 (Nat.le_of_ble_eq_true rfl) rfl ?_
  refine en_iconst mc195_2 ?_
  refine en_istore_n (ls' := [mm_r 17, mm_i 0, mm_i 0]) mc195_3 (Nat.le_of_ble_eq_true rfl) rfl ?_
  exact h
theorem vc195_4 {sc : Nat × (Int → Int)} {Q : mm_R → mm_M → Prop} {M : mm_M} {l1 : Int} {l2 : Int} (ho : mr_ok M) (hg_l2 : mr_rg l2)
    (h : ((M.1 17 0) ≤ l2 → Q (.inl (some (mm_i l1))) M) ∧ (¬ (M.1 17 0) ≤ l2 → en_CI sc 138 [mm_r 17, mm_i l2, mm_u, mm_u, mm_u, mm_u] M (fun x1 M2 => mr_ok M2 → en_R sc 195 4 [mm_r 17, mm_i (l1 + x1), mm_i (l2 + 1)] [] M2 Q) (fun e M9 => Q (.inr e) M9))) : en_R sc 195 4 [mm_r 17, mm_i l1, mm_i l2] [] M Q := by
  refine en_iload_n mc195_4 rfl ?_
  refine en_aload_n mc195_5 rfl ?_
  refine en_getI mv195 mc195_6 (lk_f3_9) (⟨rfl, by decide⟩ : mt_kd[17]? = some (.inl 3) ∧ 17 < 99) (Or.inl rfl) ?_
  refine en_icmp_ge 26 mc195_9 (by decide) hg_l2 (ho.2.1 17 0 (by unfold mr_lg; omega)) (fun q => ?_) (fun q => ?_)
  · replace h := h.1 q
    refine en_iload_n mc195_26 rfl ?_
    exact en_iret mv195 mc195_27 rfl h
  · replace h := h.2 q
    refine en_iload_n mc195_12 rfl ?_
    refine en_aload_n mc195_13 rfl ?_
    refine en_iload_n mc195_14 rfl ?_
    refine en_callI (lz := [mm_r 17, mm_i l2, mm_u, mm_u, mm_u, mm_u]) mv195 mc195_15 rfl rfl (lk_m3_120) mv138 rfl (by decide) rfl (mk_cokV rfl (⟨rfl, by decide⟩ : mt_kd[17]? = some (.inl 3) ∧ 17 < 99)) rfl (mk_nh rfl _) ho ?_
    refine en_CI_mono h (fun x1 M2 h => ?_) (fun _ _ h => h)
    intro ho3
    replace h := h ho3
    refine en_iadd mc195_18 ?_
    refine en_istore_n (ls' := [mm_r 17, mm_i (l1 + x1), mm_i l2]) mc195_19 (Nat.le_of_ble_eq_true rfl) rfl ?_
    refine en_iinc (ls' := [mm_r 17, mm_i (l1 + x1), mm_i (l2 + 1)]) mc195_20 rfl rfl ?_
    refine en_goto 4 mc195_23 (by decide) ?_
    exact h
/-! 196: CellAreas.check(I)I -/
theorem mc196_0 : mr_C 196 0 = some (.iload_n 1, 1) := by decide +kernel
theorem mc196_1 : mr_C 196 1 = some (.invokestatic 61, 3) := by decide +kernel
theorem mc196_4 : mr_C 196 4 = some (.aload_n 0, 1) := by decide +kernel
theorem mc196_5 : mr_C 196 5 = some (.iload_n 1, 1) := by decide +kernel
theorem mc196_6 : mr_C 196 6 = some (.invokevirtual 171, 3) := by decide +kernel
theorem mc196_9 : mr_C 196 9 = some (.astore_n 2, 1) := by decide +kernel
theorem mc196_10 : mr_C 196 10 = some (.aload_n 0, 1) := by decide +kernel
theorem mc196_11 : mr_C 196 11 = some (.getfield 32, 3) := by decide +kernel
theorem mc196_14 : mr_C 196 14 = some (.invokevirtual 69, 3) := by decide +kernel
theorem mc196_17 : mr_C 196 17 = some (.aload_n 2, 1) := by decide +kernel
theorem mc196_18 : mr_C 196 18 = some (.aload_n 0, 1) := by decide +kernel
theorem mc196_19 : mr_C 196 19 = some (.getfield 32, 3) := by decide +kernel
theorem mc196_22 : mr_C 196 22 = some (.invokevirtual 241, 3) := by decide +kernel
theorem mc196_25 : mr_C 196 25 = some (.aload_n 0, 1) := by decide +kernel
theorem mc196_26 : mr_C 196 26 = some (.getfield 18, 3) := by decide +kernel
theorem mc196_29 : mr_C 196 29 = some (.invokevirtual 76, 3) := by decide +kernel
theorem mc196_32 : mr_C 196 32 = some (.sipush (-1000), 3) := by decide +kernel
theorem mc196_35 : mr_C 196 35 = some (.istore 4, 2) := by decide +kernel
theorem mc196_37 : mr_C 196 37 = some (.iload 4, 2) := by decide +kernel
theorem mc196_39 : mr_C 196 39 = some (.sipush 1000, 3) := by decide +kernel
theorem mc196_42 : mr_C 196 42 = some (.if_icmp .ge (69), 3) := by decide +kernel
theorem mc196_45 : mr_C 196 45 = some (.aload_n 0, 1) := by decide +kernel
theorem mc196_46 : mr_C 196 46 = some (.getfield 18, 3) := by decide +kernel
theorem mc196_49 : mr_C 196 49 = some (.getfield 95, 3) := by decide +kernel
theorem mc196_52 : mr_C 196 52 = some (.ifCond .ne (59), 3) := by decide +kernel
theorem mc196_55 : mr_C 196 55 = some (.iload 4, 2) := by decide +kernel
theorem mc196_57 : mr_C 196 57 = some (.iconst 1, 1) := by decide +kernel
theorem mc196_58 : mr_C 196 58 = some (.iadd, 1) := by decide +kernel
theorem mc196_59 : mr_C 196 59 = some (.aload_n 0, 1) := by decide +kernel
theorem mc196_60 : mr_C 196 60 = some (.getfield 32, 3) := by decide +kernel
theorem mc196_63 : mr_C 196 63 = some (.iload 4, 2) := by decide +kernel
theorem mc196_65 : mr_C 196 65 = some (.iconst 1, 1) := by decide +kernel
theorem mc196_66 : mr_C 196 66 = some (.iadd, 1) := by decide +kernel
theorem mc196_67 : mr_C 196 67 = some (.invokevirtual 99, 3) := by decide +kernel
theorem mc196_70 : mr_C 196 70 = some (.invokestatic 102, 3) := by decide +kernel
theorem mc196_73 : mr_C 196 73 = some (.istore_n 3, 1) := by decide +kernel
theorem mc196_74 : mr_C 196 74 = some (.aload_n 0, 1) := by decide +kernel
theorem mc196_75 : mr_C 196 75 = some (.getfield 25, 3) := by decide +kernel
theorem mc196_78 : mr_C 196 78 = some (.invokevirtual 69, 3) := by decide +kernel
theorem mc196_81 : mr_C 196 81 = some (.aload_n 2, 1) := by decide +kernel
theorem mc196_82 : mr_C 196 82 = some (.iload 4, 2) := by decide +kernel
theorem mc196_84 : mr_C 196 84 = some (.aload_n 0, 1) := by decide +kernel
theorem mc196_85 : mr_C 196 85 = some (.getfield 25, 3) := by decide +kernel
theorem mc196_88 : mr_C 196 88 = some (.invokevirtual 244, 3) := by decide +kernel
theorem mc196_91 : mr_C 196 91 = some (.aload_n 0, 1) := by decide +kernel
theorem mc196_92 : mr_C 196 92 = some (.getfield 18, 3) := by decide +kernel
theorem mc196_95 : mr_C 196 95 = some (.iload 4, 2) := by decide +kernel
theorem mc196_97 : mr_C 196 97 = some (.iload_n 3, 1) := by decide +kernel
theorem mc196_98 : mr_C 196 98 = some (.aload_n 0, 1) := by decide +kernel
theorem mc196_99 : mr_C 196 99 = some (.getfield 25, 3) := by decide +kernel
theorem mc196_102 : mr_C 196 102 = some (.invokevirtual 79, 3) := by decide +kernel
theorem mc196_105 : mr_C 196 105 = some (.iload_n 3, 1) := by decide +kernel
theorem mc196_106 : mr_C 196 106 = some (.istore 4, 2) := by decide +kernel
theorem mc196_108 : mr_C 196 108 = some (.goto (-71), 3) := by decide +kernel
theorem mc196_111 : mr_C 196 111 = some (.aload_n 0, 1) := by decide +kernel
theorem mc196_112 : mr_C 196 112 = some (.getfield 18, 3) := by decide +kernel
theorem mc196_115 : mr_C 196 115 = some (.getfield 95, 3) := by decide +kernel
theorem mc196_118 : mr_C 196 118 = some (.ifCond .ne (26), 3) := by decide +kernel
theorem mc196_121 : mr_C 196 121 = some (.aload_n 0, 1) := by decide +kernel
theorem mc196_122 : mr_C 196 122 = some (.getfield 18, 3) := by decide +kernel
theorem mc196_125 : mr_C 196 125 = some (.getfield 248, 3) := by decide +kernel
theorem mc196_128 : mr_C 196 128 = some (.aload_n 0, 1) := by decide +kernel
theorem mc196_129 : mr_C 196 129 = some (.getfield 11, 3) := by decide +kernel
theorem mc196_132 : mr_C 196 132 = some (.iload_n 1, 1) := by decide +kernel
theorem mc196_133 : mr_C 196 133 = some (.aaload, 1) := by decide +kernel
theorem mc196_134 : mr_C 196 134 = some (.invokevirtual 252, 3) := by decide +kernel
theorem mc196_137 : mr_C 196 137 = some (.ifCond .eq (7), 3) := by decide +kernel
theorem mc196_140 : mr_C 196 140 = some (.iconst 1, 1) := by decide +kernel
theorem mc196_141 : mr_C 196 141 = some (.goto 4, 3) := by decide +kernel
theorem mc196_144 : mr_C 196 144 = some (.iconst 0, 1) := by decide +kernel
theorem mc196_145 : mr_C 196 145 = some (.istore 4, 2) := by decide +kernel
theorem mc196_147 : mr_C 196 147 = some (.iload 4, 2) := by decide +kernel
theorem mc196_149 : mr_C 196 149 = some (.ifCond .eq (23), 3) := by decide +kernel
theorem mc196_152 : mr_C 196 152 = some (.aload_n 2, 1) := by decide +kernel
theorem mc196_153 : mr_C 196 153 = some (.invokevirtual 256, 3) := by decide +kernel
theorem mc196_156 : mr_C 196 156 = some (.aload_n 0, 1) := by decide +kernel
theorem mc196_157 : mr_C 196 157 = some (.getfield 11, 3) := by decide +kernel
theorem mc196_160 : mr_C 196 160 = some (.iload_n 1, 1) := by decide +kernel
theorem mc196_161 : mr_C 196 161 = some (.aaload, 1) := by decide +kernel
theorem mc196_162 : mr_C 196 162 = some (.invokevirtual 87, 3) := by decide +kernel
theorem mc196_165 : mr_C 196 165 = some (.if_icmp .ne (7), 3) := by decide +kernel
theorem mc196_168 : mr_C 196 168 = some (.iconst 1, 1) := by decide +kernel
theorem mc196_169 : mr_C 196 169 = some (.goto 4, 3) := by decide +kernel
theorem mc196_172 : mr_C 196 172 = some (.iconst 0, 1) := by decide +kernel
theorem mc196_173 : mr_C 196 173 = some (.ireturn, 1) := by decide +kernel
theorem vc196_0 {sc : Nat × (Int → Int)} {Q : mm_R → mm_M → Prop} {M : mm_M} {l1 : Int} (ho : mr_ok M)
    (h : en_CV sc 9 [mm_i l1] M (fun M2 => mr_ok M2 → en_CR sc 126 [mm_r 0, mm_i l1] M2 (fun x4 M5 => x4 = 17 ∧ (mr_ok M5 → en_CV sc 12 [mm_r 15] M5 (fun M8 => mr_ok M8 → en_CV sc 192 [mm_r 17, mm_r 15, mm_u] M8 (fun M11 => mr_ok M11 → en_CV sc 18 [mm_r 2] M11 (fun M14 => mr_ok M14 → en_R sc 196 37 [mm_r 0, mm_i l1, mm_r 17, mm_u, mm_i (-1000)] [] M14 Q) (fun e M9 => Q (.inr e) M9)) (fun e M9 => Q (.inr e) M9)) (fun e M9 => Q (.inr e) M9))) (fun e M9 => Q (.inr e) M9)) (fun e M9 => Q (.inr e) M9)) : en_R sc 196 0 [mm_r 0, mm_i l1, mm_u, mm_u, mm_u] [] M Q := by
  refine en_iload_n mc196_0 rfl ?_
  refine en_callV (lz := [mm_i l1]) mv196 mc196_1 rfl rfl (lk_m6_61) mv9 rfl (by decide) rfl (mk_cokS rfl) rfl (mk_nh rfl _) ho ?_
  refine en_CV_mono h (fun M2 h => ?_) (fun _ _ h => h)
  intro ho3
  replace h := h ho3
  refine en_aload_n mc196_4 rfl ?_
  refine en_iload_n mc196_5 rfl ?_
  refine en_callR (lz := [mm_r 0, mm_i l1]) mv196 mc196_6 rfl rfl (lk_m6_171) mv126 rfl (by decide) rfl (mk_cokV rfl (⟨rfl, by decide⟩ : mt_kd[0]? = some (.inl 6) ∧ 0 < 99)) rfl (mk_nh rfl _) ho3 ?_
  refine en_CR_mono h (fun x4 M5 h => ?_) (fun _ _ h => h)
  obtain ⟨rfl, h⟩ := h
  intro ho6
  replace h := h ho6
  refine en_astore_n (ls' := [mm_r 0, mm_i l1, mm_r 17, mm_u, mm_u]) mc196_9 (Nat.le_of_ble_eq_true rfl) rfl ?_
  refine en_aload_n mc196_10 rfl ?_
  refine en_getR (b := 15) mv196 mc196_11 (lk_f6_32) (⟨rfl, by decide⟩ : mt_kd[0]? = some (.inl 6) ∧ 0 < 99) rfl (mk_fc ho6 (by decide +kernel)) ?_
  refine en_callV (lz := [mm_r 15]) mv196 mc196_14 rfl rfl (lk_m6_69) mv12 rfl (by decide) rfl (mk_cokV rfl (mk_R0 (by unfold mr_Rw; decide : mr_Rw 15))) rfl (mk_nh rfl _) ho6 ?_
  refine en_CV_mono h (fun M8 h => ?_) (fun _ _ h => h)
  intro ho9
  replace h := h ho9
  refine en_aload_n mc196_17 rfl ?_
  refine en_aload_n mc196_18 rfl ?_
  refine en_getR (b := 15) mv196 mc196_19 (lk_f6_32) (⟨rfl, by decide⟩ : mt_kd[0]? = some (.inl 6) ∧ 0 < 99) rfl (mk_fc ho9 (by decide +kernel)) ?_
  refine en_callV (lz := [mm_r 17, mm_r 15, mm_u]) mv196 mc196_22 rfl rfl (lk_m6_241) mv192 rfl (by decide) rfl (mk_cokV rfl (⟨rfl, by decide⟩ : mt_kd[17]? = some (.inl 3) ∧ 17 < 99)) rfl (mk_nh rfl _) ho9 ?_
  refine en_CV_mono h (fun M11 h => ?_) (fun _ _ h => h)
  intro ho12
  replace h := h ho12
  refine en_aload_n mc196_25 rfl ?_
  refine en_getR (b := 2) mv196 mc196_26 (lk_f6_18) (⟨rfl, by decide⟩ : mt_kd[0]? = some (.inl 6) ∧ 0 < 99) rfl (mk_fc ho12 (by decide +kernel)) ?_
  refine en_callV (lz := [mm_r 2]) mv196 mc196_29 rfl rfl (lk_m6_76) mv18 rfl (by decide) rfl (mk_cokV rfl (⟨rfl, by decide⟩ : mt_kd[2]? = some (.inl 2) ∧ 2 < 99)) rfl (mk_nh rfl _) ho12 ?_
  refine en_CV_mono h (fun M14 h => ?_) (fun _ _ h => h)
  intro ho15
  replace h := h ho15
  refine en_sipush mc196_32 (by decide) ?_
  refine en_istore (ls' := [mm_r 0, mm_i l1, mm_r 17, mm_u, mm_i (-1000)]) mc196_35 (Nat.le_of_ble_eq_true rfl) rfl ?_
  exact h
theorem vc196_37 {sc : Nat × (Int → Int)} {Q : mm_R → mm_M → Prop} {M : mm_M} {l1 : Int} {l3 : mm_V} {l4 : Int} (ho : mr_ok M) (hg_l4 : mr_rg l4)
    (h : (1000 ≤ l4 → en_R sc 196 111 [mm_r 0, mm_i l1, mm_r 17, l3, mm_i l4] [] M Q) ∧ (¬ 1000 ≤ l4 → ((M.1 2 2) ≠ 0 → en_R sc 196 111 [mm_r 0, mm_i l1, mm_r 17, l3, mm_i l4] [] M Q) ∧ (¬ ((M.1 2 2) ≠ 0) → en_CI sc 22 [mm_r 15, mm_i (l4 + 1)] M (fun x1 M2 => mr_ok M2 → mr_rg (l4 + 1) ∧ (mr_rg x1 ∧ (en_CV sc 12 [mm_r 11] M2 (fun M7 => mr_ok M7 → en_CV sc 193 [mm_r 17, mm_i l4, mm_r 11, mm_u, mm_u, mm_u] M7 (fun M10 => mr_ok M10 → en_CV sc 29 [mm_r 2, mm_i l4, mm_i (max (l4 + 1) x1), mm_r 11, mm_u] M10 (fun M13 => mr_ok M13 → en_R sc 196 37 [mm_r 0, mm_i l1, mm_r 17, mm_i (max (l4 + 1) x1), mm_i (max (l4 + 1) x1)] [] M13 Q) (fun e M9 => Q (.inr e) M9)) (fun e M9 => Q (.inr e) M9)) (fun e M9 => Q (.inr e) M9)))) (fun e M9 => Q (.inr e) M9)))) : en_R sc 196 37 [mm_r 0, mm_i l1, mm_r 17, l3, mm_i l4] [] M Q := by
  refine en_iload mc196_37 rfl ?_
  refine en_sipush mc196_39 (by decide) ?_
  refine en_icmp_ge 111 mc196_42 (by decide) hg_l4 (⟨by decide, by decide⟩ : mr_rg 1000) (fun q => ?_) (fun q => ?_)
  · replace h := h.1 q
    exact h
  · replace h := h.2 q
    refine en_aload_n mc196_45 rfl ?_
    refine en_getR (b := 2) mv196 mc196_46 (lk_f6_18) (⟨rfl, by decide⟩ : mt_kd[0]? = some (.inl 6) ∧ 0 < 99) rfl (mk_fc ho (by decide +kernel)) ?_
    refine en_getI mv196 mc196_49 (lk_f6_95) (⟨rfl, by decide⟩ : mt_kd[2]? = some (.inl 2) ∧ 2 < 99) (Or.inr rfl) ?_
    refine en_if_ne 111 mc196_52 (by decide) (ho.2.1 2 2 (by unfold mr_lg; omega)) (fun q => ?_) (fun q => ?_)
    · replace h := h.1 q
      exact h
    · replace h := h.2 q
      refine en_iload mc196_55 rfl ?_
      refine en_iconst mc196_57 ?_
      refine en_iadd mc196_58 ?_
      refine en_aload_n mc196_59 rfl ?_
      refine en_getR (b := 15) mv196 mc196_60 (lk_f6_32) (⟨rfl, by decide⟩ : mt_kd[0]? = some (.inl 6) ∧ 0 < 99) rfl (mk_fc ho (by decide +kernel)) ?_
      refine en_iload mc196_63 rfl ?_
      refine en_iconst mc196_65 ?_
      refine en_iadd mc196_66 ?_
      refine en_callI (lz := [mm_r 15, mm_i (l4 + 1)]) mv196 mc196_67 rfl rfl (lk_m6_99) mv22 rfl (by decide) rfl (mk_cokV rfl (mk_R0 (by unfold mr_Rw; decide : mr_Rw 15))) rfl (mk_nh rfl _) ho ?_
      refine en_CI_mono h (fun x1 M2 h => ?_) (fun _ _ h => h)
      intro ho3
      replace h := h ho3
      obtain ⟨g4, h⟩ := h
      obtain ⟨g5, h⟩ := h
      refine en_max mv196 mc196_70 (lk_m6_102) mv13 rfl ⟨Nat.le_of_ble_eq_true rfl, Nat.le_of_ble_eq_true rfl⟩ g4 g5 ?_
      refine en_istore_n (ls' := [mm_r 0, mm_i l1, mm_r 17, mm_i (max (l4 + 1) x1), mm_i l4]) mc196_73 (Nat.le_of_ble_eq_true rfl) rfl ?_
      refine en_aload_n mc196_74 rfl ?_
      refine en_getR (b := 11) mv196 mc196_75 (lk_f6_25) (⟨rfl, by decide⟩ : mt_kd[0]? = some (.inl 6) ∧ 0 < 99) rfl (mk_fc ho3 (by decide +kernel)) ?_
      refine en_callV (lz := [mm_r 11]) mv196 mc196_78 rfl rfl (lk_m6_69) mv12 rfl (by decide) rfl (mk_cokV rfl (mk_R0 (by unfold mr_Rw; decide : mr_Rw 11))) rfl (mk_nh rfl _) ho3 ?_
      refine en_CV_mono h (fun M7 h => ?_) (fun _ _ h => h)
      intro ho8
      replace h := h ho8
      refine en_aload_n mc196_81 rfl ?_
      refine en_iload mc196_82 rfl ?_
      refine en_aload_n mc196_84 rfl ?_
      refine en_getR (b := 11) mv196 mc196_85 (lk_f6_25) (⟨rfl, by decide⟩ : mt_kd[0]? = some (.inl 6) ∧ 0 < 99) rfl (mk_fc ho8 (by decide +kernel)) ?_
      refine en_callV (lz := [mm_r 17, mm_i l4, mm_r 11, mm_u, mm_u, mm_u]) mv196 mc196_88 rfl rfl (lk_m6_244) mv193 rfl (by decide) rfl (mk_cokV rfl (⟨rfl, by decide⟩ : mt_kd[17]? = some (.inl 3) ∧ 17 < 99)) rfl (mk_nh rfl _) ho8 ?_
      refine en_CV_mono h (fun M10 h => ?_) (fun _ _ h => h)
      intro ho11
      replace h := h ho11
      refine en_aload_n mc196_91 rfl ?_
      refine en_getR (b := 2) mv196 mc196_92 (lk_f6_18) (⟨rfl, by decide⟩ : mt_kd[0]? = some (.inl 6) ∧ 0 < 99) rfl (mk_fc ho11 (by decide +kernel)) ?_
      refine en_iload mc196_95 rfl ?_
      refine en_iload_n mc196_97 rfl ?_
      refine en_aload_n mc196_98 rfl ?_
      refine en_getR (b := 11) mv196 mc196_99 (lk_f6_25) (⟨rfl, by decide⟩ : mt_kd[0]? = some (.inl 6) ∧ 0 < 99) rfl (mk_fc ho11 (by decide +kernel)) ?_
      refine en_callV (lz := [mm_r 2, mm_i l4, mm_i (max (l4 + 1) x1), mm_r 11, mm_u]) mv196 mc196_102 rfl rfl (lk_m6_79) mv29 rfl (by decide) rfl (mk_cokV rfl (⟨rfl, by decide⟩ : mt_kd[2]? = some (.inl 2) ∧ 2 < 99)) rfl (mk_nh rfl _) ho11 ?_
      refine en_CV_mono h (fun M13 h => ?_) (fun _ _ h => h)
      intro ho14
      replace h := h ho14
      refine en_iload_n mc196_105 rfl ?_
      refine en_istore (ls' := [mm_r 0, mm_i l1, mm_r 17, mm_i (max (l4 + 1) x1), mm_i (max (l4 + 1) x1)]) mc196_106 (Nat.le_of_ble_eq_true rfl) rfl ?_
      refine en_goto 37 mc196_108 (by decide) ?_
      exact h
theorem vc196_111 {sc : Nat × (Int → Int)} {Q : mm_R → mm_M → Prop} {M : mm_M} {l1 : Int} {l3 : mm_V} {l4 : Int} (ho : mr_ok M)
    (h : ((M.1 2 2) ≠ 0 → en_R sc 196 144 [mm_r 0, mm_i l1, mm_r 17, l3, mm_i l4] [] M Q) ∧ (¬ ((M.1 2 2) ≠ 0) → ∃ b1, M.2.1 2 0 = some b1 ∧ mr_A b1 ∧ (0 ≤ l1 ∧ (l1 < 8 ∧ (∃ b5, M.2.1 1 l1 = some b5 ∧ mr_A b5 ∧ (en_CI sc 194 [mm_r b1, mm_r b5, mm_u] M (fun x7 M8 => mr_ok M8 → mr_rg x7 ∧ ((x7 = 0 → en_R sc 196 144 [mm_r 0, mm_i l1, mm_r 17, l3, mm_i l4] [] M8 Q) ∧ (¬ x7 = 0 → en_R sc 196 145 [mm_r 0, mm_i l1, mm_r 17, l3, mm_i l4] [mm_i 1] M8 Q))) (fun e M9 => Q (.inr e) M9))))))) : en_R sc 196 111 [mm_r 0, mm_i l1, mm_r 17, l3, mm_i l4] [] M Q := by
  refine en_aload_n mc196_111 rfl ?_
  refine en_getR (b := 2) mv196 mc196_112 (lk_f6_18) (⟨rfl, by decide⟩ : mt_kd[0]? = some (.inl 6) ∧ 0 < 99) rfl (mk_fc ho (by decide +kernel)) ?_
  refine en_getI mv196 mc196_115 (lk_f6_95) (⟨rfl, by decide⟩ : mt_kd[2]? = some (.inl 2) ∧ 2 < 99) (Or.inr rfl) ?_
  refine en_if_ne 144 mc196_118 (by decide) (ho.2.1 2 2 (by unfold mr_lg; omega)) (fun q => ?_) (fun q => ?_)
  · replace h := h.1 q
    exact h
  · replace h := h.2 q
    refine en_aload_n mc196_121 rfl ?_
    refine en_getR (b := 2) mv196 mc196_122 (lk_f6_18) (⟨rfl, by decide⟩ : mt_kd[0]? = some (.inl 6) ∧ 0 < 99) rfl (mk_fc ho (by decide +kernel)) ?_
    obtain ⟨b1, g2, hA_b1_, h⟩ := h
    refine en_getR mv196 mc196_125 (lk_f6_248) (⟨rfl, by decide⟩ : mt_kd[2]? = some (.inl 2) ∧ 2 < 99) rfl g2 ?_
    obtain ⟨g3, h⟩ := h
    obtain ⟨g4, h⟩ := h
    refine en_aload_n mc196_128 rfl ?_
    refine en_getR (b := 1) mv196 mc196_129 (lk_f6_11) (⟨rfl, by decide⟩ : mt_kd[0]? = some (.inl 6) ∧ 0 < 99) rfl (mk_fc ho (by decide +kernel)) ?_
    refine en_iload_n mc196_132 rfl ?_
    obtain ⟨b5, g6, hA_b5_, h⟩ := h
    refine en_aald mc196_133 g3 g4 g6 ?_
    refine en_callI (lz := [mm_r b1, mm_r b5, mm_u]) mv196 mc196_134 rfl rfl (lk_m6_252) mv194 rfl (by decide) rfl (mk_cokV rfl (mk_A0 hA_b1_)) rfl (mk_nh rfl _) ho ?_
    refine en_CI_mono h (fun x7 M8 h => ?_) (fun _ _ h => h)
    intro ho9
    replace h := h ho9
    obtain ⟨g10, h⟩ := h
    refine en_if_eq 144 mc196_137 (by decide) g10 (fun q => ?_) (fun q => ?_)
    · replace h := h.1 q
      exact h
    · replace h := h.2 q
      refine en_iconst mc196_140 ?_
      refine en_goto 145 mc196_141 (by decide) ?_
      exact h
theorem vc196_144 {sc : Nat × (Int → Int)} {Q : mm_R → mm_M → Prop} {M : mm_M} {l1 : Int} {l3 : mm_V} {l4 : Int} (ho : mr_ok M)
    (h : en_R sc 196 145 [mm_r 0, mm_i l1, mm_r 17, l3, mm_i l4] [mm_i 0] M Q) : en_R sc 196 144 [mm_r 0, mm_i l1, mm_r 17, l3, mm_i l4] [] M Q := by
  refine en_iconst mc196_144 ?_
  exact h
theorem vc196_145 {sc : Nat × (Int → Int)} {Q : mm_R → mm_M → Prop} {M : mm_M} {l1 : Int} {l3 : mm_V} {l4 : Int} {s0 : Int} (ho : mr_ok M) (hn_l3 : l3 = mm_u ∨ ∃ x, l3 = mm_i x) (hg_s0 : mr_rg s0)
    (h : (s0 = 0 → Q (.inl (some (mm_i 0))) M) ∧ (¬ s0 = 0 → en_CI sc 195 [mm_r 17, mm_u, mm_u] M (fun x1 M2 => mr_ok M2 → 0 ≤ l1 ∧ (l1 < 8 ∧ (∃ b6, M2.2.1 1 l1 = some b6 ∧ mr_A b6 ∧ (en_CI sc 42 [mm_r b6, mm_u, mm_u, mm_u] M2 (fun x8 M9 => mr_ok M9 → mr_rg x1 ∧ (mr_rg x8 ∧ ((x1 ≠ x8 → Q (.inl (some (mm_i 0))) M9) ∧ (¬ (x1 ≠ x8) → Q (.inl (some (mm_i 1))) M9)))) (fun e M9 => Q (.inr e) M9))))) (fun e M9 => Q (.inr e) M9))) : en_R sc 196 145 [mm_r 0, mm_i l1, mm_r 17, l3, mm_i l4] [mm_i s0] M Q := by
  refine en_istore (ls' := [mm_r 0, mm_i l1, mm_r 17, l3, mm_i s0]) mc196_145 (Nat.le_of_ble_eq_true rfl) (mk_stn hn_l3 rfl rfl rfl) ?_
  refine en_iload mc196_147 rfl ?_
  refine en_if_eq 172 mc196_149 (by decide) hg_s0 (fun q => ?_) (fun q => ?_)
  · replace h := h.1 q
    refine en_iconst mc196_172 ?_
    exact en_iret mv196 mc196_173 rfl h
  · replace h := h.2 q
    refine en_aload_n mc196_152 rfl ?_
    refine en_callI (lz := [mm_r 17, mm_u, mm_u]) mv196 mc196_153 rfl rfl (lk_m6_256) mv195 rfl (by decide) rfl (mk_cokV rfl (⟨rfl, by decide⟩ : mt_kd[17]? = some (.inl 3) ∧ 17 < 99)) rfl (mk_nh rfl _) ho ?_
    refine en_CI_mono h (fun x1 M2 h => ?_) (fun _ _ h => h)
    intro ho3
    replace h := h ho3
    obtain ⟨g4, h⟩ := h
    obtain ⟨g5, h⟩ := h
    refine en_aload_n mc196_156 rfl ?_
    refine en_getR (b := 1) mv196 mc196_157 (lk_f6_11) (⟨rfl, by decide⟩ : mt_kd[0]? = some (.inl 6) ∧ 0 < 99) rfl (mk_fc ho3 (by decide +kernel)) ?_
    refine en_iload_n mc196_160 rfl ?_
    obtain ⟨b6, g7, hA_b6_, h⟩ := h
    refine en_aald mc196_161 g4 g5 g7 ?_
    refine en_callI (lz := [mm_r b6, mm_u, mm_u, mm_u]) mv196 mc196_162 rfl rfl (lk_m6_87) mv42 rfl (by decide) rfl (mk_cokV rfl (mk_A0 hA_b6_)) rfl (mk_nh rfl _) ho3 ?_
    refine en_CI_mono h (fun x8 M9 h => ?_) (fun _ _ h => h)
    intro ho10
    replace h := h ho10
    obtain ⟨g11, h⟩ := h
    obtain ⟨g12, h⟩ := h
    refine en_icmp_ne 172 mc196_165 (by decide) g11 g12 (fun q => ?_) (fun q => ?_)
    · replace h := h.1 q
      refine en_iconst mc196_172 ?_
      exact en_iret mv196 mc196_173 rfl h
    · replace h := h.2 q
      refine en_iconst mc196_168 ?_
      refine en_goto 173 mc196_169 (by decide) ?_
      exact en_iret mv196 mc196_173 rfl h
/-! 198: CellAreasModel.check(I)I -/
theorem mc198_0 : mr_C 198 0 = some (.aload_n 0, 1) := by decide +kernel
theorem mc198_1 : mr_C 198 1 = some (.aload_n 0, 1) := by decide +kernel
theorem mc198_2 : mr_C 198 2 = some (.iload_n 1, 1) := by decide +kernel
theorem mc198_3 : mr_C 198 3 = some (.invokevirtual 131, 3) := by decide +kernel
theorem mc198_6 : mr_C 198 6 = some (.ifCond .eq (7), 3) := by decide +kernel
theorem mc198_9 : mr_C 198 9 = some (.iconst 0, 1) := by decide +kernel
theorem mc198_10 : mr_C 198 10 = some (.goto 4, 3) := by decide +kernel
theorem mc198_13 : mr_C 198 13 = some (.iconst 1, 1) := by decide +kernel
theorem mc198_14 : mr_C 198 14 = some (.putfield 89, 3) := by decide +kernel
theorem mc198_17 : mr_C 198 17 = some (.aload_n 0, 1) := by decide +kernel
theorem mc198_18 : mr_C 198 18 = some (.getfield 89, 3) := by decide +kernel
theorem mc198_21 : mr_C 198 21 = some (.ifCond .le (7), 3) := by decide +kernel
theorem mc198_24 : mr_C 198 24 = some (.iconst 0, 1) := by decide +kernel
theorem mc198_25 : mr_C 198 25 = some (.goto 4, 3) := by decide +kernel
theorem mc198_28 : mr_C 198 28 = some (.iconst 1, 1) := by decide +kernel
theorem mc198_29 : mr_C 198 29 = some (.ireturn, 1) := by decide +kernel
theorem vc198_0 {sc : Nat × (Int → Int)} {Q : mm_R → mm_M → Prop} {M : mm_M} {l1 : Int} (ho : mr_ok M)
    (h : en_CI sc 34 [mm_r 72, mm_i l1] M (fun x1 M2 => mr_ok M2 → mr_rg x1 ∧ ((x1 = 0 → en_R sc 198 14 [mm_r 72, mm_i l1] [mm_i 1, mm_r 72] M2 Q) ∧ (¬ x1 = 0 → en_R sc 198 14 [mm_r 72, mm_i l1] [mm_i 0, mm_r 72] M2 Q))) (fun e M9 => Q (.inr e) M9)) : en_R sc 198 0 [mm_r 72, mm_i l1] [] M Q := by
  refine en_aload_n mc198_0 rfl ?_
  refine en_aload_n mc198_1 rfl ?_
  refine en_iload_n mc198_2 rfl ?_
  refine en_callI (lz := [mm_r 72, mm_i l1]) mv198 mc198_3 rfl rfl (lk_m7_131) mv34 rfl (by decide) rfl (mk_cokV rfl (⟨rfl, by decide⟩ : mt_kd[72]? = some (.inl 7) ∧ 72 < 99)) rfl (mk_nh rfl _) ho ?_
  refine en_CI_mono h (fun x1 M2 h => ?_) (fun _ _ h => h)
  intro ho3
  replace h := h ho3
  obtain ⟨g4, h⟩ := h
  refine en_if_eq 13 mc198_6 (by decide) g4 (fun q => ?_) (fun q => ?_)
  · replace h := h.1 q
    refine en_iconst mc198_13 ?_
    exact h
  · replace h := h.2 q
    refine en_iconst mc198_9 ?_
    refine en_goto 14 mc198_10 (by decide) ?_
    exact h
theorem vc198_14 {sc : Nat × (Int → Int)} {Q : mm_R → mm_M → Prop} {M : mm_M} {l1 : Int} {s1 : Int} (ho : mr_ok M) (hg_s1 : mr_rg s1)
    (h : (((mm_putN M 72 0 s1).1 72 0) ≤ 0 → Q (.inl (some (mm_i 1))) (mm_putN M 72 0 s1)) ∧ (¬ ((mm_putN M 72 0 s1).1 72 0) ≤ 0 → Q (.inl (some (mm_i 0))) (mm_putN M 72 0 s1))) : en_R sc 198 14 [mm_r 72, mm_i l1] [mm_i s1, mm_r 72] M Q := by
  refine en_putI mv198 mc198_14 (lk_f7_89) (⟨rfl, by decide⟩ : mt_kd[72]? = some (.inl 7) ∧ 72 < 99) rfl rfl hg_s1 ?_
  refine en_aload_n mc198_17 rfl ?_
  refine en_getI mv198 mc198_18 (lk_f7_89) (⟨rfl, by decide⟩ : mt_kd[72]? = some (.inl 7) ∧ 72 < 99) (Or.inl rfl) ?_
  refine en_if_le 28 mc198_21 (by decide) ((mr_ok_putI (a := 72) (k := 0) ho hg_s1).2.1 72 0 (by unfold mr_lg; omega)) (fun q => ?_) (fun q => ?_)
  · replace h := h.1 q
    refine en_iconst mc198_28 ?_
    exact en_iret mv198 mc198_29 rfl h
  · replace h := h.2 q
    refine en_iconst mc198_24 ?_
    refine en_goto 29 mc198_25 (by decide) ?_
    exact en_iret mv198 mc198_29 rfl h
