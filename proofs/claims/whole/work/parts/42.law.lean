/-! 32: CellAreasLaw.box(LCellAreas;IIIII)I -/
theorem mc32_0 : mr_C 32 0 = some (.aload_n 0, 1) := rfl
theorem mc32_1 : mr_C 32 1 = some (.iload_n 1, 1) := rfl
theorem mc32_2 : mr_C 32 2 = some (.iload_n 2, 1) := rfl
theorem mc32_3 : mr_C 32 3 = some (.iload_n 3, 1) := rfl
theorem mc32_4 : mr_C 32 4 = some (.iload 4, 2) := rfl
theorem mc32_6 : mr_C 32 6 = some (.iload 5, 2) := rfl
theorem mc32_8 : mr_C 32 8 = some (.invokevirtual 7, 3) := rfl
theorem mc32_11 : mr_C 32 11 = some (.goto 11, 3) := rfl
theorem mc32_14 : mr_C 32 14 = some (.astore 6, 2) := rfl
theorem mc32_16 : mr_C 32 16 = some (.iconst 1, 1) := rfl
theorem mc32_17 : mr_C 32 17 = some (.ireturn, 1) := rfl
theorem mc32_18 : mr_C 32 18 = some (.astore 6, 2) := rfl
theorem mc32_20 : mr_C 32 20 = some (.iconst 2, 1) := rfl
theorem mc32_21 : mr_C 32 21 = some (.ireturn, 1) := rfl
theorem mc32_22 : mr_C 32 22 = some (.iconst 0, 1) := rfl
theorem mc32_23 : mr_C 32 23 = some (.ireturn, 1) := rfl
theorem vc32_0 {sc : Nat × (Int → Int)} {Q : mm_R → mm_M → Prop} {M : mm_M} {l1 : Int} {l2 : Int} {l3 : Int} {l4 : Int} {l5 : Int} (ho : mr_ok M)
    (h : en_CV sc 31 [mm_r 0, mm_i l1, mm_i l2, mm_i l3, mm_i l4, mm_i l5] M (fun M2 => mr_ok M2 → Q (.inl (some (mm_i 0))) M2) (fun e M4 => mr_ok M4 → (e = 1 ∧ Q (.inl (some (mm_i 1))) M4) ∨ (e = 2 ∧ Q (.inl (some (mm_i 2))) M4))) : en_R sc 32 0 [mm_r 0, mm_i l1, mm_i l2, mm_i l3, mm_i l4, mm_i l5, mm_u] [] M Q := by
  refine en_aload_n mc32_0 rfl ?_
  refine en_iload_n mc32_1 rfl ?_
  refine en_iload_n mc32_2 rfl ?_
  refine en_iload_n mc32_3 rfl ?_
  refine en_iload mc32_4 rfl ?_
  refine en_iload mc32_6 rfl ?_
  refine en_callCV (X := (fun e M4 => mr_ok M4 → (e = 1 ∧ Q (.inl (some (mm_i 1))) M4) ∨ (e = 2 ∧ Q (.inl (some (mm_i 2))) M4))) (lz := [mm_r 0, mm_i l1, mm_i l2, mm_i l3, mm_i l4, mm_i l5]) mv32 mc32_8 rfl rfl (lk_m8_7) mv31 rfl (by decide) rfl (mk_cokV rfl (⟨rfl, by decide⟩ : mt_kd[0]? = some (.inl 6) ∧ 0 < 99)) rfl ho ?_ (en_CV_mono h (fun M2 h => ?_) (fun _ _ h => h))
  · intro e M4 h ho5
    rcases h ho5 with ⟨e1, h9⟩ | ⟨e1, h9⟩
    · subst e1
      replace h := h9
      refine Or.inr ⟨16, [mm_r 0, mm_i l1, mm_i l2, mm_i l3, mm_i l4, mm_i l5, mm_u], by show mt_hd 32 8 1 ≠ none; decide +kernel, rfl, ?_⟩
      refine en_iconst mc32_16 ?_
      exact en_iret mv32 mc32_17 rfl h
    · subst e1
      replace h := h9
      refine Or.inr ⟨20, [mm_r 0, mm_i l1, mm_i l2, mm_i l3, mm_i l4, mm_i l5, mm_u], by show mt_hd 32 8 2 ≠ none; decide +kernel, rfl, ?_⟩
      refine en_iconst mc32_20 ?_
      exact en_iret mv32 mc32_21 rfl h
  · intro ho3
    replace h := h ho3
    refine en_goto 22 mc32_11 (by decide) ?_
    refine en_iconst mc32_22 ?_
    exact en_iret mv32 mc32_23 rfl h
/-! 44: CellAreasLaw.clear(LCellAreas;I[J)I -/
theorem mc44_0 : mr_C 44 0 = some (.aload_n 2, 1) := rfl
theorem mc44_1 : mr_C 44 1 = some (.iconst 0, 1) := rfl
theorem mc44_2 : mr_C 44 2 = some (.aload_n 0, 1) := rfl
theorem mc44_3 : mr_C 44 3 = some (.iload_n 1, 1) := rfl
theorem mc44_4 : mr_C 44 4 = some (.invokevirtual 17, 3) := rfl
theorem mc44_7 : mr_C 44 7 = some (.i2l, 1) := rfl
theorem mc44_8 : mr_C 44 8 = some (.lastore, 1) := rfl
theorem mc44_9 : mr_C 44 9 = some (.goto 6, 3) := rfl
theorem mc44_12 : mr_C 44 12 = some (.astore_n 3, 1) := rfl
theorem mc44_13 : mr_C 44 13 = some (.iconst 1, 1) := rfl
theorem mc44_14 : mr_C 44 14 = some (.ireturn, 1) := rfl
theorem mc44_15 : mr_C 44 15 = some (.iconst 0, 1) := rfl
theorem mc44_16 : mr_C 44 16 = some (.ireturn, 1) := rfl
theorem vc44_0 {sc : Nat × (Int → Int)} {Q : mm_R → mm_M → Prop} {M : mm_M} {l1 : Int} (ho : mr_ok M)
    (h : en_CI sc 43 [mm_r 0, mm_i l1, mm_u] M (fun x1 M2 => mr_ok M2 → mr_rg x1 ∧ (mr_rj x1 ∧ (Q (.inl (some (mm_i 0))) (mm_putN M2 98 0 x1)))) (fun e M6 => mr_ok M6 → (e = 1 ∧ Q (.inl (some (mm_i 1))) M6) ∨ (e = 2 ∧ Q (.inr 2) M6))) : en_R sc 44 0 [mm_r 0, mm_i l1, mm_r 98, mm_u] [] M Q := by
  refine en_aload_n mc44_0 rfl ?_
  refine en_iconst mc44_1 ?_
  refine en_aload_n mc44_2 rfl ?_
  refine en_iload_n mc44_3 rfl ?_
  refine en_callCI (X := (fun e M6 => mr_ok M6 → (e = 1 ∧ Q (.inl (some (mm_i 1))) M6) ∨ (e = 2 ∧ Q (.inr 2) M6))) (lz := [mm_r 0, mm_i l1, mm_u]) mv44 mc44_4 rfl rfl (lk_m8_17) mv43 rfl (by decide) rfl (mk_cokV rfl (⟨rfl, by decide⟩ : mt_kd[0]? = some (.inl 6) ∧ 0 < 99)) rfl ho ?_ (en_CI_mono h (fun x1 M2 h => ?_) (fun _ _ h => h))
  · intro e M6 h ho7
    rcases h ho7 with ⟨e1, h9⟩ | ⟨e1, h9⟩
    · subst e1
      replace h := h9
      refine Or.inr ⟨13, [mm_r 0, mm_i l1, mm_r 98, mm_u], by show mt_hd 44 4 1 ≠ none; decide +kernel, rfl, ?_⟩
      refine en_iconst mc44_13 ?_
      exact en_iret mv44 mc44_14 rfl h
    · subst e1
      replace h := h9
      exact Or.inl ⟨by show mt_hd 44 4 2 = none; decide +kernel, h⟩
  · intro ho3
    replace h := h ho3
    obtain ⟨g4, h⟩ := h
    obtain ⟨g5, h⟩ := h
    refine en_i2l mc44_7 g4 ?_
    refine en_last mc44_8 (⟨rfl, by decide, by decide⟩ : mt_kd[98]? = some (.inr (.long, 1)) ∧ 98 < 99 ∧ 1 < 2147483648) (by decide) (by decide) g5 ?_
    refine en_goto 15 mc44_9 (by decide) ?_
    refine en_iconst mc44_15 ?_
    exact en_iret mv44 mc44_16 rfl h
/-! 57: CellAreasLaw.combine(LCellAreas;IIII[J)I -/
theorem mc57_0 : mr_C 57 0 = some (.aload 5, 2) := rfl
theorem mc57_2 : mr_C 57 2 = some (.iconst 0, 1) := rfl
theorem mc57_3 : mr_C 57 3 = some (.aload_n 0, 1) := rfl
theorem mc57_4 : mr_C 57 4 = some (.iload_n 1, 1) := rfl
theorem mc57_5 : mr_C 57 5 = some (.iload_n 2, 1) := rfl
theorem mc57_6 : mr_C 57 6 = some (.iload_n 3, 1) := rfl
theorem mc57_7 : mr_C 57 7 = some (.iload 4, 2) := rfl
theorem mc57_9 : mr_C 57 9 = some (.invokevirtual 21, 3) := rfl
theorem mc57_12 : mr_C 57 12 = some (.i2l, 1) := rfl
theorem mc57_13 : mr_C 57 13 = some (.lastore, 1) := rfl
theorem mc57_14 : mr_C 57 14 = some (.goto 11, 3) := rfl
theorem mc57_17 : mr_C 57 17 = some (.astore 6, 2) := rfl
theorem mc57_19 : mr_C 57 19 = some (.iconst 1, 1) := rfl
theorem mc57_20 : mr_C 57 20 = some (.ireturn, 1) := rfl
theorem mc57_21 : mr_C 57 21 = some (.astore 6, 2) := rfl
theorem mc57_23 : mr_C 57 23 = some (.iconst 2, 1) := rfl
theorem mc57_24 : mr_C 57 24 = some (.ireturn, 1) := rfl
theorem mc57_25 : mr_C 57 25 = some (.iconst 0, 1) := rfl
theorem mc57_26 : mr_C 57 26 = some (.ireturn, 1) := rfl
theorem vc57_0 {sc : Nat × (Int → Int)} {Q : mm_R → mm_M → Prop} {M : mm_M} {l1 : Int} {l2 : Int} {l3 : Int} {l4 : Int} (ho : mr_ok M)
    (h : en_CI sc 56 [mm_r 0, mm_i l1, mm_i l2, mm_i l3, mm_i l4, mm_u, mm_u] M (fun x1 M2 => mr_ok M2 → mr_rg x1 ∧ (mr_rj x1 ∧ (Q (.inl (some (mm_i 0))) (mm_putN M2 98 0 x1)))) (fun e M6 => mr_ok M6 → (e = 1 ∧ Q (.inl (some (mm_i 1))) M6) ∨ (e = 2 ∧ Q (.inl (some (mm_i 2))) M6))) : en_R sc 57 0 [mm_r 0, mm_i l1, mm_i l2, mm_i l3, mm_i l4, mm_r 98, mm_u] [] M Q := by
  refine en_aload mc57_0 rfl ?_
  refine en_iconst mc57_2 ?_
  refine en_aload_n mc57_3 rfl ?_
  refine en_iload_n mc57_4 rfl ?_
  refine en_iload_n mc57_5 rfl ?_
  refine en_iload_n mc57_6 rfl ?_
  refine en_iload mc57_7 rfl ?_
  refine en_callCI (X := (fun e M6 => mr_ok M6 → (e = 1 ∧ Q (.inl (some (mm_i 1))) M6) ∨ (e = 2 ∧ Q (.inl (some (mm_i 2))) M6))) (lz := [mm_r 0, mm_i l1, mm_i l2, mm_i l3, mm_i l4, mm_u, mm_u]) mv57 mc57_9 rfl rfl (lk_m8_21) mv56 rfl (by decide) rfl (mk_cokV rfl (⟨rfl, by decide⟩ : mt_kd[0]? = some (.inl 6) ∧ 0 < 99)) rfl ho ?_ (en_CI_mono h (fun x1 M2 h => ?_) (fun _ _ h => h))
  · intro e M6 h ho7
    rcases h ho7 with ⟨e1, h9⟩ | ⟨e1, h9⟩
    · subst e1
      replace h := h9
      refine Or.inr ⟨19, [mm_r 0, mm_i l1, mm_i l2, mm_i l3, mm_i l4, mm_r 98, mm_u], by show mt_hd 57 9 1 ≠ none; decide +kernel, rfl, ?_⟩
      refine en_iconst mc57_19 ?_
      exact en_iret mv57 mc57_20 rfl h
    · subst e1
      replace h := h9
      refine Or.inr ⟨23, [mm_r 0, mm_i l1, mm_i l2, mm_i l3, mm_i l4, mm_r 98, mm_u], by show mt_hd 57 9 2 ≠ none; decide +kernel, rfl, ?_⟩
      refine en_iconst mc57_23 ?_
      exact en_iret mv57 mc57_24 rfl h
  · intro ho3
    replace h := h ho3
    obtain ⟨g4, h⟩ := h
    obtain ⟨g5, h⟩ := h
    refine en_i2l mc57_12 g4 ?_
    refine en_last mc57_13 (⟨rfl, by decide, by decide⟩ : mt_kd[98]? = some (.inr (.long, 1)) ∧ 98 < 99 ∧ 1 < 2147483648) (by decide) (by decide) g5 ?_
    refine en_goto 25 mc57_14 (by decide) ?_
    refine en_iconst mc57_25 ?_
    exact en_iret mv57 mc57_26 rfl h
/-! 69: CellAreasLaw.invert(LCellAreas;II[J)I -/
theorem mc69_0 : mr_C 69 0 = some (.aload_n 3, 1) := rfl
theorem mc69_1 : mr_C 69 1 = some (.iconst 0, 1) := rfl
theorem mc69_2 : mr_C 69 2 = some (.aload_n 0, 1) := rfl
theorem mc69_3 : mr_C 69 3 = some (.iload_n 1, 1) := rfl
theorem mc69_4 : mr_C 69 4 = some (.iload_n 2, 1) := rfl
theorem mc69_5 : mr_C 69 5 = some (.invokevirtual 25, 3) := rfl
theorem mc69_8 : mr_C 69 8 = some (.i2l, 1) := rfl
theorem mc69_9 : mr_C 69 9 = some (.lastore, 1) := rfl
theorem mc69_10 : mr_C 69 10 = some (.goto 7, 3) := rfl
theorem mc69_13 : mr_C 69 13 = some (.astore 4, 2) := rfl
theorem mc69_15 : mr_C 69 15 = some (.iconst 1, 1) := rfl
theorem mc69_16 : mr_C 69 16 = some (.ireturn, 1) := rfl
theorem mc69_17 : mr_C 69 17 = some (.iconst 0, 1) := rfl
theorem mc69_18 : mr_C 69 18 = some (.ireturn, 1) := rfl
theorem vc69_0 {sc : Nat × (Int → Int)} {Q : mm_R → mm_M → Prop} {M : mm_M} {l1 : Int} {l2 : Int} (ho : mr_ok M)
    (h : en_CI sc 68 [mm_r 0, mm_i l1, mm_i l2, mm_u, mm_u] M (fun x1 M2 => mr_ok M2 → mr_rg x1 ∧ (mr_rj x1 ∧ (Q (.inl (some (mm_i 0))) (mm_putN M2 98 0 x1)))) (fun e M6 => mr_ok M6 → (e = 1 ∧ Q (.inl (some (mm_i 1))) M6) ∨ (e = 2 ∧ Q (.inr 2) M6))) : en_R sc 69 0 [mm_r 0, mm_i l1, mm_i l2, mm_r 98, mm_u] [] M Q := by
  refine en_aload_n mc69_0 rfl ?_
  refine en_iconst mc69_1 ?_
  refine en_aload_n mc69_2 rfl ?_
  refine en_iload_n mc69_3 rfl ?_
  refine en_iload_n mc69_4 rfl ?_
  refine en_callCI (X := (fun e M6 => mr_ok M6 → (e = 1 ∧ Q (.inl (some (mm_i 1))) M6) ∨ (e = 2 ∧ Q (.inr 2) M6))) (lz := [mm_r 0, mm_i l1, mm_i l2, mm_u, mm_u]) mv69 mc69_5 rfl rfl (lk_m8_25) mv68 rfl (by decide) rfl (mk_cokV rfl (⟨rfl, by decide⟩ : mt_kd[0]? = some (.inl 6) ∧ 0 < 99)) rfl ho ?_ (en_CI_mono h (fun x1 M2 h => ?_) (fun _ _ h => h))
  · intro e M6 h ho7
    rcases h ho7 with ⟨e1, h9⟩ | ⟨e1, h9⟩
    · subst e1
      replace h := h9
      refine Or.inr ⟨15, [mm_r 0, mm_i l1, mm_i l2, mm_r 98, mm_u], by show mt_hd 69 5 1 ≠ none; decide +kernel, rfl, ?_⟩
      refine en_iconst mc69_15 ?_
      exact en_iret mv69 mc69_16 rfl h
    · subst e1
      replace h := h9
      exact Or.inl ⟨by show mt_hd 69 5 2 = none; decide +kernel, h⟩
  · intro ho3
    replace h := h ho3
    obtain ⟨g4, h⟩ := h
    obtain ⟨g5, h⟩ := h
    refine en_i2l mc69_8 g4 ?_
    refine en_last mc69_9 (⟨rfl, by decide, by decide⟩ : mt_kd[98]? = some (.inr (.long, 1)) ∧ 98 < 99 ∧ 1 < 2147483648) (by decide) (by decide) g5 ?_
    refine en_goto 17 mc69_10 (by decide) ?_
    refine en_iconst mc69_17 ?_
    exact en_iret mv69 mc69_18 rfl h
/-! 73: CellAreasLaw.move(LCellAreas;IIII[J)I -/
theorem mc73_0 : mr_C 73 0 = some (.aload 5, 2) := rfl
theorem mc73_2 : mr_C 73 2 = some (.iconst 0, 1) := rfl
theorem mc73_3 : mr_C 73 3 = some (.aload_n 0, 1) := rfl
theorem mc73_4 : mr_C 73 4 = some (.iload_n 1, 1) := rfl
theorem mc73_5 : mr_C 73 5 = some (.iload_n 2, 1) := rfl
theorem mc73_6 : mr_C 73 6 = some (.iload_n 3, 1) := rfl
theorem mc73_7 : mr_C 73 7 = some (.iload 4, 2) := rfl
theorem mc73_9 : mr_C 73 9 = some (.invokevirtual 29, 3) := rfl
theorem mc73_12 : mr_C 73 12 = some (.i2l, 1) := rfl
theorem mc73_13 : mr_C 73 13 = some (.lastore, 1) := rfl
theorem mc73_14 : mr_C 73 14 = some (.goto 11, 3) := rfl
theorem mc73_17 : mr_C 73 17 = some (.astore 6, 2) := rfl
theorem mc73_19 : mr_C 73 19 = some (.iconst 1, 1) := rfl
theorem mc73_20 : mr_C 73 20 = some (.ireturn, 1) := rfl
theorem mc73_21 : mr_C 73 21 = some (.astore 6, 2) := rfl
theorem mc73_23 : mr_C 73 23 = some (.iconst 2, 1) := rfl
theorem mc73_24 : mr_C 73 24 = some (.ireturn, 1) := rfl
theorem mc73_25 : mr_C 73 25 = some (.iconst 0, 1) := rfl
theorem mc73_26 : mr_C 73 26 = some (.ireturn, 1) := rfl
theorem vc73_0 {sc : Nat × (Int → Int)} {Q : mm_R → mm_M → Prop} {M : mm_M} {l1 : Int} {l2 : Int} {l3 : Int} {l4 : Int} (ho : mr_ok M)
    (h : en_CI sc 72 [mm_r 0, mm_i l1, mm_i l2, mm_i l3, mm_i l4, mm_u, mm_u] M (fun x1 M2 => mr_ok M2 → mr_rg x1 ∧ (mr_rj x1 ∧ (Q (.inl (some (mm_i 0))) (mm_putN M2 98 0 x1)))) (fun e M6 => mr_ok M6 → (e = 1 ∧ Q (.inl (some (mm_i 1))) M6) ∨ (e = 2 ∧ Q (.inl (some (mm_i 2))) M6))) : en_R sc 73 0 [mm_r 0, mm_i l1, mm_i l2, mm_i l3, mm_i l4, mm_r 98, mm_u] [] M Q := by
  refine en_aload mc73_0 rfl ?_
  refine en_iconst mc73_2 ?_
  refine en_aload_n mc73_3 rfl ?_
  refine en_iload_n mc73_4 rfl ?_
  refine en_iload_n mc73_5 rfl ?_
  refine en_iload_n mc73_6 rfl ?_
  refine en_iload mc73_7 rfl ?_
  refine en_callCI (X := (fun e M6 => mr_ok M6 → (e = 1 ∧ Q (.inl (some (mm_i 1))) M6) ∨ (e = 2 ∧ Q (.inl (some (mm_i 2))) M6))) (lz := [mm_r 0, mm_i l1, mm_i l2, mm_i l3, mm_i l4, mm_u, mm_u]) mv73 mc73_9 rfl rfl (lk_m8_29) mv72 rfl (by decide) rfl (mk_cokV rfl (⟨rfl, by decide⟩ : mt_kd[0]? = some (.inl 6) ∧ 0 < 99)) rfl ho ?_ (en_CI_mono h (fun x1 M2 h => ?_) (fun _ _ h => h))
  · intro e M6 h ho7
    rcases h ho7 with ⟨e1, h9⟩ | ⟨e1, h9⟩
    · subst e1
      replace h := h9
      refine Or.inr ⟨19, [mm_r 0, mm_i l1, mm_i l2, mm_i l3, mm_i l4, mm_r 98, mm_u], by show mt_hd 73 9 1 ≠ none; decide +kernel, rfl, ?_⟩
      refine en_iconst mc73_19 ?_
      exact en_iret mv73 mc73_20 rfl h
    · subst e1
      replace h := h9
      refine Or.inr ⟨23, [mm_r 0, mm_i l1, mm_i l2, mm_i l3, mm_i l4, mm_r 98, mm_u], by show mt_hd 73 9 2 ≠ none; decide +kernel, rfl, ?_⟩
      refine en_iconst mc73_23 ?_
      exact en_iret mv73 mc73_24 rfl h
  · intro ho3
    replace h := h ho3
    obtain ⟨g4, h⟩ := h
    obtain ⟨g5, h⟩ := h
    refine en_i2l mc73_12 g4 ?_
    refine en_last mc73_13 (⟨rfl, by decide, by decide⟩ : mt_kd[98]? = some (.inr (.long, 1)) ∧ 98 < 99 ∧ 1 < 2147483648) (by decide) (by decide) g5 ?_
    refine en_goto 25 mc73_14 (by decide) ?_
    refine en_iconst mc73_25 ?_
    exact en_iret mv73 mc73_26 rfl h
/-! 86: CellAreasLaw.mirror(LCellAreas;III[J)I -/
theorem mc86_0 : mr_C 86 0 = some (.aload 4, 2) := rfl
theorem mc86_2 : mr_C 86 2 = some (.iconst 0, 1) := rfl
theorem mc86_3 : mr_C 86 3 = some (.aload_n 0, 1) := rfl
theorem mc86_4 : mr_C 86 4 = some (.iload_n 1, 1) := rfl
theorem mc86_5 : mr_C 86 5 = some (.iload_n 2, 1) := rfl
theorem mc86_6 : mr_C 86 6 = some (.iload_n 3, 1) := rfl
theorem mc86_7 : mr_C 86 7 = some (.invokevirtual 32, 3) := rfl
theorem mc86_10 : mr_C 86 10 = some (.i2l, 1) := rfl
theorem mc86_11 : mr_C 86 11 = some (.lastore, 1) := rfl
theorem mc86_12 : mr_C 86 12 = some (.goto 11, 3) := rfl
theorem mc86_15 : mr_C 86 15 = some (.astore 5, 2) := rfl
theorem mc86_17 : mr_C 86 17 = some (.iconst 1, 1) := rfl
theorem mc86_18 : mr_C 86 18 = some (.ireturn, 1) := rfl
theorem mc86_19 : mr_C 86 19 = some (.astore 5, 2) := rfl
theorem mc86_21 : mr_C 86 21 = some (.iconst 2, 1) := rfl
theorem mc86_22 : mr_C 86 22 = some (.ireturn, 1) := rfl
theorem mc86_23 : mr_C 86 23 = some (.iconst 0, 1) := rfl
theorem mc86_24 : mr_C 86 24 = some (.ireturn, 1) := rfl
theorem vc86_0 {sc : Nat × (Int → Int)} {Q : mm_R → mm_M → Prop} {M : mm_M} {l1 : Int} {l2 : Int} {l3 : Int} (ho : mr_ok M)
    (h : en_CI sc 85 [mm_r 0, mm_i l1, mm_i l2, mm_i l3] M (fun x1 M2 => mr_ok M2 → mr_rg x1 ∧ (mr_rj x1 ∧ (Q (.inl (some (mm_i 0))) (mm_putN M2 98 0 x1)))) (fun e M6 => mr_ok M6 → (e = 1 ∧ Q (.inl (some (mm_i 1))) M6) ∨ (e = 2 ∧ Q (.inl (some (mm_i 2))) M6))) : en_R sc 86 0 [mm_r 0, mm_i l1, mm_i l2, mm_i l3, mm_r 98, mm_u] [] M Q := by
  refine en_aload mc86_0 rfl ?_
  refine en_iconst mc86_2 ?_
  refine en_aload_n mc86_3 rfl ?_
  refine en_iload_n mc86_4 rfl ?_
  refine en_iload_n mc86_5 rfl ?_
  refine en_iload_n mc86_6 rfl ?_
  refine en_callCI (X := (fun e M6 => mr_ok M6 → (e = 1 ∧ Q (.inl (some (mm_i 1))) M6) ∨ (e = 2 ∧ Q (.inl (some (mm_i 2))) M6))) (lz := [mm_r 0, mm_i l1, mm_i l2, mm_i l3]) mv86 mc86_7 rfl rfl (lk_m8_32) mv85 rfl (by decide) rfl (mk_cokV rfl (⟨rfl, by decide⟩ : mt_kd[0]? = some (.inl 6) ∧ 0 < 99)) rfl ho ?_ (en_CI_mono h (fun x1 M2 h => ?_) (fun _ _ h => h))
  · intro e M6 h ho7
    rcases h ho7 with ⟨e1, h9⟩ | ⟨e1, h9⟩
    · subst e1
      replace h := h9
      refine Or.inr ⟨17, [mm_r 0, mm_i l1, mm_i l2, mm_i l3, mm_r 98, mm_u], by show mt_hd 86 7 1 ≠ none; decide +kernel, rfl, ?_⟩
      refine en_iconst mc86_17 ?_
      exact en_iret mv86 mc86_18 rfl h
    · subst e1
      replace h := h9
      refine Or.inr ⟨21, [mm_r 0, mm_i l1, mm_i l2, mm_i l3, mm_r 98, mm_u], by show mt_hd 86 7 2 ≠ none; decide +kernel, rfl, ?_⟩
      refine en_iconst mc86_21 ?_
      exact en_iret mv86 mc86_22 rfl h
  · intro ho3
    replace h := h ho3
    obtain ⟨g4, h⟩ := h
    obtain ⟨g5, h⟩ := h
    refine en_i2l mc86_10 g4 ?_
    refine en_last mc86_11 (⟨rfl, by decide, by decide⟩ : mt_kd[98]? = some (.inr (.long, 1)) ∧ 98 < 99 ∧ 1 < 2147483648) (by decide) (by decide) g5 ?_
    refine en_goto 23 mc86_12 (by decide) ?_
    refine en_iconst mc86_23 ?_
    exact en_iret mv86 mc86_24 rfl h
/-! 92: CellAreasLaw.grow(LCellAreas;IIIIII[J)I -/
theorem mc92_0 : mr_C 92 0 = some (.aload 7, 2) := rfl
theorem mc92_2 : mr_C 92 2 = some (.iconst 0, 1) := rfl
theorem mc92_3 : mr_C 92 3 = some (.aload_n 0, 1) := rfl
theorem mc92_4 : mr_C 92 4 = some (.iload_n 1, 1) := rfl
theorem mc92_5 : mr_C 92 5 = some (.iload_n 2, 1) := rfl
theorem mc92_6 : mr_C 92 6 = some (.iload_n 3, 1) := rfl
theorem mc92_7 : mr_C 92 7 = some (.iload 4, 2) := rfl
theorem mc92_9 : mr_C 92 9 = some (.iload 5, 2) := rfl
theorem mc92_11 : mr_C 92 11 = some (.iload 6, 2) := rfl
theorem mc92_13 : mr_C 92 13 = some (.invokevirtual 36, 3) := rfl
theorem mc92_16 : mr_C 92 16 = some (.i2l, 1) := rfl
theorem mc92_17 : mr_C 92 17 = some (.lastore, 1) := rfl
theorem mc92_18 : mr_C 92 18 = some (.goto 11, 3) := rfl
theorem mc92_21 : mr_C 92 21 = some (.astore 8, 2) := rfl
theorem mc92_23 : mr_C 92 23 = some (.iconst 1, 1) := rfl
theorem mc92_24 : mr_C 92 24 = some (.ireturn, 1) := rfl
theorem mc92_25 : mr_C 92 25 = some (.astore 8, 2) := rfl
theorem mc92_27 : mr_C 92 27 = some (.iconst 2, 1) := rfl
theorem mc92_28 : mr_C 92 28 = some (.ireturn, 1) := rfl
theorem mc92_29 : mr_C 92 29 = some (.iconst 0, 1) := rfl
theorem mc92_30 : mr_C 92 30 = some (.ireturn, 1) := rfl
theorem vc92_0 {sc : Nat × (Int → Int)} {Q : mm_R → mm_M → Prop} {M : mm_M} {l1 : Int} {l2 : Int} {l3 : Int} {l4 : Int} {l5 : Int} {l6 : Int} (ho : mr_ok M)
    (h : en_CI sc 91 [mm_r 0, mm_i l1, mm_i l2, mm_i l3, mm_i l4, mm_i l5, mm_i l6, mm_u, mm_u, mm_u, mm_u] M (fun x1 M2 => mr_ok M2 → mr_rg x1 ∧ (mr_rj x1 ∧ (Q (.inl (some (mm_i 0))) (mm_putN M2 98 0 x1)))) (fun e M6 => mr_ok M6 → (e = 1 ∧ Q (.inl (some (mm_i 1))) M6) ∨ (e = 2 ∧ Q (.inl (some (mm_i 2))) M6))) : en_R sc 92 0 [mm_r 0, mm_i l1, mm_i l2, mm_i l3, mm_i l4, mm_i l5, mm_i l6, mm_r 98, mm_u] [] M Q := by
  refine en_aload mc92_0 rfl ?_
  refine en_iconst mc92_2 ?_
  refine en_aload_n mc92_3 rfl ?_
  refine en_iload_n mc92_4 rfl ?_
  refine en_iload_n mc92_5 rfl ?_
  refine en_iload_n mc92_6 rfl ?_
  refine en_iload mc92_7 rfl ?_
  refine en_iload mc92_9 rfl ?_
  refine en_iload mc92_11 rfl ?_
  refine en_callCI (X := (fun e M6 => mr_ok M6 → (e = 1 ∧ Q (.inl (some (mm_i 1))) M6) ∨ (e = 2 ∧ Q (.inl (some (mm_i 2))) M6))) (lz := [mm_r 0, mm_i l1, mm_i l2, mm_i l3, mm_i l4, mm_i l5, mm_i l6, mm_u, mm_u, mm_u, mm_u]) mv92 mc92_13 rfl rfl (lk_m8_36) mv91 rfl (by decide) rfl (mk_cokV rfl (⟨rfl, by decide⟩ : mt_kd[0]? = some (.inl 6) ∧ 0 < 99)) rfl ho ?_ (en_CI_mono h (fun x1 M2 h => ?_) (fun _ _ h => h))
  · intro e M6 h ho7
    rcases h ho7 with ⟨e1, h9⟩ | ⟨e1, h9⟩
    · subst e1
      replace h := h9
      refine Or.inr ⟨23, [mm_r 0, mm_i l1, mm_i l2, mm_i l3, mm_i l4, mm_i l5, mm_i l6, mm_r 98, mm_u], by show mt_hd 92 13 1 ≠ none; decide +kernel, rfl, ?_⟩
      refine en_iconst mc92_23 ?_
      exact en_iret mv92 mc92_24 rfl h
    · subst e1
      replace h := h9
      refine Or.inr ⟨27, [mm_r 0, mm_i l1, mm_i l2, mm_i l3, mm_i l4, mm_i l5, mm_i l6, mm_r 98, mm_u], by show mt_hd 92 13 2 ≠ none; decide +kernel, rfl, ?_⟩
      refine en_iconst mc92_27 ?_
      exact en_iret mv92 mc92_28 rfl h
  · intro ho3
    replace h := h ho3
    obtain ⟨g4, h⟩ := h
    obtain ⟨g5, h⟩ := h
    refine en_i2l mc92_16 g4 ?_
    refine en_last mc92_17 (⟨rfl, by decide, by decide⟩ : mt_kd[98]? = some (.inr (.long, 1)) ∧ 98 < 99 ∧ 1 < 2147483648) (by decide) (by decide) g5 ?_
    refine en_goto 29 mc92_18 (by decide) ?_
    refine en_iconst mc92_29 ?_
    exact en_iret mv92 mc92_30 rfl h
/-! 99: CellAreasLaw.shrink(LCellAreas;IIIIII[J)I -/
theorem mc99_0 : mr_C 99 0 = some (.aload 7, 2) := rfl
theorem mc99_2 : mr_C 99 2 = some (.iconst 0, 1) := rfl
theorem mc99_3 : mr_C 99 3 = some (.aload_n 0, 1) := rfl
theorem mc99_4 : mr_C 99 4 = some (.iload_n 1, 1) := rfl
theorem mc99_5 : mr_C 99 5 = some (.iload_n 2, 1) := rfl
theorem mc99_6 : mr_C 99 6 = some (.iload_n 3, 1) := rfl
theorem mc99_7 : mr_C 99 7 = some (.iload 4, 2) := rfl
theorem mc99_9 : mr_C 99 9 = some (.iload 5, 2) := rfl
theorem mc99_11 : mr_C 99 11 = some (.iload 6, 2) := rfl
theorem mc99_13 : mr_C 99 13 = some (.invokevirtual 40, 3) := rfl
theorem mc99_16 : mr_C 99 16 = some (.i2l, 1) := rfl
theorem mc99_17 : mr_C 99 17 = some (.lastore, 1) := rfl
theorem mc99_18 : mr_C 99 18 = some (.goto 11, 3) := rfl
theorem mc99_21 : mr_C 99 21 = some (.astore 8, 2) := rfl
theorem mc99_23 : mr_C 99 23 = some (.iconst 1, 1) := rfl
theorem mc99_24 : mr_C 99 24 = some (.ireturn, 1) := rfl
theorem mc99_25 : mr_C 99 25 = some (.astore 8, 2) := rfl
theorem mc99_27 : mr_C 99 27 = some (.iconst 2, 1) := rfl
theorem mc99_28 : mr_C 99 28 = some (.ireturn, 1) := rfl
theorem mc99_29 : mr_C 99 29 = some (.iconst 0, 1) := rfl
theorem mc99_30 : mr_C 99 30 = some (.ireturn, 1) := rfl
theorem vc99_0 {sc : Nat × (Int → Int)} {Q : mm_R → mm_M → Prop} {M : mm_M} {l1 : Int} {l2 : Int} {l3 : Int} {l4 : Int} {l5 : Int} {l6 : Int} (ho : mr_ok M)
    (h : en_CI sc 98 [mm_r 0, mm_i l1, mm_i l2, mm_i l3, mm_i l4, mm_i l5, mm_i l6, mm_u, mm_u, mm_u] M (fun x1 M2 => mr_ok M2 → mr_rg x1 ∧ (mr_rj x1 ∧ (Q (.inl (some (mm_i 0))) (mm_putN M2 98 0 x1)))) (fun e M6 => mr_ok M6 → (e = 1 ∧ Q (.inl (some (mm_i 1))) M6) ∨ (e = 2 ∧ Q (.inl (some (mm_i 2))) M6))) : en_R sc 99 0 [mm_r 0, mm_i l1, mm_i l2, mm_i l3, mm_i l4, mm_i l5, mm_i l6, mm_r 98, mm_u] [] M Q := by
  refine en_aload mc99_0 rfl ?_
  refine en_iconst mc99_2 ?_
  refine en_aload_n mc99_3 rfl ?_
  refine en_iload_n mc99_4 rfl ?_
  refine en_iload_n mc99_5 rfl ?_
  refine en_iload_n mc99_6 rfl ?_
  refine en_iload mc99_7 rfl ?_
  refine en_iload mc99_9 rfl ?_
  refine en_iload mc99_11 rfl ?_
  refine en_callCI (X := (fun e M6 => mr_ok M6 → (e = 1 ∧ Q (.inl (some (mm_i 1))) M6) ∨ (e = 2 ∧ Q (.inl (some (mm_i 2))) M6))) (lz := [mm_r 0, mm_i l1, mm_i l2, mm_i l3, mm_i l4, mm_i l5, mm_i l6, mm_u, mm_u, mm_u]) mv99 mc99_13 rfl rfl (lk_m8_40) mv98 rfl (by decide) rfl (mk_cokV rfl (⟨rfl, by decide⟩ : mt_kd[0]? = some (.inl 6) ∧ 0 < 99)) rfl ho ?_ (en_CI_mono h (fun x1 M2 h => ?_) (fun _ _ h => h))
  · intro e M6 h ho7
    rcases h ho7 with ⟨e1, h9⟩ | ⟨e1, h9⟩
    · subst e1
      replace h := h9
      refine Or.inr ⟨23, [mm_r 0, mm_i l1, mm_i l2, mm_i l3, mm_i l4, mm_i l5, mm_i l6, mm_r 98, mm_u], by show mt_hd 99 13 1 ≠ none; decide +kernel, rfl, ?_⟩
      refine en_iconst mc99_23 ?_
      exact en_iret mv99 mc99_24 rfl h
    · subst e1
      replace h := h9
      refine Or.inr ⟨27, [mm_r 0, mm_i l1, mm_i l2, mm_i l3, mm_i l4, mm_i l5, mm_i l6, mm_r 98, mm_u], by show mt_hd 99 13 2 ≠ none; decide +kernel, rfl, ?_⟩
      refine en_iconst mc99_27 ?_
      exact en_iret mv99 mc99_28 rfl h
  · intro ho3
    replace h := h ho3
    obtain ⟨g4, h⟩ := h
    obtain ⟨g5, h⟩ := h
    refine en_i2l mc99_16 g4 ?_
    refine en_last mc99_17 (⟨rfl, by decide, by decide⟩ : mt_kd[98]? = some (.inr (.long, 1)) ∧ 98 < 99 ∧ 1 < 2147483648) (by decide) (by decide) g5 ?_
    refine en_goto 29 mc99_18 (by decide) ?_
    refine en_iconst mc99_29 ?_
    exact en_iret mv99 mc99_30 rfl h
/-! 103: CellAreasLaw.bands(LCellAreas;I[J)I -/
theorem mc103_0 : mr_C 103 0 = some (.aload_n 2, 1) := rfl
theorem mc103_1 : mr_C 103 1 = some (.iconst 0, 1) := rfl
theorem mc103_2 : mr_C 103 2 = some (.aload_n 0, 1) := rfl
theorem mc103_3 : mr_C 103 3 = some (.iload_n 1, 1) := rfl
theorem mc103_4 : mr_C 103 4 = some (.invokevirtual 43, 3) := rfl
theorem mc103_7 : mr_C 103 7 = some (.i2l, 1) := rfl
theorem mc103_8 : mr_C 103 8 = some (.lastore, 1) := rfl
theorem mc103_9 : mr_C 103 9 = some (.goto 6, 3) := rfl
theorem mc103_12 : mr_C 103 12 = some (.astore_n 3, 1) := rfl
theorem mc103_13 : mr_C 103 13 = some (.iconst 1, 1) := rfl
theorem mc103_14 : mr_C 103 14 = some (.ireturn, 1) := rfl
theorem mc103_15 : mr_C 103 15 = some (.iconst 0, 1) := rfl
theorem mc103_16 : mr_C 103 16 = some (.ireturn, 1) := rfl
theorem vc103_0 {sc : Nat × (Int → Int)} {Q : mm_R → mm_M → Prop} {M : mm_M} {l1 : Int} (ho : mr_ok M)
    (h : en_CI sc 102 [mm_r 0, mm_i l1] M (fun x1 M2 => mr_ok M2 → mr_rg x1 ∧ (mr_rj x1 ∧ (Q (.inl (some (mm_i 0))) (mm_putN M2 98 0 x1)))) (fun e M6 => mr_ok M6 → (e = 1 ∧ Q (.inl (some (mm_i 1))) M6) ∨ (e = 2 ∧ Q (.inr 2) M6))) : en_R sc 103 0 [mm_r 0, mm_i l1, mm_r 98, mm_u] [] M Q := by
  refine en_aload_n mc103_0 rfl ?_
  refine en_iconst mc103_1 ?_
  refine en_aload_n mc103_2 rfl ?_
  refine en_iload_n mc103_3 rfl ?_
  refine en_callCI (X := (fun e M6 => mr_ok M6 → (e = 1 ∧ Q (.inl (some (mm_i 1))) M6) ∨ (e = 2 ∧ Q (.inr 2) M6))) (lz := [mm_r 0, mm_i l1]) mv103 mc103_4 rfl rfl (lk_m8_43) mv102 rfl (by decide) rfl (mk_cokV rfl (⟨rfl, by decide⟩ : mt_kd[0]? = some (.inl 6) ∧ 0 < 99)) rfl ho ?_ (en_CI_mono h (fun x1 M2 h => ?_) (fun _ _ h => h))
  · intro e M6 h ho7
    rcases h ho7 with ⟨e1, h9⟩ | ⟨e1, h9⟩
    · subst e1
      replace h := h9
      refine Or.inr ⟨13, [mm_r 0, mm_i l1, mm_r 98, mm_u], by show mt_hd 103 4 1 ≠ none; decide +kernel, rfl, ?_⟩
      refine en_iconst mc103_13 ?_
      exact en_iret mv103 mc103_14 rfl h
    · subst e1
      replace h := h9
      exact Or.inl ⟨by show mt_hd 103 4 2 = none; decide +kernel, h⟩
  · intro ho3
    replace h := h ho3
    obtain ⟨g4, h⟩ := h
    obtain ⟨g5, h⟩ := h
    refine en_i2l mc103_7 g4 ?_
    refine en_last mc103_8 (⟨rfl, by decide, by decide⟩ : mt_kd[98]? = some (.inr (.long, 1)) ∧ 98 < 99 ∧ 1 < 2147483648) (by decide) (by decide) g5 ?_
    refine en_goto 15 mc103_9 (by decide) ?_
    refine en_iconst mc103_15 ?_
    exact en_iret mv103 mc103_16 rfl h
/-! 106: CellAreasLaw.band(LCellAreas;III[J)I -/
theorem mc106_0 : mr_C 106 0 = some (.aload 4, 2) := rfl
theorem mc106_2 : mr_C 106 2 = some (.iconst 0, 1) := rfl
theorem mc106_3 : mr_C 106 3 = some (.aload_n 0, 1) := rfl
theorem mc106_4 : mr_C 106 4 = some (.iload_n 1, 1) := rfl
theorem mc106_5 : mr_C 106 5 = some (.iload_n 2, 1) := rfl
theorem mc106_6 : mr_C 106 6 = some (.iload_n 3, 1) := rfl
theorem mc106_7 : mr_C 106 7 = some (.invokevirtual 46, 3) := rfl
theorem mc106_10 : mr_C 106 10 = some (.i2l, 1) := rfl
theorem mc106_11 : mr_C 106 11 = some (.lastore, 1) := rfl
theorem mc106_12 : mr_C 106 12 = some (.goto 7, 3) := rfl
theorem mc106_15 : mr_C 106 15 = some (.astore 5, 2) := rfl
theorem mc106_17 : mr_C 106 17 = some (.iconst 1, 1) := rfl
theorem mc106_18 : mr_C 106 18 = some (.ireturn, 1) := rfl
theorem mc106_19 : mr_C 106 19 = some (.iconst 0, 1) := rfl
theorem mc106_20 : mr_C 106 20 = some (.ireturn, 1) := rfl
theorem vc106_0 {sc : Nat × (Int → Int)} {Q : mm_R → mm_M → Prop} {M : mm_M} {l1 : Int} {l2 : Int} {l3 : Int} (ho : mr_ok M)
    (h : en_CI sc 105 [mm_r 0, mm_i l1, mm_i l2, mm_i l3, mm_u] M (fun x1 M2 => mr_ok M2 → mr_rg x1 ∧ (mr_rj x1 ∧ (Q (.inl (some (mm_i 0))) (mm_putN M2 98 0 x1)))) (fun e M6 => mr_ok M6 → (e = 1 ∧ Q (.inl (some (mm_i 1))) M6) ∨ (e = 2 ∧ Q (.inr 2) M6))) : en_R sc 106 0 [mm_r 0, mm_i l1, mm_i l2, mm_i l3, mm_r 98, mm_u] [] M Q := by
  refine en_aload mc106_0 rfl ?_
  refine en_iconst mc106_2 ?_
  refine en_aload_n mc106_3 rfl ?_
  refine en_iload_n mc106_4 rfl ?_
  refine en_iload_n mc106_5 rfl ?_
  refine en_iload_n mc106_6 rfl ?_
  refine en_callCI (X := (fun e M6 => mr_ok M6 → (e = 1 ∧ Q (.inl (some (mm_i 1))) M6) ∨ (e = 2 ∧ Q (.inr 2) M6))) (lz := [mm_r 0, mm_i l1, mm_i l2, mm_i l3, mm_u]) mv106 mc106_7 rfl rfl (lk_m8_46) mv105 rfl (by decide) rfl (mk_cokV rfl (⟨rfl, by decide⟩ : mt_kd[0]? = some (.inl 6) ∧ 0 < 99)) rfl ho ?_ (en_CI_mono h (fun x1 M2 h => ?_) (fun _ _ h => h))
  · intro e M6 h ho7
    rcases h ho7 with ⟨e1, h9⟩ | ⟨e1, h9⟩
    · subst e1
      replace h := h9
      refine Or.inr ⟨17, [mm_r 0, mm_i l1, mm_i l2, mm_i l3, mm_r 98, mm_u], by show mt_hd 106 7 1 ≠ none; decide +kernel, rfl, ?_⟩
      refine en_iconst mc106_17 ?_
      exact en_iret mv106 mc106_18 rfl h
    · subst e1
      replace h := h9
      exact Or.inl ⟨by show mt_hd 106 7 2 = none; decide +kernel, h⟩
  · intro ho3
    replace h := h ho3
    obtain ⟨g4, h⟩ := h
    obtain ⟨g5, h⟩ := h
    refine en_i2l mc106_10 g4 ?_
    refine en_last mc106_11 (⟨rfl, by decide, by decide⟩ : mt_kd[98]? = some (.inr (.long, 1)) ∧ 98 < 99 ∧ 1 < 2147483648) (by decide) (by decide) g5 ?_
    refine en_goto 19 mc106_12 (by decide) ?_
    refine en_iconst mc106_19 ?_
    exact en_iret mv106 mc106_20 rfl h
/-! 109: CellAreasLaw.stretch(LCellAreas;IIII[J)I -/
theorem mc109_0 : mr_C 109 0 = some (.aload 5, 2) := rfl
theorem mc109_2 : mr_C 109 2 = some (.iconst 0, 1) := rfl
theorem mc109_3 : mr_C 109 3 = some (.aload_n 0, 1) := rfl
theorem mc109_4 : mr_C 109 4 = some (.iload_n 1, 1) := rfl
theorem mc109_5 : mr_C 109 5 = some (.iload_n 2, 1) := rfl
theorem mc109_6 : mr_C 109 6 = some (.iload_n 3, 1) := rfl
theorem mc109_7 : mr_C 109 7 = some (.iload 4, 2) := rfl
theorem mc109_9 : mr_C 109 9 = some (.invokevirtual 49, 3) := rfl
theorem mc109_12 : mr_C 109 12 = some (.i2l, 1) := rfl
theorem mc109_13 : mr_C 109 13 = some (.lastore, 1) := rfl
theorem mc109_14 : mr_C 109 14 = some (.goto 7, 3) := rfl
theorem mc109_17 : mr_C 109 17 = some (.astore 6, 2) := rfl
theorem mc109_19 : mr_C 109 19 = some (.iconst 1, 1) := rfl
theorem mc109_20 : mr_C 109 20 = some (.ireturn, 1) := rfl
theorem mc109_21 : mr_C 109 21 = some (.iconst 0, 1) := rfl
theorem mc109_22 : mr_C 109 22 = some (.ireturn, 1) := rfl
theorem vc109_0 {sc : Nat × (Int → Int)} {Q : mm_R → mm_M → Prop} {M : mm_M} {l1 : Int} {l2 : Int} {l3 : Int} {l4 : Int} (ho : mr_ok M)
    (h : en_CI sc 108 [mm_r 0, mm_i l1, mm_i l2, mm_i l3, mm_i l4, mm_u] M (fun x1 M2 => mr_ok M2 → mr_rg x1 ∧ (mr_rj x1 ∧ (Q (.inl (some (mm_i 0))) (mm_putN M2 98 0 x1)))) (fun e M6 => mr_ok M6 → (e = 1 ∧ Q (.inl (some (mm_i 1))) M6) ∨ (e = 2 ∧ Q (.inr 2) M6))) : en_R sc 109 0 [mm_r 0, mm_i l1, mm_i l2, mm_i l3, mm_i l4, mm_r 98, mm_u] [] M Q := by
  refine en_aload mc109_0 rfl ?_
  refine en_iconst mc109_2 ?_
  refine en_aload_n mc109_3 rfl ?_
  refine en_iload_n mc109_4 rfl ?_
  refine en_iload_n mc109_5 rfl ?_
  refine en_iload_n mc109_6 rfl ?_
  refine en_iload mc109_7 rfl ?_
  refine en_callCI (X := (fun e M6 => mr_ok M6 → (e = 1 ∧ Q (.inl (some (mm_i 1))) M6) ∨ (e = 2 ∧ Q (.inr 2) M6))) (lz := [mm_r 0, mm_i l1, mm_i l2, mm_i l3, mm_i l4, mm_u]) mv109 mc109_9 rfl rfl (lk_m8_49) mv108 rfl (by decide) rfl (mk_cokV rfl (⟨rfl, by decide⟩ : mt_kd[0]? = some (.inl 6) ∧ 0 < 99)) rfl ho ?_ (en_CI_mono h (fun x1 M2 h => ?_) (fun _ _ h => h))
  · intro e M6 h ho7
    rcases h ho7 with ⟨e1, h9⟩ | ⟨e1, h9⟩
    · subst e1
      replace h := h9
      refine Or.inr ⟨19, [mm_r 0, mm_i l1, mm_i l2, mm_i l3, mm_i l4, mm_r 98, mm_u], by show mt_hd 109 9 1 ≠ none; decide +kernel, rfl, ?_⟩
      refine en_iconst mc109_19 ?_
      exact en_iret mv109 mc109_20 rfl h
    · subst e1
      replace h := h9
      exact Or.inl ⟨by show mt_hd 109 9 2 = none; decide +kernel, h⟩
  · intro ho3
    replace h := h ho3
    obtain ⟨g4, h⟩ := h
    obtain ⟨g5, h⟩ := h
    refine en_i2l mc109_12 g4 ?_
    refine en_last mc109_13 (⟨rfl, by decide, by decide⟩ : mt_kd[98]? = some (.inr (.long, 1)) ∧ 98 < 99 ∧ 1 < 2147483648) (by decide) (by decide) g5 ?_
    refine en_goto 21 mc109_14 (by decide) ?_
    refine en_iconst mc109_21 ?_
    exact en_iret mv109 mc109_22 rfl h
/-! 112: CellAreasLaw.has(LCellAreas;III[J)I -/
theorem mc112_0 : mr_C 112 0 = some (.aload 4, 2) := rfl
theorem mc112_2 : mr_C 112 2 = some (.iconst 0, 1) := rfl
theorem mc112_3 : mr_C 112 3 = some (.aload_n 0, 1) := rfl
theorem mc112_4 : mr_C 112 4 = some (.iload_n 1, 1) := rfl
theorem mc112_5 : mr_C 112 5 = some (.iload_n 2, 1) := rfl
theorem mc112_6 : mr_C 112 6 = some (.iload_n 3, 1) := rfl
theorem mc112_7 : mr_C 112 7 = some (.invokevirtual 52, 3) := rfl
theorem mc112_10 : mr_C 112 10 = some (.ifCond .eq (7), 3) := rfl
theorem mc112_13 : mr_C 112 13 = some (.lconst 1, 1) := rfl
theorem mc112_14 : mr_C 112 14 = some (.goto 4, 3) := rfl
theorem mc112_17 : mr_C 112 17 = some (.lconst 0, 1) := rfl
theorem mc112_18 : mr_C 112 18 = some (.lastore, 1) := rfl
theorem mc112_19 : mr_C 112 19 = some (.goto 7, 3) := rfl
theorem mc112_22 : mr_C 112 22 = some (.astore 5, 2) := rfl
theorem mc112_24 : mr_C 112 24 = some (.iconst 1, 1) := by decide +kernel
theorem mc112_25 : mr_C 112 25 = some (.ireturn, 1) := by decide +kernel
theorem mc112_26 : mr_C 112 26 = some (.iconst 0, 1) := by decide +kernel
theorem mc112_27 : mr_C 112 27 = some (.ireturn, 1) := by decide +kernel
theorem vc112_0 {sc : Nat × (Int → Int)} {Q : mm_R → mm_M → Prop} {M : mm_M} {l1 : Int} {l2 : Int} {l3 : Int} (ho : mr_ok M)
    (h : en_CI sc 111 [mm_r 0, mm_i l1, mm_i l2, mm_i l3] M (fun x1 M2 => mr_ok M2 → mr_rg x1 ∧ ((x1 = 0 → Q (.inl (some (mm_i 0))) (mm_putN M2 98 0 0)) ∧ (¬ x1 = 0 → Q (.inl (some (mm_i 0))) (mm_putN M2 98 0 1)))) (fun e M5 => mr_ok M5 → (e = 1 ∧ Q (.inl (some (mm_i 1))) M5) ∨ (e = 2 ∧ Q (.inr 2) M5))) : en_R sc 112 0 [mm_r 0, mm_i l1, mm_i l2, mm_i l3, mm_r 98, mm_u] [] M Q := by
  refine en_aload mc112_0 rfl ?_
  refine en_iconst mc112_2 ?_
  refine en_aload_n mc112_3 rfl ?_
  refine en_iload_n mc112_4 rfl ?_
  refine en_iload_n mc112_5 rfl ?_
  refine en_iload_n mc112_6 rfl ?_
  refine en_callCI (X := (fun e M5 => mr_ok M5 → (e = 1 ∧ Q (.inl (some (mm_i 1))) M5) ∨ (e = 2 ∧ Q (.inr 2) M5))) (lz := [mm_r 0, mm_i l1, mm_i l2, mm_i l3]) mv112 mc112_7 rfl rfl (lk_m8_52) mv111 rfl (by decide) rfl (mk_cokV rfl (⟨rfl, by decide⟩ : mt_kd[0]? = some (.inl 6) ∧ 0 < 99)) rfl ho ?_ (en_CI_mono h (fun x1 M2 h => ?_) (fun _ _ h => h))
  · intro e M5 h ho6
    rcases h ho6 with ⟨e1, h9⟩ | ⟨e1, h9⟩
    · subst e1
      replace h := h9
      refine Or.inr ⟨24, [mm_r 0, mm_i l1, mm_i l2, mm_i l3, mm_r 98, mm_u], by show mt_hd 112 7 1 ≠ none; decide +kernel, rfl, ?_⟩
      refine en_iconst mc112_24 ?_
      exact en_iret mv112 mc112_25 rfl h
    · subst e1
      replace h := h9
      exact Or.inl ⟨by show mt_hd 112 7 2 = none; decide +kernel, h⟩
  · intro ho3
    replace h := h ho3
    obtain ⟨g4, h⟩ := h
    refine en_if_eq 17 mc112_10 (by decide) g4 (fun q => ?_) (fun q => ?_)
    · replace h := h.1 q
      refine en_lconst mc112_17 ?_
      refine en_last mc112_18 (⟨rfl, by decide, by decide⟩ : mt_kd[98]? = some (.inr (.long, 1)) ∧ 98 < 99 ∧ 1 < 2147483648) (by decide) (by decide) (⟨by decide, by decide⟩ : mr_rj 0) ?_
      refine en_goto 26 mc112_19 (by decide) ?_
      refine en_iconst mc112_26 ?_
      exact en_iret mv112 mc112_27 rfl h
    · replace h := h.2 q
      refine en_lconst mc112_13 ?_
      refine en_goto 18 mc112_14 (by decide) ?_
      refine en_last mc112_18 (⟨rfl, by decide, by decide⟩ : mt_kd[98]? = some (.inr (.long, 1)) ∧ 98 < 99 ∧ 1 < 2147483648) (by decide) (by decide) (⟨by decide, by decide⟩ : mr_rj 1) ?_
      refine en_goto 26 mc112_19 (by decide) ?_
      refine en_iconst mc112_26 ?_
      exact en_iret mv112 mc112_27 rfl h
/-! 141: CellAreasLaw.count(LCellAreas;II[J)I -/
theorem mc141_0 : mr_C 141 0 = some (.aload_n 3, 1) := by decide +kernel
theorem mc141_1 : mr_C 141 1 = some (.iconst 0, 1) := by decide +kernel
theorem mc141_2 : mr_C 141 2 = some (.aload_n 0, 1) := by decide +kernel
theorem mc141_3 : mr_C 141 3 = some (.iload_n 1, 1) := by decide +kernel
theorem mc141_4 : mr_C 141 4 = some (.iload_n 2, 1) := by decide +kernel
theorem mc141_5 : mr_C 141 5 = some (.invokevirtual 56, 3) := by decide +kernel
theorem mc141_8 : mr_C 141 8 = some (.i2l, 1) := by decide +kernel
theorem mc141_9 : mr_C 141 9 = some (.lastore, 1) := by decide +kernel
theorem mc141_10 : mr_C 141 10 = some (.goto 11, 3) := by decide +kernel
theorem mc141_13 : mr_C 141 13 = some (.astore 4, 2) := by decide +kernel
theorem mc141_15 : mr_C 141 15 = some (.iconst 1, 1) := by decide +kernel
theorem mc141_16 : mr_C 141 16 = some (.ireturn, 1) := by decide +kernel
theorem mc141_17 : mr_C 141 17 = some (.astore 4, 2) := by decide +kernel
theorem mc141_19 : mr_C 141 19 = some (.iconst 2, 1) := by decide +kernel
theorem mc141_20 : mr_C 141 20 = some (.ireturn, 1) := by decide +kernel
theorem mc141_21 : mr_C 141 21 = some (.iconst 0, 1) := by decide +kernel
theorem mc141_22 : mr_C 141 22 = some (.ireturn, 1) := by decide +kernel
theorem vc141_0 {sc : Nat × (Int → Int)} {Q : mm_R → mm_M → Prop} {M : mm_M} {l1 : Int} {l2 : Int} (ho : mr_ok M)
    (h : en_CI sc 140 [mm_r 0, mm_i l1, mm_i l2] M (fun x1 M2 => mr_ok M2 → mr_rg x1 ∧ (mr_rj x1 ∧ (Q (.inl (some (mm_i 0))) (mm_putN M2 98 0 x1)))) (fun e M6 => mr_ok M6 → (e = 1 ∧ Q (.inl (some (mm_i 1))) M6) ∨ (e = 2 ∧ Q (.inl (some (mm_i 2))) M6))) : en_R sc 141 0 [mm_r 0, mm_i l1, mm_i l2, mm_r 98, mm_u] [] M Q := by
  refine en_aload_n mc141_0 rfl ?_
  refine en_iconst mc141_1 ?_
  refine en_aload_n mc141_2 rfl ?_
  refine en_iload_n mc141_3 rfl ?_
  refine en_iload_n mc141_4 rfl ?_
  refine en_callCI (X := (fun e M6 => mr_ok M6 → (e = 1 ∧ Q (.inl (some (mm_i 1))) M6) ∨ (e = 2 ∧ Q (.inl (some (mm_i 2))) M6))) (lz := [mm_r 0, mm_i l1, mm_i l2]) mv141 mc141_5 rfl rfl (lk_m8_56) mv140 rfl (by decide) rfl (mk_cokV rfl (⟨rfl, by decide⟩ : mt_kd[0]? = some (.inl 6) ∧ 0 < 99)) rfl ho ?_ (en_CI_mono h (fun x1 M2 h => ?_) (fun _ _ h => h))
  · intro e M6 h ho7
    rcases h ho7 with ⟨e1, h9⟩ | ⟨e1, h9⟩
    · subst e1
      replace h := h9
      refine Or.inr ⟨15, [mm_r 0, mm_i l1, mm_i l2, mm_r 98, mm_u], by show mt_hd 141 5 1 ≠ none; decide +kernel, rfl, ?_⟩
      refine en_iconst mc141_15 ?_
      exact en_iret mv141 mc141_16 rfl h
    · subst e1
      replace h := h9
      refine Or.inr ⟨19, [mm_r 0, mm_i l1, mm_i l2, mm_r 98, mm_u], by show mt_hd 141 5 2 ≠ none; decide +kernel, rfl, ?_⟩
      refine en_iconst mc141_19 ?_
      exact en_iret mv141 mc141_20 rfl h
  · intro ho3
    replace h := h ho3
    obtain ⟨g4, h⟩ := h
    obtain ⟨g5, h⟩ := h
    refine en_i2l mc141_8 g4 ?_
    refine en_last mc141_9 (⟨rfl, by decide, by decide⟩ : mt_kd[98]? = some (.inr (.long, 1)) ∧ 98 < 99 ∧ 1 < 2147483648) (by decide) (by decide) g5 ?_
    refine en_goto 21 mc141_10 (by decide) ?_
    refine en_iconst mc141_21 ?_
    exact en_iret mv141 mc141_22 rfl h
/-! 158: CellAreasLaw.loop(LCellAreas;III[J)I -/
theorem mc158_0 : mr_C 158 0 = some (.aload 4, 2) := by decide +kernel
theorem mc158_2 : mr_C 158 2 = some (.iconst 0, 1) := by decide +kernel
theorem mc158_3 : mr_C 158 3 = some (.aload_n 0, 1) := by decide +kernel
theorem mc158_4 : mr_C 158 4 = some (.iload_n 1, 1) := by decide +kernel
theorem mc158_5 : mr_C 158 5 = some (.iload_n 2, 1) := by decide +kernel
theorem mc158_6 : mr_C 158 6 = some (.iload_n 3, 1) := by decide +kernel
theorem mc158_7 : mr_C 158 7 = some (.invokevirtual 59, 3) := by decide +kernel
theorem mc158_10 : mr_C 158 10 = some (.i2l, 1) := by decide +kernel
theorem mc158_11 : mr_C 158 11 = some (.lastore, 1) := by decide +kernel
theorem mc158_12 : mr_C 158 12 = some (.goto 11, 3) := by decide +kernel
theorem mc158_15 : mr_C 158 15 = some (.astore 5, 2) := by decide +kernel
theorem mc158_17 : mr_C 158 17 = some (.iconst 1, 1) := by decide +kernel
theorem mc158_18 : mr_C 158 18 = some (.ireturn, 1) := by decide +kernel
theorem mc158_19 : mr_C 158 19 = some (.astore 5, 2) := by decide +kernel
theorem mc158_21 : mr_C 158 21 = some (.iconst 2, 1) := by decide +kernel
theorem mc158_22 : mr_C 158 22 = some (.ireturn, 1) := by decide +kernel
theorem mc158_23 : mr_C 158 23 = some (.iconst 0, 1) := by decide +kernel
theorem mc158_24 : mr_C 158 24 = some (.ireturn, 1) := by decide +kernel
theorem vc158_0 {sc : Nat × (Int → Int)} {Q : mm_R → mm_M → Prop} {M : mm_M} {l1 : Int} {l2 : Int} {l3 : Int} (ho : mr_ok M)
    (h : en_CI sc 157 [mm_r 0, mm_i l1, mm_i l2, mm_i l3, mm_u] M (fun x1 M2 => mr_ok M2 → mr_rg x1 ∧ (mr_rj x1 ∧ (Q (.inl (some (mm_i 0))) (mm_putN M2 98 0 x1)))) (fun e M6 => mr_ok M6 → (e = 1 ∧ Q (.inl (some (mm_i 1))) M6) ∨ (e = 2 ∧ Q (.inl (some (mm_i 2))) M6))) : en_R sc 158 0 [mm_r 0, mm_i l1, mm_i l2, mm_i l3, mm_r 98, mm_u] [] M Q := by
  refine en_aload mc158_0 rfl ?_
  refine en_iconst mc158_2 ?_
  refine en_aload_n mc158_3 rfl ?_
  refine en_iload_n mc158_4 rfl ?_
  refine en_iload_n mc158_5 rfl ?_
  refine en_iload_n mc158_6 rfl ?_
  refine en_callCI (X := (fun e M6 => mr_ok M6 → (e = 1 ∧ Q (.inl (some (mm_i 1))) M6) ∨ (e = 2 ∧ Q (.inl (some (mm_i 2))) M6))) (lz := [mm_r 0, mm_i l1, mm_i l2, mm_i l3, mm_u]) mv158 mc158_7 rfl rfl (lk_m8_59) mv157 rfl (by decide) rfl (mk_cokV rfl (⟨rfl, by decide⟩ : mt_kd[0]? = some (.inl 6) ∧ 0 < 99)) rfl ho ?_ (en_CI_mono h (fun x1 M2 h => ?_) (fun _ _ h => h))
  · intro e M6 h ho7
    rcases h ho7 with ⟨e1, h9⟩ | ⟨e1, h9⟩
    · subst e1
      replace h := h9
      refine Or.inr ⟨17, [mm_r 0, mm_i l1, mm_i l2, mm_i l3, mm_r 98, mm_u], by show mt_hd 158 7 1 ≠ none; decide +kernel, rfl, ?_⟩
      refine en_iconst mc158_17 ?_
      exact en_iret mv158 mc158_18 rfl h
    · subst e1
      replace h := h9
      refine Or.inr ⟨21, [mm_r 0, mm_i l1, mm_i l2, mm_i l3, mm_r 98, mm_u], by show mt_hd 158 7 2 ≠ none; decide +kernel, rfl, ?_⟩
      refine en_iconst mc158_21 ?_
      exact en_iret mv158 mc158_22 rfl h
  · intro ho3
    replace h := h ho3
    obtain ⟨g4, h⟩ := h
    obtain ⟨g5, h⟩ := h
    refine en_i2l mc158_10 g4 ?_
    refine en_last mc158_11 (⟨rfl, by decide, by decide⟩ : mt_kd[98]? = some (.inr (.long, 1)) ∧ 98 < 99 ∧ 1 < 2147483648) (by decide) (by decide) g5 ?_
    refine en_goto 23 mc158_12 (by decide) ?_
    refine en_iconst mc158_23 ?_
    exact en_iret mv158 mc158_24 rfl h
/-! 161: CellAreasLaw.corner(LCellAreas;IIII[J)I -/
theorem mc161_0 : mr_C 161 0 = some (.aload 5, 2) := by decide +kernel
theorem mc161_2 : mr_C 161 2 = some (.iconst 0, 1) := by decide +kernel
theorem mc161_3 : mr_C 161 3 = some (.aload_n 0, 1) := by decide +kernel
theorem mc161_4 : mr_C 161 4 = some (.iload_n 1, 1) := by decide +kernel
theorem mc161_5 : mr_C 161 5 = some (.iload_n 2, 1) := by decide +kernel
theorem mc161_6 : mr_C 161 6 = some (.iload_n 3, 1) := by decide +kernel
theorem mc161_7 : mr_C 161 7 = some (.iload 4, 2) := by decide +kernel
theorem mc161_9 : mr_C 161 9 = some (.invokevirtual 62, 3) := by decide +kernel
theorem mc161_12 : mr_C 161 12 = some (.i2l, 1) := by decide +kernel
theorem mc161_13 : mr_C 161 13 = some (.lastore, 1) := by decide +kernel
theorem mc161_14 : mr_C 161 14 = some (.goto 11, 3) := by decide +kernel
theorem mc161_17 : mr_C 161 17 = some (.astore 6, 2) := by decide +kernel
theorem mc161_19 : mr_C 161 19 = some (.iconst 1, 1) := by decide +kernel
theorem mc161_20 : mr_C 161 20 = some (.ireturn, 1) := by decide +kernel
theorem mc161_21 : mr_C 161 21 = some (.astore 6, 2) := by decide +kernel
theorem mc161_23 : mr_C 161 23 = some (.iconst 2, 1) := by decide +kernel
theorem mc161_24 : mr_C 161 24 = some (.ireturn, 1) := by decide +kernel
theorem mc161_25 : mr_C 161 25 = some (.iconst 0, 1) := by decide +kernel
theorem mc161_26 : mr_C 161 26 = some (.ireturn, 1) := by decide +kernel
theorem vc161_0 {sc : Nat × (Int → Int)} {Q : mm_R → mm_M → Prop} {M : mm_M} {l1 : Int} {l2 : Int} {l3 : Int} {l4 : Int} (ho : mr_ok M)
    (h : en_CI sc 160 [mm_r 0, mm_i l1, mm_i l2, mm_i l3, mm_i l4, mm_u, mm_u] M (fun x1 M2 => mr_ok M2 → mr_rg x1 ∧ (mr_rj x1 ∧ (Q (.inl (some (mm_i 0))) (mm_putN M2 98 0 x1)))) (fun e M6 => mr_ok M6 → (e = 1 ∧ Q (.inl (some (mm_i 1))) M6) ∨ (e = 2 ∧ Q (.inl (some (mm_i 2))) M6))) : en_R sc 161 0 [mm_r 0, mm_i l1, mm_i l2, mm_i l3, mm_i l4, mm_r 98, mm_u] [] M Q := by
  refine en_aload mc161_0 rfl ?_
  refine en_iconst mc161_2 ?_
  refine en_aload_n mc161_3 rfl ?_
  refine en_iload_n mc161_4 rfl ?_
  refine en_iload_n mc161_5 rfl ?_
  refine en_iload_n mc161_6 rfl ?_
  refine en_iload mc161_7 rfl ?_
  refine en_callCI (X := (fun e M6 => mr_ok M6 → (e = 1 ∧ Q (.inl (some (mm_i 1))) M6) ∨ (e = 2 ∧ Q (.inl (some (mm_i 2))) M6))) (lz := [mm_r 0, mm_i l1, mm_i l2, mm_i l3, mm_i l4, mm_u, mm_u]) mv161 mc161_9 rfl rfl (lk_m8_62) mv160 rfl (by decide) rfl (mk_cokV rfl (⟨rfl, by decide⟩ : mt_kd[0]? = some (.inl 6) ∧ 0 < 99)) rfl ho ?_ (en_CI_mono h (fun x1 M2 h => ?_) (fun _ _ h => h))
  · intro e M6 h ho7
    rcases h ho7 with ⟨e1, h9⟩ | ⟨e1, h9⟩
    · subst e1
      replace h := h9
      refine Or.inr ⟨19, [mm_r 0, mm_i l1, mm_i l2, mm_i l3, mm_i l4, mm_r 98, mm_u], by show mt_hd 161 9 1 ≠ none; decide +kernel, rfl, ?_⟩
      refine en_iconst mc161_19 ?_
      exact en_iret mv161 mc161_20 rfl h
    · subst e1
      replace h := h9
      refine Or.inr ⟨23, [mm_r 0, mm_i l1, mm_i l2, mm_i l3, mm_i l4, mm_r 98, mm_u], by show mt_hd 161 9 2 ≠ none; decide +kernel, rfl, ?_⟩
      refine en_iconst mc161_23 ?_
      exact en_iret mv161 mc161_24 rfl h
  · intro ho3
    replace h := h ho3
    obtain ⟨g4, h⟩ := h
    obtain ⟨g5, h⟩ := h
    refine en_i2l mc161_12 g4 ?_
    refine en_last mc161_13 (⟨rfl, by decide, by decide⟩ : mt_kd[98]? = some (.inr (.long, 1)) ∧ 98 < 99 ∧ 1 < 2147483648) (by decide) (by decide) g5 ?_
    refine en_goto 25 mc161_14 (by decide) ?_
    refine en_iconst mc161_25 ?_
    exact en_iret mv161 mc161_26 rfl h
/-! 165: CellAreasLaw.inner(LCellAreas;III[J)I -/
theorem mc165_0 : mr_C 165 0 = some (.aload 4, 2) := by decide +kernel
theorem mc165_2 : mr_C 165 2 = some (.iconst 0, 1) := by decide +kernel
theorem mc165_3 : mr_C 165 3 = some (.aload_n 0, 1) := by decide +kernel
theorem mc165_4 : mr_C 165 4 = some (.iload_n 1, 1) := by decide +kernel
theorem mc165_5 : mr_C 165 5 = some (.iload_n 2, 1) := by decide +kernel
theorem mc165_6 : mr_C 165 6 = some (.iload_n 3, 1) := by decide +kernel
theorem mc165_7 : mr_C 165 7 = some (.invokevirtual 65, 3) := by decide +kernel
theorem mc165_10 : mr_C 165 10 = some (.i2l, 1) := by decide +kernel
theorem mc165_11 : mr_C 165 11 = some (.lastore, 1) := by decide +kernel
theorem mc165_12 : mr_C 165 12 = some (.goto 11, 3) := by decide +kernel
theorem mc165_15 : mr_C 165 15 = some (.astore 5, 2) := by decide +kernel
theorem mc165_17 : mr_C 165 17 = some (.iconst 1, 1) := by decide +kernel
theorem mc165_18 : mr_C 165 18 = some (.ireturn, 1) := by decide +kernel
theorem mc165_19 : mr_C 165 19 = some (.astore 5, 2) := by decide +kernel
theorem mc165_21 : mr_C 165 21 = some (.iconst 2, 1) := by decide +kernel
theorem mc165_22 : mr_C 165 22 = some (.ireturn, 1) := by decide +kernel
theorem mc165_23 : mr_C 165 23 = some (.iconst 0, 1) := by decide +kernel
theorem mc165_24 : mr_C 165 24 = some (.ireturn, 1) := by decide +kernel
theorem vc165_0 {sc : Nat × (Int → Int)} {Q : mm_R → mm_M → Prop} {M : mm_M} {l1 : Int} {l2 : Int} {l3 : Int} (ho : mr_ok M)
    (h : en_CI sc 164 [mm_r 0, mm_i l1, mm_i l2, mm_i l3, mm_u, mm_u, mm_u] M (fun x1 M2 => mr_ok M2 → mr_rg x1 ∧ (mr_rj x1 ∧ (Q (.inl (some (mm_i 0))) (mm_putN M2 98 0 x1)))) (fun e M6 => mr_ok M6 → (e = 1 ∧ Q (.inl (some (mm_i 1))) M6) ∨ (e = 2 ∧ Q (.inl (some (mm_i 2))) M6))) : en_R sc 165 0 [mm_r 0, mm_i l1, mm_i l2, mm_i l3, mm_r 98, mm_u] [] M Q := by
  refine en_aload mc165_0 rfl ?_
  refine en_iconst mc165_2 ?_
  refine en_aload_n mc165_3 rfl ?_
  refine en_iload_n mc165_4 rfl ?_
  refine en_iload_n mc165_5 rfl ?_
  refine en_iload_n mc165_6 rfl ?_
  refine en_callCI (X := (fun e M6 => mr_ok M6 → (e = 1 ∧ Q (.inl (some (mm_i 1))) M6) ∨ (e = 2 ∧ Q (.inl (some (mm_i 2))) M6))) (lz := [mm_r 0, mm_i l1, mm_i l2, mm_i l3, mm_u, mm_u, mm_u]) mv165 mc165_7 rfl rfl (lk_m8_65) mv164 rfl (by decide) rfl (mk_cokV rfl (⟨rfl, by decide⟩ : mt_kd[0]? = some (.inl 6) ∧ 0 < 99)) rfl ho ?_ (en_CI_mono h (fun x1 M2 h => ?_) (fun _ _ h => h))
  · intro e M6 h ho7
    rcases h ho7 with ⟨e1, h9⟩ | ⟨e1, h9⟩
    · subst e1
      replace h := h9
      refine Or.inr ⟨17, [mm_r 0, mm_i l1, mm_i l2, mm_i l3, mm_r 98, mm_u], by show mt_hd 165 7 1 ≠ none; decide +kernel, rfl, ?_⟩
      refine en_iconst mc165_17 ?_
      exact en_iret mv165 mc165_18 rfl h
    · subst e1
      replace h := h9
      refine Or.inr ⟨21, [mm_r 0, mm_i l1, mm_i l2, mm_i l3, mm_r 98, mm_u], by show mt_hd 165 7 2 ≠ none; decide +kernel, rfl, ?_⟩
      refine en_iconst mc165_21 ?_
      exact en_iret mv165 mc165_22 rfl h
  · intro ho3
    replace h := h ho3
    obtain ⟨g4, h⟩ := h
    obtain ⟨g5, h⟩ := h
    refine en_i2l mc165_10 g4 ?_
    refine en_last mc165_11 (⟨rfl, by decide, by decide⟩ : mt_kd[98]? = some (.inr (.long, 1)) ∧ 98 < 99 ∧ 1 < 2147483648) (by decide) (by decide) g5 ?_
    refine en_goto 23 mc165_12 (by decide) ?_
    refine en_iconst mc165_23 ?_
    exact en_iret mv165 mc165_24 rfl h
/-! 168: CellAreasLaw.partOf(LCellAreas;III[J)I -/
theorem mc168_0 : mr_C 168 0 = some (.aload 4, 2) := by decide +kernel
theorem mc168_2 : mr_C 168 2 = some (.iconst 0, 1) := by decide +kernel
theorem mc168_3 : mr_C 168 3 = some (.aload_n 0, 1) := by decide +kernel
theorem mc168_4 : mr_C 168 4 = some (.iload_n 1, 1) := by decide +kernel
theorem mc168_5 : mr_C 168 5 = some (.iload_n 2, 1) := by decide +kernel
theorem mc168_6 : mr_C 168 6 = some (.iload_n 3, 1) := by decide +kernel
theorem mc168_7 : mr_C 168 7 = some (.invokevirtual 68, 3) := by decide +kernel
theorem mc168_10 : mr_C 168 10 = some (.i2l, 1) := by decide +kernel
theorem mc168_11 : mr_C 168 11 = some (.lastore, 1) := by decide +kernel
theorem mc168_12 : mr_C 168 12 = some (.goto 7, 3) := by decide +kernel
theorem mc168_15 : mr_C 168 15 = some (.astore 5, 2) := by decide +kernel
theorem mc168_17 : mr_C 168 17 = some (.iconst 1, 1) := by decide +kernel
theorem mc168_18 : mr_C 168 18 = some (.ireturn, 1) := by decide +kernel
theorem mc168_19 : mr_C 168 19 = some (.iconst 0, 1) := by decide +kernel
theorem mc168_20 : mr_C 168 20 = some (.ireturn, 1) := by decide +kernel
theorem vc168_0 {sc : Nat × (Int → Int)} {Q : mm_R → mm_M → Prop} {M : mm_M} {l1 : Int} {l2 : Int} {l3 : Int} (ho : mr_ok M)
    (h : en_CI sc 167 [mm_r 0, mm_i l1, mm_i l2, mm_i l3, mm_u] M (fun x1 M2 => mr_ok M2 → mr_rg x1 ∧ (mr_rj x1 ∧ (Q (.inl (some (mm_i 0))) (mm_putN M2 98 0 x1)))) (fun e M6 => mr_ok M6 → (e = 1 ∧ Q (.inl (some (mm_i 1))) M6) ∨ (e = 2 ∧ Q (.inr 2) M6))) : en_R sc 168 0 [mm_r 0, mm_i l1, mm_i l2, mm_i l3, mm_r 98, mm_u] [] M Q := by
  refine en_aload mc168_0 rfl ?_
  refine en_iconst mc168_2 ?_
  refine en_aload_n mc168_3 rfl ?_
  refine en_iload_n mc168_4 rfl ?_
  refine en_iload_n mc168_5 rfl ?_
  refine en_iload_n mc168_6 rfl ?_
  refine en_callCI (X := (fun e M6 => mr_ok M6 → (e = 1 ∧ Q (.inl (some (mm_i 1))) M6) ∨ (e = 2 ∧ Q (.inr 2) M6))) (lz := [mm_r 0, mm_i l1, mm_i l2, mm_i l3, mm_u]) mv168 mc168_7 rfl rfl (lk_m8_68) mv167 rfl (by decide) rfl (mk_cokV rfl (⟨rfl, by decide⟩ : mt_kd[0]? = some (.inl 6) ∧ 0 < 99)) rfl ho ?_ (en_CI_mono h (fun x1 M2 h => ?_) (fun _ _ h => h))
  · intro e M6 h ho7
    rcases h ho7 with ⟨e1, h9⟩ | ⟨e1, h9⟩
    · subst e1
      replace h := h9
      refine Or.inr ⟨17, [mm_r 0, mm_i l1, mm_i l2, mm_i l3, mm_r 98, mm_u], by show mt_hd 168 7 1 ≠ none; decide +kernel, rfl, ?_⟩
      refine en_iconst mc168_17 ?_
      exact en_iret mv168 mc168_18 rfl h
    · subst e1
      replace h := h9
      exact Or.inl ⟨by show mt_hd 168 7 2 = none; decide +kernel, h⟩
  · intro ho3
    replace h := h ho3
    obtain ⟨g4, h⟩ := h
    obtain ⟨g5, h⟩ := h
    refine en_i2l mc168_10 g4 ?_
    refine en_last mc168_11 (⟨rfl, by decide, by decide⟩ : mt_kd[98]? = some (.inr (.long, 1)) ∧ 98 < 99 ∧ 1 < 2147483648) (by decide) (by decide) g5 ?_
    refine en_goto 19 mc168_12 (by decide) ?_
    refine en_iconst mc168_19 ?_
    exact en_iret mv168 mc168_20 rfl h
/-! 171: CellAreasLaw.take(LCellAreas;III[J)I -/
theorem mc171_0 : mr_C 171 0 = some (.aload 4, 2) := by decide +kernel
theorem mc171_2 : mr_C 171 2 = some (.iconst 0, 1) := by decide +kernel
theorem mc171_3 : mr_C 171 3 = some (.aload_n 0, 1) := by decide +kernel
theorem mc171_4 : mr_C 171 4 = some (.iload_n 1, 1) := by decide +kernel
theorem mc171_5 : mr_C 171 5 = some (.iload_n 2, 1) := by decide +kernel
theorem mc171_6 : mr_C 171 6 = some (.iload_n 3, 1) := by decide +kernel
theorem mc171_7 : mr_C 171 7 = some (.invokevirtual 71, 3) := by decide +kernel
theorem mc171_10 : mr_C 171 10 = some (.i2l, 1) := by decide +kernel
theorem mc171_11 : mr_C 171 11 = some (.lastore, 1) := by decide +kernel
theorem mc171_12 : mr_C 171 12 = some (.goto 11, 3) := by decide +kernel
theorem mc171_15 : mr_C 171 15 = some (.astore 5, 2) := by decide +kernel
theorem mc171_17 : mr_C 171 17 = some (.iconst 1, 1) := by decide +kernel
theorem mc171_18 : mr_C 171 18 = some (.ireturn, 1) := by decide +kernel
theorem mc171_19 : mr_C 171 19 = some (.astore 5, 2) := by decide +kernel
theorem mc171_21 : mr_C 171 21 = some (.iconst 2, 1) := by decide +kernel
theorem mc171_22 : mr_C 171 22 = some (.ireturn, 1) := by decide +kernel
theorem mc171_23 : mr_C 171 23 = some (.iconst 0, 1) := by decide +kernel
theorem mc171_24 : mr_C 171 24 = some (.ireturn, 1) := by decide +kernel
theorem vc171_0 {sc : Nat × (Int → Int)} {Q : mm_R → mm_M → Prop} {M : mm_M} {l1 : Int} {l2 : Int} {l3 : Int} (ho : mr_ok M)
    (h : en_CI sc 170 [mm_r 0, mm_i l1, mm_i l2, mm_i l3, mm_u, mm_u, mm_u, mm_u] M (fun x1 M2 => mr_ok M2 → mr_rg x1 ∧ (mr_rj x1 ∧ (Q (.inl (some (mm_i 0))) (mm_putN M2 98 0 x1)))) (fun e M6 => mr_ok M6 → (e = 1 ∧ Q (.inl (some (mm_i 1))) M6) ∨ (e = 2 ∧ Q (.inl (some (mm_i 2))) M6))) : en_R sc 171 0 [mm_r 0, mm_i l1, mm_i l2, mm_i l3, mm_r 98, mm_u] [] M Q := by
  refine en_aload mc171_0 rfl ?_
  refine en_iconst mc171_2 ?_
  refine en_aload_n mc171_3 rfl ?_
  refine en_iload_n mc171_4 rfl ?_
  refine en_iload_n mc171_5 rfl ?_
  refine en_iload_n mc171_6 rfl ?_
  refine en_callCI (X := (fun e M6 => mr_ok M6 → (e = 1 ∧ Q (.inl (some (mm_i 1))) M6) ∨ (e = 2 ∧ Q (.inl (some (mm_i 2))) M6))) (lz := [mm_r 0, mm_i l1, mm_i l2, mm_i l3, mm_u, mm_u, mm_u, mm_u]) mv171 mc171_7 rfl rfl (lk_m8_71) mv170 rfl (by decide) rfl (mk_cokV rfl (⟨rfl, by decide⟩ : mt_kd[0]? = some (.inl 6) ∧ 0 < 99)) rfl ho ?_ (en_CI_mono h (fun x1 M2 h => ?_) (fun _ _ h => h))
  · intro e M6 h ho7
    rcases h ho7 with ⟨e1, h9⟩ | ⟨e1, h9⟩
    · subst e1
      replace h := h9
      refine Or.inr ⟨17, [mm_r 0, mm_i l1, mm_i l2, mm_i l3, mm_r 98, mm_u], by show mt_hd 171 7 1 ≠ none; decide +kernel, rfl, ?_⟩
      refine en_iconst mc171_17 ?_
      exact en_iret mv171 mc171_18 rfl h
    · subst e1
      replace h := h9
      refine Or.inr ⟨21, [mm_r 0, mm_i l1, mm_i l2, mm_i l3, mm_r 98, mm_u], by show mt_hd 171 7 2 ≠ none; decide +kernel, rfl, ?_⟩
      refine en_iconst mc171_21 ?_
      exact en_iret mv171 mc171_22 rfl h
  · intro ho3
    replace h := h ho3
    obtain ⟨g4, h⟩ := h
    obtain ⟨g5, h⟩ := h
    refine en_i2l mc171_10 g4 ?_
    refine en_last mc171_11 (⟨rfl, by decide, by decide⟩ : mt_kd[98]? = some (.inr (.long, 1)) ∧ 98 < 99 ∧ 1 < 2147483648) (by decide) (by decide) g5 ?_
    refine en_goto 23 mc171_12 (by decide) ?_
    refine en_iconst mc171_23 ?_
    exact en_iret mv171 mc171_24 rfl h
/-! 179: CellAreasLaw.largest(LCellAreas;II[J)I -/
theorem mc179_0 : mr_C 179 0 = some (.aload_n 3, 1) := by decide +kernel
theorem mc179_1 : mr_C 179 1 = some (.iconst 0, 1) := by decide +kernel
theorem mc179_2 : mr_C 179 2 = some (.aload_n 0, 1) := by decide +kernel
theorem mc179_3 : mr_C 179 3 = some (.iload_n 1, 1) := by decide +kernel
theorem mc179_4 : mr_C 179 4 = some (.iload_n 2, 1) := by decide +kernel
theorem mc179_5 : mr_C 179 5 = some (.invokevirtual 74, 3) := by decide +kernel
theorem mc179_8 : mr_C 179 8 = some (.i2l, 1) := by decide +kernel
theorem mc179_9 : mr_C 179 9 = some (.lastore, 1) := by decide +kernel
theorem mc179_10 : mr_C 179 10 = some (.goto 7, 3) := by decide +kernel
theorem mc179_13 : mr_C 179 13 = some (.astore 4, 2) := by decide +kernel
theorem mc179_15 : mr_C 179 15 = some (.iconst 1, 1) := by decide +kernel
theorem mc179_16 : mr_C 179 16 = some (.ireturn, 1) := by decide +kernel
theorem mc179_17 : mr_C 179 17 = some (.iconst 0, 1) := by decide +kernel
theorem mc179_18 : mr_C 179 18 = some (.ireturn, 1) := by decide +kernel
theorem vc179_0 {sc : Nat × (Int → Int)} {Q : mm_R → mm_M → Prop} {M : mm_M} {l1 : Int} {l2 : Int} (ho : mr_ok M)
    (h : en_CI sc 178 [mm_r 0, mm_i l1, mm_i l2] M (fun x1 M2 => mr_ok M2 → mr_rg x1 ∧ (mr_rj x1 ∧ (Q (.inl (some (mm_i 0))) (mm_putN M2 98 0 x1)))) (fun e M6 => mr_ok M6 → (e = 1 ∧ Q (.inl (some (mm_i 1))) M6) ∨ (e = 2 ∧ Q (.inr 2) M6))) : en_R sc 179 0 [mm_r 0, mm_i l1, mm_i l2, mm_r 98, mm_u] [] M Q := by
  refine en_aload_n mc179_0 rfl ?_
  refine en_iconst mc179_1 ?_
  refine en_aload_n mc179_2 rfl ?_
  refine en_iload_n mc179_3 rfl ?_
  refine en_iload_n mc179_4 rfl ?_
  refine en_callCI (X := (fun e M6 => mr_ok M6 → (e = 1 ∧ Q (.inl (some (mm_i 1))) M6) ∨ (e = 2 ∧ Q (.inr 2) M6))) (lz := [mm_r 0, mm_i l1, mm_i l2]) mv179 mc179_5 rfl rfl (lk_m8_74) mv178 rfl (by decide) rfl (mk_cokV rfl (⟨rfl, by decide⟩ : mt_kd[0]? = some (.inl 6) ∧ 0 < 99)) rfl ho ?_ (en_CI_mono h (fun x1 M2 h => ?_) (fun _ _ h => h))
  · intro e M6 h ho7
    rcases h ho7 with ⟨e1, h9⟩ | ⟨e1, h9⟩
    · subst e1
      replace h := h9
      refine Or.inr ⟨15, [mm_r 0, mm_i l1, mm_i l2, mm_r 98, mm_u], by show mt_hd 179 5 1 ≠ none; decide +kernel, rfl, ?_⟩
      refine en_iconst mc179_15 ?_
      exact en_iret mv179 mc179_16 rfl h
    · subst e1
      replace h := h9
      exact Or.inl ⟨by show mt_hd 179 5 2 = none; decide +kernel, h⟩
  · intro ho3
    replace h := h ho3
    obtain ⟨g4, h⟩ := h
    obtain ⟨g5, h⟩ := h
    refine en_i2l mc179_8 g4 ?_
    refine en_last mc179_9 (⟨rfl, by decide, by decide⟩ : mt_kd[98]? = some (.inr (.long, 1)) ∧ 98 < 99 ∧ 1 < 2147483648) (by decide) (by decide) g5 ?_
    refine en_goto 17 mc179_10 (by decide) ?_
    refine en_iconst mc179_17 ?_
    exact en_iret mv179 mc179_18 rfl h
/-! 184: CellAreasLaw.within(LCellAreas;II[J)I -/
theorem mc184_0 : mr_C 184 0 = some (.aload_n 3, 1) := by decide +kernel
theorem mc184_1 : mr_C 184 1 = some (.iconst 0, 1) := by decide +kernel
theorem mc184_2 : mr_C 184 2 = some (.aload_n 0, 1) := by decide +kernel
theorem mc184_3 : mr_C 184 3 = some (.iload_n 1, 1) := by decide +kernel
theorem mc184_4 : mr_C 184 4 = some (.iload_n 2, 1) := by decide +kernel
theorem mc184_5 : mr_C 184 5 = some (.invokevirtual 77, 3) := by decide +kernel
theorem mc184_8 : mr_C 184 8 = some (.ifCond .eq (7), 3) := by decide +kernel
theorem mc184_11 : mr_C 184 11 = some (.lconst 1, 1) := by decide +kernel
theorem mc184_12 : mr_C 184 12 = some (.goto 4, 3) := by decide +kernel
theorem mc184_15 : mr_C 184 15 = some (.lconst 0, 1) := by decide +kernel
theorem mc184_16 : mr_C 184 16 = some (.lastore, 1) := by decide +kernel
theorem mc184_17 : mr_C 184 17 = some (.goto 7, 3) := by decide +kernel
theorem mc184_20 : mr_C 184 20 = some (.astore 4, 2) := by decide +kernel
theorem mc184_22 : mr_C 184 22 = some (.iconst 1, 1) := by decide +kernel
theorem mc184_23 : mr_C 184 23 = some (.ireturn, 1) := by decide +kernel
theorem mc184_24 : mr_C 184 24 = some (.iconst 0, 1) := by decide +kernel
theorem mc184_25 : mr_C 184 25 = some (.ireturn, 1) := by decide +kernel
theorem vc184_0 {sc : Nat × (Int → Int)} {Q : mm_R → mm_M → Prop} {M : mm_M} {l1 : Int} {l2 : Int} (ho : mr_ok M)
    (h : en_CI sc 183 [mm_r 0, mm_i l1, mm_i l2, mm_u, mm_u, mm_u] M (fun x1 M2 => mr_ok M2 → mr_rg x1 ∧ ((x1 = 0 → Q (.inl (some (mm_i 0))) (mm_putN M2 98 0 0)) ∧ (¬ x1 = 0 → Q (.inl (some (mm_i 0))) (mm_putN M2 98 0 1)))) (fun e M5 => mr_ok M5 → (e = 1 ∧ Q (.inl (some (mm_i 1))) M5) ∨ (e = 2 ∧ Q (.inr 2) M5))) : en_R sc 184 0 [mm_r 0, mm_i l1, mm_i l2, mm_r 98, mm_u] [] M Q := by
  refine en_aload_n mc184_0 rfl ?_
  refine en_iconst mc184_1 ?_
  refine en_aload_n mc184_2 rfl ?_
  refine en_iload_n mc184_3 rfl ?_
  refine en_iload_n mc184_4 rfl ?_
  refine en_callCI (X := (fun e M5 => mr_ok M5 → (e = 1 ∧ Q (.inl (some (mm_i 1))) M5) ∨ (e = 2 ∧ Q (.inr 2) M5))) (lz := [mm_r 0, mm_i l1, mm_i l2, mm_u, mm_u, mm_u]) mv184 mc184_5 rfl rfl (lk_m8_77) mv183 rfl (by decide) rfl (mk_cokV rfl (⟨rfl, by decide⟩ : mt_kd[0]? = some (.inl 6) ∧ 0 < 99)) rfl ho ?_ (en_CI_mono h (fun x1 M2 h => ?_) (fun _ _ h => h))
  · intro e M5 h ho6
    rcases h ho6 with ⟨e1, h9⟩ | ⟨e1, h9⟩
    · subst e1
      replace h := h9
      refine Or.inr ⟨22, [mm_r 0, mm_i l1, mm_i l2, mm_r 98, mm_u], by show mt_hd 184 5 1 ≠ none; decide +kernel, rfl, ?_⟩
      refine en_iconst mc184_22 ?_
      exact en_iret mv184 mc184_23 rfl h
    · subst e1
      replace h := h9
      exact Or.inl ⟨by show mt_hd 184 5 2 = none; decide +kernel, h⟩
  · intro ho3
    replace h := h ho3
    obtain ⟨g4, h⟩ := h
    refine en_if_eq 15 mc184_8 (by decide) g4 (fun q => ?_) (fun q => ?_)
    · replace h := h.1 q
      refine en_lconst mc184_15 ?_
      refine en_last mc184_16 (⟨rfl, by decide, by decide⟩ : mt_kd[98]? = some (.inr (.long, 1)) ∧ 98 < 99 ∧ 1 < 2147483648) (by decide) (by decide) (⟨by decide, by decide⟩ : mr_rj 0) ?_
      refine en_goto 24 mc184_17 (by decide) ?_
      refine en_iconst mc184_24 ?_
      exact en_iret mv184 mc184_25 rfl h
    · replace h := h.2 q
      refine en_lconst mc184_11 ?_
      refine en_goto 16 mc184_12 (by decide) ?_
      refine en_last mc184_16 (⟨rfl, by decide, by decide⟩ : mt_kd[98]? = some (.inr (.long, 1)) ∧ 98 < 99 ∧ 1 < 2147483648) (by decide) (by decide) (⟨by decide, by decide⟩ : mr_rj 1) ?_
      refine en_goto 24 mc184_17 (by decide) ?_
      refine en_iconst mc184_24 ?_
      exact en_iret mv184 mc184_25 rfl h
/-! 189: CellAreasLaw.distance(LCellAreas;II[J)I -/
theorem mc189_0 : mr_C 189 0 = some (.aload_n 3, 1) := by decide +kernel
theorem mc189_1 : mr_C 189 1 = some (.iconst 0, 1) := by decide +kernel
theorem mc189_2 : mr_C 189 2 = some (.aload_n 0, 1) := by decide +kernel
theorem mc189_3 : mr_C 189 3 = some (.iload_n 1, 1) := by decide +kernel
theorem mc189_4 : mr_C 189 4 = some (.iload_n 2, 1) := by decide +kernel
theorem mc189_5 : mr_C 189 5 = some (.invokevirtual 81, 3) := by decide +kernel
theorem mc189_8 : mr_C 189 8 = some (.i2l, 1) := by decide +kernel
theorem mc189_9 : mr_C 189 9 = some (.lastore, 1) := by decide +kernel
theorem mc189_10 : mr_C 189 10 = some (.goto 7, 3) := by decide +kernel
theorem mc189_13 : mr_C 189 13 = some (.astore 4, 2) := by decide +kernel
theorem mc189_15 : mr_C 189 15 = some (.iconst 1, 1) := by decide +kernel
theorem mc189_16 : mr_C 189 16 = some (.ireturn, 1) := by decide +kernel
theorem mc189_17 : mr_C 189 17 = some (.iconst 0, 1) := by decide +kernel
theorem mc189_18 : mr_C 189 18 = some (.ireturn, 1) := by decide +kernel
theorem vc189_0 {sc : Nat × (Int → Int)} {Q : mm_R → mm_M → Prop} {M : mm_M} {l1 : Int} {l2 : Int} (ho : mr_ok M)
    (h : en_CI sc 188 [mm_r 0, mm_i l1, mm_i l2, mm_u, mm_u, mm_u, mm_u, mm_u, mm_u] M (fun x1 M2 => mr_ok M2 → mr_rg x1 ∧ (mr_rj x1 ∧ (Q (.inl (some (mm_i 0))) (mm_putN M2 98 0 x1)))) (fun e M6 => mr_ok M6 → (e = 1 ∧ Q (.inl (some (mm_i 1))) M6) ∨ (e = 2 ∧ Q (.inr 2) M6))) : en_R sc 189 0 [mm_r 0, mm_i l1, mm_i l2, mm_r 98, mm_u] [] M Q := by
  refine en_aload_n mc189_0 rfl ?_
  refine en_iconst mc189_1 ?_
  refine en_aload_n mc189_2 rfl ?_
  refine en_iload_n mc189_3 rfl ?_
  refine en_iload_n mc189_4 rfl ?_
  refine en_callCI (X := (fun e M6 => mr_ok M6 → (e = 1 ∧ Q (.inl (some (mm_i 1))) M6) ∨ (e = 2 ∧ Q (.inr 2) M6))) (lz := [mm_r 0, mm_i l1, mm_i l2, mm_u, mm_u, mm_u, mm_u, mm_u, mm_u]) mv189 mc189_5 rfl rfl (lk_m8_81) mv188 rfl (by decide) rfl (mk_cokV rfl (⟨rfl, by decide⟩ : mt_kd[0]? = some (.inl 6) ∧ 0 < 99)) rfl ho ?_ (en_CI_mono h (fun x1 M2 h => ?_) (fun _ _ h => h))
  · intro e M6 h ho7
    rcases h ho7 with ⟨e1, h9⟩ | ⟨e1, h9⟩
    · subst e1
      replace h := h9
      refine Or.inr ⟨15, [mm_r 0, mm_i l1, mm_i l2, mm_r 98, mm_u], by show mt_hd 189 5 1 ≠ none; decide +kernel, rfl, ?_⟩
      refine en_iconst mc189_15 ?_
      exact en_iret mv189 mc189_16 rfl h
    · subst e1
      replace h := h9
      exact Or.inl ⟨by show mt_hd 189 5 2 = none; decide +kernel, h⟩
  · intro ho3
    replace h := h ho3
    obtain ⟨g4, h⟩ := h
    obtain ⟨g5, h⟩ := h
    refine en_i2l mc189_8 g4 ?_
    refine en_last mc189_9 (⟨rfl, by decide, by decide⟩ : mt_kd[98]? = some (.inr (.long, 1)) ∧ 98 < 99 ∧ 1 < 2147483648) (by decide) (by decide) g5 ?_
    refine en_goto 17 mc189_10 (by decide) ?_
    refine en_iconst mc189_17 ?_
    exact en_iret mv189 mc189_18 rfl h
/-! 197: CellAreasLaw.check(LCellAreas;I[J)I -/
theorem mc197_0 : mr_C 197 0 = some (.aload_n 2, 1) := by decide +kernel
theorem mc197_1 : mr_C 197 1 = some (.iconst 0, 1) := by decide +kernel
theorem mc197_2 : mr_C 197 2 = some (.aload_n 0, 1) := by decide +kernel
theorem mc197_3 : mr_C 197 3 = some (.iload_n 1, 1) := by decide +kernel
theorem mc197_4 : mr_C 197 4 = some (.invokevirtual 84, 3) := by decide +kernel
theorem mc197_7 : mr_C 197 7 = some (.i2l, 1) := by decide +kernel
theorem mc197_8 : mr_C 197 8 = some (.lastore, 1) := by decide +kernel
theorem mc197_9 : mr_C 197 9 = some (.goto 6, 3) := by decide +kernel
theorem mc197_12 : mr_C 197 12 = some (.astore_n 3, 1) := by decide +kernel
theorem mc197_13 : mr_C 197 13 = some (.iconst 1, 1) := by decide +kernel
theorem mc197_14 : mr_C 197 14 = some (.ireturn, 1) := by decide +kernel
theorem mc197_15 : mr_C 197 15 = some (.iconst 0, 1) := by decide +kernel
theorem mc197_16 : mr_C 197 16 = some (.ireturn, 1) := by decide +kernel
theorem vc197_0 {sc : Nat × (Int → Int)} {Q : mm_R → mm_M → Prop} {M : mm_M} {l1 : Int} (ho : mr_ok M)
    (h : en_CI sc 196 [mm_r 0, mm_i l1, mm_u, mm_u, mm_u] M (fun x1 M2 => mr_ok M2 → mr_rg x1 ∧ (mr_rj x1 ∧ (Q (.inl (some (mm_i 0))) (mm_putN M2 98 0 x1)))) (fun e M6 => mr_ok M6 → (e = 1 ∧ Q (.inl (some (mm_i 1))) M6) ∨ (e = 2 ∧ Q (.inr 2) M6))) : en_R sc 197 0 [mm_r 0, mm_i l1, mm_r 98, mm_u] [] M Q := by
  refine en_aload_n mc197_0 rfl ?_
  refine en_iconst mc197_1 ?_
  refine en_aload_n mc197_2 rfl ?_
  refine en_iload_n mc197_3 rfl ?_
  refine en_callCI (X := (fun e M6 => mr_ok M6 → (e = 1 ∧ Q (.inl (some (mm_i 1))) M6) ∨ (e = 2 ∧ Q (.inr 2) M6))) (lz := [mm_r 0, mm_i l1, mm_u, mm_u, mm_u]) mv197 mc197_4 rfl rfl (lk_m8_84) mv196 rfl (by decide) rfl (mk_cokV rfl (⟨rfl, by decide⟩ : mt_kd[0]? = some (.inl 6) ∧ 0 < 99)) rfl ho ?_ (en_CI_mono h (fun x1 M2 h => ?_) (fun _ _ h => h))
  · intro e M6 h ho7
    rcases h ho7 with ⟨e1, h9⟩ | ⟨e1, h9⟩
    · subst e1
      replace h := h9
      refine Or.inr ⟨13, [mm_r 0, mm_i l1, mm_r 98, mm_u], by show mt_hd 197 4 1 ≠ none; decide +kernel, rfl, ?_⟩
      refine en_iconst mc197_13 ?_
      exact en_iret mv197 mc197_14 rfl h
    · subst e1
      replace h := h9
      exact Or.inl ⟨by show mt_hd 197 4 2 = none; decide +kernel, h⟩
  · intro ho3
    replace h := h ho3
    obtain ⟨g4, h⟩ := h
    obtain ⟨g5, h⟩ := h
    refine en_i2l mc197_7 g4 ?_
    refine en_last mc197_8 (⟨rfl, by decide, by decide⟩ : mt_kd[98]? = some (.inr (.long, 1)) ∧ 98 < 99 ∧ 1 < 2147483648) (by decide) (by decide) g5 ?_
    refine en_goto 15 mc197_9 (by decide) ?_
    refine en_iconst mc197_15 ?_
    exact en_iret mv197 mc197_16 rfl h
/-! 199: CellAreasLaw.law([I)Z -/
theorem mc199_0 : mr_C 199 0 = some (.new 8, 3) := by decide +kernel
theorem mc199_3 : mr_C 199 3 = some (.dup, 1) := by decide +kernel
theorem mc199_4 : mr_C 199 4 = some (.invokespecial 87, 3) := by decide +kernel
theorem mc199_7 : mr_C 199 7 = some (.astore_n 1, 1) := by decide +kernel
theorem mc199_8 : mr_C 199 8 = some (.new 88, 3) := by decide +kernel
theorem mc199_11 : mr_C 199 11 = some (.dup, 1) := by decide +kernel
theorem mc199_12 : mr_C 199 12 = some (.invokespecial 90, 3) := by decide +kernel
theorem mc199_15 : mr_C 199 15 = some (.astore_n 2, 1) := by decide +kernel
theorem mc199_16 : mr_C 199 16 = some (.iconst 1, 1) := by decide +kernel
theorem mc199_17 : mr_C 199 17 = some (.newarray .long, 2) := by decide +kernel
theorem mc199_19 : mr_C 199 19 = some (.astore_n 3, 1) := by decide +kernel
theorem mc199_20 : mr_C 199 20 = some (.iconst 0, 1) := by decide +kernel
theorem mc199_21 : mr_C 199 21 = some (.istore 4, 2) := by decide +kernel
theorem mc199_23 : mr_C 199 23 = some (.iload 4, 2) := by decide +kernel
theorem mc199_25 : mr_C 199 25 = some (.aload_n 0, 1) := by decide +kernel
theorem mc199_26 : mr_C 199 26 = some (.arraylength, 1) := by decide +kernel
theorem mc199_27 : mr_C 199 27 = some (.bipush 7, 2) := by decide +kernel
theorem mc199_29 : mr_C 199 29 = some (.isub, 1) := by decide +kernel
theorem mc199_30 : mr_C 199 30 = some (.if_icmp .gt (1890), 3) := by decide +kernel
theorem mc199_33 : mr_C 199 33 = some (.aload_n 0, 1) := by decide +kernel
theorem mc199_34 : mr_C 199 34 = some (.iload 4, 2) := by decide +kernel
theorem mc199_36 : mr_C 199 36 = some (.iaload, 1) := by decide +kernel
theorem mc199_37 : mr_C 199 37 = some (.bipush 31, 2) := by decide +kernel
theorem mc199_39 : mr_C 199 39 = some (.iand, 1) := by decide +kernel
theorem mc199_40 : mr_C 199 40 = some (.tableswitch (1874) (0) (21) #[104, 188, 244, 336, 404, 496, 576, 694, 812, 868, 948, 1040, 1127, 1195, 1275, 1367, 1447, 1527, 1607, 1675, 1750, 1818], 104) := by decide +kernel
theorem mc199_144 : mr_C 199 144 = some (.aload_n 1, 1) := by decide +kernel
theorem mc199_145 : mr_C 199 145 = some (.aload_n 0, 1) := by decide +kernel
theorem mc199_146 : mr_C 199 146 = some (.iload 4, 2) := by decide +kernel
theorem mc199_148 : mr_C 199 148 = some (.iconst 1, 1) := by decide +kernel
theorem mc199_149 : mr_C 199 149 = some (.iadd, 1) := by decide +kernel
theorem mc199_150 : mr_C 199 150 = some (.iaload, 1) := by decide +kernel
theorem mc199_151 : mr_C 199 151 = some (.aload_n 0, 1) := by decide +kernel
theorem mc199_152 : mr_C 199 152 = some (.iload 4, 2) := by decide +kernel
theorem mc199_154 : mr_C 199 154 = some (.iconst 2, 1) := by decide +kernel
theorem mc199_155 : mr_C 199 155 = some (.iadd, 1) := by decide +kernel
theorem mc199_156 : mr_C 199 156 = some (.iaload, 1) := by decide +kernel
theorem mc199_157 : mr_C 199 157 = some (.aload_n 0, 1) := by decide +kernel
theorem mc199_158 : mr_C 199 158 = some (.iload 4, 2) := by decide +kernel
theorem mc199_160 : mr_C 199 160 = some (.iconst 3, 1) := by decide +kernel
theorem mc199_161 : mr_C 199 161 = some (.iadd, 1) := by decide +kernel
theorem mc199_162 : mr_C 199 162 = some (.iaload, 1) := by decide +kernel
theorem mc199_163 : mr_C 199 163 = some (.aload_n 0, 1) := by decide +kernel
theorem mc199_164 : mr_C 199 164 = some (.iload 4, 2) := by decide +kernel
theorem mc199_166 : mr_C 199 166 = some (.iconst 4, 1) := by decide +kernel
theorem mc199_167 : mr_C 199 167 = some (.iadd, 1) := by decide +kernel
theorem mc199_168 : mr_C 199 168 = some (.iaload, 1) := by decide +kernel
theorem mc199_169 : mr_C 199 169 = some (.aload_n 0, 1) := by decide +kernel
theorem mc199_170 : mr_C 199 170 = some (.iload 4, 2) := by decide +kernel
theorem mc199_172 : mr_C 199 172 = some (.iconst 5, 1) := by decide +kernel
theorem mc199_173 : mr_C 199 173 = some (.iadd, 1) := by decide +kernel
theorem mc199_174 : mr_C 199 174 = some (.iaload, 1) := by decide +kernel
theorem mc199_175 : mr_C 199 175 = some (.invokestatic 91, 3) := by decide +kernel
theorem mc199_178 : mr_C 199 178 = some (.istore 5, 2) := by decide +kernel
theorem mc199_180 : mr_C 199 180 = some (.aload_n 2, 1) := by decide +kernel
theorem mc199_181 : mr_C 199 181 = some (.aload_n 0, 1) := by decide +kernel
theorem mc199_182 : mr_C 199 182 = some (.iload 4, 2) := by decide +kernel
theorem mc199_184 : mr_C 199 184 = some (.iconst 1, 1) := by decide +kernel
theorem mc199_185 : mr_C 199 185 = some (.iadd, 1) := by decide +kernel
theorem mc199_186 : mr_C 199 186 = some (.iaload, 1) := by decide +kernel
theorem mc199_187 : mr_C 199 187 = some (.aload_n 0, 1) := by decide +kernel
theorem mc199_188 : mr_C 199 188 = some (.iload 4, 2) := by decide +kernel
theorem mc199_190 : mr_C 199 190 = some (.iconst 2, 1) := by decide +kernel
theorem mc199_191 : mr_C 199 191 = some (.iadd, 1) := by decide +kernel
theorem mc199_192 : mr_C 199 192 = some (.iaload, 1) := by decide +kernel
theorem mc199_193 : mr_C 199 193 = some (.aload_n 0, 1) := by decide +kernel
theorem mc199_194 : mr_C 199 194 = some (.iload 4, 2) := by decide +kernel
theorem mc199_196 : mr_C 199 196 = some (.iconst 3, 1) := by decide +kernel
theorem mc199_197 : mr_C 199 197 = some (.iadd, 1) := by decide +kernel
theorem mc199_198 : mr_C 199 198 = some (.iaload, 1) := by decide +kernel
theorem mc199_199 : mr_C 199 199 = some (.aload_n 0, 1) := by decide +kernel
theorem mc199_200 : mr_C 199 200 = some (.iload 4, 2) := by decide +kernel
theorem mc199_202 : mr_C 199 202 = some (.iconst 4, 1) := by decide +kernel
theorem mc199_203 : mr_C 199 203 = some (.iadd, 1) := by decide +kernel
theorem mc199_204 : mr_C 199 204 = some (.iaload, 1) := by decide +kernel
theorem mc199_205 : mr_C 199 205 = some (.aload_n 0, 1) := by decide +kernel
theorem mc199_206 : mr_C 199 206 = some (.iload 4, 2) := by decide +kernel
theorem mc199_208 : mr_C 199 208 = some (.iconst 5, 1) := by decide +kernel
theorem mc199_209 : mr_C 199 209 = some (.iadd, 1) := by decide +kernel
theorem mc199_210 : mr_C 199 210 = some (.iaload, 1) := by decide +kernel
theorem mc199_211 : mr_C 199 211 = some (.invokevirtual 96, 3) := by decide +kernel
theorem mc199_214 : mr_C 199 214 = some (.aload_n 2, 1) := by decide +kernel
theorem mc199_215 : mr_C 199 215 = some (.invokevirtual 97, 3) := by decide +kernel
theorem mc199_218 : mr_C 199 218 = some (.iload 5, 2) := by decide +kernel
theorem mc199_220 : mr_C 199 220 = some (.if_icmp .eq (5), 3) := by decide +kernel
theorem mc199_223 : mr_C 199 223 = some (.iconst 0, 1) := by decide +kernel
theorem mc199_224 : mr_C 199 224 = some (.ireturn, 1) := by decide +kernel
theorem mc199_225 : mr_C 199 225 = some (.goto 1689, 3) := by decide +kernel
theorem mc199_228 : mr_C 199 228 = some (.aload_n 1, 1) := by decide +kernel
theorem mc199_229 : mr_C 199 229 = some (.aload_n 0, 1) := by decide +kernel
theorem mc199_230 : mr_C 199 230 = some (.iload 4, 2) := by decide +kernel
theorem mc199_232 : mr_C 199 232 = some (.iconst 1, 1) := by decide +kernel
theorem mc199_233 : mr_C 199 233 = some (.iadd, 1) := by decide +kernel
theorem mc199_234 : mr_C 199 234 = some (.iaload, 1) := by decide +kernel
theorem mc199_235 : mr_C 199 235 = some (.aload_n 3, 1) := by decide +kernel
theorem mc199_236 : mr_C 199 236 = some (.invokestatic 101, 3) := by decide +kernel
theorem mc199_239 : mr_C 199 239 = some (.istore 5, 2) := by decide +kernel
theorem mc199_241 : mr_C 199 241 = some (.aload_n 2, 1) := by decide +kernel
theorem mc199_242 : mr_C 199 242 = some (.aload_n 0, 1) := by decide +kernel
theorem mc199_243 : mr_C 199 243 = some (.iload 4, 2) := by decide +kernel
theorem mc199_245 : mr_C 199 245 = some (.iconst 1, 1) := by decide +kernel
theorem mc199_246 : mr_C 199 246 = some (.iadd, 1) := by decide +kernel
theorem mc199_247 : mr_C 199 247 = some (.iaload, 1) := by decide +kernel
theorem mc199_248 : mr_C 199 248 = some (.invokevirtual 104, 3) := by decide +kernel
theorem mc199_251 : mr_C 199 251 = some (.istore 6, 2) := by decide +kernel
theorem mc199_253 : mr_C 199 253 = some (.aload_n 2, 1) := by decide +kernel
theorem mc199_254 : mr_C 199 254 = some (.invokevirtual 97, 3) := by decide +kernel
theorem mc199_257 : mr_C 199 257 = some (.iload 5, 2) := by decide +kernel
theorem mc199_259 : mr_C 199 259 = some (.if_icmp .eq (5), 3) := by decide +kernel
theorem mc199_262 : mr_C 199 262 = some (.iconst 0, 1) := by decide +kernel
theorem mc199_263 : mr_C 199 263 = some (.ireturn, 1) := by decide +kernel
theorem mc199_264 : mr_C 199 264 = some (.iload 5, 2) := by decide +kernel
theorem mc199_266 : mr_C 199 266 = some (.ifCond .ne (15), 3) := by decide +kernel
theorem mc199_269 : mr_C 199 269 = some (.aload_n 3, 1) := by decide +kernel
theorem mc199_270 : mr_C 199 270 = some (.iconst 0, 1) := by decide +kernel
theorem mc199_271 : mr_C 199 271 = some (.laload, 1) := by decide +kernel
theorem mc199_272 : mr_C 199 272 = some (.iload 6, 2) := by decide +kernel
theorem mc199_274 : mr_C 199 274 = some (.i2l, 1) := by decide +kernel
theorem mc199_275 : mr_C 199 275 = some (.lcmp, 1) := by decide +kernel
theorem mc199_276 : mr_C 199 276 = some (.ifCond .eq (5), 3) := by decide +kernel
theorem mc199_279 : mr_C 199 279 = some (.iconst 0, 1) := by decide +kernel
theorem mc199_280 : mr_C 199 280 = some (.ireturn, 1) := by decide +kernel
theorem mc199_281 : mr_C 199 281 = some (.goto 1633, 3) := by decide +kernel
theorem mc199_284 : mr_C 199 284 = some (.aload_n 1, 1) := by decide +kernel
theorem mc199_285 : mr_C 199 285 = some (.aload_n 0, 1) := by decide +kernel
theorem mc199_286 : mr_C 199 286 = some (.iload 4, 2) := by decide +kernel
theorem mc199_288 : mr_C 199 288 = some (.iconst 1, 1) := by decide +kernel
theorem mc199_289 : mr_C 199 289 = some (.iadd, 1) := by decide +kernel
theorem mc199_290 : mr_C 199 290 = some (.iaload, 1) := by decide +kernel
theorem mc199_291 : mr_C 199 291 = some (.aload_n 0, 1) := by decide +kernel
theorem mc199_292 : mr_C 199 292 = some (.iload 4, 2) := by decide +kernel
theorem mc199_294 : mr_C 199 294 = some (.iconst 2, 1) := by decide +kernel
theorem mc199_295 : mr_C 199 295 = some (.iadd, 1) := by decide +kernel
theorem mc199_296 : mr_C 199 296 = some (.iaload, 1) := by decide +kernel
theorem mc199_297 : mr_C 199 297 = some (.aload_n 0, 1) := by decide +kernel
theorem mc199_298 : mr_C 199 298 = some (.iload 4, 2) := by decide +kernel
theorem mc199_300 : mr_C 199 300 = some (.iconst 3, 1) := by decide +kernel
theorem mc199_301 : mr_C 199 301 = some (.iadd, 1) := by decide +kernel
theorem mc199_302 : mr_C 199 302 = some (.iaload, 1) := by decide +kernel
theorem mc199_303 : mr_C 199 303 = some (.aload_n 0, 1) := by decide +kernel
theorem mc199_304 : mr_C 199 304 = some (.iload 4, 2) := by decide +kernel
theorem mc199_306 : mr_C 199 306 = some (.iconst 4, 1) := by decide +kernel
theorem mc199_307 : mr_C 199 307 = some (.iadd, 1) := by decide +kernel
theorem mc199_308 : mr_C 199 308 = some (.iaload, 1) := by decide +kernel
theorem mc199_309 : mr_C 199 309 = some (.aload_n 3, 1) := by decide +kernel
theorem mc199_310 : mr_C 199 310 = some (.invokestatic 105, 3) := by decide +kernel
theorem mc199_313 : mr_C 199 313 = some (.istore 5, 2) := by decide +kernel
theorem mc199_315 : mr_C 199 315 = some (.aload_n 2, 1) := by decide +kernel
theorem mc199_316 : mr_C 199 316 = some (.aload_n 0, 1) := by decide +kernel
theorem mc199_317 : mr_C 199 317 = some (.iload 4, 2) := by decide +kernel
theorem mc199_319 : mr_C 199 319 = some (.iconst 1, 1) := by decide +kernel
theorem mc199_320 : mr_C 199 320 = some (.iadd, 1) := by decide +kernel
theorem mc199_321 : mr_C 199 321 = some (.iaload, 1) := by decide +kernel
theorem mc199_322 : mr_C 199 322 = some (.aload_n 0, 1) := by decide +kernel
theorem mc199_323 : mr_C 199 323 = some (.iload 4, 2) := by decide +kernel
theorem mc199_325 : mr_C 199 325 = some (.iconst 2, 1) := by decide +kernel
theorem mc199_326 : mr_C 199 326 = some (.iadd, 1) := by decide +kernel
theorem mc199_327 : mr_C 199 327 = some (.iaload, 1) := by decide +kernel
theorem mc199_328 : mr_C 199 328 = some (.aload_n 0, 1) := by decide +kernel
theorem mc199_329 : mr_C 199 329 = some (.iload 4, 2) := by decide +kernel
theorem mc199_331 : mr_C 199 331 = some (.iconst 3, 1) := by decide +kernel
theorem mc199_332 : mr_C 199 332 = some (.iadd, 1) := by decide +kernel
theorem mc199_333 : mr_C 199 333 = some (.iaload, 1) := by decide +kernel
theorem mc199_334 : mr_C 199 334 = some (.aload_n 0, 1) := by decide +kernel
theorem mc199_335 : mr_C 199 335 = some (.iload 4, 2) := by decide +kernel
theorem mc199_337 : mr_C 199 337 = some (.iconst 4, 1) := by decide +kernel
theorem mc199_338 : mr_C 199 338 = some (.iadd, 1) := by decide +kernel
theorem mc199_339 : mr_C 199 339 = some (.iaload, 1) := by decide +kernel
theorem mc199_340 : mr_C 199 340 = some (.invokevirtual 108, 3) := by decide +kernel
theorem mc199_343 : mr_C 199 343 = some (.istore 6, 2) := by decide +kernel
theorem mc199_345 : mr_C 199 345 = some (.aload_n 2, 1) := by decide +kernel
theorem mc199_346 : mr_C 199 346 = some (.invokevirtual 97, 3) := by decide +kernel
theorem mc199_349 : mr_C 199 349 = some (.iload 5, 2) := by decide +kernel
theorem mc199_351 : mr_C 199 351 = some (.if_icmp .eq (5), 3) := by decide +kernel
theorem mc199_354 : mr_C 199 354 = some (.iconst 0, 1) := by decide +kernel
theorem mc199_355 : mr_C 199 355 = some (.ireturn, 1) := by decide +kernel
theorem mc199_356 : mr_C 199 356 = some (.iload 5, 2) := by decide +kernel
theorem mc199_358 : mr_C 199 358 = some (.ifCond .ne (15), 3) := by decide +kernel
theorem mc199_361 : mr_C 199 361 = some (.aload_n 3, 1) := by decide +kernel
theorem mc199_362 : mr_C 199 362 = some (.iconst 0, 1) := by decide +kernel
theorem mc199_363 : mr_C 199 363 = some (.laload, 1) := by decide +kernel
theorem mc199_364 : mr_C 199 364 = some (.iload 6, 2) := by decide +kernel
theorem mc199_366 : mr_C 199 366 = some (.i2l, 1) := by decide +kernel
theorem mc199_367 : mr_C 199 367 = some (.lcmp, 1) := by decide +kernel
theorem mc199_368 : mr_C 199 368 = some (.ifCond .eq (5), 3) := by decide +kernel
theorem mc199_371 : mr_C 199 371 = some (.iconst 0, 1) := by decide +kernel
theorem mc199_372 : mr_C 199 372 = some (.ireturn, 1) := by decide +kernel
theorem mc199_373 : mr_C 199 373 = some (.goto 1541, 3) := by decide +kernel
theorem mc199_376 : mr_C 199 376 = some (.aload_n 1, 1) := by decide +kernel
theorem mc199_377 : mr_C 199 377 = some (.aload_n 0, 1) := by decide +kernel
theorem mc199_378 : mr_C 199 378 = some (.iload 4, 2) := by decide +kernel
theorem mc199_380 : mr_C 199 380 = some (.iconst 1, 1) := by decide +kernel
theorem mc199_381 : mr_C 199 381 = some (.iadd, 1) := by decide +kernel
theorem mc199_382 : mr_C 199 382 = some (.iaload, 1) := by decide +kernel
theorem mc199_383 : mr_C 199 383 = some (.aload_n 0, 1) := by decide +kernel
theorem mc199_384 : mr_C 199 384 = some (.iload 4, 2) := by decide +kernel
theorem mc199_386 : mr_C 199 386 = some (.iconst 2, 1) := by decide +kernel
theorem mc199_387 : mr_C 199 387 = some (.iadd, 1) := by decide +kernel
theorem mc199_388 : mr_C 199 388 = some (.iaload, 1) := by decide +kernel
theorem mc199_389 : mr_C 199 389 = some (.aload_n 3, 1) := by decide +kernel
theorem mc199_390 : mr_C 199 390 = some (.invokestatic 109, 3) := by decide +kernel
theorem mc199_393 : mr_C 199 393 = some (.istore 5, 2) := by decide +kernel
theorem mc199_395 : mr_C 199 395 = some (.aload_n 2, 1) := by decide +kernel
theorem mc199_396 : mr_C 199 396 = some (.aload_n 0, 1) := by decide +kernel
theorem mc199_397 : mr_C 199 397 = some (.iload 4, 2) := by decide +kernel
theorem mc199_399 : mr_C 199 399 = some (.iconst 1, 1) := by decide +kernel
theorem mc199_400 : mr_C 199 400 = some (.iadd, 1) := by decide +kernel
theorem mc199_401 : mr_C 199 401 = some (.iaload, 1) := by decide +kernel
theorem mc199_402 : mr_C 199 402 = some (.aload_n 0, 1) := by decide +kernel
theorem mc199_403 : mr_C 199 403 = some (.iload 4, 2) := by decide +kernel
theorem mc199_405 : mr_C 199 405 = some (.iconst 2, 1) := by decide +kernel
theorem mc199_406 : mr_C 199 406 = some (.iadd, 1) := by decide +kernel
theorem mc199_407 : mr_C 199 407 = some (.iaload, 1) := by decide +kernel
theorem mc199_408 : mr_C 199 408 = some (.invokevirtual 112, 3) := by decide +kernel
theorem mc199_411 : mr_C 199 411 = some (.istore 6, 2) := by decide +kernel
theorem mc199_413 : mr_C 199 413 = some (.aload_n 2, 1) := by decide +kernel
theorem mc199_414 : mr_C 199 414 = some (.invokevirtual 97, 3) := by decide +kernel
theorem mc199_417 : mr_C 199 417 = some (.iload 5, 2) := by decide +kernel
theorem mc199_419 : mr_C 199 419 = some (.if_icmp .eq (5), 3) := by decide +kernel
theorem mc199_422 : mr_C 199 422 = some (.iconst 0, 1) := by decide +kernel
theorem mc199_423 : mr_C 199 423 = some (.ireturn, 1) := by decide +kernel
theorem mc199_424 : mr_C 199 424 = some (.iload 5, 2) := by decide +kernel
theorem mc199_426 : mr_C 199 426 = some (.ifCond .ne (15), 3) := by decide +kernel
theorem mc199_429 : mr_C 199 429 = some (.aload_n 3, 1) := by decide +kernel
theorem mc199_430 : mr_C 199 430 = some (.iconst 0, 1) := by decide +kernel
theorem mc199_431 : mr_C 199 431 = some (.laload, 1) := by decide +kernel
theorem mc199_432 : mr_C 199 432 = some (.iload 6, 2) := by decide +kernel
theorem mc199_434 : mr_C 199 434 = some (.i2l, 1) := by decide +kernel
theorem mc199_435 : mr_C 199 435 = some (.lcmp, 1) := by decide +kernel
theorem mc199_436 : mr_C 199 436 = some (.ifCond .eq (5), 3) := by decide +kernel
theorem mc199_439 : mr_C 199 439 = some (.iconst 0, 1) := by decide +kernel
theorem mc199_440 : mr_C 199 440 = some (.ireturn, 1) := by decide +kernel
theorem mc199_441 : mr_C 199 441 = some (.goto 1473, 3) := by decide +kernel
theorem mc199_444 : mr_C 199 444 = some (.aload_n 1, 1) := by decide +kernel
theorem mc199_445 : mr_C 199 445 = some (.aload_n 0, 1) := by decide +kernel
theorem mc199_446 : mr_C 199 446 = some (.iload 4, 2) := by decide +kernel
theorem mc199_448 : mr_C 199 448 = some (.iconst 1, 1) := by decide +kernel
theorem mc199_449 : mr_C 199 449 = some (.iadd, 1) := by decide +kernel
theorem mc199_450 : mr_C 199 450 = some (.iaload, 1) := by decide +kernel
theorem mc199_451 : mr_C 199 451 = some (.aload_n 0, 1) := by decide +kernel
theorem mc199_452 : mr_C 199 452 = some (.iload 4, 2) := by decide +kernel
theorem mc199_454 : mr_C 199 454 = some (.iconst 2, 1) := by decide +kernel
theorem mc199_455 : mr_C 199 455 = some (.iadd, 1) := by decide +kernel
theorem mc199_456 : mr_C 199 456 = some (.iaload, 1) := by decide +kernel
theorem mc199_457 : mr_C 199 457 = some (.aload_n 0, 1) := by decide +kernel
theorem mc199_458 : mr_C 199 458 = some (.iload 4, 2) := by decide +kernel
theorem mc199_460 : mr_C 199 460 = some (.iconst 3, 1) := by decide +kernel
theorem mc199_461 : mr_C 199 461 = some (.iadd, 1) := by decide +kernel
theorem mc199_462 : mr_C 199 462 = some (.iaload, 1) := by decide +kernel
theorem mc199_463 : mr_C 199 463 = some (.aload_n 0, 1) := by decide +kernel
theorem mc199_464 : mr_C 199 464 = some (.iload 4, 2) := by decide +kernel
theorem mc199_466 : mr_C 199 466 = some (.iconst 4, 1) := by decide +kernel
theorem mc199_467 : mr_C 199 467 = some (.iadd, 1) := by decide +kernel
theorem mc199_468 : mr_C 199 468 = some (.iaload, 1) := by decide +kernel
theorem mc199_469 : mr_C 199 469 = some (.aload_n 3, 1) := by decide +kernel
theorem mc199_470 : mr_C 199 470 = some (.invokestatic 113, 3) := by decide +kernel
theorem mc199_473 : mr_C 199 473 = some (.istore 5, 2) := by decide +kernel
theorem mc199_475 : mr_C 199 475 = some (.aload_n 2, 1) := by decide +kernel
theorem mc199_476 : mr_C 199 476 = some (.aload_n 0, 1) := by decide +kernel
theorem mc199_477 : mr_C 199 477 = some (.iload 4, 2) := by decide +kernel
theorem mc199_479 : mr_C 199 479 = some (.iconst 1, 1) := by decide +kernel
theorem mc199_480 : mr_C 199 480 = some (.iadd, 1) := by decide +kernel
theorem mc199_481 : mr_C 199 481 = some (.iaload, 1) := by decide +kernel
theorem mc199_482 : mr_C 199 482 = some (.aload_n 0, 1) := by decide +kernel
theorem mc199_483 : mr_C 199 483 = some (.iload 4, 2) := by decide +kernel
theorem mc199_485 : mr_C 199 485 = some (.iconst 2, 1) := by decide +kernel
theorem mc199_486 : mr_C 199 486 = some (.iadd, 1) := by decide +kernel
theorem mc199_487 : mr_C 199 487 = some (.iaload, 1) := by decide +kernel
theorem mc199_488 : mr_C 199 488 = some (.aload_n 0, 1) := by decide +kernel
theorem mc199_489 : mr_C 199 489 = some (.iload 4, 2) := by decide +kernel
theorem mc199_491 : mr_C 199 491 = some (.iconst 3, 1) := by decide +kernel
theorem mc199_492 : mr_C 199 492 = some (.iadd, 1) := by decide +kernel
theorem mc199_493 : mr_C 199 493 = some (.iaload, 1) := by decide +kernel
theorem mc199_494 : mr_C 199 494 = some (.aload_n 0, 1) := by decide +kernel
theorem mc199_495 : mr_C 199 495 = some (.iload 4, 2) := by decide +kernel
theorem mc199_497 : mr_C 199 497 = some (.iconst 4, 1) := by decide +kernel
theorem mc199_498 : mr_C 199 498 = some (.iadd, 1) := by decide +kernel
theorem mc199_499 : mr_C 199 499 = some (.iaload, 1) := by decide +kernel
theorem mc199_500 : mr_C 199 500 = some (.invokevirtual 115, 3) := by decide +kernel
theorem mc199_503 : mr_C 199 503 = some (.istore 6, 2) := by decide +kernel
theorem mc199_505 : mr_C 199 505 = some (.aload_n 2, 1) := by decide +kernel
theorem mc199_506 : mr_C 199 506 = some (.invokevirtual 97, 3) := by decide +kernel
theorem mc199_509 : mr_C 199 509 = some (.iload 5, 2) := by decide +kernel
theorem mc199_511 : mr_C 199 511 = some (.if_icmp .eq (5), 3) := by decide +kernel
theorem mc199_514 : mr_C 199 514 = some (.iconst 0, 1) := by decide +kernel
theorem mc199_515 : mr_C 199 515 = some (.ireturn, 1) := by decide +kernel
theorem mc199_516 : mr_C 199 516 = some (.iload 5, 2) := by decide +kernel
theorem mc199_518 : mr_C 199 518 = some (.ifCond .ne (15), 3) := by decide +kernel
theorem mc199_521 : mr_C 199 521 = some (.aload_n 3, 1) := by decide +kernel
theorem mc199_522 : mr_C 199 522 = some (.iconst 0, 1) := by decide +kernel
theorem mc199_523 : mr_C 199 523 = some (.laload, 1) := by decide +kernel
theorem mc199_524 : mr_C 199 524 = some (.iload 6, 2) := by decide +kernel
theorem mc199_526 : mr_C 199 526 = some (.i2l, 1) := by decide +kernel
theorem mc199_527 : mr_C 199 527 = some (.lcmp, 1) := by decide +kernel
theorem mc199_528 : mr_C 199 528 = some (.ifCond .eq (5), 3) := by decide +kernel
theorem mc199_531 : mr_C 199 531 = some (.iconst 0, 1) := by decide +kernel
theorem mc199_532 : mr_C 199 532 = some (.ireturn, 1) := by decide +kernel
theorem mc199_533 : mr_C 199 533 = some (.goto 1381, 3) := by decide +kernel
theorem mc199_536 : mr_C 199 536 = some (.aload_n 1, 1) := by decide +kernel
theorem mc199_537 : mr_C 199 537 = some (.aload_n 0, 1) := by decide +kernel
theorem mc199_538 : mr_C 199 538 = some (.iload 4, 2) := by decide +kernel
theorem mc199_540 : mr_C 199 540 = some (.iconst 1, 1) := by decide +kernel
theorem mc199_541 : mr_C 199 541 = some (.iadd, 1) := by decide +kernel
theorem mc199_542 : mr_C 199 542 = some (.iaload, 1) := by decide +kernel
theorem mc199_543 : mr_C 199 543 = some (.aload_n 0, 1) := by decide +kernel
theorem mc199_544 : mr_C 199 544 = some (.iload 4, 2) := by decide +kernel
theorem mc199_546 : mr_C 199 546 = some (.iconst 2, 1) := by decide +kernel
theorem mc199_547 : mr_C 199 547 = some (.iadd, 1) := by decide +kernel
theorem mc199_548 : mr_C 199 548 = some (.iaload, 1) := by decide +kernel
theorem mc199_549 : mr_C 199 549 = some (.aload_n 0, 1) := by decide +kernel
theorem mc199_550 : mr_C 199 550 = some (.iload 4, 2) := by decide +kernel
theorem mc199_552 : mr_C 199 552 = some (.iconst 3, 1) := by decide +kernel
theorem mc199_553 : mr_C 199 553 = some (.iadd, 1) := by decide +kernel
theorem mc199_554 : mr_C 199 554 = some (.iaload, 1) := by decide +kernel
theorem mc199_555 : mr_C 199 555 = some (.aload_n 3, 1) := by decide +kernel
theorem mc199_556 : mr_C 199 556 = some (.invokestatic 116, 3) := by decide +kernel
theorem mc199_559 : mr_C 199 559 = some (.istore 5, 2) := by decide +kernel
theorem mc199_561 : mr_C 199 561 = some (.aload_n 2, 1) := by decide +kernel
theorem mc199_562 : mr_C 199 562 = some (.aload_n 0, 1) := by decide +kernel
theorem mc199_563 : mr_C 199 563 = some (.iload 4, 2) := by decide +kernel
theorem mc199_565 : mr_C 199 565 = some (.iconst 1, 1) := by decide +kernel
theorem mc199_566 : mr_C 199 566 = some (.iadd, 1) := by decide +kernel
theorem mc199_567 : mr_C 199 567 = some (.iaload, 1) := by decide +kernel
theorem mc199_568 : mr_C 199 568 = some (.aload_n 0, 1) := by decide +kernel
theorem mc199_569 : mr_C 199 569 = some (.iload 4, 2) := by decide +kernel
theorem mc199_571 : mr_C 199 571 = some (.iconst 2, 1) := by decide +kernel
theorem mc199_572 : mr_C 199 572 = some (.iadd, 1) := by decide +kernel
theorem mc199_573 : mr_C 199 573 = some (.iaload, 1) := by decide +kernel
theorem mc199_574 : mr_C 199 574 = some (.aload_n 0, 1) := by decide +kernel
theorem mc199_575 : mr_C 199 575 = some (.iload 4, 2) := by decide +kernel
theorem mc199_577 : mr_C 199 577 = some (.iconst 3, 1) := by decide +kernel
theorem mc199_578 : mr_C 199 578 = some (.iadd, 1) := by decide +kernel
theorem mc199_579 : mr_C 199 579 = some (.iaload, 1) := by decide +kernel
theorem mc199_580 : mr_C 199 580 = some (.invokevirtual 119, 3) := by decide +kernel
theorem mc199_583 : mr_C 199 583 = some (.istore 6, 2) := by decide +kernel
theorem mc199_585 : mr_C 199 585 = some (.aload_n 2, 1) := by decide +kernel
theorem mc199_586 : mr_C 199 586 = some (.invokevirtual 97, 3) := by decide +kernel
theorem mc199_589 : mr_C 199 589 = some (.iload 5, 2) := by decide +kernel
theorem mc199_591 : mr_C 199 591 = some (.if_icmp .eq (5), 3) := by decide +kernel
theorem mc199_594 : mr_C 199 594 = some (.iconst 0, 1) := by decide +kernel
theorem mc199_595 : mr_C 199 595 = some (.ireturn, 1) := by decide +kernel
theorem mc199_596 : mr_C 199 596 = some (.iload 5, 2) := by decide +kernel
theorem mc199_598 : mr_C 199 598 = some (.ifCond .ne (15), 3) := by decide +kernel
theorem mc199_601 : mr_C 199 601 = some (.aload_n 3, 1) := by decide +kernel
theorem mc199_602 : mr_C 199 602 = some (.iconst 0, 1) := by decide +kernel
theorem mc199_603 : mr_C 199 603 = some (.laload, 1) := by decide +kernel
theorem mc199_604 : mr_C 199 604 = some (.iload 6, 2) := by decide +kernel
theorem mc199_606 : mr_C 199 606 = some (.i2l, 1) := by decide +kernel
theorem mc199_607 : mr_C 199 607 = some (.lcmp, 1) := by decide +kernel
theorem mc199_608 : mr_C 199 608 = some (.ifCond .eq (5), 3) := by decide +kernel
theorem mc199_611 : mr_C 199 611 = some (.iconst 0, 1) := by decide +kernel
theorem mc199_612 : mr_C 199 612 = some (.ireturn, 1) := by decide +kernel
theorem mc199_613 : mr_C 199 613 = some (.goto 1301, 3) := by decide +kernel
theorem mc199_616 : mr_C 199 616 = some (.aload_n 1, 1) := by decide +kernel
theorem mc199_617 : mr_C 199 617 = some (.aload_n 0, 1) := by decide +kernel
theorem mc199_618 : mr_C 199 618 = some (.iload 4, 2) := by decide +kernel
theorem mc199_620 : mr_C 199 620 = some (.iconst 1, 1) := by decide +kernel
theorem mc199_621 : mr_C 199 621 = some (.iadd, 1) := by decide +kernel
theorem mc199_622 : mr_C 199 622 = some (.iaload, 1) := by decide +kernel
theorem mc199_623 : mr_C 199 623 = some (.aload_n 0, 1) := by decide +kernel
theorem mc199_624 : mr_C 199 624 = some (.iload 4, 2) := by decide +kernel
theorem mc199_626 : mr_C 199 626 = some (.iconst 2, 1) := by decide +kernel
theorem mc199_627 : mr_C 199 627 = some (.iadd, 1) := by decide +kernel
theorem mc199_628 : mr_C 199 628 = some (.iaload, 1) := by decide +kernel
theorem mc199_629 : mr_C 199 629 = some (.aload_n 0, 1) := by decide +kernel
theorem mc199_630 : mr_C 199 630 = some (.iload 4, 2) := by decide +kernel
theorem mc199_632 : mr_C 199 632 = some (.iconst 3, 1) := by decide +kernel
theorem mc199_633 : mr_C 199 633 = some (.iadd, 1) := by decide +kernel
theorem mc199_634 : mr_C 199 634 = some (.iaload, 1) := by decide +kernel
theorem mc199_635 : mr_C 199 635 = some (.aload_n 0, 1) := by decide +kernel
theorem mc199_636 : mr_C 199 636 = some (.iload 4, 2) := by decide +kernel
theorem mc199_638 : mr_C 199 638 = some (.iconst 4, 1) := by decide +kernel
theorem mc199_639 : mr_C 199 639 = some (.iadd, 1) := by decide +kernel
theorem mc199_640 : mr_C 199 640 = some (.iaload, 1) := by decide +kernel
theorem mc199_641 : mr_C 199 641 = some (.aload_n 0, 1) := by decide +kernel
theorem mc199_642 : mr_C 199 642 = some (.iload 4, 2) := by decide +kernel
theorem mc199_644 : mr_C 199 644 = some (.iconst 5, 1) := by decide +kernel
theorem mc199_645 : mr_C 199 645 = some (.iadd, 1) := by decide +kernel
theorem mc199_646 : mr_C 199 646 = some (.iaload, 1) := by decide +kernel
theorem mc199_647 : mr_C 199 647 = some (.aload_n 0, 1) := by decide +kernel
theorem mc199_648 : mr_C 199 648 = some (.iload 4, 2) := by decide +kernel
theorem mc199_650 : mr_C 199 650 = some (.bipush 6, 2) := by decide +kernel
theorem mc199_652 : mr_C 199 652 = some (.iadd, 1) := by decide +kernel
theorem mc199_653 : mr_C 199 653 = some (.iaload, 1) := by decide +kernel
theorem mc199_654 : mr_C 199 654 = some (.aload_n 3, 1) := by decide +kernel
theorem mc199_655 : mr_C 199 655 = some (.invokestatic 120, 3) := by decide +kernel
theorem mc199_658 : mr_C 199 658 = some (.istore 5, 2) := by decide +kernel
theorem mc199_660 : mr_C 199 660 = some (.aload_n 2, 1) := by decide +kernel
theorem mc199_661 : mr_C 199 661 = some (.aload_n 0, 1) := by decide +kernel
theorem mc199_662 : mr_C 199 662 = some (.iload 4, 2) := by decide +kernel
theorem mc199_664 : mr_C 199 664 = some (.iconst 1, 1) := by decide +kernel
theorem mc199_665 : mr_C 199 665 = some (.iadd, 1) := by decide +kernel
theorem mc199_666 : mr_C 199 666 = some (.iaload, 1) := by decide +kernel
theorem mc199_667 : mr_C 199 667 = some (.aload_n 0, 1) := by decide +kernel
theorem mc199_668 : mr_C 199 668 = some (.iload 4, 2) := by decide +kernel
theorem mc199_670 : mr_C 199 670 = some (.iconst 2, 1) := by decide +kernel
theorem mc199_671 : mr_C 199 671 = some (.iadd, 1) := by decide +kernel
theorem mc199_672 : mr_C 199 672 = some (.iaload, 1) := by decide +kernel
theorem mc199_673 : mr_C 199 673 = some (.aload_n 0, 1) := by decide +kernel
theorem mc199_674 : mr_C 199 674 = some (.iload 4, 2) := by decide +kernel
theorem mc199_676 : mr_C 199 676 = some (.iconst 3, 1) := by decide +kernel
theorem mc199_677 : mr_C 199 677 = some (.iadd, 1) := by decide +kernel
theorem mc199_678 : mr_C 199 678 = some (.iaload, 1) := by decide +kernel
theorem mc199_679 : mr_C 199 679 = some (.aload_n 0, 1) := by decide +kernel
theorem mc199_680 : mr_C 199 680 = some (.iload 4, 2) := by decide +kernel
theorem mc199_682 : mr_C 199 682 = some (.iconst 4, 1) := by decide +kernel
theorem mc199_683 : mr_C 199 683 = some (.iadd, 1) := by decide +kernel
theorem mc199_684 : mr_C 199 684 = some (.iaload, 1) := by decide +kernel
theorem mc199_685 : mr_C 199 685 = some (.aload_n 0, 1) := by decide +kernel
theorem mc199_686 : mr_C 199 686 = some (.iload 4, 2) := by decide +kernel
theorem mc199_688 : mr_C 199 688 = some (.iconst 5, 1) := by decide +kernel
theorem mc199_689 : mr_C 199 689 = some (.iadd, 1) := by decide +kernel
theorem mc199_690 : mr_C 199 690 = some (.iaload, 1) := by decide +kernel
theorem mc199_691 : mr_C 199 691 = some (.aload_n 0, 1) := by decide +kernel
theorem mc199_692 : mr_C 199 692 = some (.iload 4, 2) := by decide +kernel
theorem mc199_694 : mr_C 199 694 = some (.bipush 6, 2) := by decide +kernel
theorem mc199_696 : mr_C 199 696 = some (.iadd, 1) := by decide +kernel
theorem mc199_697 : mr_C 199 697 = some (.iaload, 1) := by decide +kernel
theorem mc199_698 : mr_C 199 698 = some (.invokevirtual 123, 3) := by decide +kernel
theorem mc199_701 : mr_C 199 701 = some (.istore 6, 2) := by decide +kernel
theorem mc199_703 : mr_C 199 703 = some (.aload_n 2, 1) := by decide +kernel
theorem mc199_704 : mr_C 199 704 = some (.invokevirtual 97, 3) := by decide +kernel
theorem mc199_707 : mr_C 199 707 = some (.iload 5, 2) := by decide +kernel
theorem mc199_709 : mr_C 199 709 = some (.if_icmp .eq (5), 3) := by decide +kernel
theorem mc199_712 : mr_C 199 712 = some (.iconst 0, 1) := by decide +kernel
theorem mc199_713 : mr_C 199 713 = some (.ireturn, 1) := by decide +kernel
theorem mc199_714 : mr_C 199 714 = some (.iload 5, 2) := by decide +kernel
theorem mc199_716 : mr_C 199 716 = some (.ifCond .ne (15), 3) := by decide +kernel
theorem mc199_719 : mr_C 199 719 = some (.aload_n 3, 1) := by decide +kernel
theorem mc199_720 : mr_C 199 720 = some (.iconst 0, 1) := by decide +kernel
theorem mc199_721 : mr_C 199 721 = some (.laload, 1) := by decide +kernel
theorem mc199_722 : mr_C 199 722 = some (.iload 6, 2) := by decide +kernel
theorem mc199_724 : mr_C 199 724 = some (.i2l, 1) := by decide +kernel
theorem mc199_725 : mr_C 199 725 = some (.lcmp, 1) := by decide +kernel
theorem mc199_726 : mr_C 199 726 = some (.ifCond .eq (5), 3) := by decide +kernel
theorem mc199_729 : mr_C 199 729 = some (.iconst 0, 1) := by decide +kernel
theorem mc199_730 : mr_C 199 730 = some (.ireturn, 1) := by decide +kernel
theorem mc199_731 : mr_C 199 731 = some (.goto 1183, 3) := by decide +kernel
theorem mc199_734 : mr_C 199 734 = some (.aload_n 1, 1) := by decide +kernel
theorem mc199_735 : mr_C 199 735 = some (.aload_n 0, 1) := by decide +kernel
theorem mc199_736 : mr_C 199 736 = some (.iload 4, 2) := by decide +kernel
theorem mc199_738 : mr_C 199 738 = some (.iconst 1, 1) := by decide +kernel
theorem mc199_739 : mr_C 199 739 = some (.iadd, 1) := by decide +kernel
theorem mc199_740 : mr_C 199 740 = some (.iaload, 1) := by decide +kernel
theorem mc199_741 : mr_C 199 741 = some (.aload_n 0, 1) := by decide +kernel
theorem mc199_742 : mr_C 199 742 = some (.iload 4, 2) := by decide +kernel
theorem mc199_744 : mr_C 199 744 = some (.iconst 2, 1) := by decide +kernel
theorem mc199_745 : mr_C 199 745 = some (.iadd, 1) := by decide +kernel
theorem mc199_746 : mr_C 199 746 = some (.iaload, 1) := by decide +kernel
theorem mc199_747 : mr_C 199 747 = some (.aload_n 0, 1) := by decide +kernel
theorem mc199_748 : mr_C 199 748 = some (.iload 4, 2) := by decide +kernel
theorem mc199_750 : mr_C 199 750 = some (.iconst 3, 1) := by decide +kernel
theorem mc199_751 : mr_C 199 751 = some (.iadd, 1) := by decide +kernel
theorem mc199_752 : mr_C 199 752 = some (.iaload, 1) := by decide +kernel
theorem mc199_753 : mr_C 199 753 = some (.aload_n 0, 1) := by decide +kernel
theorem mc199_754 : mr_C 199 754 = some (.iload 4, 2) := by decide +kernel
theorem mc199_756 : mr_C 199 756 = some (.iconst 4, 1) := by decide +kernel
theorem mc199_757 : mr_C 199 757 = some (.iadd, 1) := by decide +kernel
theorem mc199_758 : mr_C 199 758 = some (.iaload, 1) := by decide +kernel
theorem mc199_759 : mr_C 199 759 = some (.aload_n 0, 1) := by decide +kernel
theorem mc199_760 : mr_C 199 760 = some (.iload 4, 2) := by decide +kernel
theorem mc199_762 : mr_C 199 762 = some (.iconst 5, 1) := by decide +kernel
theorem mc199_763 : mr_C 199 763 = some (.iadd, 1) := by decide +kernel
theorem mc199_764 : mr_C 199 764 = some (.iaload, 1) := by decide +kernel
theorem mc199_765 : mr_C 199 765 = some (.aload_n 0, 1) := by decide +kernel
theorem mc199_766 : mr_C 199 766 = some (.iload 4, 2) := by decide +kernel
theorem mc199_768 : mr_C 199 768 = some (.bipush 6, 2) := by decide +kernel
theorem mc199_770 : mr_C 199 770 = some (.iadd, 1) := by decide +kernel
theorem mc199_771 : mr_C 199 771 = some (.iaload, 1) := by decide +kernel
theorem mc199_772 : mr_C 199 772 = some (.aload_n 3, 1) := by decide +kernel
theorem mc199_773 : mr_C 199 773 = some (.invokestatic 124, 3) := by decide +kernel
theorem mc199_776 : mr_C 199 776 = some (.istore 5, 2) := by decide +kernel
theorem mc199_778 : mr_C 199 778 = some (.aload_n 2, 1) := by decide +kernel
theorem mc199_779 : mr_C 199 779 = some (.aload_n 0, 1) := by decide +kernel
theorem mc199_780 : mr_C 199 780 = some (.iload 4, 2) := by decide +kernel
theorem mc199_782 : mr_C 199 782 = some (.iconst 1, 1) := by decide +kernel
theorem mc199_783 : mr_C 199 783 = some (.iadd, 1) := by decide +kernel
theorem mc199_784 : mr_C 199 784 = some (.iaload, 1) := by decide +kernel
theorem mc199_785 : mr_C 199 785 = some (.aload_n 0, 1) := by decide +kernel
theorem mc199_786 : mr_C 199 786 = some (.iload 4, 2) := by decide +kernel
theorem mc199_788 : mr_C 199 788 = some (.iconst 2, 1) := by decide +kernel
theorem mc199_789 : mr_C 199 789 = some (.iadd, 1) := by decide +kernel
theorem mc199_790 : mr_C 199 790 = some (.iaload, 1) := by decide +kernel
theorem mc199_791 : mr_C 199 791 = some (.aload_n 0, 1) := by decide +kernel
theorem mc199_792 : mr_C 199 792 = some (.iload 4, 2) := by decide +kernel
theorem mc199_794 : mr_C 199 794 = some (.iconst 3, 1) := by decide +kernel
theorem mc199_795 : mr_C 199 795 = some (.iadd, 1) := by decide +kernel
theorem mc199_796 : mr_C 199 796 = some (.iaload, 1) := by decide +kernel
theorem mc199_797 : mr_C 199 797 = some (.aload_n 0, 1) := by decide +kernel
theorem mc199_798 : mr_C 199 798 = some (.iload 4, 2) := by decide +kernel
theorem mc199_800 : mr_C 199 800 = some (.iconst 4, 1) := by decide +kernel
theorem mc199_801 : mr_C 199 801 = some (.iadd, 1) := by decide +kernel
theorem mc199_802 : mr_C 199 802 = some (.iaload, 1) := by decide +kernel
theorem mc199_803 : mr_C 199 803 = some (.aload_n 0, 1) := by decide +kernel
theorem mc199_804 : mr_C 199 804 = some (.iload 4, 2) := by decide +kernel
theorem mc199_806 : mr_C 199 806 = some (.iconst 5, 1) := by decide +kernel
theorem mc199_807 : mr_C 199 807 = some (.iadd, 1) := by decide +kernel
theorem mc199_808 : mr_C 199 808 = some (.iaload, 1) := by decide +kernel
theorem mc199_809 : mr_C 199 809 = some (.aload_n 0, 1) := by decide +kernel
theorem mc199_810 : mr_C 199 810 = some (.iload 4, 2) := by decide +kernel
theorem mc199_812 : mr_C 199 812 = some (.bipush 6, 2) := by decide +kernel
theorem mc199_814 : mr_C 199 814 = some (.iadd, 1) := by decide +kernel
theorem mc199_815 : mr_C 199 815 = some (.iaload, 1) := by decide +kernel
theorem mc199_816 : mr_C 199 816 = some (.invokevirtual 126, 3) := by decide +kernel
theorem mc199_819 : mr_C 199 819 = some (.istore 6, 2) := by decide +kernel
theorem mc199_821 : mr_C 199 821 = some (.aload_n 2, 1) := by decide +kernel
theorem mc199_822 : mr_C 199 822 = some (.invokevirtual 97, 3) := by decide +kernel
theorem mc199_825 : mr_C 199 825 = some (.iload 5, 2) := by decide +kernel
theorem mc199_827 : mr_C 199 827 = some (.if_icmp .eq (5), 3) := by decide +kernel
theorem mc199_830 : mr_C 199 830 = some (.iconst 0, 1) := by decide +kernel
theorem mc199_831 : mr_C 199 831 = some (.ireturn, 1) := by decide +kernel
theorem mc199_832 : mr_C 199 832 = some (.iload 5, 2) := by decide +kernel
theorem mc199_834 : mr_C 199 834 = some (.ifCond .ne (15), 3) := by decide +kernel
theorem mc199_837 : mr_C 199 837 = some (.aload_n 3, 1) := by decide +kernel
theorem mc199_838 : mr_C 199 838 = some (.iconst 0, 1) := by decide +kernel
theorem mc199_839 : mr_C 199 839 = some (.laload, 1) := by decide +kernel
theorem mc199_840 : mr_C 199 840 = some (.iload 6, 2) := by decide +kernel
theorem mc199_842 : mr_C 199 842 = some (.i2l, 1) := by decide +kernel
theorem mc199_843 : mr_C 199 843 = some (.lcmp, 1) := by decide +kernel
theorem mc199_844 : mr_C 199 844 = some (.ifCond .eq (5), 3) := by decide +kernel
theorem mc199_847 : mr_C 199 847 = some (.iconst 0, 1) := by decide +kernel
theorem mc199_848 : mr_C 199 848 = some (.ireturn, 1) := by decide +kernel
theorem mc199_849 : mr_C 199 849 = some (.goto 1065, 3) := by decide +kernel
theorem mc199_852 : mr_C 199 852 = some (.aload_n 1, 1) := by decide +kernel
theorem mc199_853 : mr_C 199 853 = some (.aload_n 0, 1) := by decide +kernel
theorem mc199_854 : mr_C 199 854 = some (.iload 4, 2) := by decide +kernel
theorem mc199_856 : mr_C 199 856 = some (.iconst 1, 1) := by decide +kernel
theorem mc199_857 : mr_C 199 857 = some (.iadd, 1) := by decide +kernel
theorem mc199_858 : mr_C 199 858 = some (.iaload, 1) := by decide +kernel
theorem mc199_859 : mr_C 199 859 = some (.aload_n 3, 1) := by decide +kernel
theorem mc199_860 : mr_C 199 860 = some (.invokestatic 127, 3) := by decide +kernel
theorem mc199_863 : mr_C 199 863 = some (.istore 5, 2) := by decide +kernel
theorem mc199_865 : mr_C 199 865 = some (.aload_n 2, 1) := by decide +kernel
theorem mc199_866 : mr_C 199 866 = some (.aload_n 0, 1) := by decide +kernel
theorem mc199_867 : mr_C 199 867 = some (.iload 4, 2) := by decide +kernel
theorem mc199_869 : mr_C 199 869 = some (.iconst 1, 1) := by decide +kernel
theorem mc199_870 : mr_C 199 870 = some (.iadd, 1) := by decide +kernel
theorem mc199_871 : mr_C 199 871 = some (.iaload, 1) := by decide +kernel
theorem mc199_872 : mr_C 199 872 = some (.invokevirtual 129, 3) := by decide +kernel
theorem mc199_875 : mr_C 199 875 = some (.istore 6, 2) := by decide +kernel
theorem mc199_877 : mr_C 199 877 = some (.aload_n 2, 1) := by decide +kernel
theorem mc199_878 : mr_C 199 878 = some (.invokevirtual 97, 3) := by decide +kernel
theorem mc199_881 : mr_C 199 881 = some (.iload 5, 2) := by decide +kernel
theorem mc199_883 : mr_C 199 883 = some (.if_icmp .eq (5), 3) := by decide +kernel
theorem mc199_886 : mr_C 199 886 = some (.iconst 0, 1) := by decide +kernel
theorem mc199_887 : mr_C 199 887 = some (.ireturn, 1) := by decide +kernel
theorem mc199_888 : mr_C 199 888 = some (.iload 5, 2) := by decide +kernel
theorem mc199_890 : mr_C 199 890 = some (.ifCond .ne (15), 3) := by decide +kernel
theorem mc199_893 : mr_C 199 893 = some (.aload_n 3, 1) := by decide +kernel
theorem mc199_894 : mr_C 199 894 = some (.iconst 0, 1) := by decide +kernel
theorem mc199_895 : mr_C 199 895 = some (.laload, 1) := by decide +kernel
theorem mc199_896 : mr_C 199 896 = some (.iload 6, 2) := by decide +kernel
theorem mc199_898 : mr_C 199 898 = some (.i2l, 1) := by decide +kernel
theorem mc199_899 : mr_C 199 899 = some (.lcmp, 1) := by decide +kernel
theorem mc199_900 : mr_C 199 900 = some (.ifCond .eq (5), 3) := by decide +kernel
theorem mc199_903 : mr_C 199 903 = some (.iconst 0, 1) := by decide +kernel
theorem mc199_904 : mr_C 199 904 = some (.ireturn, 1) := by decide +kernel
theorem mc199_905 : mr_C 199 905 = some (.goto 1009, 3) := by decide +kernel
theorem mc199_908 : mr_C 199 908 = some (.aload_n 1, 1) := by decide +kernel
theorem mc199_909 : mr_C 199 909 = some (.aload_n 0, 1) := by decide +kernel
theorem mc199_910 : mr_C 199 910 = some (.iload 4, 2) := by decide +kernel
theorem mc199_912 : mr_C 199 912 = some (.iconst 1, 1) := by decide +kernel
theorem mc199_913 : mr_C 199 913 = some (.iadd, 1) := by decide +kernel
theorem mc199_914 : mr_C 199 914 = some (.iaload, 1) := by decide +kernel
theorem mc199_915 : mr_C 199 915 = some (.aload_n 0, 1) := by decide +kernel
theorem mc199_916 : mr_C 199 916 = some (.iload 4, 2) := by decide +kernel
theorem mc199_918 : mr_C 199 918 = some (.iconst 2, 1) := by decide +kernel
theorem mc199_919 : mr_C 199 919 = some (.iadd, 1) := by decide +kernel
theorem mc199_920 : mr_C 199 920 = some (.iaload, 1) := by decide +kernel
theorem mc199_921 : mr_C 199 921 = some (.aload_n 0, 1) := by decide +kernel
theorem mc199_922 : mr_C 199 922 = some (.iload 4, 2) := by decide +kernel
theorem mc199_924 : mr_C 199 924 = some (.iconst 3, 1) := by decide +kernel
theorem mc199_925 : mr_C 199 925 = some (.iadd, 1) := by decide +kernel
theorem mc199_926 : mr_C 199 926 = some (.iaload, 1) := by decide +kernel
theorem mc199_927 : mr_C 199 927 = some (.aload_n 3, 1) := by decide +kernel
theorem mc199_928 : mr_C 199 928 = some (.invokestatic 130, 3) := by decide +kernel
theorem mc199_931 : mr_C 199 931 = some (.istore 5, 2) := by decide +kernel
theorem mc199_933 : mr_C 199 933 = some (.aload_n 2, 1) := by decide +kernel
theorem mc199_934 : mr_C 199 934 = some (.aload_n 0, 1) := by decide +kernel
theorem mc199_935 : mr_C 199 935 = some (.iload 4, 2) := by decide +kernel
theorem mc199_937 : mr_C 199 937 = some (.iconst 1, 1) := by decide +kernel
theorem mc199_938 : mr_C 199 938 = some (.iadd, 1) := by decide +kernel
theorem mc199_939 : mr_C 199 939 = some (.iaload, 1) := by decide +kernel
theorem mc199_940 : mr_C 199 940 = some (.aload_n 0, 1) := by decide +kernel
theorem mc199_941 : mr_C 199 941 = some (.iload 4, 2) := by decide +kernel
theorem mc199_943 : mr_C 199 943 = some (.iconst 2, 1) := by decide +kernel
theorem mc199_944 : mr_C 199 944 = some (.iadd, 1) := by decide +kernel
theorem mc199_945 : mr_C 199 945 = some (.iaload, 1) := by decide +kernel
theorem mc199_946 : mr_C 199 946 = some (.aload_n 0, 1) := by decide +kernel
theorem mc199_947 : mr_C 199 947 = some (.iload 4, 2) := by decide +kernel
theorem mc199_949 : mr_C 199 949 = some (.iconst 3, 1) := by decide +kernel
theorem mc199_950 : mr_C 199 950 = some (.iadd, 1) := by decide +kernel
theorem mc199_951 : mr_C 199 951 = some (.iaload, 1) := by decide +kernel
theorem mc199_952 : mr_C 199 952 = some (.invokevirtual 132, 3) := by decide +kernel
theorem mc199_955 : mr_C 199 955 = some (.istore 6, 2) := by decide +kernel
theorem mc199_957 : mr_C 199 957 = some (.aload_n 2, 1) := by decide +kernel
theorem mc199_958 : mr_C 199 958 = some (.invokevirtual 97, 3) := by decide +kernel
theorem mc199_961 : mr_C 199 961 = some (.iload 5, 2) := by decide +kernel
theorem mc199_963 : mr_C 199 963 = some (.if_icmp .eq (5), 3) := by decide +kernel
theorem mc199_966 : mr_C 199 966 = some (.iconst 0, 1) := by decide +kernel
theorem mc199_967 : mr_C 199 967 = some (.ireturn, 1) := by decide +kernel
theorem mc199_968 : mr_C 199 968 = some (.iload 5, 2) := by decide +kernel
theorem mc199_970 : mr_C 199 970 = some (.ifCond .ne (15), 3) := by decide +kernel
theorem mc199_973 : mr_C 199 973 = some (.aload_n 3, 1) := by decide +kernel
theorem mc199_974 : mr_C 199 974 = some (.iconst 0, 1) := by decide +kernel
theorem mc199_975 : mr_C 199 975 = some (.laload, 1) := by decide +kernel
theorem mc199_976 : mr_C 199 976 = some (.iload 6, 2) := by decide +kernel
theorem mc199_978 : mr_C 199 978 = some (.i2l, 1) := by decide +kernel
theorem mc199_979 : mr_C 199 979 = some (.lcmp, 1) := by decide +kernel
theorem mc199_980 : mr_C 199 980 = some (.ifCond .eq (5), 3) := by decide +kernel
theorem mc199_983 : mr_C 199 983 = some (.iconst 0, 1) := by decide +kernel
theorem mc199_984 : mr_C 199 984 = some (.ireturn, 1) := by decide +kernel
theorem mc199_985 : mr_C 199 985 = some (.goto 929, 3) := by decide +kernel
theorem mc199_988 : mr_C 199 988 = some (.aload_n 1, 1) := by decide +kernel
theorem mc199_989 : mr_C 199 989 = some (.aload_n 0, 1) := by decide +kernel
theorem mc199_990 : mr_C 199 990 = some (.iload 4, 2) := by decide +kernel
theorem mc199_992 : mr_C 199 992 = some (.iconst 1, 1) := by decide +kernel
theorem mc199_993 : mr_C 199 993 = some (.iadd, 1) := by decide +kernel
theorem mc199_994 : mr_C 199 994 = some (.iaload, 1) := by decide +kernel
theorem mc199_995 : mr_C 199 995 = some (.aload_n 0, 1) := by decide +kernel
theorem mc199_996 : mr_C 199 996 = some (.iload 4, 2) := by decide +kernel
theorem mc199_998 : mr_C 199 998 = some (.iconst 2, 1) := by decide +kernel
theorem mc199_999 : mr_C 199 999 = some (.iadd, 1) := by decide +kernel
theorem mc199_1000 : mr_C 199 1000 = some (.iaload, 1) := by decide +kernel
theorem mc199_1001 : mr_C 199 1001 = some (.aload_n 0, 1) := by decide +kernel
theorem mc199_1002 : mr_C 199 1002 = some (.iload 4, 2) := by decide +kernel
theorem mc199_1004 : mr_C 199 1004 = some (.iconst 3, 1) := by decide +kernel
theorem mc199_1005 : mr_C 199 1005 = some (.iadd, 1) := by decide +kernel
theorem mc199_1006 : mr_C 199 1006 = some (.iaload, 1) := by decide +kernel
theorem mc199_1007 : mr_C 199 1007 = some (.aload_n 0, 1) := by decide +kernel
theorem mc199_1008 : mr_C 199 1008 = some (.iload 4, 2) := by decide +kernel
theorem mc199_1010 : mr_C 199 1010 = some (.iconst 4, 1) := by decide +kernel
theorem mc199_1011 : mr_C 199 1011 = some (.iadd, 1) := by decide +kernel
theorem mc199_1012 : mr_C 199 1012 = some (.iaload, 1) := by decide +kernel
theorem mc199_1013 : mr_C 199 1013 = some (.aload_n 3, 1) := by decide +kernel
theorem mc199_1014 : mr_C 199 1014 = some (.invokestatic 133, 3) := by decide +kernel
theorem mc199_1017 : mr_C 199 1017 = some (.istore 5, 2) := by decide +kernel
theorem mc199_1019 : mr_C 199 1019 = some (.aload_n 2, 1) := by decide +kernel
theorem mc199_1020 : mr_C 199 1020 = some (.aload_n 0, 1) := by decide +kernel
theorem mc199_1021 : mr_C 199 1021 = some (.iload 4, 2) := by decide +kernel
theorem mc199_1023 : mr_C 199 1023 = some (.iconst 1, 1) := by decide +kernel
theorem mc199_1024 : mr_C 199 1024 = some (.iadd, 1) := by decide +kernel
theorem mc199_1025 : mr_C 199 1025 = some (.iaload, 1) := by decide +kernel
theorem mc199_1026 : mr_C 199 1026 = some (.aload_n 0, 1) := by decide +kernel
theorem mc199_1027 : mr_C 199 1027 = some (.iload 4, 2) := by decide +kernel
theorem mc199_1029 : mr_C 199 1029 = some (.iconst 2, 1) := by decide +kernel
theorem mc199_1030 : mr_C 199 1030 = some (.iadd, 1) := by decide +kernel
theorem mc199_1031 : mr_C 199 1031 = some (.iaload, 1) := by decide +kernel
theorem mc199_1032 : mr_C 199 1032 = some (.aload_n 0, 1) := by decide +kernel
theorem mc199_1033 : mr_C 199 1033 = some (.iload 4, 2) := by decide +kernel
theorem mc199_1035 : mr_C 199 1035 = some (.iconst 3, 1) := by decide +kernel
theorem mc199_1036 : mr_C 199 1036 = some (.iadd, 1) := by decide +kernel
theorem mc199_1037 : mr_C 199 1037 = some (.iaload, 1) := by decide +kernel
theorem mc199_1038 : mr_C 199 1038 = some (.aload_n 0, 1) := by decide +kernel
theorem mc199_1039 : mr_C 199 1039 = some (.iload 4, 2) := by decide +kernel
theorem mc199_1041 : mr_C 199 1041 = some (.iconst 4, 1) := by decide +kernel
theorem mc199_1042 : mr_C 199 1042 = some (.iadd, 1) := by decide +kernel
theorem mc199_1043 : mr_C 199 1043 = some (.iaload, 1) := by decide +kernel
theorem mc199_1044 : mr_C 199 1044 = some (.invokevirtual 135, 3) := by decide +kernel
theorem mc199_1047 : mr_C 199 1047 = some (.istore 6, 2) := by decide +kernel
theorem mc199_1049 : mr_C 199 1049 = some (.aload_n 2, 1) := by decide +kernel
theorem mc199_1050 : mr_C 199 1050 = some (.invokevirtual 97, 3) := by decide +kernel
theorem mc199_1053 : mr_C 199 1053 = some (.iload 5, 2) := by decide +kernel
theorem mc199_1055 : mr_C 199 1055 = some (.if_icmp .eq (5), 3) := by decide +kernel
theorem mc199_1058 : mr_C 199 1058 = some (.iconst 0, 1) := by decide +kernel
theorem mc199_1059 : mr_C 199 1059 = some (.ireturn, 1) := by decide +kernel
theorem mc199_1060 : mr_C 199 1060 = some (.iload 5, 2) := by decide +kernel
theorem mc199_1062 : mr_C 199 1062 = some (.ifCond .ne (15), 3) := by decide +kernel
theorem mc199_1065 : mr_C 199 1065 = some (.aload_n 3, 1) := by decide +kernel
theorem mc199_1066 : mr_C 199 1066 = some (.iconst 0, 1) := by decide +kernel
theorem mc199_1067 : mr_C 199 1067 = some (.laload, 1) := by decide +kernel
theorem mc199_1068 : mr_C 199 1068 = some (.iload 6, 2) := by decide +kernel
theorem mc199_1070 : mr_C 199 1070 = some (.i2l, 1) := by decide +kernel
theorem mc199_1071 : mr_C 199 1071 = some (.lcmp, 1) := by decide +kernel
theorem mc199_1072 : mr_C 199 1072 = some (.ifCond .eq (5), 3) := by decide +kernel
theorem mc199_1075 : mr_C 199 1075 = some (.iconst 0, 1) := by decide +kernel
theorem mc199_1076 : mr_C 199 1076 = some (.ireturn, 1) := by decide +kernel
theorem mc199_1077 : mr_C 199 1077 = some (.goto 837, 3) := by decide +kernel
theorem mc199_1080 : mr_C 199 1080 = some (.aload_n 1, 1) := by decide +kernel
theorem mc199_1081 : mr_C 199 1081 = some (.aload_n 0, 1) := by decide +kernel
theorem mc199_1082 : mr_C 199 1082 = some (.iload 4, 2) := by decide +kernel
theorem mc199_1084 : mr_C 199 1084 = some (.iconst 1, 1) := by decide +kernel
theorem mc199_1085 : mr_C 199 1085 = some (.iadd, 1) := by decide +kernel
theorem mc199_1086 : mr_C 199 1086 = some (.iaload, 1) := by decide +kernel
theorem mc199_1087 : mr_C 199 1087 = some (.aload_n 0, 1) := by decide +kernel
theorem mc199_1088 : mr_C 199 1088 = some (.iload 4, 2) := by decide +kernel
theorem mc199_1090 : mr_C 199 1090 = some (.iconst 2, 1) := by decide +kernel
theorem mc199_1091 : mr_C 199 1091 = some (.iadd, 1) := by decide +kernel
theorem mc199_1092 : mr_C 199 1092 = some (.iaload, 1) := by decide +kernel
theorem mc199_1093 : mr_C 199 1093 = some (.aload_n 0, 1) := by decide +kernel
theorem mc199_1094 : mr_C 199 1094 = some (.iload 4, 2) := by decide +kernel
theorem mc199_1096 : mr_C 199 1096 = some (.iconst 3, 1) := by decide +kernel
theorem mc199_1097 : mr_C 199 1097 = some (.iadd, 1) := by decide +kernel
theorem mc199_1098 : mr_C 199 1098 = some (.iaload, 1) := by decide +kernel
theorem mc199_1099 : mr_C 199 1099 = some (.aload_n 3, 1) := by decide +kernel
theorem mc199_1100 : mr_C 199 1100 = some (.invokestatic 136, 3) := by decide +kernel
theorem mc199_1103 : mr_C 199 1103 = some (.istore 5, 2) := by decide +kernel
theorem mc199_1105 : mr_C 199 1105 = some (.aload_n 2, 1) := by decide +kernel
theorem mc199_1106 : mr_C 199 1106 = some (.aload_n 0, 1) := by decide +kernel
theorem mc199_1107 : mr_C 199 1107 = some (.iload 4, 2) := by decide +kernel
theorem mc199_1109 : mr_C 199 1109 = some (.iconst 1, 1) := by decide +kernel
theorem mc199_1110 : mr_C 199 1110 = some (.iadd, 1) := by decide +kernel
theorem mc199_1111 : mr_C 199 1111 = some (.iaload, 1) := by decide +kernel
theorem mc199_1112 : mr_C 199 1112 = some (.aload_n 0, 1) := by decide +kernel
theorem mc199_1113 : mr_C 199 1113 = some (.iload 4, 2) := by decide +kernel
theorem mc199_1115 : mr_C 199 1115 = some (.iconst 2, 1) := by decide +kernel
theorem mc199_1116 : mr_C 199 1116 = some (.iadd, 1) := by decide +kernel
theorem mc199_1117 : mr_C 199 1117 = some (.iaload, 1) := by decide +kernel
theorem mc199_1118 : mr_C 199 1118 = some (.aload_n 0, 1) := by decide +kernel
theorem mc199_1119 : mr_C 199 1119 = some (.iload 4, 2) := by decide +kernel
theorem mc199_1121 : mr_C 199 1121 = some (.iconst 3, 1) := by decide +kernel
theorem mc199_1122 : mr_C 199 1122 = some (.iadd, 1) := by decide +kernel
theorem mc199_1123 : mr_C 199 1123 = some (.iaload, 1) := by decide +kernel
theorem mc199_1124 : mr_C 199 1124 = some (.invokevirtual 138, 3) := by decide +kernel
theorem mc199_1127 : mr_C 199 1127 = some (.istore 6, 2) := by decide +kernel
theorem mc199_1129 : mr_C 199 1129 = some (.aload_n 2, 1) := by decide +kernel
theorem mc199_1130 : mr_C 199 1130 = some (.invokevirtual 97, 3) := by decide +kernel
theorem mc199_1133 : mr_C 199 1133 = some (.iload 5, 2) := by decide +kernel
theorem mc199_1135 : mr_C 199 1135 = some (.if_icmp .eq (5), 3) := by decide +kernel
theorem mc199_1138 : mr_C 199 1138 = some (.iconst 0, 1) := by decide +kernel
theorem mc199_1139 : mr_C 199 1139 = some (.ireturn, 1) := by decide +kernel
theorem mc199_1140 : mr_C 199 1140 = some (.iload 5, 2) := by decide +kernel
theorem mc199_1142 : mr_C 199 1142 = some (.ifCond .ne (22), 3) := by decide +kernel
theorem mc199_1145 : mr_C 199 1145 = some (.aload_n 3, 1) := by decide +kernel
theorem mc199_1146 : mr_C 199 1146 = some (.iconst 0, 1) := by decide +kernel
theorem mc199_1147 : mr_C 199 1147 = some (.laload, 1) := by decide +kernel
theorem mc199_1148 : mr_C 199 1148 = some (.iload 6, 2) := by decide +kernel
theorem mc199_1150 : mr_C 199 1150 = some (.ifCond .eq (7), 3) := by decide +kernel
theorem mc199_1153 : mr_C 199 1153 = some (.lconst 1, 1) := by decide +kernel
theorem mc199_1154 : mr_C 199 1154 = some (.goto 4, 3) := by decide +kernel
theorem mc199_1157 : mr_C 199 1157 = some (.lconst 0, 1) := by decide +kernel
theorem mc199_1158 : mr_C 199 1158 = some (.lcmp, 1) := by decide +kernel
theorem mc199_1159 : mr_C 199 1159 = some (.ifCond .eq (5), 3) := by decide +kernel
theorem mc199_1162 : mr_C 199 1162 = some (.iconst 0, 1) := by decide +kernel
theorem mc199_1163 : mr_C 199 1163 = some (.ireturn, 1) := by decide +kernel
theorem mc199_1164 : mr_C 199 1164 = some (.goto 750, 3) := by decide +kernel
theorem mc199_1167 : mr_C 199 1167 = some (.aload_n 1, 1) := by decide +kernel
theorem mc199_1168 : mr_C 199 1168 = some (.aload_n 0, 1) := by decide +kernel
theorem mc199_1169 : mr_C 199 1169 = some (.iload 4, 2) := by decide +kernel
theorem mc199_1171 : mr_C 199 1171 = some (.iconst 1, 1) := by decide +kernel
theorem mc199_1172 : mr_C 199 1172 = some (.iadd, 1) := by decide +kernel
theorem mc199_1173 : mr_C 199 1173 = some (.iaload, 1) := by decide +kernel
theorem mc199_1174 : mr_C 199 1174 = some (.aload_n 0, 1) := by decide +kernel
theorem mc199_1175 : mr_C 199 1175 = some (.iload 4, 2) := by decide +kernel
theorem mc199_1177 : mr_C 199 1177 = some (.iconst 2, 1) := by decide +kernel
theorem mc199_1178 : mr_C 199 1178 = some (.iadd, 1) := by decide +kernel
theorem mc199_1179 : mr_C 199 1179 = some (.iaload, 1) := by decide +kernel
theorem mc199_1180 : mr_C 199 1180 = some (.aload_n 3, 1) := by decide +kernel
theorem mc199_1181 : mr_C 199 1181 = some (.invokestatic 139, 3) := by decide +kernel
theorem mc199_1184 : mr_C 199 1184 = some (.istore 5, 2) := by decide +kernel
theorem mc199_1186 : mr_C 199 1186 = some (.aload_n 2, 1) := by decide +kernel
theorem mc199_1187 : mr_C 199 1187 = some (.aload_n 0, 1) := by decide +kernel
theorem mc199_1188 : mr_C 199 1188 = some (.iload 4, 2) := by decide +kernel
theorem mc199_1190 : mr_C 199 1190 = some (.iconst 1, 1) := by decide +kernel
theorem mc199_1191 : mr_C 199 1191 = some (.iadd, 1) := by decide +kernel
theorem mc199_1192 : mr_C 199 1192 = some (.iaload, 1) := by decide +kernel
theorem mc199_1193 : mr_C 199 1193 = some (.aload_n 0, 1) := by decide +kernel
theorem mc199_1194 : mr_C 199 1194 = some (.iload 4, 2) := by decide +kernel
theorem mc199_1196 : mr_C 199 1196 = some (.iconst 2, 1) := by decide +kernel
theorem mc199_1197 : mr_C 199 1197 = some (.iadd, 1) := by decide +kernel
theorem mc199_1198 : mr_C 199 1198 = some (.iaload, 1) := by decide +kernel
theorem mc199_1199 : mr_C 199 1199 = some (.invokevirtual 141, 3) := by decide +kernel
theorem mc199_1202 : mr_C 199 1202 = some (.istore 6, 2) := by decide +kernel
theorem mc199_1204 : mr_C 199 1204 = some (.aload_n 2, 1) := by decide +kernel
theorem mc199_1205 : mr_C 199 1205 = some (.invokevirtual 97, 3) := by decide +kernel
theorem mc199_1208 : mr_C 199 1208 = some (.iload 5, 2) := by decide +kernel
theorem mc199_1210 : mr_C 199 1210 = some (.if_icmp .eq (5), 3) := by decide +kernel
theorem mc199_1213 : mr_C 199 1213 = some (.iconst 0, 1) := by decide +kernel
theorem mc199_1214 : mr_C 199 1214 = some (.ireturn, 1) := by decide +kernel
theorem mc199_1215 : mr_C 199 1215 = some (.iload 5, 2) := by decide +kernel
theorem mc199_1217 : mr_C 199 1217 = some (.ifCond .ne (15), 3) := by decide +kernel
theorem mc199_1220 : mr_C 199 1220 = some (.aload_n 3, 1) := by decide +kernel
theorem mc199_1221 : mr_C 199 1221 = some (.iconst 0, 1) := by decide +kernel
theorem mc199_1222 : mr_C 199 1222 = some (.laload, 1) := by decide +kernel
theorem mc199_1223 : mr_C 199 1223 = some (.iload 6, 2) := by decide +kernel
theorem mc199_1225 : mr_C 199 1225 = some (.i2l, 1) := by decide +kernel
theorem mc199_1226 : mr_C 199 1226 = some (.lcmp, 1) := by decide +kernel
theorem mc199_1227 : mr_C 199 1227 = some (.ifCond .eq (5), 3) := by decide +kernel
theorem mc199_1230 : mr_C 199 1230 = some (.iconst 0, 1) := by decide +kernel
theorem mc199_1231 : mr_C 199 1231 = some (.ireturn, 1) := by decide +kernel
theorem mc199_1232 : mr_C 199 1232 = some (.goto 682, 3) := by decide +kernel
theorem mc199_1235 : mr_C 199 1235 = some (.aload_n 1, 1) := by decide +kernel
theorem mc199_1236 : mr_C 199 1236 = some (.aload_n 0, 1) := by decide +kernel
theorem mc199_1237 : mr_C 199 1237 = some (.iload 4, 2) := by decide +kernel
theorem mc199_1239 : mr_C 199 1239 = some (.iconst 1, 1) := by decide +kernel
theorem mc199_1240 : mr_C 199 1240 = some (.iadd, 1) := by decide +kernel
theorem mc199_1241 : mr_C 199 1241 = some (.iaload, 1) := by decide +kernel
theorem mc199_1242 : mr_C 199 1242 = some (.aload_n 0, 1) := by decide +kernel
theorem mc199_1243 : mr_C 199 1243 = some (.iload 4, 2) := by decide +kernel
theorem mc199_1245 : mr_C 199 1245 = some (.iconst 2, 1) := by decide +kernel
theorem mc199_1246 : mr_C 199 1246 = some (.iadd, 1) := by decide +kernel
theorem mc199_1247 : mr_C 199 1247 = some (.iaload, 1) := by decide +kernel
theorem mc199_1248 : mr_C 199 1248 = some (.aload_n 0, 1) := by decide +kernel
theorem mc199_1249 : mr_C 199 1249 = some (.iload 4, 2) := by decide +kernel
theorem mc199_1251 : mr_C 199 1251 = some (.iconst 3, 1) := by decide +kernel
theorem mc199_1252 : mr_C 199 1252 = some (.iadd, 1) := by decide +kernel
theorem mc199_1253 : mr_C 199 1253 = some (.iaload, 1) := by decide +kernel
theorem mc199_1254 : mr_C 199 1254 = some (.aload_n 3, 1) := by decide +kernel
theorem mc199_1255 : mr_C 199 1255 = some (.invokestatic 142, 3) := by decide +kernel
theorem mc199_1258 : mr_C 199 1258 = some (.istore 5, 2) := by decide +kernel
theorem mc199_1260 : mr_C 199 1260 = some (.aload_n 2, 1) := by decide +kernel
theorem mc199_1261 : mr_C 199 1261 = some (.aload_n 0, 1) := by decide +kernel
theorem mc199_1262 : mr_C 199 1262 = some (.iload 4, 2) := by decide +kernel
theorem mc199_1264 : mr_C 199 1264 = some (.iconst 1, 1) := by decide +kernel
theorem mc199_1265 : mr_C 199 1265 = some (.iadd, 1) := by decide +kernel
theorem mc199_1266 : mr_C 199 1266 = some (.iaload, 1) := by decide +kernel
theorem mc199_1267 : mr_C 199 1267 = some (.aload_n 0, 1) := by decide +kernel
theorem mc199_1268 : mr_C 199 1268 = some (.iload 4, 2) := by decide +kernel
theorem mc199_1270 : mr_C 199 1270 = some (.iconst 2, 1) := by decide +kernel
theorem mc199_1271 : mr_C 199 1271 = some (.iadd, 1) := by decide +kernel
theorem mc199_1272 : mr_C 199 1272 = some (.iaload, 1) := by decide +kernel
theorem mc199_1273 : mr_C 199 1273 = some (.aload_n 0, 1) := by decide +kernel
theorem mc199_1274 : mr_C 199 1274 = some (.iload 4, 2) := by decide +kernel
theorem mc199_1276 : mr_C 199 1276 = some (.iconst 3, 1) := by decide +kernel
theorem mc199_1277 : mr_C 199 1277 = some (.iadd, 1) := by decide +kernel
theorem mc199_1278 : mr_C 199 1278 = some (.iaload, 1) := by decide +kernel
theorem mc199_1279 : mr_C 199 1279 = some (.invokevirtual 144, 3) := by decide +kernel
theorem mc199_1282 : mr_C 199 1282 = some (.istore 6, 2) := by decide +kernel
theorem mc199_1284 : mr_C 199 1284 = some (.aload_n 2, 1) := by decide +kernel
theorem mc199_1285 : mr_C 199 1285 = some (.invokevirtual 97, 3) := by decide +kernel
theorem mc199_1288 : mr_C 199 1288 = some (.iload 5, 2) := by decide +kernel
theorem mc199_1290 : mr_C 199 1290 = some (.if_icmp .eq (5), 3) := by decide +kernel
theorem mc199_1293 : mr_C 199 1293 = some (.iconst 0, 1) := by decide +kernel
theorem mc199_1294 : mr_C 199 1294 = some (.ireturn, 1) := by decide +kernel
theorem mc199_1295 : mr_C 199 1295 = some (.iload 5, 2) := by decide +kernel
theorem mc199_1297 : mr_C 199 1297 = some (.ifCond .ne (15), 3) := by decide +kernel
theorem mc199_1300 : mr_C 199 1300 = some (.aload_n 3, 1) := by decide +kernel
theorem mc199_1301 : mr_C 199 1301 = some (.iconst 0, 1) := by decide +kernel
theorem mc199_1302 : mr_C 199 1302 = some (.laload, 1) := by decide +kernel
theorem mc199_1303 : mr_C 199 1303 = some (.iload 6, 2) := by decide +kernel
theorem mc199_1305 : mr_C 199 1305 = some (.i2l, 1) := by decide +kernel
theorem mc199_1306 : mr_C 199 1306 = some (.lcmp, 1) := by decide +kernel
theorem mc199_1307 : mr_C 199 1307 = some (.ifCond .eq (5), 3) := by decide +kernel
theorem mc199_1310 : mr_C 199 1310 = some (.iconst 0, 1) := by decide +kernel
theorem mc199_1311 : mr_C 199 1311 = some (.ireturn, 1) := by decide +kernel
theorem mc199_1312 : mr_C 199 1312 = some (.goto 602, 3) := by decide +kernel
theorem mc199_1315 : mr_C 199 1315 = some (.aload_n 1, 1) := by decide +kernel
theorem mc199_1316 : mr_C 199 1316 = some (.aload_n 0, 1) := by decide +kernel
theorem mc199_1317 : mr_C 199 1317 = some (.iload 4, 2) := by decide +kernel
theorem mc199_1319 : mr_C 199 1319 = some (.iconst 1, 1) := by decide +kernel
theorem mc199_1320 : mr_C 199 1320 = some (.iadd, 1) := by decide +kernel
theorem mc199_1321 : mr_C 199 1321 = some (.iaload, 1) := by decide +kernel
theorem mc199_1322 : mr_C 199 1322 = some (.aload_n 0, 1) := by decide +kernel
theorem mc199_1323 : mr_C 199 1323 = some (.iload 4, 2) := by decide +kernel
theorem mc199_1325 : mr_C 199 1325 = some (.iconst 2, 1) := by decide +kernel
theorem mc199_1326 : mr_C 199 1326 = some (.iadd, 1) := by decide +kernel
theorem mc199_1327 : mr_C 199 1327 = some (.iaload, 1) := by decide +kernel
theorem mc199_1328 : mr_C 199 1328 = some (.aload_n 0, 1) := by decide +kernel
theorem mc199_1329 : mr_C 199 1329 = some (.iload 4, 2) := by decide +kernel
theorem mc199_1331 : mr_C 199 1331 = some (.iconst 3, 1) := by decide +kernel
theorem mc199_1332 : mr_C 199 1332 = some (.iadd, 1) := by decide +kernel
theorem mc199_1333 : mr_C 199 1333 = some (.iaload, 1) := by decide +kernel
theorem mc199_1334 : mr_C 199 1334 = some (.aload_n 0, 1) := by decide +kernel
theorem mc199_1335 : mr_C 199 1335 = some (.iload 4, 2) := by decide +kernel
theorem mc199_1337 : mr_C 199 1337 = some (.iconst 4, 1) := by decide +kernel
theorem mc199_1338 : mr_C 199 1338 = some (.iadd, 1) := by decide +kernel
theorem mc199_1339 : mr_C 199 1339 = some (.iaload, 1) := by decide +kernel
theorem mc199_1340 : mr_C 199 1340 = some (.aload_n 3, 1) := by decide +kernel
theorem mc199_1341 : mr_C 199 1341 = some (.invokestatic 145, 3) := by decide +kernel
theorem mc199_1344 : mr_C 199 1344 = some (.istore 5, 2) := by decide +kernel
theorem mc199_1346 : mr_C 199 1346 = some (.aload_n 2, 1) := by decide +kernel
theorem mc199_1347 : mr_C 199 1347 = some (.aload_n 0, 1) := by decide +kernel
theorem mc199_1348 : mr_C 199 1348 = some (.iload 4, 2) := by decide +kernel
theorem mc199_1350 : mr_C 199 1350 = some (.iconst 1, 1) := by decide +kernel
theorem mc199_1351 : mr_C 199 1351 = some (.iadd, 1) := by decide +kernel
theorem mc199_1352 : mr_C 199 1352 = some (.iaload, 1) := by decide +kernel
theorem mc199_1353 : mr_C 199 1353 = some (.aload_n 0, 1) := by decide +kernel
theorem mc199_1354 : mr_C 199 1354 = some (.iload 4, 2) := by decide +kernel
theorem mc199_1356 : mr_C 199 1356 = some (.iconst 2, 1) := by decide +kernel
theorem mc199_1357 : mr_C 199 1357 = some (.iadd, 1) := by decide +kernel
theorem mc199_1358 : mr_C 199 1358 = some (.iaload, 1) := by decide +kernel
theorem mc199_1359 : mr_C 199 1359 = some (.aload_n 0, 1) := by decide +kernel
theorem mc199_1360 : mr_C 199 1360 = some (.iload 4, 2) := by decide +kernel
theorem mc199_1362 : mr_C 199 1362 = some (.iconst 3, 1) := by decide +kernel
theorem mc199_1363 : mr_C 199 1363 = some (.iadd, 1) := by decide +kernel
theorem mc199_1364 : mr_C 199 1364 = some (.iaload, 1) := by decide +kernel
theorem mc199_1365 : mr_C 199 1365 = some (.aload_n 0, 1) := by decide +kernel
theorem mc199_1366 : mr_C 199 1366 = some (.iload 4, 2) := by decide +kernel
theorem mc199_1368 : mr_C 199 1368 = some (.iconst 4, 1) := by decide +kernel
theorem mc199_1369 : mr_C 199 1369 = some (.iadd, 1) := by decide +kernel
theorem mc199_1370 : mr_C 199 1370 = some (.iaload, 1) := by decide +kernel
theorem mc199_1371 : mr_C 199 1371 = some (.invokevirtual 147, 3) := by decide +kernel
theorem mc199_1374 : mr_C 199 1374 = some (.istore 6, 2) := by decide +kernel
theorem mc199_1376 : mr_C 199 1376 = some (.aload_n 2, 1) := by decide +kernel
theorem mc199_1377 : mr_C 199 1377 = some (.invokevirtual 97, 3) := by decide +kernel
theorem mc199_1380 : mr_C 199 1380 = some (.iload 5, 2) := by decide +kernel
theorem mc199_1382 : mr_C 199 1382 = some (.if_icmp .eq (5), 3) := by decide +kernel
theorem mc199_1385 : mr_C 199 1385 = some (.iconst 0, 1) := by decide +kernel
theorem mc199_1386 : mr_C 199 1386 = some (.ireturn, 1) := by decide +kernel
theorem mc199_1387 : mr_C 199 1387 = some (.iload 5, 2) := by decide +kernel
theorem mc199_1389 : mr_C 199 1389 = some (.ifCond .ne (15), 3) := by decide +kernel
theorem mc199_1392 : mr_C 199 1392 = some (.aload_n 3, 1) := by decide +kernel
theorem mc199_1393 : mr_C 199 1393 = some (.iconst 0, 1) := by decide +kernel
theorem mc199_1394 : mr_C 199 1394 = some (.laload, 1) := by decide +kernel
theorem mc199_1395 : mr_C 199 1395 = some (.iload 6, 2) := by decide +kernel
theorem mc199_1397 : mr_C 199 1397 = some (.i2l, 1) := by decide +kernel
theorem mc199_1398 : mr_C 199 1398 = some (.lcmp, 1) := by decide +kernel
theorem mc199_1399 : mr_C 199 1399 = some (.ifCond .eq (5), 3) := by decide +kernel
theorem mc199_1402 : mr_C 199 1402 = some (.iconst 0, 1) := by decide +kernel
theorem mc199_1403 : mr_C 199 1403 = some (.ireturn, 1) := by decide +kernel
theorem mc199_1404 : mr_C 199 1404 = some (.goto 510, 3) := by decide +kernel
theorem mc199_1407 : mr_C 199 1407 = some (.aload_n 1, 1) := by decide +kernel
theorem mc199_1408 : mr_C 199 1408 = some (.aload_n 0, 1) := by decide +kernel
theorem mc199_1409 : mr_C 199 1409 = some (.iload 4, 2) := by decide +kernel
theorem mc199_1411 : mr_C 199 1411 = some (.iconst 1, 1) := by decide +kernel
theorem mc199_1412 : mr_C 199 1412 = some (.iadd, 1) := by decide +kernel
theorem mc199_1413 : mr_C 199 1413 = some (.iaload, 1) := by decide +kernel
theorem mc199_1414 : mr_C 199 1414 = some (.aload_n 0, 1) := by decide +kernel
theorem mc199_1415 : mr_C 199 1415 = some (.iload 4, 2) := by decide +kernel
theorem mc199_1417 : mr_C 199 1417 = some (.iconst 2, 1) := by decide +kernel
theorem mc199_1418 : mr_C 199 1418 = some (.iadd, 1) := by decide +kernel
theorem mc199_1419 : mr_C 199 1419 = some (.iaload, 1) := by decide +kernel
theorem mc199_1420 : mr_C 199 1420 = some (.aload_n 0, 1) := by decide +kernel
theorem mc199_1421 : mr_C 199 1421 = some (.iload 4, 2) := by decide +kernel
theorem mc199_1423 : mr_C 199 1423 = some (.iconst 3, 1) := by decide +kernel
theorem mc199_1424 : mr_C 199 1424 = some (.iadd, 1) := by decide +kernel
theorem mc199_1425 : mr_C 199 1425 = some (.iaload, 1) := by decide +kernel
theorem mc199_1426 : mr_C 199 1426 = some (.aload_n 3, 1) := by decide +kernel
theorem mc199_1427 : mr_C 199 1427 = some (.invokestatic 148, 3) := by decide +kernel
theorem mc199_1430 : mr_C 199 1430 = some (.istore 5, 2) := by decide +kernel
theorem mc199_1432 : mr_C 199 1432 = some (.aload_n 2, 1) := by decide +kernel
theorem mc199_1433 : mr_C 199 1433 = some (.aload_n 0, 1) := by decide +kernel
theorem mc199_1434 : mr_C 199 1434 = some (.iload 4, 2) := by decide +kernel
theorem mc199_1436 : mr_C 199 1436 = some (.iconst 1, 1) := by decide +kernel
theorem mc199_1437 : mr_C 199 1437 = some (.iadd, 1) := by decide +kernel
theorem mc199_1438 : mr_C 199 1438 = some (.iaload, 1) := by decide +kernel
theorem mc199_1439 : mr_C 199 1439 = some (.aload_n 0, 1) := by decide +kernel
theorem mc199_1440 : mr_C 199 1440 = some (.iload 4, 2) := by decide +kernel
theorem mc199_1442 : mr_C 199 1442 = some (.iconst 2, 1) := by decide +kernel
theorem mc199_1443 : mr_C 199 1443 = some (.iadd, 1) := by decide +kernel
theorem mc199_1444 : mr_C 199 1444 = some (.iaload, 1) := by decide +kernel
theorem mc199_1445 : mr_C 199 1445 = some (.aload_n 0, 1) := by decide +kernel
theorem mc199_1446 : mr_C 199 1446 = some (.iload 4, 2) := by decide +kernel
theorem mc199_1448 : mr_C 199 1448 = some (.iconst 3, 1) := by decide +kernel
theorem mc199_1449 : mr_C 199 1449 = some (.iadd, 1) := by decide +kernel
theorem mc199_1450 : mr_C 199 1450 = some (.iaload, 1) := by decide +kernel
theorem mc199_1451 : mr_C 199 1451 = some (.invokevirtual 150, 3) := by decide +kernel
theorem mc199_1454 : mr_C 199 1454 = some (.istore 6, 2) := by decide +kernel
theorem mc199_1456 : mr_C 199 1456 = some (.aload_n 2, 1) := by decide +kernel
theorem mc199_1457 : mr_C 199 1457 = some (.invokevirtual 97, 3) := by decide +kernel
theorem mc199_1460 : mr_C 199 1460 = some (.iload 5, 2) := by decide +kernel
theorem mc199_1462 : mr_C 199 1462 = some (.if_icmp .eq (5), 3) := by decide +kernel
theorem mc199_1465 : mr_C 199 1465 = some (.iconst 0, 1) := by decide +kernel
theorem mc199_1466 : mr_C 199 1466 = some (.ireturn, 1) := by decide +kernel
theorem mc199_1467 : mr_C 199 1467 = some (.iload 5, 2) := by decide +kernel
theorem mc199_1469 : mr_C 199 1469 = some (.ifCond .ne (15), 3) := by decide +kernel
theorem mc199_1472 : mr_C 199 1472 = some (.aload_n 3, 1) := by decide +kernel
theorem mc199_1473 : mr_C 199 1473 = some (.iconst 0, 1) := by decide +kernel
theorem mc199_1474 : mr_C 199 1474 = some (.laload, 1) := by decide +kernel
theorem mc199_1475 : mr_C 199 1475 = some (.iload 6, 2) := by decide +kernel
theorem mc199_1477 : mr_C 199 1477 = some (.i2l, 1) := by decide +kernel
theorem mc199_1478 : mr_C 199 1478 = some (.lcmp, 1) := by decide +kernel
theorem mc199_1479 : mr_C 199 1479 = some (.ifCond .eq (5), 3) := by decide +kernel
theorem mc199_1482 : mr_C 199 1482 = some (.iconst 0, 1) := by decide +kernel
theorem mc199_1483 : mr_C 199 1483 = some (.ireturn, 1) := by decide +kernel
theorem mc199_1484 : mr_C 199 1484 = some (.goto 430, 3) := by decide +kernel
theorem mc199_1487 : mr_C 199 1487 = some (.aload_n 1, 1) := by decide +kernel
theorem mc199_1488 : mr_C 199 1488 = some (.aload_n 0, 1) := by decide +kernel
theorem mc199_1489 : mr_C 199 1489 = some (.iload 4, 2) := by decide +kernel
theorem mc199_1491 : mr_C 199 1491 = some (.iconst 1, 1) := by decide +kernel
theorem mc199_1492 : mr_C 199 1492 = some (.iadd, 1) := by decide +kernel
theorem mc199_1493 : mr_C 199 1493 = some (.iaload, 1) := by decide +kernel
theorem mc199_1494 : mr_C 199 1494 = some (.aload_n 0, 1) := by decide +kernel
theorem mc199_1495 : mr_C 199 1495 = some (.iload 4, 2) := by decide +kernel
theorem mc199_1497 : mr_C 199 1497 = some (.iconst 2, 1) := by decide +kernel
theorem mc199_1498 : mr_C 199 1498 = some (.iadd, 1) := by decide +kernel
theorem mc199_1499 : mr_C 199 1499 = some (.iaload, 1) := by decide +kernel
theorem mc199_1500 : mr_C 199 1500 = some (.aload_n 0, 1) := by decide +kernel
theorem mc199_1501 : mr_C 199 1501 = some (.iload 4, 2) := by decide +kernel
theorem mc199_1503 : mr_C 199 1503 = some (.iconst 3, 1) := by decide +kernel
theorem mc199_1504 : mr_C 199 1504 = some (.iadd, 1) := by decide +kernel
theorem mc199_1505 : mr_C 199 1505 = some (.iaload, 1) := by decide +kernel
theorem mc199_1506 : mr_C 199 1506 = some (.aload_n 3, 1) := by decide +kernel
theorem mc199_1507 : mr_C 199 1507 = some (.invokestatic 151, 3) := by decide +kernel
theorem mc199_1510 : mr_C 199 1510 = some (.istore 5, 2) := by decide +kernel
theorem mc199_1512 : mr_C 199 1512 = some (.aload_n 2, 1) := by decide +kernel
theorem mc199_1513 : mr_C 199 1513 = some (.aload_n 0, 1) := by decide +kernel
theorem mc199_1514 : mr_C 199 1514 = some (.iload 4, 2) := by decide +kernel
theorem mc199_1516 : mr_C 199 1516 = some (.iconst 1, 1) := by decide +kernel
theorem mc199_1517 : mr_C 199 1517 = some (.iadd, 1) := by decide +kernel
theorem mc199_1518 : mr_C 199 1518 = some (.iaload, 1) := by decide +kernel
theorem mc199_1519 : mr_C 199 1519 = some (.aload_n 0, 1) := by decide +kernel
theorem mc199_1520 : mr_C 199 1520 = some (.iload 4, 2) := by decide +kernel
theorem mc199_1522 : mr_C 199 1522 = some (.iconst 2, 1) := by decide +kernel
theorem mc199_1523 : mr_C 199 1523 = some (.iadd, 1) := by decide +kernel
theorem mc199_1524 : mr_C 199 1524 = some (.iaload, 1) := by decide +kernel
theorem mc199_1525 : mr_C 199 1525 = some (.aload_n 0, 1) := by decide +kernel
theorem mc199_1526 : mr_C 199 1526 = some (.iload 4, 2) := by decide +kernel
theorem mc199_1528 : mr_C 199 1528 = some (.iconst 3, 1) := by decide +kernel
theorem mc199_1529 : mr_C 199 1529 = some (.iadd, 1) := by decide +kernel
theorem mc199_1530 : mr_C 199 1530 = some (.iaload, 1) := by decide +kernel
theorem mc199_1531 : mr_C 199 1531 = some (.invokevirtual 153, 3) := by decide +kernel
theorem mc199_1534 : mr_C 199 1534 = some (.istore 6, 2) := by decide +kernel
theorem mc199_1536 : mr_C 199 1536 = some (.aload_n 2, 1) := by decide +kernel
theorem mc199_1537 : mr_C 199 1537 = some (.invokevirtual 97, 3) := by decide +kernel
theorem mc199_1540 : mr_C 199 1540 = some (.iload 5, 2) := by decide +kernel
theorem mc199_1542 : mr_C 199 1542 = some (.if_icmp .eq (5), 3) := by decide +kernel
theorem mc199_1545 : mr_C 199 1545 = some (.iconst 0, 1) := by decide +kernel
theorem mc199_1546 : mr_C 199 1546 = some (.ireturn, 1) := by decide +kernel
theorem mc199_1547 : mr_C 199 1547 = some (.iload 5, 2) := by decide +kernel
theorem mc199_1549 : mr_C 199 1549 = some (.ifCond .ne (15), 3) := by decide +kernel
theorem mc199_1552 : mr_C 199 1552 = some (.aload_n 3, 1) := by decide +kernel
theorem mc199_1553 : mr_C 199 1553 = some (.iconst 0, 1) := by decide +kernel
theorem mc199_1554 : mr_C 199 1554 = some (.laload, 1) := by decide +kernel
theorem mc199_1555 : mr_C 199 1555 = some (.iload 6, 2) := by decide +kernel
theorem mc199_1557 : mr_C 199 1557 = some (.i2l, 1) := by decide +kernel
theorem mc199_1558 : mr_C 199 1558 = some (.lcmp, 1) := by decide +kernel
theorem mc199_1559 : mr_C 199 1559 = some (.ifCond .eq (5), 3) := by decide +kernel
theorem mc199_1562 : mr_C 199 1562 = some (.iconst 0, 1) := by decide +kernel
theorem mc199_1563 : mr_C 199 1563 = some (.ireturn, 1) := by decide +kernel
theorem mc199_1564 : mr_C 199 1564 = some (.goto 350, 3) := by decide +kernel
theorem mc199_1567 : mr_C 199 1567 = some (.aload_n 1, 1) := by decide +kernel
theorem mc199_1568 : mr_C 199 1568 = some (.aload_n 0, 1) := by decide +kernel
theorem mc199_1569 : mr_C 199 1569 = some (.iload 4, 2) := by decide +kernel
theorem mc199_1571 : mr_C 199 1571 = some (.iconst 1, 1) := by decide +kernel
theorem mc199_1572 : mr_C 199 1572 = some (.iadd, 1) := by decide +kernel
theorem mc199_1573 : mr_C 199 1573 = some (.iaload, 1) := by decide +kernel
theorem mc199_1574 : mr_C 199 1574 = some (.aload_n 0, 1) := by decide +kernel
theorem mc199_1575 : mr_C 199 1575 = some (.iload 4, 2) := by decide +kernel
theorem mc199_1577 : mr_C 199 1577 = some (.iconst 2, 1) := by decide +kernel
theorem mc199_1578 : mr_C 199 1578 = some (.iadd, 1) := by decide +kernel
theorem mc199_1579 : mr_C 199 1579 = some (.iaload, 1) := by decide +kernel
theorem mc199_1580 : mr_C 199 1580 = some (.aload_n 0, 1) := by decide +kernel
theorem mc199_1581 : mr_C 199 1581 = some (.iload 4, 2) := by decide +kernel
theorem mc199_1583 : mr_C 199 1583 = some (.iconst 3, 1) := by decide +kernel
theorem mc199_1584 : mr_C 199 1584 = some (.iadd, 1) := by decide +kernel
theorem mc199_1585 : mr_C 199 1585 = some (.iaload, 1) := by decide +kernel
theorem mc199_1586 : mr_C 199 1586 = some (.aload_n 3, 1) := by decide +kernel
theorem mc199_1587 : mr_C 199 1587 = some (.invokestatic 154, 3) := by decide +kernel
theorem mc199_1590 : mr_C 199 1590 = some (.istore 5, 2) := by decide +kernel
theorem mc199_1592 : mr_C 199 1592 = some (.aload_n 2, 1) := by decide +kernel
theorem mc199_1593 : mr_C 199 1593 = some (.aload_n 0, 1) := by decide +kernel
theorem mc199_1594 : mr_C 199 1594 = some (.iload 4, 2) := by decide +kernel
theorem mc199_1596 : mr_C 199 1596 = some (.iconst 1, 1) := by decide +kernel
theorem mc199_1597 : mr_C 199 1597 = some (.iadd, 1) := by decide +kernel
theorem mc199_1598 : mr_C 199 1598 = some (.iaload, 1) := by decide +kernel
theorem mc199_1599 : mr_C 199 1599 = some (.aload_n 0, 1) := by decide +kernel
theorem mc199_1600 : mr_C 199 1600 = some (.iload 4, 2) := by decide +kernel
theorem mc199_1602 : mr_C 199 1602 = some (.iconst 2, 1) := by decide +kernel
theorem mc199_1603 : mr_C 199 1603 = some (.iadd, 1) := by decide +kernel
theorem mc199_1604 : mr_C 199 1604 = some (.iaload, 1) := by decide +kernel
theorem mc199_1605 : mr_C 199 1605 = some (.aload_n 0, 1) := by decide +kernel
theorem mc199_1606 : mr_C 199 1606 = some (.iload 4, 2) := by decide +kernel
theorem mc199_1608 : mr_C 199 1608 = some (.iconst 3, 1) := by decide +kernel
theorem mc199_1609 : mr_C 199 1609 = some (.iadd, 1) := by decide +kernel
theorem mc199_1610 : mr_C 199 1610 = some (.iaload, 1) := by decide +kernel
theorem mc199_1611 : mr_C 199 1611 = some (.invokevirtual 156, 3) := by decide +kernel
theorem mc199_1614 : mr_C 199 1614 = some (.istore 6, 2) := by decide +kernel
theorem mc199_1616 : mr_C 199 1616 = some (.aload_n 2, 1) := by decide +kernel
theorem mc199_1617 : mr_C 199 1617 = some (.invokevirtual 97, 3) := by decide +kernel
theorem mc199_1620 : mr_C 199 1620 = some (.iload 5, 2) := by decide +kernel
theorem mc199_1622 : mr_C 199 1622 = some (.if_icmp .eq (5), 3) := by decide +kernel
theorem mc199_1625 : mr_C 199 1625 = some (.iconst 0, 1) := by decide +kernel
theorem mc199_1626 : mr_C 199 1626 = some (.ireturn, 1) := by decide +kernel
theorem mc199_1627 : mr_C 199 1627 = some (.iload 5, 2) := by decide +kernel
theorem mc199_1629 : mr_C 199 1629 = some (.ifCond .ne (15), 3) := by decide +kernel
theorem mc199_1632 : mr_C 199 1632 = some (.aload_n 3, 1) := by decide +kernel
theorem mc199_1633 : mr_C 199 1633 = some (.iconst 0, 1) := by decide +kernel
theorem mc199_1634 : mr_C 199 1634 = some (.laload, 1) := by decide +kernel
theorem mc199_1635 : mr_C 199 1635 = some (.iload 6, 2) := by decide +kernel
theorem mc199_1637 : mr_C 199 1637 = some (.i2l, 1) := by decide +kernel
theorem mc199_1638 : mr_C 199 1638 = some (.lcmp, 1) := by decide +kernel
theorem mc199_1639 : mr_C 199 1639 = some (.ifCond .eq (5), 3) := by decide +kernel
theorem mc199_1642 : mr_C 199 1642 = some (.iconst 0, 1) := by decide +kernel
theorem mc199_1643 : mr_C 199 1643 = some (.ireturn, 1) := by decide +kernel
theorem mc199_1644 : mr_C 199 1644 = some (.goto 270, 3) := by decide +kernel
theorem mc199_1647 : mr_C 199 1647 = some (.aload_n 1, 1) := by decide +kernel
theorem mc199_1648 : mr_C 199 1648 = some (.aload_n 0, 1) := by decide +kernel
theorem mc199_1649 : mr_C 199 1649 = some (.iload 4, 2) := by decide +kernel
theorem mc199_1651 : mr_C 199 1651 = some (.iconst 1, 1) := by decide +kernel
theorem mc199_1652 : mr_C 199 1652 = some (.iadd, 1) := by decide +kernel
theorem mc199_1653 : mr_C 199 1653 = some (.iaload, 1) := by decide +kernel
theorem mc199_1654 : mr_C 199 1654 = some (.aload_n 0, 1) := by decide +kernel
theorem mc199_1655 : mr_C 199 1655 = some (.iload 4, 2) := by decide +kernel
theorem mc199_1657 : mr_C 199 1657 = some (.iconst 2, 1) := by decide +kernel
theorem mc199_1658 : mr_C 199 1658 = some (.iadd, 1) := by decide +kernel
theorem mc199_1659 : mr_C 199 1659 = some (.iaload, 1) := by decide +kernel
theorem mc199_1660 : mr_C 199 1660 = some (.aload_n 3, 1) := by decide +kernel
theorem mc199_1661 : mr_C 199 1661 = some (.invokestatic 157, 3) := by decide +kernel
theorem mc199_1664 : mr_C 199 1664 = some (.istore 5, 2) := by decide +kernel
theorem mc199_1666 : mr_C 199 1666 = some (.aload_n 2, 1) := by decide +kernel
theorem mc199_1667 : mr_C 199 1667 = some (.aload_n 0, 1) := by decide +kernel
theorem mc199_1668 : mr_C 199 1668 = some (.iload 4, 2) := by decide +kernel
theorem mc199_1670 : mr_C 199 1670 = some (.iconst 1, 1) := by decide +kernel
theorem mc199_1671 : mr_C 199 1671 = some (.iadd, 1) := by decide +kernel
theorem mc199_1672 : mr_C 199 1672 = some (.iaload, 1) := by decide +kernel
theorem mc199_1673 : mr_C 199 1673 = some (.aload_n 0, 1) := by decide +kernel
theorem mc199_1674 : mr_C 199 1674 = some (.iload 4, 2) := by decide +kernel
theorem mc199_1676 : mr_C 199 1676 = some (.iconst 2, 1) := by decide +kernel
theorem mc199_1677 : mr_C 199 1677 = some (.iadd, 1) := by decide +kernel
theorem mc199_1678 : mr_C 199 1678 = some (.iaload, 1) := by decide +kernel
theorem mc199_1679 : mr_C 199 1679 = some (.invokevirtual 159, 3) := by decide +kernel
theorem mc199_1682 : mr_C 199 1682 = some (.istore 6, 2) := by decide +kernel
theorem mc199_1684 : mr_C 199 1684 = some (.aload_n 2, 1) := by decide +kernel
theorem mc199_1685 : mr_C 199 1685 = some (.invokevirtual 97, 3) := by decide +kernel
theorem mc199_1688 : mr_C 199 1688 = some (.iload 5, 2) := by decide +kernel
theorem mc199_1690 : mr_C 199 1690 = some (.if_icmp .eq (5), 3) := by decide +kernel
theorem mc199_1693 : mr_C 199 1693 = some (.iconst 0, 1) := by decide +kernel
theorem mc199_1694 : mr_C 199 1694 = some (.ireturn, 1) := by decide +kernel
theorem mc199_1695 : mr_C 199 1695 = some (.iload 5, 2) := by decide +kernel
theorem mc199_1697 : mr_C 199 1697 = some (.ifCond .ne (15), 3) := by decide +kernel
theorem mc199_1700 : mr_C 199 1700 = some (.aload_n 3, 1) := by decide +kernel
theorem mc199_1701 : mr_C 199 1701 = some (.iconst 0, 1) := by decide +kernel
theorem mc199_1702 : mr_C 199 1702 = some (.laload, 1) := by decide +kernel
theorem mc199_1703 : mr_C 199 1703 = some (.iload 6, 2) := by decide +kernel
theorem mc199_1705 : mr_C 199 1705 = some (.i2l, 1) := by decide +kernel
theorem mc199_1706 : mr_C 199 1706 = some (.lcmp, 1) := by decide +kernel
theorem mc199_1707 : mr_C 199 1707 = some (.ifCond .eq (5), 3) := by decide +kernel
theorem mc199_1710 : mr_C 199 1710 = some (.iconst 0, 1) := by decide +kernel
theorem mc199_1711 : mr_C 199 1711 = some (.ireturn, 1) := by decide +kernel
theorem mc199_1712 : mr_C 199 1712 = some (.goto 202, 3) := by decide +kernel
theorem mc199_1715 : mr_C 199 1715 = some (.aload_n 1, 1) := by decide +kernel
theorem mc199_1716 : mr_C 199 1716 = some (.aload_n 0, 1) := by decide +kernel
theorem mc199_1717 : mr_C 199 1717 = some (.iload 4, 2) := by decide +kernel
theorem mc199_1719 : mr_C 199 1719 = some (.iconst 1, 1) := by decide +kernel
theorem mc199_1720 : mr_C 199 1720 = some (.iadd, 1) := by decide +kernel
theorem mc199_1721 : mr_C 199 1721 = some (.iaload, 1) := by decide +kernel
theorem mc199_1722 : mr_C 199 1722 = some (.aload_n 0, 1) := by decide +kernel
theorem mc199_1723 : mr_C 199 1723 = some (.iload 4, 2) := by decide +kernel
theorem mc199_1725 : mr_C 199 1725 = some (.iconst 2, 1) := by decide +kernel
theorem mc199_1726 : mr_C 199 1726 = some (.iadd, 1) := by decide +kernel
theorem mc199_1727 : mr_C 199 1727 = some (.iaload, 1) := by decide +kernel
theorem mc199_1728 : mr_C 199 1728 = some (.aload_n 3, 1) := by decide +kernel
theorem mc199_1729 : mr_C 199 1729 = some (.invokestatic 160, 3) := by decide +kernel
theorem mc199_1732 : mr_C 199 1732 = some (.istore 5, 2) := by decide +kernel
theorem mc199_1734 : mr_C 199 1734 = some (.aload_n 2, 1) := by decide +kernel
theorem mc199_1735 : mr_C 199 1735 = some (.aload_n 0, 1) := by decide +kernel
theorem mc199_1736 : mr_C 199 1736 = some (.iload 4, 2) := by decide +kernel
theorem mc199_1738 : mr_C 199 1738 = some (.iconst 1, 1) := by decide +kernel
theorem mc199_1739 : mr_C 199 1739 = some (.iadd, 1) := by decide +kernel
theorem mc199_1740 : mr_C 199 1740 = some (.iaload, 1) := by decide +kernel
theorem mc199_1741 : mr_C 199 1741 = some (.aload_n 0, 1) := by decide +kernel
theorem mc199_1742 : mr_C 199 1742 = some (.iload 4, 2) := by decide +kernel
theorem mc199_1744 : mr_C 199 1744 = some (.iconst 2, 1) := by decide +kernel
theorem mc199_1745 : mr_C 199 1745 = some (.iadd, 1) := by decide +kernel
theorem mc199_1746 : mr_C 199 1746 = some (.iaload, 1) := by decide +kernel
theorem mc199_1747 : mr_C 199 1747 = some (.invokevirtual 162, 3) := by decide +kernel
theorem mc199_1750 : mr_C 199 1750 = some (.istore 6, 2) := by decide +kernel
theorem mc199_1752 : mr_C 199 1752 = some (.aload_n 2, 1) := by decide +kernel
theorem mc199_1753 : mr_C 199 1753 = some (.invokevirtual 97, 3) := by decide +kernel
theorem mc199_1756 : mr_C 199 1756 = some (.iload 5, 2) := by decide +kernel
theorem mc199_1758 : mr_C 199 1758 = some (.if_icmp .eq (5), 3) := by decide +kernel
theorem mc199_1761 : mr_C 199 1761 = some (.iconst 0, 1) := by decide +kernel
theorem mc199_1762 : mr_C 199 1762 = some (.ireturn, 1) := by decide +kernel
theorem mc199_1763 : mr_C 199 1763 = some (.iload 5, 2) := by decide +kernel
theorem mc199_1765 : mr_C 199 1765 = some (.ifCond .ne (22), 3) := by decide +kernel
theorem mc199_1768 : mr_C 199 1768 = some (.aload_n 3, 1) := by decide +kernel
theorem mc199_1769 : mr_C 199 1769 = some (.iconst 0, 1) := by decide +kernel
theorem mc199_1770 : mr_C 199 1770 = some (.laload, 1) := by decide +kernel
theorem mc199_1771 : mr_C 199 1771 = some (.iload 6, 2) := by decide +kernel
theorem mc199_1773 : mr_C 199 1773 = some (.ifCond .eq (7), 3) := by decide +kernel
theorem mc199_1776 : mr_C 199 1776 = some (.lconst 1, 1) := by decide +kernel
theorem mc199_1777 : mr_C 199 1777 = some (.goto 4, 3) := by decide +kernel
theorem mc199_1780 : mr_C 199 1780 = some (.lconst 0, 1) := by decide +kernel
theorem mc199_1781 : mr_C 199 1781 = some (.lcmp, 1) := by decide +kernel
theorem mc199_1782 : mr_C 199 1782 = some (.ifCond .eq (5), 3) := by decide +kernel
theorem mc199_1785 : mr_C 199 1785 = some (.iconst 0, 1) := by decide +kernel
theorem mc199_1786 : mr_C 199 1786 = some (.ireturn, 1) := by decide +kernel
theorem mc199_1787 : mr_C 199 1787 = some (.goto 127, 3) := by decide +kernel
theorem mc199_1790 : mr_C 199 1790 = some (.aload_n 1, 1) := by decide +kernel
theorem mc199_1791 : mr_C 199 1791 = some (.aload_n 0, 1) := by decide +kernel
theorem mc199_1792 : mr_C 199 1792 = some (.iload 4, 2) := by decide +kernel
theorem mc199_1794 : mr_C 199 1794 = some (.iconst 1, 1) := by decide +kernel
theorem mc199_1795 : mr_C 199 1795 = some (.iadd, 1) := by decide +kernel
theorem mc199_1796 : mr_C 199 1796 = some (.iaload, 1) := by decide +kernel
theorem mc199_1797 : mr_C 199 1797 = some (.aload_n 0, 1) := by decide +kernel
theorem mc199_1798 : mr_C 199 1798 = some (.iload 4, 2) := by decide +kernel
theorem mc199_1800 : mr_C 199 1800 = some (.iconst 2, 1) := by decide +kernel
theorem mc199_1801 : mr_C 199 1801 = some (.iadd, 1) := by decide +kernel
theorem mc199_1802 : mr_C 199 1802 = some (.iaload, 1) := by decide +kernel
theorem mc199_1803 : mr_C 199 1803 = some (.aload_n 3, 1) := by decide +kernel
theorem mc199_1804 : mr_C 199 1804 = some (.invokestatic 163, 3) := by decide +kernel
theorem mc199_1807 : mr_C 199 1807 = some (.istore 5, 2) := by decide +kernel
theorem mc199_1809 : mr_C 199 1809 = some (.aload_n 2, 1) := by decide +kernel
theorem mc199_1810 : mr_C 199 1810 = some (.aload_n 0, 1) := by decide +kernel
theorem mc199_1811 : mr_C 199 1811 = some (.iload 4, 2) := by decide +kernel
theorem mc199_1813 : mr_C 199 1813 = some (.iconst 1, 1) := by decide +kernel
theorem mc199_1814 : mr_C 199 1814 = some (.iadd, 1) := by decide +kernel
theorem mc199_1815 : mr_C 199 1815 = some (.iaload, 1) := by decide +kernel
theorem mc199_1816 : mr_C 199 1816 = some (.aload_n 0, 1) := by decide +kernel
theorem mc199_1817 : mr_C 199 1817 = some (.iload 4, 2) := by decide +kernel
theorem mc199_1819 : mr_C 199 1819 = some (.iconst 2, 1) := by decide +kernel
theorem mc199_1820 : mr_C 199 1820 = some (.iadd, 1) := by decide +kernel
theorem mc199_1821 : mr_C 199 1821 = some (.iaload, 1) := by decide +kernel
theorem mc199_1822 : mr_C 199 1822 = some (.invokevirtual 165, 3) := by decide +kernel
theorem mc199_1825 : mr_C 199 1825 = some (.istore 6, 2) := by decide +kernel
theorem mc199_1827 : mr_C 199 1827 = some (.aload_n 2, 1) := by decide +kernel
theorem mc199_1828 : mr_C 199 1828 = some (.invokevirtual 97, 3) := by decide +kernel
theorem mc199_1831 : mr_C 199 1831 = some (.iload 5, 2) := by decide +kernel
theorem mc199_1833 : mr_C 199 1833 = some (.if_icmp .eq (5), 3) := by decide +kernel
theorem mc199_1836 : mr_C 199 1836 = some (.iconst 0, 1) := by decide +kernel
theorem mc199_1837 : mr_C 199 1837 = some (.ireturn, 1) := by decide +kernel
theorem mc199_1838 : mr_C 199 1838 = some (.iload 5, 2) := by decide +kernel
theorem mc199_1840 : mr_C 199 1840 = some (.ifCond .ne (15), 3) := by decide +kernel
theorem mc199_1843 : mr_C 199 1843 = some (.aload_n 3, 1) := by decide +kernel
theorem mc199_1844 : mr_C 199 1844 = some (.iconst 0, 1) := by decide +kernel
theorem mc199_1845 : mr_C 199 1845 = some (.laload, 1) := by decide +kernel
theorem mc199_1846 : mr_C 199 1846 = some (.iload 6, 2) := by decide +kernel
theorem mc199_1848 : mr_C 199 1848 = some (.i2l, 1) := by decide +kernel
theorem mc199_1849 : mr_C 199 1849 = some (.lcmp, 1) := by decide +kernel
theorem mc199_1850 : mr_C 199 1850 = some (.ifCond .eq (5), 3) := by decide +kernel
theorem mc199_1853 : mr_C 199 1853 = some (.iconst 0, 1) := by decide +kernel
theorem mc199_1854 : mr_C 199 1854 = some (.ireturn, 1) := by decide +kernel
theorem mc199_1855 : mr_C 199 1855 = some (.goto 59, 3) := by decide +kernel
theorem mc199_1858 : mr_C 199 1858 = some (.aload_n 1, 1) := by decide +kernel
theorem mc199_1859 : mr_C 199 1859 = some (.aload_n 0, 1) := by decide +kernel
theorem mc199_1860 : mr_C 199 1860 = some (.iload 4, 2) := by decide +kernel
theorem mc199_1862 : mr_C 199 1862 = some (.iconst 1, 1) := by decide +kernel
theorem mc199_1863 : mr_C 199 1863 = some (.iadd, 1) := by decide +kernel
theorem mc199_1864 : mr_C 199 1864 = some (.iaload, 1) := by decide +kernel
theorem mc199_1865 : mr_C 199 1865 = some (.aload_n 3, 1) := by decide +kernel
theorem mc199_1866 : mr_C 199 1866 = some (.invokestatic 166, 3) := by decide +kernel
theorem mc199_1869 : mr_C 199 1869 = some (.istore 5, 2) := by decide +kernel
theorem mc199_1871 : mr_C 199 1871 = some (.aload_n 2, 1) := by decide +kernel
theorem mc199_1872 : mr_C 199 1872 = some (.aload_n 0, 1) := by decide +kernel
theorem mc199_1873 : mr_C 199 1873 = some (.iload 4, 2) := by decide +kernel
theorem mc199_1875 : mr_C 199 1875 = some (.iconst 1, 1) := by decide +kernel
theorem mc199_1876 : mr_C 199 1876 = some (.iadd, 1) := by decide +kernel
theorem mc199_1877 : mr_C 199 1877 = some (.iaload, 1) := by decide +kernel
theorem mc199_1878 : mr_C 199 1878 = some (.invokevirtual 168, 3) := by decide +kernel
theorem mc199_1881 : mr_C 199 1881 = some (.istore 6, 2) := by decide +kernel
theorem mc199_1883 : mr_C 199 1883 = some (.aload_n 2, 1) := by decide +kernel
theorem mc199_1884 : mr_C 199 1884 = some (.invokevirtual 97, 3) := by decide +kernel
theorem mc199_1887 : mr_C 199 1887 = some (.iload 5, 2) := by decide +kernel
theorem mc199_1889 : mr_C 199 1889 = some (.if_icmp .eq (5), 3) := by decide +kernel
theorem mc199_1892 : mr_C 199 1892 = some (.iconst 0, 1) := by decide +kernel
theorem mc199_1893 : mr_C 199 1893 = some (.ireturn, 1) := by decide +kernel
theorem mc199_1894 : mr_C 199 1894 = some (.iload 5, 2) := by decide +kernel
theorem mc199_1896 : mr_C 199 1896 = some (.ifCond .ne (15), 3) := by decide +kernel
theorem mc199_1899 : mr_C 199 1899 = some (.aload_n 3, 1) := by decide +kernel
theorem mc199_1900 : mr_C 199 1900 = some (.iconst 0, 1) := by decide +kernel
theorem mc199_1901 : mr_C 199 1901 = some (.laload, 1) := by decide +kernel
theorem mc199_1902 : mr_C 199 1902 = some (.iload 6, 2) := by decide +kernel
theorem mc199_1904 : mr_C 199 1904 = some (.i2l, 1) := by decide +kernel
theorem mc199_1905 : mr_C 199 1905 = some (.lcmp, 1) := by decide +kernel
theorem mc199_1906 : mr_C 199 1906 = some (.ifCond .eq (5), 3) := by decide +kernel
theorem mc199_1909 : mr_C 199 1909 = some (.iconst 0, 1) := by decide +kernel
theorem mc199_1910 : mr_C 199 1910 = some (.ireturn, 1) := by decide +kernel
theorem mc199_1911 : mr_C 199 1911 = some (.goto 3, 3) := by decide +kernel
theorem mc199_1914 : mr_C 199 1914 = some (.iinc 4 (7), 3) := by decide +kernel
theorem mc199_1917 : mr_C 199 1917 = some (.goto (-1894), 3) := by decide +kernel
theorem mc199_1920 : mr_C 199 1920 = some (.iconst 1, 1) := by decide +kernel
theorem mc199_1921 : mr_C 199 1921 = some (.ireturn, 1) := by decide +kernel
theorem vc199_23 {sc : Nat × (Int → Int)} {Q : mm_R → mm_M → Prop} {M : mm_M} {l4 : Int} {l5 : mm_V} {l6 : mm_V} (ho : mr_ok M) (hL : sc.1 < 2147483648) (hg_l4 : mr_rg l4)
    (h : mr_rg ((sc.1 : Int) - 7) ∧ ((((sc.1 : Int) - 7) < l4 → Q (.inl (some (mm_i 1))) M) ∧ (¬ ((sc.1 : Int) - 7) < l4 → 0 ≤ l4 ∧ (l4 < sc.1 ∧ (mr_rg ((sc.2 l4) % 32) ∧ ((((sc.2 l4) % 32) = 0 → 0 ≤ (l4 + 1) ∧ ((l4 + 1) < sc.1 ∧ (0 ≤ (l4 + 2) ∧ ((l4 + 2) < sc.1 ∧ (0 ≤ (l4 + 3) ∧ ((l4 + 3) < sc.1 ∧ (0 ≤ (l4 + 4) ∧ ((l4 + 4) < sc.1 ∧ (0 ≤ (l4 + 5) ∧ ((l4 + 5) < sc.1 ∧ (en_CI sc 32 [mm_r 0, mm_i (sc.2 (l4 + 1)), mm_i (sc.2 (l4 + 2)), mm_i (sc.2 (l4 + 3)), mm_i (sc.2 (l4 + 4)), mm_i (sc.2 (l4 + 5)), mm_u] M (fun x15 M16 => mr_ok M16 → 0 ≤ (l4 + 1) ∧ ((l4 + 1) < sc.1 ∧ (0 ≤ (l4 + 2) ∧ ((l4 + 2) < sc.1 ∧ (0 ≤ (l4 + 3) ∧ ((l4 + 3) < sc.1 ∧ (0 ≤ (l4 + 4) ∧ ((l4 + 4) < sc.1 ∧ (0 ≤ (l4 + 5) ∧ ((l4 + 5) < sc.1 ∧ (en_CV sc 40 [mm_r 72, mm_i (sc.2 (l4 + 1)), mm_i (sc.2 (l4 + 2)), mm_i (sc.2 (l4 + 3)), mm_i (sc.2 (l4 + 4)), mm_i (sc.2 (l4 + 5)), mm_u, mm_u] M16 (fun M29 => mr_ok M29 → en_CI sc 41 [mm_r 72] M29 (fun x31 M32 => mr_ok M32 → mr_rg x31 ∧ (mr_rg x15 ∧ ((x31 = x15 → en_R sc 199 23 [mm_r mm_scr, mm_r 0, mm_r 72, mm_r 98, mm_i (l4 + 7), mm_i x15, l6] [] M32 Q) ∧ (¬ x31 = x15 → Q (.inl (some (mm_i 0))) M32)))) (fun e M9 => Q (.inr e) M9)) (fun e M9 => Q (.inr e) M9)))))))))))) (fun e M9 => Q (.inr e) M9)))))))))))) ∧ (((sc.2 l4) % 32) = 1 → 0 ≤ (l4 + 1) ∧ ((l4 + 1) < sc.1 ∧ (en_CI sc 44 [mm_r 0, mm_i (sc.2 (l4 + 1)), mm_r 98, mm_u] M (fun x38 M39 => mr_ok M39 → 0 ≤ (l4 + 1) ∧ ((l4 + 1) < sc.1 ∧ (en_CI sc 47 [mm_r 72, mm_i (sc.2 (l4 + 1)), mm_u] M39 (fun x43 M44 => mr_ok M44 → en_CI sc 41 [mm_r 72] M44 (fun x46 M47 => mr_ok M47 → mr_rg x46 ∧ (mr_rg x38 ∧ ((x46 = x38 → (x38 ≠ 0 → en_R sc 199 23 [mm_r mm_scr, mm_r 0, mm_r 72, mm_r 98, mm_i (l4 + 7), mm_i x38, mm_i x43] [] M47 Q) ∧ (¬ (x38 ≠ 0) → mr_rg x43 ∧ (mr_rj x43 ∧ (((mr_cmp (M47.1 98 0) x43) = 0 → en_R sc 199 23 [mm_r mm_scr, mm_r 0, mm_r 72, mm_r 98, mm_i (l4 + 7), mm_i x38, mm_i x43] [] M47 Q) ∧ (¬ (mr_cmp (M47.1 98 0) x43) = 0 → Q (.inl (some (mm_i 0))) M47))))) ∧ (¬ x46 = x38 → Q (.inl (some (mm_i 0))) M47)))) (fun e M9 => Q (.inr e) M9)) (fun e M9 => Q (.inr e) M9)))) (fun e M9 => Q (.inr e) M9)))) ∧ (((sc.2 l4) % 32) = 2 → 0 ≤ (l4 + 1) ∧ ((l4 + 1) < sc.1 ∧ (0 ≤ (l4 + 2) ∧ ((l4 + 2) < sc.1 ∧ (0 ≤ (l4 + 3) ∧ ((l4 + 3) < sc.1 ∧ (0 ≤ (l4 + 4) ∧ ((l4 + 4) < sc.1 ∧ (en_CI sc 57 [mm_r 0, mm_i (sc.2 (l4 + 1)), mm_i (sc.2 (l4 + 2)), mm_i (sc.2 (l4 + 3)), mm_i (sc.2 (l4 + 4)), mm_r 98, mm_u] M (fun x61 M62 => mr_ok M62 → 0 ≤ (l4 + 1) ∧ ((l4 + 1) < sc.1 ∧ (0 ≤ (l4 + 2) ∧ ((l4 + 2) < sc.1 ∧ (0 ≤ (l4 + 3) ∧ ((l4 + 3) < sc.1 ∧ (0 ≤ (l4 + 4) ∧ ((l4 + 4) < sc.1 ∧ (en_CI sc 66 [mm_r 72, mm_i (sc.2 (l4 + 1)), mm_i (sc.2 (l4 + 2)), mm_i (sc.2 (l4 + 3)), mm_i (sc.2 (l4 + 4)), mm_u] M62 (fun x72 M73 => mr_ok M73 → en_CI sc 41 [mm_r 72] M73 (fun x75 M76 => mr_ok M76 → mr_rg x75 ∧ (mr_rg x61 ∧ ((x75 = x61 → (x61 ≠ 0 → en_R sc 199 23 [mm_r mm_scr, mm_r 0, mm_r 72, mm_r 98, mm_i (l4 + 7), mm_i x61, mm_i x72] [] M76 Q) ∧ (¬ (x61 ≠ 0) → mr_rg x72 ∧ (mr_rj x72 ∧ (((mr_cmp (M76.1 98 0) x72) = 0 → en_R sc 199 23 [mm_r mm_scr, mm_r 0, mm_r 72, mm_r 98, mm_i (l4 + 7), mm_i x61, mm_i x72] [] M76 Q) ∧ (¬ (mr_cmp (M76.1 98 0) x72) = 0 → Q (.inl (some (mm_i 0))) M76))))) ∧ (¬ x75 = x61 → Q (.inl (some (mm_i 0))) M76)))) (fun e M9 => Q (.inr e) M9)) (fun e M9 => Q (.inr e) M9)))))))))) (fun e M9 => Q (.inr e) M9)))))))))) ∧ (((sc.2 l4) % 32) = 3 → 0 ≤ (l4 + 1) ∧ ((l4 + 1) < sc.1 ∧ (0 ≤ (l4 + 2) ∧ ((l4 + 2) < sc.1 ∧ (en_CI sc 69 [mm_r 0, mm_i (sc.2 (l4 + 1)), mm_i (sc.2 (l4 + 2)), mm_r 98, mm_u] M (fun x86 M87 => mr_ok M87 → 0 ≤ (l4 + 1) ∧ ((l4 + 1) < sc.1 ∧ (0 ≤ (l4 + 2) ∧ ((l4 + 2) < sc.1 ∧ (en_CI sc 71 [mm_r 72, mm_i (sc.2 (l4 + 1)), mm_i (sc.2 (l4 + 2)), mm_u] M87 (fun x93 M94 => mr_ok M94 → en_CI sc 41 [mm_r 72] M94 (fun x96 M97 => mr_ok M97 → mr_rg x96 ∧ (mr_rg x86 ∧ ((x96 = x86 → (x86 ≠ 0 → en_R sc 199 23 [mm_r mm_scr, mm_r 0, mm_r 72, mm_r 98, mm_i (l4 + 7), mm_i x86, mm_i x93] [] M97 Q) ∧ (¬ (x86 ≠ 0) → mr_rg x93 ∧ (mr_rj x93 ∧ (((mr_cmp (M97.1 98 0) x93) = 0 → en_R sc 199 23 [mm_r mm_scr, mm_r 0, mm_r 72, mm_r 98, mm_i (l4 + 7), mm_i x86, mm_i x93] [] M97 Q) ∧ (¬ (mr_cmp (M97.1 98 0) x93) = 0 → Q (.inl (some (mm_i 0))) M97))))) ∧ (¬ x96 = x86 → Q (.inl (some (mm_i 0))) M97)))) (fun e M9 => Q (.inr e) M9)) (fun e M9 => Q (.inr e) M9)))))) (fun e M9 => Q (.inr e) M9)))))) ∧ (((sc.2 l4) % 32) = 4 → 0 ≤ (l4 + 1) ∧ ((l4 + 1) < sc.1 ∧ (0 ≤ (l4 + 2) ∧ ((l4 + 2) < sc.1 ∧ (0 ≤ (l4 + 3) ∧ ((l4 + 3) < sc.1 ∧ (0 ≤ (l4 + 4) ∧ ((l4 + 4) < sc.1 ∧ (en_CI sc 73 [mm_r 0, mm_i (sc.2 (l4 + 1)), mm_i (sc.2 (l4 + 2)), mm_i (sc.2 (l4 + 3)), mm_i (sc.2 (l4 + 4)), mm_r 98, mm_u] M (fun x111 M112 => mr_ok M112 → 0 ≤ (l4 + 1) ∧ ((l4 + 1) < sc.1 ∧ (0 ≤ (l4 + 2) ∧ ((l4 + 2) < sc.1 ∧ (0 ≤ (l4 + 3) ∧ ((l4 + 3) < sc.1 ∧ (0 ≤ (l4 + 4) ∧ ((l4 + 4) < sc.1 ∧ (en_CI sc 75 [mm_r 72, mm_i (sc.2 (l4 + 1)), mm_i (sc.2 (l4 + 2)), mm_i (sc.2 (l4 + 3)), mm_i (sc.2 (l4 + 4)), mm_u, mm_u] M112 (fun x122 M123 => mr_ok M123 → en_CI sc 41 [mm_r 72] M123 (fun x125 M126 => mr_ok M126 → mr_rg x125 ∧ (mr_rg x111 ∧ ((x125 = x111 → (x111 ≠ 0 → en_R sc 199 23 [mm_r mm_scr, mm_r 0, mm_r 72, mm_r 98, mm_i (l4 + 7), mm_i x111, mm_i x122] [] M126 Q) ∧ (¬ (x111 ≠ 0) → mr_rg x122 ∧ (mr_rj x122 ∧ (((mr_cmp (M126.1 98 0) x122) = 0 → en_R sc 199 23 [mm_r mm_scr, mm_r 0, mm_r 72, mm_r 98, mm_i (l4 + 7), mm_i x111, mm_i x122] [] M126 Q) ∧ (¬ (mr_cmp (M126.1 98 0) x122) = 0 → Q (.inl (some (mm_i 0))) M126))))) ∧ (¬ x125 = x111 → Q (.inl (some (mm_i 0))) M126)))) (fun e M9 => Q (.inr e) M9)) (fun e M9 => Q (.inr e) M9)))))))))) (fun e M9 => Q (.inr e) M9)))))))))) ∧ (((sc.2 l4) % 32) = 5 → 0 ≤ (l4 + 1) ∧ ((l4 + 1) < sc.1 ∧ (0 ≤ (l4 + 2) ∧ ((l4 + 2) < sc.1 ∧ (0 ≤ (l4 + 3) ∧ ((l4 + 3) < sc.1 ∧ (en_CI sc 86 [mm_r 0, mm_i (sc.2 (l4 + 1)), mm_i (sc.2 (l4 + 2)), mm_i (sc.2 (l4 + 3)), mm_r 98, mm_u] M (fun x138 M139 => mr_ok M139 → 0 ≤ (l4 + 1) ∧ ((l4 + 1) < sc.1 ∧ (0 ≤ (l4 + 2) ∧ ((l4 + 2) < sc.1 ∧ (0 ≤ (l4 + 3) ∧ ((l4 + 3) < sc.1 ∧ (en_CI sc 89 [mm_r 72, mm_i (sc.2 (l4 + 1)), mm_i (sc.2 (l4 + 2)), mm_i (sc.2 (l4 + 3)), mm_u, mm_u, mm_u, mm_u] M139 (fun x147 M148 => mr_ok M148 → en_CI sc 41 [mm_r 72] M148 (fun x150 M151 => mr_ok M151 → mr_rg x150 ∧ (mr_rg x138 ∧ ((x150 = x138 → (x138 ≠ 0 → en_R sc 199 23 [mm_r mm_scr, mm_r 0, mm_r 72, mm_r 98, mm_i (l4 + 7), mm_i x138, mm_i x147] [] M151 Q) ∧ (¬ (x138 ≠ 0) → mr_rg x147 ∧ (mr_rj x147 ∧ (((mr_cmp (M151.1 98 0) x147) = 0 → en_R sc 199 23 [mm_r mm_scr, mm_r 0, mm_r 72, mm_r 98, mm_i (l4 + 7), mm_i x138, mm_i x147] [] M151 Q) ∧ (¬ (mr_cmp (M151.1 98 0) x147) = 0 → Q (.inl (some (mm_i 0))) M151))))) ∧ (¬ x150 = x138 → Q (.inl (some (mm_i 0))) M151)))) (fun e M9 => Q (.inr e) M9)) (fun e M9 => Q (.inr e) M9)))))))) (fun e M9 => Q (.inr e) M9)))))))) ∧ (((sc.2 l4) % 32) = 6 → 0 ≤ (l4 + 1) ∧ ((l4 + 1) < sc.1 ∧ (0 ≤ (l4 + 2) ∧ ((l4 + 2) < sc.1 ∧ (0 ≤ (l4 + 3) ∧ ((l4 + 3) < sc.1 ∧ (0 ≤ (l4 + 4) ∧ ((l4 + 4) < sc.1 ∧ (0 ≤ (l4 + 5) ∧ ((l4 + 5) < sc.1 ∧ (0 ≤ (l4 + 6) ∧ ((l4 + 6) < sc.1 ∧ (en_CI sc 92 [mm_r 0, mm_i (sc.2 (l4 + 1)), mm_i (sc.2 (l4 + 2)), mm_i (sc.2 (l4 + 3)), mm_i (sc.2 (l4 + 4)), mm_i (sc.2 (l4 + 5)), mm_i (sc.2 (l4 + 6)), mm_r 98, mm_u] M (fun x169 M170 => mr_ok M170 → 0 ≤ (l4 + 1) ∧ ((l4 + 1) < sc.1 ∧ (0 ≤ (l4 + 2) ∧ ((l4 + 2) < sc.1 ∧ (0 ≤ (l4 + 3) ∧ ((l4 + 3) < sc.1 ∧ (0 ≤ (l4 + 4) ∧ ((l4 + 4) < sc.1 ∧ (0 ≤ (l4 + 5) ∧ ((l4 + 5) < sc.1 ∧ (0 ≤ (l4 + 6) ∧ ((l4 + 6) < sc.1 ∧ (en_CI sc 95 [mm_r 72, mm_i (sc.2 (l4 + 1)), mm_i (sc.2 (l4 + 2)), mm_i (sc.2 (l4 + 3)), mm_i (sc.2 (l4 + 4)), mm_i (sc.2 (l4 + 5)), mm_i (sc.2 (l4 + 6)), mm_u, mm_u, mm_u] M170 (fun x184 M185 => mr_ok M185 → en_CI sc 41 [mm_r 72] M185 (fun x187 M188 => mr_ok M188 → mr_rg x187 ∧ (mr_rg x169 ∧ ((x187 = x169 → (x169 ≠ 0 → en_R sc 199 23 [mm_r mm_scr, mm_r 0, mm_r 72, mm_r 98, mm_i (l4 + 7), mm_i x169, mm_i x184] [] M188 Q) ∧ (¬ (x169 ≠ 0) → mr_rg x184 ∧ (mr_rj x184 ∧ (((mr_cmp (M188.1 98 0) x184) = 0 → en_R sc 199 23 [mm_r mm_scr, mm_r 0, mm_r 72, mm_r 98, mm_i (l4 + 7), mm_i x169, mm_i x184] [] M188 Q) ∧ (¬ (mr_cmp (M188.1 98 0) x184) = 0 → Q (.inl (some (mm_i 0))) M188))))) ∧ (¬ x187 = x169 → Q (.inl (some (mm_i 0))) M188)))) (fun e M9 => Q (.inr e) M9)) (fun e M9 => Q (.inr e) M9)))))))))))))) (fun e M9 => Q (.inr e) M9)))))))))))))) ∧ (((sc.2 l4) % 32) = 7 → 0 ≤ (l4 + 1) ∧ ((l4 + 1) < sc.1 ∧ (0 ≤ (l4 + 2) ∧ ((l4 + 2) < sc.1 ∧ (0 ≤ (l4 + 3) ∧ ((l4 + 3) < sc.1 ∧ (0 ≤ (l4 + 4) ∧ ((l4 + 4) < sc.1 ∧ (0 ≤ (l4 + 5) ∧ ((l4 + 5) < sc.1 ∧ (0 ≤ (l4 + 6) ∧ ((l4 + 6) < sc.1 ∧ (en_CI sc 99 [mm_r 0, mm_i (sc.2 (l4 + 1)), mm_i (sc.2 (l4 + 2)), mm_i (sc.2 (l4 + 3)), mm_i (sc.2 (l4 + 4)), mm_i (sc.2 (l4 + 5)), mm_i (sc.2 (l4 + 6)), mm_r 98, mm_u] M (fun x206 M207 => mr_ok M207 → 0 ≤ (l4 + 1) ∧ ((l4 + 1) < sc.1 ∧ (0 ≤ (l4 + 2) ∧ ((l4 + 2) < sc.1 ∧ (0 ≤ (l4 + 3) ∧ ((l4 + 3) < sc.1 ∧ (0 ≤ (l4 + 4) ∧ ((l4 + 4) < sc.1 ∧ (0 ≤ (l4 + 5) ∧ ((l4 + 5) < sc.1 ∧ (0 ≤ (l4 + 6) ∧ ((l4 + 6) < sc.1 ∧ (en_CI sc 101 [mm_r 72, mm_i (sc.2 (l4 + 1)), mm_i (sc.2 (l4 + 2)), mm_i (sc.2 (l4 + 3)), mm_i (sc.2 (l4 + 4)), mm_i (sc.2 (l4 + 5)), mm_i (sc.2 (l4 + 6)), mm_u] M207 (fun x221 M222 => mr_ok M222 → en_CI sc 41 [mm_r 72] M222 (fun x224 M225 => mr_ok M225 → mr_rg x224 ∧ (mr_rg x206 ∧ ((x224 = x206 → (x206 ≠ 0 → en_R sc 199 23 [mm_r mm_scr, mm_r 0, mm_r 72, mm_r 98, mm_i (l4 + 7), mm_i x206, mm_i x221] [] M225 Q) ∧ (¬ (x206 ≠ 0) → mr_rg x221 ∧ (mr_rj x221 ∧ (((mr_cmp (M225.1 98 0) x221) = 0 → en_R sc 199 23 [mm_r mm_scr, mm_r 0, mm_r 72, mm_r 98, mm_i (l4 + 7), mm_i x206, mm_i x221] [] M225 Q) ∧ (¬ (mr_cmp (M225.1 98 0) x221) = 0 → Q (.inl (some (mm_i 0))) M225))))) ∧ (¬ x224 = x206 → Q (.inl (some (mm_i 0))) M225)))) (fun e M9 => Q (.inr e) M9)) (fun e M9 => Q (.inr e) M9)))))))))))))) (fun e M9 => Q (.inr e) M9)))))))))))))) ∧ (((sc.2 l4) % 32) = 8 → 0 ≤ (l4 + 1) ∧ ((l4 + 1) < sc.1 ∧ (en_CI sc 103 [mm_r 0, mm_i (sc.2 (l4 + 1)), mm_r 98, mm_u] M (fun x233 M234 => mr_ok M234 → 0 ≤ (l4 + 1) ∧ ((l4 + 1) < sc.1 ∧ (en_CI sc 104 [mm_r 72, mm_i (sc.2 (l4 + 1))] M234 (fun x238 M239 => mr_ok M239 → en_CI sc 41 [mm_r 72] M239 (fun x241 M242 => mr_ok M242 → mr_rg x241 ∧ (mr_rg x233 ∧ ((x241 = x233 → (x233 ≠ 0 → en_R sc 199 23 [mm_r mm_scr, mm_r 0, mm_r 72, mm_r 98, mm_i (l4 + 7), mm_i x233, mm_i x238] [] M242 Q) ∧ (¬ (x233 ≠ 0) → mr_rg x238 ∧ (mr_rj x238 ∧ (((mr_cmp (M242.1 98 0) x238) = 0 → en_R sc 199 23 [mm_r mm_scr, mm_r 0, mm_r 72, mm_r 98, mm_i (l4 + 7), mm_i x233, mm_i x238] [] M242 Q) ∧ (¬ (mr_cmp (M242.1 98 0) x238) = 0 → Q (.inl (some (mm_i 0))) M242))))) ∧ (¬ x241 = x233 → Q (.inl (some (mm_i 0))) M242)))) (fun e M9 => Q (.inr e) M9)) (fun e M9 => Q (.inr e) M9)))) (fun e M9 => Q (.inr e) M9)))) ∧ (((sc.2 l4) % 32) = 9 → 0 ≤ (l4 + 1) ∧ ((l4 + 1) < sc.1 ∧ (0 ≤ (l4 + 2) ∧ ((l4 + 2) < sc.1 ∧ (0 ≤ (l4 + 3) ∧ ((l4 + 3) < sc.1 ∧ (en_CI sc 106 [mm_r 0, mm_i (sc.2 (l4 + 1)), mm_i (sc.2 (l4 + 2)), mm_i (sc.2 (l4 + 3)), mm_r 98, mm_u] M (fun x254 M255 => mr_ok M255 → 0 ≤ (l4 + 1) ∧ ((l4 + 1) < sc.1 ∧ (0 ≤ (l4 + 2) ∧ ((l4 + 2) < sc.1 ∧ (0 ≤ (l4 + 3) ∧ ((l4 + 3) < sc.1 ∧ (en_CI sc 107 [mm_r 72, mm_i (sc.2 (l4 + 1)), mm_i (sc.2 (l4 + 2)), mm_i (sc.2 (l4 + 3)), mm_u] M255 (fun x263 M264 => mr_ok M264 → en_CI sc 41 [mm_r 72] M264 (fun x266 M267 => mr_ok M267 → mr_rg x266 ∧ (mr_rg x254 ∧ ((x266 = x254 → (x254 ≠ 0 → en_R sc 199 23 [mm_r mm_scr, mm_r 0, mm_r 72, mm_r 98, mm_i (l4 + 7), mm_i x254, mm_i x263] [] M267 Q) ∧ (¬ (x254 ≠ 0) → mr_rg x263 ∧ (mr_rj x263 ∧ (((mr_cmp (M267.1 98 0) x263) = 0 → en_R sc 199 23 [mm_r mm_scr, mm_r 0, mm_r 72, mm_r 98, mm_i (l4 + 7), mm_i x254, mm_i x263] [] M267 Q) ∧ (¬ (mr_cmp (M267.1 98 0) x263) = 0 → Q (.inl (some (mm_i 0))) M267))))) ∧ (¬ x266 = x254 → Q (.inl (some (mm_i 0))) M267)))) (fun e M9 => Q (.inr e) M9)) (fun e M9 => Q (.inr e) M9)))))))) (fun e M9 => Q (.inr e) M9)))))))) ∧ (((sc.2 l4) % 32) = 10 → 0 ≤ (l4 + 1) ∧ ((l4 + 1) < sc.1 ∧ (0 ≤ (l4 + 2) ∧ ((l4 + 2) < sc.1 ∧ (0 ≤ (l4 + 3) ∧ ((l4 + 3) < sc.1 ∧ (0 ≤ (l4 + 4) ∧ ((l4 + 4) < sc.1 ∧ (en_CI sc 109 [mm_r 0, mm_i (sc.2 (l4 + 1)), mm_i (sc.2 (l4 + 2)), mm_i (sc.2 (l4 + 3)), mm_i (sc.2 (l4 + 4)), mm_r 98, mm_u] M (fun x281 M282 => mr_ok M282 → 0 ≤ (l4 + 1) ∧ ((l4 + 1) < sc.1 ∧ (0 ≤ (l4 + 2) ∧ ((l4 + 2) < sc.1 ∧ (0 ≤ (l4 + 3) ∧ ((l4 + 3) < sc.1 ∧ (0 ≤ (l4 + 4) ∧ ((l4 + 4) < sc.1 ∧ (en_CI sc 110 [mm_r 72, mm_i (sc.2 (l4 + 1)), mm_i (sc.2 (l4 + 2)), mm_i (sc.2 (l4 + 3)), mm_i (sc.2 (l4 + 4)), mm_u] M282 (fun x292 M293 => mr_ok M293 → en_CI sc 41 [mm_r 72] M293 (fun x295 M296 => mr_ok M296 → mr_rg x295 ∧ (mr_rg x281 ∧ ((x295 = x281 → (x281 ≠ 0 → en_R sc 199 23 [mm_r mm_scr, mm_r 0, mm_r 72, mm_r 98, mm_i (l4 + 7), mm_i x281, mm_i x292] [] M296 Q) ∧ (¬ (x281 ≠ 0) → mr_rg x292 ∧ (mr_rj x292 ∧ (((mr_cmp (M296.1 98 0) x292) = 0 → en_R sc 199 23 [mm_r mm_scr, mm_r 0, mm_r 72, mm_r 98, mm_i (l4 + 7), mm_i x281, mm_i x292] [] M296 Q) ∧ (¬ (mr_cmp (M296.1 98 0) x292) = 0 → Q (.inl (some (mm_i 0))) M296))))) ∧ (¬ x295 = x281 → Q (.inl (some (mm_i 0))) M296)))) (fun e M9 => Q (.inr e) M9)) (fun e M9 => Q (.inr e) M9)))))))))) (fun e M9 => Q (.inr e) M9)))))))))) ∧ (((sc.2 l4) % 32) = 11 → 0 ≤ (l4 + 1) ∧ ((l4 + 1) < sc.1 ∧ (0 ≤ (l4 + 2) ∧ ((l4 + 2) < sc.1 ∧ (0 ≤ (l4 + 3) ∧ ((l4 + 3) < sc.1 ∧ (en_CI sc 112 [mm_r 0, mm_i (sc.2 (l4 + 1)), mm_i (sc.2 (l4 + 2)), mm_i (sc.2 (l4 + 3)), mm_r 98, mm_u] M (fun x308 M309 => mr_ok M309 → 0 ≤ (l4 + 1) ∧ ((l4 + 1) < sc.1 ∧ (0 ≤ (l4 + 2) ∧ ((l4 + 2) < sc.1 ∧ (0 ≤ (l4 + 3) ∧ ((l4 + 3) < sc.1 ∧ (en_CI sc 114 [mm_r 72, mm_i (sc.2 (l4 + 1)), mm_i (sc.2 (l4 + 2)), mm_i (sc.2 (l4 + 3))] M309 (fun x317 M318 => mr_ok M318 → en_CI sc 41 [mm_r 72] M318 (fun x320 M321 => mr_ok M321 → mr_rg x320 ∧ (mr_rg x308 ∧ ((x320 = x308 → (x308 ≠ 0 → en_R sc 199 23 [mm_r mm_scr, mm_r 0, mm_r 72, mm_r 98, mm_i (l4 + 7), mm_i x308, mm_i x317] [] M321 Q) ∧ (¬ (x308 ≠ 0) → mr_rg x317 ∧ ((x317 = 0 → ((mr_cmp (M321.1 98 0) 0) = 0 → en_R sc 199 23 [mm_r mm_scr, mm_r 0, mm_r 72, mm_r 98, mm_i (l4 + 7), mm_i x308, mm_i x317] [] M321 Q) ∧ (¬ (mr_cmp (M321.1 98 0) 0) = 0 → Q (.inl (some (mm_i 0))) M321)) ∧ (¬ x317 = 0 → ((mr_cmp (M321.1 98 0) 1) = 0 → en_R sc 199 23 [mm_r mm_scr, mm_r 0, mm_r 72, mm_r 98, mm_i (l4 + 7), mm_i x308, mm_i x317] [] M321 Q) ∧ (¬ (mr_cmp (M321.1 98 0) 1) = 0 → Q (.inl (some (mm_i 0))) M321))))) ∧ (¬ x320 = x308 → Q (.inl (some (mm_i 0))) M321)))) (fun e M9 => Q (.inr e) M9)) (fun e M9 => Q (.inr e) M9)))))))) (fun e M9 => Q (.inr e) M9)))))))) ∧ (((sc.2 l4) % 32) = 12 → 0 ≤ (l4 + 1) ∧ ((l4 + 1) < sc.1 ∧ (0 ≤ (l4 + 2) ∧ ((l4 + 2) < sc.1 ∧ (en_CI sc 141 [mm_r 0, mm_i (sc.2 (l4 + 1)), mm_i (sc.2 (l4 + 2)), mm_r 98, mm_u] M (fun x330 M331 => mr_ok M331 → 0 ≤ (l4 + 1) ∧ ((l4 + 1) < sc.1 ∧ (0 ≤ (l4 + 2) ∧ ((l4 + 2) < sc.1 ∧ (en_CI sc 155 [mm_r 72, mm_i (sc.2 (l4 + 1)), mm_i (sc.2 (l4 + 2)), mm_u, mm_u] M331 (fun x337 M338 => mr_ok M338 → en_CI sc 41 [mm_r 72] M338 (fun x340 M341 => mr_ok M341 → mr_rg x340 ∧ (mr_rg x330 ∧ ((x340 = x330 → (x330 ≠ 0 → en_R sc 199 23 [mm_r mm_scr, mm_r 0, mm_r 72, mm_r 98, mm_i (l4 + 7), mm_i x330, mm_i x337] [] M341 Q) ∧ (¬ (x330 ≠ 0) → mr_rg x337 ∧ (mr_rj x337 ∧ (((mr_cmp (M341.1 98 0) x337) = 0 → en_R sc 199 23 [mm_r mm_scr, mm_r 0, mm_r 72, mm_r 98, mm_i (l4 + 7), mm_i x330, mm_i x337] [] M341 Q) ∧ (¬ (mr_cmp (M341.1 98 0) x337) = 0 → Q (.inl (some (mm_i 0))) M341))))) ∧ (¬ x340 = x330 → Q (.inl (some (mm_i 0))) M341)))) (fun e M9 => Q (.inr e) M9)) (fun e M9 => Q (.inr e) M9)))))) (fun e M9 => Q (.inr e) M9)))))) ∧ (((sc.2 l4) % 32) = 13 → 0 ≤ (l4 + 1) ∧ ((l4 + 1) < sc.1 ∧ (0 ≤ (l4 + 2) ∧ ((l4 + 2) < sc.1 ∧ (0 ≤ (l4 + 3) ∧ ((l4 + 3) < sc.1 ∧ (en_CI sc 158 [mm_r 0, mm_i (sc.2 (l4 + 1)), mm_i (sc.2 (l4 + 2)), mm_i (sc.2 (l4 + 3)), mm_r 98, mm_u] M (fun x353 M354 => mr_ok M354 → 0 ≤ (l4 + 1) ∧ ((l4 + 1) < sc.1 ∧ (0 ≤ (l4 + 2) ∧ ((l4 + 2) < sc.1 ∧ (0 ≤ (l4 + 3) ∧ ((l4 + 3) < sc.1 ∧ (en_CI sc 159 [mm_r 72, mm_i (sc.2 (l4 + 1)), mm_i (sc.2 (l4 + 2)), mm_i (sc.2 (l4 + 3))] M354 (fun x362 M363 => mr_ok M363 → en_CI sc 41 [mm_r 72] M363 (fun x365 M366 => mr_ok M366 → mr_rg x365 ∧ (mr_rg x353 ∧ ((x365 = x353 → (x353 ≠ 0 → en_R sc 199 23 [mm_r mm_scr, mm_r 0, mm_r 72, mm_r 98, mm_i (l4 + 7), mm_i x353, mm_i x362] [] M366 Q) ∧ (¬ (x353 ≠ 0) → mr_rg x362 ∧ (mr_rj x362 ∧ (((mr_cmp (M366.1 98 0) x362) = 0 → en_R sc 199 23 [mm_r mm_scr, mm_r 0, mm_r 72, mm_r 98, mm_i (l4 + 7), mm_i x353, mm_i x362] [] M366 Q) ∧ (¬ (mr_cmp (M366.1 98 0) x362) = 0 → Q (.inl (some (mm_i 0))) M366))))) ∧ (¬ x365 = x353 → Q (.inl (some (mm_i 0))) M366)))) (fun e M9 => Q (.inr e) M9)) (fun e M9 => Q (.inr e) M9)))))))) (fun e M9 => Q (.inr e) M9)))))))) ∧ (((sc.2 l4) % 32) = 14 → 0 ≤ (l4 + 1) ∧ ((l4 + 1) < sc.1 ∧ (0 ≤ (l4 + 2) ∧ ((l4 + 2) < sc.1 ∧ (0 ≤ (l4 + 3) ∧ ((l4 + 3) < sc.1 ∧ (0 ≤ (l4 + 4) ∧ ((l4 + 4) < sc.1 ∧ (en_CI sc 161 [mm_r 0, mm_i (sc.2 (l4 + 1)), mm_i (sc.2 (l4 + 2)), mm_i (sc.2 (l4 + 3)), mm_i (sc.2 (l4 + 4)), mm_r 98, mm_u] M (fun x380 M381 => mr_ok M381 → 0 ≤ (l4 + 1) ∧ ((l4 + 1) < sc.1 ∧ (0 ≤ (l4 + 2) ∧ ((l4 + 2) < sc.1 ∧ (0 ≤ (l4 + 3) ∧ ((l4 + 3) < sc.1 ∧ (0 ≤ (l4 + 4) ∧ ((l4 + 4) < sc.1 ∧ (en_CI sc 162 [mm_r 72, mm_i (sc.2 (l4 + 1)), mm_i (sc.2 (l4 + 2)), mm_i (sc.2 (l4 + 3)), mm_i (sc.2 (l4 + 4))] M381 (fun x391 M392 => mr_ok M392 → en_CI sc 41 [mm_r 72] M392 (fun x394 M395 => mr_ok M395 → mr_rg x394 ∧ (mr_rg x380 ∧ ((x394 = x380 → (x380 ≠ 0 → en_R sc 199 23 [mm_r mm_scr, mm_r 0, mm_r 72, mm_r 98, mm_i (l4 + 7), mm_i x380, mm_i x391] [] M395 Q) ∧ (¬ (x380 ≠ 0) → mr_rg x391 ∧ (mr_rj x391 ∧ (((mr_cmp (M395.1 98 0) x391) = 0 → en_R sc 199 23 [mm_r mm_scr, mm_r 0, mm_r 72, mm_r 98, mm_i (l4 + 7), mm_i x380, mm_i x391] [] M395 Q) ∧ (¬ (mr_cmp (M395.1 98 0) x391) = 0 → Q (.inl (some (mm_i 0))) M395))))) ∧ (¬ x394 = x380 → Q (.inl (some (mm_i 0))) M395)))) (fun e M9 => Q (.inr e) M9)) (fun e M9 => Q (.inr e) M9)))))))))) (fun e M9 => Q (.inr e) M9)))))))))) ∧ (((sc.2 l4) % 32) = 15 → 0 ≤ (l4 + 1) ∧ ((l4 + 1) < sc.1 ∧ (0 ≤ (l4 + 2) ∧ ((l4 + 2) < sc.1 ∧ (0 ≤ (l4 + 3) ∧ ((l4 + 3) < sc.1 ∧ (en_CI sc 165 [mm_r 0, mm_i (sc.2 (l4 + 1)), mm_i (sc.2 (l4 + 2)), mm_i (sc.2 (l4 + 3)), mm_r 98, mm_u] M (fun x407 M408 => mr_ok M408 → 0 ≤ (l4 + 1) ∧ ((l4 + 1) < sc.1 ∧ (0 ≤ (l4 + 2) ∧ ((l4 + 2) < sc.1 ∧ (0 ≤ (l4 + 3) ∧ ((l4 + 3) < sc.1 ∧ (en_CI sc 166 [mm_r 72, mm_i (sc.2 (l4 + 1)), mm_i (sc.2 (l4 + 2)), mm_i (sc.2 (l4 + 3)), mm_u, mm_u, mm_u, mm_u, mm_u] M408 (fun x416 M417 => mr_ok M417 → en_CI sc 41 [mm_r 72] M417 (fun x419 M420 => mr_ok M420 → mr_rg x419 ∧ (mr_rg x407 ∧ ((x419 = x407 → (x407 ≠ 0 → en_R sc 199 23 [mm_r mm_scr, mm_r 0, mm_r 72, mm_r 98, mm_i (l4 + 7), mm_i x407, mm_i x416] [] M420 Q) ∧ (¬ (x407 ≠ 0) → mr_rg x416 ∧ (mr_rj x416 ∧ (((mr_cmp (M420.1 98 0) x416) = 0 → en_R sc 199 23 [mm_r mm_scr, mm_r 0, mm_r 72, mm_r 98, mm_i (l4 + 7), mm_i x407, mm_i x416] [] M420 Q) ∧ (¬ (mr_cmp (M420.1 98 0) x416) = 0 → Q (.inl (some (mm_i 0))) M420))))) ∧ (¬ x419 = x407 → Q (.inl (some (mm_i 0))) M420)))) (fun e M9 => Q (.inr e) M9)) (fun e M9 => Q (.inr e) M9)))))))) (fun e M9 => Q (.inr e) M9)))))))) ∧ (((sc.2 l4) % 32) = 16 → 0 ≤ (l4 + 1) ∧ ((l4 + 1) < sc.1 ∧ (0 ≤ (l4 + 2) ∧ ((l4 + 2) < sc.1 ∧ (0 ≤ (l4 + 3) ∧ ((l4 + 3) < sc.1 ∧ (en_CI sc 168 [mm_r 0, mm_i (sc.2 (l4 + 1)), mm_i (sc.2 (l4 + 2)), mm_i (sc.2 (l4 + 3)), mm_r 98, mm_u] M (fun x432 M433 => mr_ok M433 → 0 ≤ (l4 + 1) ∧ ((l4 + 1) < sc.1 ∧ (0 ≤ (l4 + 2) ∧ ((l4 + 2) < sc.1 ∧ (0 ≤ (l4 + 3) ∧ ((l4 + 3) < sc.1 ∧ (en_CI sc 169 [mm_r 72, mm_i (sc.2 (l4 + 1)), mm_i (sc.2 (l4 + 2)), mm_i (sc.2 (l4 + 3)), mm_u, mm_u] M433 (fun x441 M442 => mr_ok M442 → en_CI sc 41 [mm_r 72] M442 (fun x444 M445 => mr_ok M445 → mr_rg x444 ∧ (mr_rg x432 ∧ ((x444 = x432 → (x432 ≠ 0 → en_R sc 199 23 [mm_r mm_scr, mm_r 0, mm_r 72, mm_r 98, mm_i (l4 + 7), mm_i x432, mm_i x441] [] M445 Q) ∧ (¬ (x432 ≠ 0) → mr_rg x441 ∧ (mr_rj x441 ∧ (((mr_cmp (M445.1 98 0) x441) = 0 → en_R sc 199 23 [mm_r mm_scr, mm_r 0, mm_r 72, mm_r 98, mm_i (l4 + 7), mm_i x432, mm_i x441] [] M445 Q) ∧ (¬ (mr_cmp (M445.1 98 0) x441) = 0 → Q (.inl (some (mm_i 0))) M445))))) ∧ (¬ x444 = x432 → Q (.inl (some (mm_i 0))) M445)))) (fun e M9 => Q (.inr e) M9)) (fun e M9 => Q (.inr e) M9)))))))) (fun e M9 => Q (.inr e) M9)))))))) ∧ (((sc.2 l4) % 32) = 17 → 0 ≤ (l4 + 1) ∧ ((l4 + 1) < sc.1 ∧ (0 ≤ (l4 + 2) ∧ ((l4 + 2) < sc.1 ∧ (0 ≤ (l4 + 3) ∧ ((l4 + 3) < sc.1 ∧ (en_CI sc 171 [mm_r 0, mm_i (sc.2 (l4 + 1)), mm_i (sc.2 (l4 + 2)), mm_i (sc.2 (l4 + 3)), mm_r 98, mm_u] M (fun x457 M458 => mr_ok M458 → 0 ≤ (l4 + 1) ∧ ((l4 + 1) < sc.1 ∧ (0 ≤ (l4 + 2) ∧ ((l4 + 2) < sc.1 ∧ (0 ≤ (l4 + 3) ∧ ((l4 + 3) < sc.1 ∧ (en_CI sc 172 [mm_r 72, mm_i (sc.2 (l4 + 1)), mm_i (sc.2 (l4 + 2)), mm_i (sc.2 (l4 + 3)), mm_u, mm_u] M458 (fun x466 M467 => mr_ok M467 → en_CI sc 41 [mm_r 72] M467 (fun x469 M470 => mr_ok M470 → mr_rg x469 ∧ (mr_rg x457 ∧ ((x469 = x457 → (x457 ≠ 0 → en_R sc 199 23 [mm_r mm_scr, mm_r 0, mm_r 72, mm_r 98, mm_i (l4 + 7), mm_i x457, mm_i x466] [] M470 Q) ∧ (¬ (x457 ≠ 0) → mr_rg x466 ∧ (mr_rj x466 ∧ (((mr_cmp (M470.1 98 0) x466) = 0 → en_R sc 199 23 [mm_r mm_scr, mm_r 0, mm_r 72, mm_r 98, mm_i (l4 + 7), mm_i x457, mm_i x466] [] M470 Q) ∧ (¬ (mr_cmp (M470.1 98 0) x466) = 0 → Q (.inl (some (mm_i 0))) M470))))) ∧ (¬ x469 = x457 → Q (.inl (some (mm_i 0))) M470)))) (fun e M9 => Q (.inr e) M9)) (fun e M9 => Q (.inr e) M9)))))))) (fun e M9 => Q (.inr e) M9)))))))) ∧ (((sc.2 l4) % 32) = 18 → 0 ≤ (l4 + 1) ∧ ((l4 + 1) < sc.1 ∧ (0 ≤ (l4 + 2) ∧ ((l4 + 2) < sc.1 ∧ (en_CI sc 179 [mm_r 0, mm_i (sc.2 (l4 + 1)), mm_i (sc.2 (l4 + 2)), mm_r 98, mm_u] M (fun x480 M481 => mr_ok M481 → 0 ≤ (l4 + 1) ∧ ((l4 + 1) < sc.1 ∧ (0 ≤ (l4 + 2) ∧ ((l4 + 2) < sc.1 ∧ (en_CI sc 182 [mm_r 72, mm_i (sc.2 (l4 + 1)), mm_i (sc.2 (l4 + 2)), mm_u] M481 (fun x487 M488 => mr_ok M488 → en_CI sc 41 [mm_r 72] M488 (fun x490 M491 => mr_ok M491 → mr_rg x490 ∧ (mr_rg x480 ∧ ((x490 = x480 → (x480 ≠ 0 → en_R sc 199 23 [mm_r mm_scr, mm_r 0, mm_r 72, mm_r 98, mm_i (l4 + 7), mm_i x480, mm_i x487] [] M491 Q) ∧ (¬ (x480 ≠ 0) → mr_rg x487 ∧ (mr_rj x487 ∧ (((mr_cmp (M491.1 98 0) x487) = 0 → en_R sc 199 23 [mm_r mm_scr, mm_r 0, mm_r 72, mm_r 98, mm_i (l4 + 7), mm_i x480, mm_i x487] [] M491 Q) ∧ (¬ (mr_cmp (M491.1 98 0) x487) = 0 → Q (.inl (some (mm_i 0))) M491))))) ∧ (¬ x490 = x480 → Q (.inl (some (mm_i 0))) M491)))) (fun e M9 => Q (.inr e) M9)) (fun e M9 => Q (.inr e) M9)))))) (fun e M9 => Q (.inr e) M9)))))) ∧ (((sc.2 l4) % 32) = 19 → 0 ≤ (l4 + 1) ∧ ((l4 + 1) < sc.1 ∧ (0 ≤ (l4 + 2) ∧ ((l4 + 2) < sc.1 ∧ (en_CI sc 184 [mm_r 0, mm_i (sc.2 (l4 + 1)), mm_i (sc.2 (l4 + 2)), mm_r 98, mm_u] M (fun x501 M502 => mr_ok M502 → 0 ≤ (l4 + 1) ∧ ((l4 + 1) < sc.1 ∧ (0 ≤ (l4 + 2) ∧ ((l4 + 2) < sc.1 ∧ (en_CI sc 185 [mm_r 72, mm_i (sc.2 (l4 + 1)), mm_i (sc.2 (l4 + 2)), mm_u, mm_u] M502 (fun x508 M509 => mr_ok M509 → en_CI sc 41 [mm_r 72] M509 (fun x511 M512 => mr_ok M512 → mr_rg x511 ∧ (mr_rg x501 ∧ ((x511 = x501 → (x501 ≠ 0 → en_R sc 199 23 [mm_r mm_scr, mm_r 0, mm_r 72, mm_r 98, mm_i (l4 + 7), mm_i x501, mm_i x508] [] M512 Q) ∧ (¬ (x501 ≠ 0) → mr_rg x508 ∧ ((x508 = 0 → ((mr_cmp (M512.1 98 0) 0) = 0 → en_R sc 199 23 [mm_r mm_scr, mm_r 0, mm_r 72, mm_r 98, mm_i (l4 + 7), mm_i x501, mm_i x508] [] M512 Q) ∧ (¬ (mr_cmp (M512.1 98 0) 0) = 0 → Q (.inl (some (mm_i 0))) M512)) ∧ (¬ x508 = 0 → ((mr_cmp (M512.1 98 0) 1) = 0 → en_R sc 199 23 [mm_r mm_scr, mm_r 0, mm_r 72, mm_r 98, mm_i (l4 + 7), mm_i x501, mm_i x508] [] M512 Q) ∧ (¬ (mr_cmp (M512.1 98 0) 1) = 0 → Q (.inl (some (mm_i 0))) M512))))) ∧ (¬ x511 = x501 → Q (.inl (some (mm_i 0))) M512)))) (fun e M9 => Q (.inr e) M9)) (fun e M9 => Q (.inr e) M9)))))) (fun e M9 => Q (.inr e) M9)))))) ∧ (((sc.2 l4) % 32) = 20 → 0 ≤ (l4 + 1) ∧ ((l4 + 1) < sc.1 ∧ (0 ≤ (l4 + 2) ∧ ((l4 + 2) < sc.1 ∧ (en_CI sc 189 [mm_r 0, mm_i (sc.2 (l4 + 1)), mm_i (sc.2 (l4 + 2)), mm_r 98, mm_u] M (fun x521 M522 => mr_ok M522 → 0 ≤ (l4 + 1) ∧ ((l4 + 1) < sc.1 ∧ (0 ≤ (l4 + 2) ∧ ((l4 + 2) < sc.1 ∧ (en_CI sc 191 [mm_r 72, mm_i (sc.2 (l4 + 1)), mm_i (sc.2 (l4 + 2)), mm_u, mm_u, mm_u, mm_u, mm_u, mm_u, mm_u, mm_u] M522 (fun x528 M529 => mr_ok M529 → en_CI sc 41 [mm_r 72] M529 (fun x531 M532 => mr_ok M532 → mr_rg x531 ∧ (mr_rg x521 ∧ ((x531 = x521 → (x521 ≠ 0 → en_R sc 199 23 [mm_r mm_scr, mm_r 0, mm_r 72, mm_r 98, mm_i (l4 + 7), mm_i x521, mm_i x528] [] M532 Q) ∧ (¬ (x521 ≠ 0) → mr_rg x528 ∧ (mr_rj x528 ∧ (((mr_cmp (M532.1 98 0) x528) = 0 → en_R sc 199 23 [mm_r mm_scr, mm_r 0, mm_r 72, mm_r 98, mm_i (l4 + 7), mm_i x521, mm_i x528] [] M532 Q) ∧ (¬ (mr_cmp (M532.1 98 0) x528) = 0 → Q (.inl (some (mm_i 0))) M532))))) ∧ (¬ x531 = x521 → Q (.inl (some (mm_i 0))) M532)))) (fun e M9 => Q (.inr e) M9)) (fun e M9 => Q (.inr e) M9)))))) (fun e M9 => Q (.inr e) M9)))))) ∧ (((sc.2 l4) % 32) = 21 → 0 ≤ (l4 + 1) ∧ ((l4 + 1) < sc.1 ∧ (en_CI sc 197 [mm_r 0, mm_i (sc.2 (l4 + 1)), mm_r 98, mm_u] M (fun x540 M541 => mr_ok M541 → 0 ≤ (l4 + 1) ∧ ((l4 + 1) < sc.1 ∧ (en_CI sc 198 [mm_r 72, mm_i (sc.2 (l4 + 1))] M541 (fun x545 M546 => mr_ok M546 → en_CI sc 41 [mm_r 72] M546 (fun x548 M549 => mr_ok M549 → mr_rg x548 ∧ (mr_rg x540 ∧ ((x548 = x540 → (x540 ≠ 0 → en_R sc 199 23 [mm_r mm_scr, mm_r 0, mm_r 72, mm_r 98, mm_i (l4 + 7), mm_i x540, mm_i x545] [] M549 Q) ∧ (¬ (x540 ≠ 0) → mr_rg x545 ∧ (mr_rj x545 ∧ (((mr_cmp (M549.1 98 0) x545) = 0 → en_R sc 199 23 [mm_r mm_scr, mm_r 0, mm_r 72, mm_r 98, mm_i (l4 + 7), mm_i x540, mm_i x545] [] M549 Q) ∧ (¬ (mr_cmp (M549.1 98 0) x545) = 0 → Q (.inl (some (mm_i 0))) M549))))) ∧ (¬ x548 = x540 → Q (.inl (some (mm_i 0))) M549)))) (fun e M9 => Q (.inr e) M9)) (fun e M9 => Q (.inr e) M9)))) (fun e M9 => Q (.inr e) M9)))) ∧ (((sc.2 l4) % 32) ≠ 0 → ((sc.2 l4) % 32) ≠ 1 → ((sc.2 l4) % 32) ≠ 2 → ((sc.2 l4) % 32) ≠ 3 → ((sc.2 l4) % 32) ≠ 4 → ((sc.2 l4) % 32) ≠ 5 → ((sc.2 l4) % 32) ≠ 6 → ((sc.2 l4) % 32) ≠ 7 → ((sc.2 l4) % 32) ≠ 8 → ((sc.2 l4) % 32) ≠ 9 → ((sc.2 l4) % 32) ≠ 10 → ((sc.2 l4) % 32) ≠ 11 → ((sc.2 l4) % 32) ≠ 12 → ((sc.2 l4) % 32) ≠ 13 → ((sc.2 l4) % 32) ≠ 14 → ((sc.2 l4) % 32) ≠ 15 → ((sc.2 l4) % 32) ≠ 16 → ((sc.2 l4) % 32) ≠ 17 → ((sc.2 l4) % 32) ≠ 18 → ((sc.2 l4) % 32) ≠ 19 → ((sc.2 l4) % 32) ≠ 20 → ((sc.2 l4) % 32) ≠ 21 → en_R sc 199 23 [mm_r mm_scr, mm_r 0, mm_r 72, mm_r 98, mm_i (l4 + 7), l5, l6] [] M Q))))))) : en_R sc 199 23 [mm_r mm_scr, mm_r 0, mm_r 72, mm_r 98, mm_i l4, l5, l6] [] M Q := by
  obtain ⟨g1, h⟩ := h
  refine en_iload mc199_23 rfl ?_
  refine en_aload_n mc199_25 rfl ?_
  refine en_slen mc199_26 ?_
  refine en_bipush mc199_27 (by decide) ?_
  refine en_isub mc199_29 ?_
  refine en_icmp_gt 1920 mc199_30 (by decide) hg_l4 g1 (fun q => ?_) (fun q => ?_)
  · replace h := h.1 q
    refine en_iconst mc199_1920 ?_
    exact en_zret mv199 mc199_1921 rfl (by decide) h
  · replace h := h.2 q
    obtain ⟨g2, h⟩ := h
    obtain ⟨g3, h⟩ := h
    obtain ⟨g4, h⟩ := h
    refine en_aload_n mc199_33 rfl ?_
    refine en_iload mc199_34 rfl ?_
    refine en_sald mc199_36 hL g2 g3 ?_
    refine en_bipush mc199_37 (by decide) ?_
    refine en_mask 5 (by decide) mc199_39 rfl (d := 32) rfl ?_
    by_cases q0 : ((sc.2 l4) % 32) = 0
    · replace h := h.1 q0
      refine en_tsw 144 mc199_40 g4 (by first | (rw [q0]; done) | (rw [q0]; rfl)) (by decide) ?_
      obtain ⟨g5, h⟩ := h
      obtain ⟨g6, h⟩ := h
      obtain ⟨g7, h⟩ := h
      obtain ⟨g8, h⟩ := h
      obtain ⟨g9, h⟩ := h
      obtain ⟨g10, h⟩ := h
      obtain ⟨g11, h⟩ := h
      obtain ⟨g12, h⟩ := h
      obtain ⟨g13, h⟩ := h
      obtain ⟨g14, h⟩ := h
      refine en_aload_n mc199_144 rfl ?_
      refine en_aload_n mc199_145 rfl ?_
      refine en_iload mc199_146 rfl ?_
      refine en_iconst mc199_148 ?_
      refine en_iadd mc199_149 ?_
      refine en_sald mc199_150 hL g5 g6 ?_
      refine en_aload_n mc199_151 rfl ?_
      refine en_iload mc199_152 rfl ?_
      refine en_iconst mc199_154 ?_
      refine en_iadd mc199_155 ?_
      refine en_sald mc199_156 hL g7 g8 ?_
      refine en_aload_n mc199_157 rfl ?_
      refine en_iload mc199_158 rfl ?_
      refine en_iconst mc199_160 ?_
      refine en_iadd mc199_161 ?_
      refine en_sald mc199_162 hL g9 g10 ?_
      refine en_aload_n mc199_163 rfl ?_
      refine en_iload mc199_164 rfl ?_
      refine en_iconst mc199_166 ?_
      refine en_iadd mc199_167 ?_
      refine en_sald mc199_168 hL g11 g12 ?_
      refine en_aload_n mc199_169 rfl ?_
      refine en_iload mc199_170 rfl ?_
      refine en_iconst mc199_172 ?_
      refine en_iadd mc199_173 ?_
      refine en_sald mc199_174 hL g13 g14 ?_
      refine en_callI (lz := [mm_r 0, mm_i (sc.2 (l4 + 1)), mm_i (sc.2 (l4 + 2)), mm_i (sc.2 (l4 + 3)), mm_i (sc.2 (l4 + 4)), mm_i (sc.2 (l4 + 5)), mm_u]) mv199 mc199_175 rfl rfl (lk_m8_91) mv32 rfl (by decide) rfl (mk_cokS rfl) rfl (mk_nh rfl _) ho ?_
      refine en_CI_mono h (fun x15 M16 h => ?_) (fun _ _ h => h)
      intro ho17
      replace h := h ho17
      obtain ⟨g18, h⟩ := h
      obtain ⟨g19, h⟩ := h
      obtain ⟨g20, h⟩ := h
      obtain ⟨g21, h⟩ := h
      obtain ⟨g22, h⟩ := h
      obtain ⟨g23, h⟩ := h
      obtain ⟨g24, h⟩ := h
      obtain ⟨g25, h⟩ := h
      obtain ⟨g26, h⟩ := h
      obtain ⟨g27, h⟩ := h
      refine en_istore (ls' := [mm_r mm_scr, mm_r 0, mm_r 72, mm_r 98, mm_i l4, mm_i x15, l6]) mc199_178 (Nat.le_of_ble_eq_true rfl) rfl ?_
      refine en_aload_n mc199_180 rfl ?_
      refine en_aload_n mc199_181 rfl ?_
      refine en_iload mc199_182 rfl ?_
      refine en_iconst mc199_184 ?_
      refine en_iadd mc199_185 ?_
      refine en_sald mc199_186 hL g18 g19 ?_
      refine en_aload_n mc199_187 rfl ?_
      refine en_iload mc199_188 rfl ?_
      refine en_iconst mc199_190 ?_
      refine en_iadd mc199_191 ?_
      refine en_sald mc199_192 hL g20 g21 ?_
      refine en_aload_n mc199_193 rfl ?_
      refine en_iload mc199_194 rfl ?_
      refine en_iconst mc199_196 ?_
      refine en_iadd mc199_197 ?_
      refine en_sald mc199_198 hL g22 g23 ?_
      refine en_aload_n mc199_199 rfl ?_
      refine en_iload mc199_200 rfl ?_
      refine en_iconst mc199_202 ?_
      refine en_iadd mc199_203 ?_
      refine en_sald mc199_204 hL g24 g25 ?_
      refine en_aload_n mc199_205 rfl ?_
      refine en_iload mc199_206 rfl ?_
      refine en_iconst mc199_208 ?_
      refine en_iadd mc199_209 ?_
      refine en_sald mc199_210 hL g26 g27 ?_
      refine en_callV (lz := [mm_r 72, mm_i (sc.2 (l4 + 1)), mm_i (sc.2 (l4 + 2)), mm_i (sc.2 (l4 + 3)), mm_i (sc.2 (l4 + 4)), mm_i (sc.2 (l4 + 5)), mm_u, mm_u]) mv199 mc199_211 rfl rfl (lk_m8_96) mv40 rfl (by decide) rfl (mk_cokV rfl (⟨rfl, by decide⟩ : mt_kd[72]? = some (.inl 7) ∧ 72 < 99)) rfl (mk_nh rfl _) ho17 ?_
      refine en_CV_mono h (fun M29 h => ?_) (fun _ _ h => h)
      intro ho30
      replace h := h ho30
      refine en_aload_n mc199_214 rfl ?_
      refine en_callI (lz := [mm_r 72]) mv199 mc199_215 rfl rfl (lk_m8_97) mv41 rfl (by decide) rfl (mk_cokV rfl (⟨rfl, by decide⟩ : mt_kd[72]? = some (.inl 7) ∧ 72 < 99)) rfl (mk_nh rfl _) ho30 ?_
      refine en_CI_mono h (fun x31 M32 h => ?_) (fun _ _ h => h)
      intro ho33
      replace h := h ho33
      obtain ⟨g34, h⟩ := h
      obtain ⟨g35, h⟩ := h
      refine en_iload mc199_218 rfl ?_
      refine en_icmp_eq 225 mc199_220 (by decide) g34 g35 (fun q => ?_) (fun q => ?_)
      · replace h := h.1 q
        refine en_goto 1914 mc199_225 (by decide) ?_
        refine en_iinc (ls' := [mm_r mm_scr, mm_r 0, mm_r 72, mm_r 98, mm_i (l4 + 7), mm_i x15, l6]) mc199_1914 rfl rfl ?_
        refine en_goto 23 mc199_1917 (by decide) ?_
        exact h
      · replace h := h.2 q
        refine en_iconst mc199_223 ?_
        exact en_zret mv199 mc199_224 rfl (by decide) h
    by_cases q1 : ((sc.2 l4) % 32) = 1
    · replace h := h.2.1 q1
      refine en_tsw 228 mc199_40 g4 (by first | (rw [q1]; done) | (rw [q1]; rfl)) (by decide) ?_
      obtain ⟨g36, h⟩ := h
      obtain ⟨g37, h⟩ := h
      refine en_aload_n mc199_228 rfl ?_
      refine en_aload_n mc199_229 rfl ?_
      refine en_iload mc199_230 rfl ?_
      refine en_iconst mc199_232 ?_
      refine en_iadd mc199_233 ?_
      refine en_sald mc199_234 hL g36 g37 ?_
      refine en_aload_n mc199_235 rfl ?_
      refine en_callI (lz := [mm_r 0, mm_i (sc.2 (l4 + 1)), mm_r 98, mm_u]) mv199 mc199_236 rfl rfl (lk_m8_101) mv44 rfl (by decide) rfl (mk_cokS rfl) rfl (mk_nh rfl _) ho ?_
      refine en_CI_mono h (fun x38 M39 h => ?_) (fun _ _ h => h)
      intro ho40
      replace h := h ho40
      obtain ⟨g41, h⟩ := h
      obtain ⟨g42, h⟩ := h
      refine en_istore (ls' := [mm_r mm_scr, mm_r 0, mm_r 72, mm_r 98, mm_i l4, mm_i x38, l6]) mc199_239 (Nat.le_of_ble_eq_true rfl) rfl ?_
      refine en_aload_n mc199_241 rfl ?_
      refine en_aload_n mc199_242 rfl ?_
      refine en_iload mc199_243 rfl ?_
      refine en_iconst mc199_245 ?_
      refine en_iadd mc199_246 ?_
      refine en_sald mc199_247 hL g41 g42 ?_
      refine en_callI (lz := [mm_r 72, mm_i (sc.2 (l4 + 1)), mm_u]) mv199 mc199_248 rfl rfl (lk_m8_104) mv47 rfl (by decide) rfl (mk_cokV rfl (⟨rfl, by decide⟩ : mt_kd[72]? = some (.inl 7) ∧ 72 < 99)) rfl (mk_nh rfl _) ho40 ?_
      refine en_CI_mono h (fun x43 M44 h => ?_) (fun _ _ h => h)
      intro ho45
      replace h := h ho45
      refine en_istore (ls' := [mm_r mm_scr, mm_r 0, mm_r 72, mm_r 98, mm_i l4, mm_i x38, mm_i x43]) mc199_251 (Nat.le_of_ble_eq_true rfl) rfl ?_
      refine en_aload_n mc199_253 rfl ?_
      refine en_callI (lz := [mm_r 72]) mv199 mc199_254 rfl rfl (lk_m8_97) mv41 rfl (by decide) rfl (mk_cokV rfl (⟨rfl, by decide⟩ : mt_kd[72]? = some (.inl 7) ∧ 72 < 99)) rfl (mk_nh rfl _) ho45 ?_
      refine en_CI_mono h (fun x46 M47 h => ?_) (fun _ _ h => h)
      intro ho48
      replace h := h ho48
      obtain ⟨g49, h⟩ := h
      obtain ⟨g50, h⟩ := h
      refine en_iload mc199_257 rfl ?_
      refine en_icmp_eq 264 mc199_259 (by decide) g49 g50 (fun q => ?_) (fun q => ?_)
      · replace h := h.1 q
        refine en_iload mc199_264 rfl ?_
        refine en_if_ne 281 mc199_266 (by decide) g50 (fun q => ?_) (fun q => ?_)
        · replace h := h.1 q
          refine en_goto 1914 mc199_281 (by decide) ?_
          refine en_iinc (ls' := [mm_r mm_scr, mm_r 0, mm_r 72, mm_r 98, mm_i (l4 + 7), mm_i x38, mm_i x43]) mc199_1914 rfl rfl ?_
          refine en_goto 23 mc199_1917 (by decide) ?_
          exact h
        · replace h := h.2 q
          obtain ⟨g51, h⟩ := h
          obtain ⟨g52, h⟩ := h
          refine en_aload_n mc199_269 rfl ?_
          refine en_iconst mc199_270 ?_
          refine en_lald mc199_271 (⟨rfl, by decide, by decide⟩ : mt_kd[98]? = some (.inr (.long, 1)) ∧ 98 < 99 ∧ 1 < 2147483648) (by decide) (by decide) ?_
          refine en_iload mc199_272 rfl ?_
          refine en_i2l mc199_274 g51 ?_
          refine en_lcmp mc199_275 (ho48.1 98 0) g52 ?_
          refine en_if_eq 281 mc199_276 (by decide) (mk_cmp _ _) (fun q => ?_) (fun q => ?_)
          · replace h := h.1 q
            refine en_goto 1914 mc199_281 (by decide) ?_
            refine en_iinc (ls' := [mm_r mm_scr, mm_r 0, mm_r 72, mm_r 98, mm_i (l4 + 7), mm_i x38, mm_i x43]) mc199_1914 rfl rfl ?_
            refine en_goto 23 mc199_1917 (by decide) ?_
            exact h
          · replace h := h.2 q
            refine en_iconst mc199_279 ?_
            exact en_zret mv199 mc199_280 rfl (by decide) h
      · replace h := h.2 q
        refine en_iconst mc199_262 ?_
        exact en_zret mv199 mc199_263 rfl (by decide) h
    by_cases q2 : ((sc.2 l4) % 32) = 2
    · replace h := h.2.2.1 q2
      refine en_tsw 284 mc199_40 g4 (by first | (rw [q2]; done) | (rw [q2]; rfl)) (by decide) ?_
      obtain ⟨g53, h⟩ := h
      obtain ⟨g54, h⟩ := h
      obtain ⟨g55, h⟩ := h
      obtain ⟨g56, h⟩ := h
      obtain ⟨g57, h⟩ := h
      obtain ⟨g58, h⟩ := h
      obtain ⟨g59, h⟩ := h
      obtain ⟨g60, h⟩ := h
      refine en_aload_n mc199_284 rfl ?_
      refine en_aload_n mc199_285 rfl ?_
      refine en_iload mc199_286 rfl ?_
      refine en_iconst mc199_288 ?_
      refine en_iadd mc199_289 ?_
      refine en_sald mc199_290 hL g53 g54 ?_
      refine en_aload_n mc199_291 rfl ?_
      refine en_iload mc199_292 rfl ?_
      refine en_iconst mc199_294 ?_
      refine en_iadd mc199_295 ?_
      refine en_sald mc199_296 hL g55 g56 ?_
      refine en_aload_n mc199_297 rfl ?_
      refine en_iload mc199_298 rfl ?_
      refine en_iconst mc199_300 ?_
      refine en_iadd mc199_301 ?_
      refine en_sald mc199_302 hL g57 g58 ?_
      refine en_aload_n mc199_303 rfl ?_
      refine en_iload mc199_304 rfl ?_
      refine en_iconst mc199_306 ?_
      refine en_iadd mc199_307 ?_
      refine en_sald mc199_308 hL g59 g60 ?_
      refine en_aload_n mc199_309 rfl ?_
      refine en_callI (lz := [mm_r 0, mm_i (sc.2 (l4 + 1)), mm_i (sc.2 (l4 + 2)), mm_i (sc.2 (l4 + 3)), mm_i (sc.2 (l4 + 4)), mm_r 98, mm_u]) mv199 mc199_310 rfl rfl (lk_m8_105) mv57 rfl (by decide) rfl (mk_cokS rfl) rfl (mk_nh rfl _) ho ?_
      refine en_CI_mono h (fun x61 M62 h => ?_) (fun _ _ h => h)
      intro ho63
      replace h := h ho63
      obtain ⟨g64, h⟩ := h
      obtain ⟨g65, h⟩ := h
      obtain ⟨g66, h⟩ := h
      obtain ⟨g67, h⟩ := h
      obtain ⟨g68, h⟩ := h
      obtain ⟨g69, h⟩ := h
      obtain ⟨g70, h⟩ := h
      obtain ⟨g71, h⟩ := h
      refine en_istore (ls' := [mm_r mm_scr, mm_r 0, mm_r 72, mm_r 98, mm_i l4, mm_i x61, l6]) mc199_313 (Nat.le_of_ble_eq_true rfl) rfl ?_
      refine en_aload_n mc199_315 rfl ?_
      refine en_aload_n mc199_316 rfl ?_
      refine en_iload mc199_317 rfl ?_
      refine en_iconst mc199_319 ?_
      refine en_iadd mc199_320 ?_
      refine en_sald mc199_321 hL g64 g65 ?_
      refine en_aload_n mc199_322 rfl ?_
      refine en_iload mc199_323 rfl ?_
      refine en_iconst mc199_325 ?_
      refine en_iadd mc199_326 ?_
      refine en_sald mc199_327 hL g66 g67 ?_
      refine en_aload_n mc199_328 rfl ?_
      refine en_iload mc199_329 rfl ?_
      refine en_iconst mc199_331 ?_
      refine en_iadd mc199_332 ?_
      refine en_sald mc199_333 hL g68 g69 ?_
      refine en_aload_n mc199_334 rfl ?_
      refine en_iload mc199_335 rfl ?_
      refine en_iconst mc199_337 ?_
      refine en_iadd mc199_338 ?_
      refine en_sald mc199_339 hL g70 g71 ?_
      refine en_callI (lz := [mm_r 72, mm_i (sc.2 (l4 + 1)), mm_i (sc.2 (l4 + 2)), mm_i (sc.2 (l4 + 3)), mm_i (sc.2 (l4 + 4)), mm_u]) mv199 mc199_340 rfl rfl (lk_m8_108) mv66 rfl (by decide) rfl (mk_cokV rfl (⟨rfl, by decide⟩ : mt_kd[72]? = some (.inl 7) ∧ 72 < 99)) rfl (mk_nh rfl _) ho63 ?_
      refine en_CI_mono h (fun x72 M73 h => ?_) (fun _ _ h => h)
      intro ho74
      replace h := h ho74
      refine en_istore (ls' := [mm_r mm_scr, mm_r 0, mm_r 72, mm_r 98, mm_i l4, mm_i x61, mm_i x72]) mc199_343 (Nat.le_of_ble_eq_true rfl) rfl ?_
      refine en_aload_n mc199_345 rfl ?_
      refine en_callI (lz := [mm_r 72]) mv199 mc199_346 rfl rfl (lk_m8_97) mv41 rfl (by decide) rfl (mk_cokV rfl (⟨rfl, by decide⟩ : mt_kd[72]? = some (.inl 7) ∧ 72 < 99)) rfl (mk_nh rfl _) ho74 ?_
      refine en_CI_mono h (fun x75 M76 h => ?_) (fun _ _ h => h)
      intro ho77
      replace h := h ho77
      obtain ⟨g78, h⟩ := h
      obtain ⟨g79, h⟩ := h
      refine en_iload mc199_349 rfl ?_
      refine en_icmp_eq 356 mc199_351 (by decide) g78 g79 (fun q => ?_) (fun q => ?_)
      · replace h := h.1 q
        refine en_iload mc199_356 rfl ?_
        refine en_if_ne 373 mc199_358 (by decide) g79 (fun q => ?_) (fun q => ?_)
        · replace h := h.1 q
          refine en_goto 1914 mc199_373 (by decide) ?_
          refine en_iinc (ls' := [mm_r mm_scr, mm_r 0, mm_r 72, mm_r 98, mm_i (l4 + 7), mm_i x61, mm_i x72]) mc199_1914 rfl rfl ?_
          refine en_goto 23 mc199_1917 (by decide) ?_
          exact h
        · replace h := h.2 q
          obtain ⟨g80, h⟩ := h
          obtain ⟨g81, h⟩ := h
          refine en_aload_n mc199_361 rfl ?_
          refine en_iconst mc199_362 ?_
          refine en_lald mc199_363 (⟨rfl, by decide, by decide⟩ : mt_kd[98]? = some (.inr (.long, 1)) ∧ 98 < 99 ∧ 1 < 2147483648) (by decide) (by decide) ?_
          refine en_iload mc199_364 rfl ?_
          refine en_i2l mc199_366 g80 ?_
          refine en_lcmp mc199_367 (ho77.1 98 0) g81 ?_
          refine en_if_eq 373 mc199_368 (by decide) (mk_cmp _ _) (fun q => ?_) (fun q => ?_)
          · replace h := h.1 q
            refine en_goto 1914 mc199_373 (by decide) ?_
            refine en_iinc (ls' := [mm_r mm_scr, mm_r 0, mm_r 72, mm_r 98, mm_i (l4 + 7), mm_i x61, mm_i x72]) mc199_1914 rfl rfl ?_
            refine en_goto 23 mc199_1917 (by decide) ?_
            exact h
          · replace h := h.2 q
            refine en_iconst mc199_371 ?_
            exact en_zret mv199 mc199_372 rfl (by decide) h
      · replace h := h.2 q
        refine en_iconst mc199_354 ?_
        exact en_zret mv199 mc199_355 rfl (by decide) h
    by_cases q3 : ((sc.2 l4) % 32) = 3
    · replace h := h.2.2.2.1 q3
      refine en_tsw 376 mc199_40 g4 (by first | (rw [q3]; done) | (rw [q3]; rfl)) (by decide) ?_
      obtain ⟨g82, h⟩ := h
      obtain ⟨g83, h⟩ := h
      obtain ⟨g84, h⟩ := h
      obtain ⟨g85, h⟩ := h
      refine en_aload_n mc199_376 rfl ?_
      refine en_aload_n mc199_377 rfl ?_
      refine en_iload mc199_378 rfl ?_
      refine en_iconst mc199_380 ?_
      refine en_iadd mc199_381 ?_
      refine en_sald mc199_382 hL g82 g83 ?_
      refine en_aload_n mc199_383 rfl ?_
      refine en_iload mc199_384 rfl ?_
      refine en_iconst mc199_386 ?_
      refine en_iadd mc199_387 ?_
      refine en_sald mc199_388 hL g84 g85 ?_
      refine en_aload_n mc199_389 rfl ?_
      refine en_callI (lz := [mm_r 0, mm_i (sc.2 (l4 + 1)), mm_i (sc.2 (l4 + 2)), mm_r 98, mm_u]) mv199 mc199_390 rfl rfl (lk_m8_109) mv69 rfl (by decide) rfl (mk_cokS rfl) rfl (mk_nh rfl _) ho ?_
      refine en_CI_mono h (fun x86 M87 h => ?_) (fun _ _ h => h)
      intro ho88
      replace h := h ho88
      obtain ⟨g89, h⟩ := h
      obtain ⟨g90, h⟩ := h
      obtain ⟨g91, h⟩ := h
      obtain ⟨g92, h⟩ := h
      refine en_istore (ls' := [mm_r mm_scr, mm_r 0, mm_r 72, mm_r 98, mm_i l4, mm_i x86, l6]) mc199_393 (Nat.le_of_ble_eq_true rfl) rfl ?_
      refine en_aload_n mc199_395 rfl ?_
      refine en_aload_n mc199_396 rfl ?_
      refine en_iload mc199_397 rfl ?_
      refine en_iconst mc199_399 ?_
      refine en_iadd mc199_400 ?_
      refine en_sald mc199_401 hL g89 g90 ?_
      refine en_aload_n mc199_402 rfl ?_
      refine en_iload mc199_403 rfl ?_
      refine en_iconst mc199_405 ?_
      refine en_iadd mc199_406 ?_
      refine en_sald mc199_407 hL g91 g92 ?_
      refine en_callI (lz := [mm_r 72, mm_i (sc.2 (l4 + 1)), mm_i (sc.2 (l4 + 2)), mm_u]) mv199 mc199_408 rfl rfl (lk_m8_112) mv71 rfl (by decide) rfl (mk_cokV rfl (⟨rfl, by decide⟩ : mt_kd[72]? = some (.inl 7) ∧ 72 < 99)) rfl (mk_nh rfl _) ho88 ?_
      refine en_CI_mono h (fun x93 M94 h => ?_) (fun _ _ h => h)
      intro ho95
      replace h := h ho95
      refine en_istore (ls' := [mm_r mm_scr, mm_r 0, mm_r 72, mm_r 98, mm_i l4, mm_i x86, mm_i x93]) mc199_411 (Nat.le_of_ble_eq_true rfl) rfl ?_
      refine en_aload_n mc199_413 rfl ?_
      refine en_callI (lz := [mm_r 72]) mv199 mc199_414 rfl rfl (lk_m8_97) mv41 rfl (by decide) rfl (mk_cokV rfl (⟨rfl, by decide⟩ : mt_kd[72]? = some (.inl 7) ∧ 72 < 99)) rfl (mk_nh rfl _) ho95 ?_
      refine en_CI_mono h (fun x96 M97 h => ?_) (fun _ _ h => h)
      intro ho98
      replace h := h ho98
      obtain ⟨g99, h⟩ := h
      obtain ⟨g100, h⟩ := h
      refine en_iload mc199_417 rfl ?_
      refine en_icmp_eq 424 mc199_419 (by decide) g99 g100 (fun q => ?_) (fun q => ?_)
      · replace h := h.1 q
        refine en_iload mc199_424 rfl ?_
        refine en_if_ne 441 mc199_426 (by decide) g100 (fun q => ?_) (fun q => ?_)
        · replace h := h.1 q
          refine en_goto 1914 mc199_441 (by decide) ?_
          refine en_iinc (ls' := [mm_r mm_scr, mm_r 0, mm_r 72, mm_r 98, mm_i (l4 + 7), mm_i x86, mm_i x93]) mc199_1914 rfl rfl ?_
          refine en_goto 23 mc199_1917 (by decide) ?_
          exact h
        · replace h := h.2 q
          obtain ⟨g101, h⟩ := h
          obtain ⟨g102, h⟩ := h
          refine en_aload_n mc199_429 rfl ?_
          refine en_iconst mc199_430 ?_
          refine en_lald mc199_431 (⟨rfl, by decide, by decide⟩ : mt_kd[98]? = some (.inr (.long, 1)) ∧ 98 < 99 ∧ 1 < 2147483648) (by decide) (by decide) ?_
          refine en_iload mc199_432 rfl ?_
          refine en_i2l mc199_434 g101 ?_
          refine en_lcmp mc199_435 (ho98.1 98 0) g102 ?_
          refine en_if_eq 441 mc199_436 (by decide) (mk_cmp _ _) (fun q => ?_) (fun q => ?_)
          · replace h := h.1 q
            refine en_goto 1914 mc199_441 (by decide) ?_
            refine en_iinc (ls' := [mm_r mm_scr, mm_r 0, mm_r 72, mm_r 98, mm_i (l4 + 7), mm_i x86, mm_i x93]) mc199_1914 rfl rfl ?_
            refine en_goto 23 mc199_1917 (by decide) ?_
            exact h
          · replace h := h.2 q
            refine en_iconst mc199_439 ?_
            exact en_zret mv199 mc199_440 rfl (by decide) h
      · replace h := h.2 q
        refine en_iconst mc199_422 ?_
        exact en_zret mv199 mc199_423 rfl (by decide) h
    by_cases q4 : ((sc.2 l4) % 32) = 4
    · replace h := h.2.2.2.2.1 q4
      refine en_tsw 444 mc199_40 g4 (by first | (rw [q4]; done) | (rw [q4]; rfl)) (by decide) ?_
      obtain ⟨g103, h⟩ := h
      obtain ⟨g104, h⟩ := h
      obtain ⟨g105, h⟩ := h
      obtain ⟨g106, h⟩ := h
      obtain ⟨g107, h⟩ := h
      obtain ⟨g108, h⟩ := h
      obtain ⟨g109, h⟩ := h
      obtain ⟨g110, h⟩ := h
      refine en_aload_n mc199_444 rfl ?_
      refine en_aload_n mc199_445 rfl ?_
      refine en_iload mc199_446 rfl ?_
      refine en_iconst mc199_448 ?_
      refine en_iadd mc199_449 ?_
      refine en_sald mc199_450 hL g103 g104 ?_
      refine en_aload_n mc199_451 rfl ?_
      refine en_iload mc199_452 rfl ?_
      refine en_iconst mc199_454 ?_
      refine en_iadd mc199_455 ?_
      refine en_sald mc199_456 hL g105 g106 ?_
      refine en_aload_n mc199_457 rfl ?_
      refine en_iload mc199_458 rfl ?_
      refine en_iconst mc199_460 ?_
      refine en_iadd mc199_461 ?_
      refine en_sald mc199_462 hL g107 g108 ?_
      refine en_aload_n mc199_463 rfl ?_
      refine en_iload mc199_464 rfl ?_
      refine en_iconst mc199_466 ?_
      refine en_iadd mc199_467 ?_
      refine en_sald mc199_468 hL g109 g110 ?_
      refine en_aload_n mc199_469 rfl ?_
      refine en_callI (lz := [mm_r 0, mm_i (sc.2 (l4 + 1)), mm_i (sc.2 (l4 + 2)), mm_i (sc.2 (l4 + 3)), mm_i (sc.2 (l4 + 4)), mm_r 98, mm_u]) mv199 mc199_470 rfl rfl (lk_m8_113) mv73 rfl (by decide) rfl (mk_cokS rfl) rfl (mk_nh rfl _) ho ?_
      refine en_CI_mono h (fun x111 M112 h => ?_) (fun _ _ h => h)
      intro ho113
      replace h := h ho113
      obtain ⟨g114, h⟩ := h
      obtain ⟨g115, h⟩ := h
      obtain ⟨g116, h⟩ := h
      obtain ⟨g117, h⟩ := h
      obtain ⟨g118, h⟩ := h
      obtain ⟨g119, h⟩ := h
      obtain ⟨g120, h⟩ := h
      obtain ⟨g121, h⟩ := h
      refine en_istore (ls' := [mm_r mm_scr, mm_r 0, mm_r 72, mm_r 98, mm_i l4, mm_i x111, l6]) mc199_473 (Nat.le_of_ble_eq_true rfl) rfl ?_
      refine en_aload_n mc199_475 rfl ?_
      refine en_aload_n mc199_476 rfl ?_
      refine en_iload mc199_477 rfl ?_
      refine en_iconst mc199_479 ?_
      refine en_iadd mc199_480 ?_
      refine en_sald mc199_481 hL g114 g115 ?_
      refine en_aload_n mc199_482 rfl ?_
      refine en_iload mc199_483 rfl ?_
      refine en_iconst mc199_485 ?_
      refine en_iadd mc199_486 ?_
      refine en_sald mc199_487 hL g116 g117 ?_
      refine en_aload_n mc199_488 rfl ?_
      refine en_iload mc199_489 rfl ?_
      refine en_iconst mc199_491 ?_
      refine en_iadd mc199_492 ?_
      refine en_sald mc199_493 hL g118 g119 ?_
      refine en_aload_n mc199_494 rfl ?_
      refine en_iload mc199_495 rfl ?_
      refine en_iconst mc199_497 ?_
      refine en_iadd mc199_498 ?_
      refine en_sald mc199_499 hL g120 g121 ?_
      refine en_callI (lz := [mm_r 72, mm_i (sc.2 (l4 + 1)), mm_i (sc.2 (l4 + 2)), mm_i (sc.2 (l4 + 3)), mm_i (sc.2 (l4 + 4)), mm_u, mm_u]) mv199 mc199_500 rfl rfl (lk_m8_115) mv75 rfl (by decide) rfl (mk_cokV rfl (⟨rfl, by decide⟩ : mt_kd[72]? = some (.inl 7) ∧ 72 < 99)) rfl (mk_nh rfl _) ho113 ?_
      refine en_CI_mono h (fun x122 M123 h => ?_) (fun _ _ h => h)
      intro ho124
      replace h := h ho124
      refine en_istore (ls' := [mm_r mm_scr, mm_r 0, mm_r 72, mm_r 98, mm_i l4, mm_i x111, mm_i x122]) mc199_503 (Nat.le_of_ble_eq_true rfl) rfl ?_
      refine en_aload_n mc199_505 rfl ?_
      refine en_callI (lz := [mm_r 72]) mv199 mc199_506 rfl rfl (lk_m8_97) mv41 rfl (by decide) rfl (mk_cokV rfl (⟨rfl, by decide⟩ : mt_kd[72]? = some (.inl 7) ∧ 72 < 99)) rfl (mk_nh rfl _) ho124 ?_
      refine en_CI_mono h (fun x125 M126 h => ?_) (fun _ _ h => h)
      intro ho127
      replace h := h ho127
      obtain ⟨g128, h⟩ := h
      obtain ⟨g129, h⟩ := h
      refine en_iload mc199_509 rfl ?_
      refine en_icmp_eq 516 mc199_511 (by decide) g128 g129 (fun q => ?_) (fun q => ?_)
      · replace h := h.1 q
        refine en_iload mc199_516 rfl ?_
        refine en_if_ne 533 mc199_518 (by decide) g129 (fun q => ?_) (fun q => ?_)
        · replace h := h.1 q
          refine en_goto 1914 mc199_533 (by decide) ?_
          refine en_iinc (ls' := [mm_r mm_scr, mm_r 0, mm_r 72, mm_r 98, mm_i (l4 + 7), mm_i x111, mm_i x122]) mc199_1914 rfl rfl ?_
          refine en_goto 23 mc199_1917 (by decide) ?_
          exact h
        · replace h := h.2 q
          obtain ⟨g130, h⟩ := h
          obtain ⟨g131, h⟩ := h
          refine en_aload_n mc199_521 rfl ?_
          refine en_iconst mc199_522 ?_
          refine en_lald mc199_523 (⟨rfl, by decide, by decide⟩ : mt_kd[98]? = some (.inr (.long, 1)) ∧ 98 < 99 ∧ 1 < 2147483648) (by decide) (by decide) ?_
          refine en_iload mc199_524 rfl ?_
          refine en_i2l mc199_526 g130 ?_
          refine en_lcmp mc199_527 (ho127.1 98 0) g131 ?_
          refine en_if_eq 533 mc199_528 (by decide) (mk_cmp _ _) (fun q => ?_) (fun q => ?_)
          · replace h := h.1 q
            refine en_goto 1914 mc199_533 (by decide) ?_
            refine en_iinc (ls' := [mm_r mm_scr, mm_r 0, mm_r 72, mm_r 98, mm_i (l4 + 7), mm_i x111, mm_i x122]) mc199_1914 rfl rfl ?_
            refine en_goto 23 mc199_1917 (by decide) ?_
            exact h
          · replace h := h.2 q
            refine en_iconst mc199_531 ?_
            exact en_zret mv199 mc199_532 rfl (by decide) h
      · replace h := h.2 q
        refine en_iconst mc199_514 ?_
        exact en_zret mv199 mc199_515 rfl (by decide) h
    by_cases q5 : ((sc.2 l4) % 32) = 5
    · replace h := h.2.2.2.2.2.1 q5
      refine en_tsw 536 mc199_40 g4 (by first | (rw [q5]; done) | (rw [q5]; rfl)) (by decide) ?_
      obtain ⟨g132, h⟩ := h
      obtain ⟨g133, h⟩ := h
      obtain ⟨g134, h⟩ := h
      obtain ⟨g135, h⟩ := h
      obtain ⟨g136, h⟩ := h
      obtain ⟨g137, h⟩ := h
      refine en_aload_n mc199_536 rfl ?_
      refine en_aload_n mc199_537 rfl ?_
      refine en_iload mc199_538 rfl ?_
      refine en_iconst mc199_540 ?_
      refine en_iadd mc199_541 ?_
      refine en_sald mc199_542 hL g132 g133 ?_
      refine en_aload_n mc199_543 rfl ?_
      refine en_iload mc199_544 rfl ?_
      refine en_iconst mc199_546 ?_
      refine en_iadd mc199_547 ?_
      refine en_sald mc199_548 hL g134 g135 ?_
      refine en_aload_n mc199_549 rfl ?_
      refine en_iload mc199_550 rfl ?_
      refine en_iconst mc199_552 ?_
      refine en_iadd mc199_553 ?_
      refine en_sald mc199_554 hL g136 g137 ?_
      refine en_aload_n mc199_555 rfl ?_
      refine en_callI (lz := [mm_r 0, mm_i (sc.2 (l4 + 1)), mm_i (sc.2 (l4 + 2)), mm_i (sc.2 (l4 + 3)), mm_r 98, mm_u]) mv199 mc199_556 rfl rfl (lk_m8_116) mv86 rfl (by decide) rfl (mk_cokS rfl) rfl (mk_nh rfl _) ho ?_
      refine en_CI_mono h (fun x138 M139 h => ?_) (fun _ _ h => h)
      intro ho140
      replace h := h ho140
      obtain ⟨g141, h⟩ := h
      obtain ⟨g142, h⟩ := h
      obtain ⟨g143, h⟩ := h
      obtain ⟨g144, h⟩ := h
      obtain ⟨g145, h⟩ := h
      obtain ⟨g146, h⟩ := h
      refine en_istore (ls' := [mm_r mm_scr, mm_r 0, mm_r 72, mm_r 98, mm_i l4, mm_i x138, l6]) mc199_559 (Nat.le_of_ble_eq_true rfl) rfl ?_
      refine en_aload_n mc199_561 rfl ?_
      refine en_aload_n mc199_562 rfl ?_
      refine en_iload mc199_563 rfl ?_
      refine en_iconst mc199_565 ?_
      refine en_iadd mc199_566 ?_
      refine en_sald mc199_567 hL g141 g142 ?_
      refine en_aload_n mc199_568 rfl ?_
      refine en_iload mc199_569 rfl ?_
      refine en_iconst mc199_571 ?_
      refine en_iadd mc199_572 ?_
      refine en_sald mc199_573 hL g143 g144 ?_
      refine en_aload_n mc199_574 rfl ?_
      refine en_iload mc199_575 rfl ?_
      refine en_iconst mc199_577 ?_
      refine en_iadd mc199_578 ?_
      refine en_sald mc199_579 hL g145 g146 ?_
      refine en_callI (lz := [mm_r 72, mm_i (sc.2 (l4 + 1)), mm_i (sc.2 (l4 + 2)), mm_i (sc.2 (l4 + 3)), mm_u, mm_u, mm_u, mm_u]) mv199 mc199_580 rfl rfl (lk_m8_119) mv89 rfl (by decide) rfl (mk_cokV rfl (⟨rfl, by decide⟩ : mt_kd[72]? = some (.inl 7) ∧ 72 < 99)) rfl (mk_nh rfl _) ho140 ?_
      refine en_CI_mono h (fun x147 M148 h => ?_) (fun _ _ h => h)
      intro ho149
      replace h := h ho149
      refine en_istore (ls' := [mm_r mm_scr, mm_r 0, mm_r 72, mm_r 98, mm_i l4, mm_i x138, mm_i x147]) mc199_583 (Nat.le_of_ble_eq_true rfl) rfl ?_
      refine en_aload_n mc199_585 rfl ?_
      refine en_callI (lz := [mm_r 72]) mv199 mc199_586 rfl rfl (lk_m8_97) mv41 rfl (by decide) rfl (mk_cokV rfl (⟨rfl, by decide⟩ : mt_kd[72]? = some (.inl 7) ∧ 72 < 99)) rfl (mk_nh rfl _) ho149 ?_
      refine en_CI_mono h (fun x150 M151 h => ?_) (fun _ _ h => h)
      intro ho152
      replace h := h ho152
      obtain ⟨g153, h⟩ := h
      obtain ⟨g154, h⟩ := h
      refine en_iload mc199_589 rfl ?_
      refine en_icmp_eq 596 mc199_591 (by decide) g153 g154 (fun q => ?_) (fun q => ?_)
      · replace h := h.1 q
        refine en_iload mc199_596 rfl ?_
        refine en_if_ne 613 mc199_598 (by decide) g154 (fun q => ?_) (fun q => ?_)
        · replace h := h.1 q
          refine en_goto 1914 mc199_613 (by decide) ?_
          refine en_iinc (ls' := [mm_r mm_scr, mm_r 0, mm_r 72, mm_r 98, mm_i (l4 + 7), mm_i x138, mm_i x147]) mc199_1914 rfl rfl ?_
          refine en_goto 23 mc199_1917 (by decide) ?_
          exact h
        · replace h := h.2 q
          obtain ⟨g155, h⟩ := h
          obtain ⟨g156, h⟩ := h
          refine en_aload_n mc199_601 rfl ?_
          refine en_iconst mc199_602 ?_
          refine en_lald mc199_603 (⟨rfl, by decide, by decide⟩ : mt_kd[98]? = some (.inr (.long, 1)) ∧ 98 < 99 ∧ 1 < 2147483648) (by decide) (by decide) ?_
          refine en_iload mc199_604 rfl ?_
          refine en_i2l mc199_606 g155 ?_
          refine en_lcmp mc199_607 (ho152.1 98 0) g156 ?_
          refine en_if_eq 613 mc199_608 (by decide) (mk_cmp _ _) (fun q => ?_) (fun q => ?_)
          · replace h := h.1 q
            refine en_goto 1914 mc199_613 (by decide) ?_
            refine en_iinc (ls' := [mm_r mm_scr, mm_r 0, mm_r 72, mm_r 98, mm_i (l4 + 7), mm_i x138, mm_i x147]) mc199_1914 rfl rfl ?_
            refine en_goto 23 mc199_1917 (by decide) ?_
            exact h
          · replace h := h.2 q
            refine en_iconst mc199_611 ?_
            exact en_zret mv199 mc199_612 rfl (by decide) h
      · replace h := h.2 q
        refine en_iconst mc199_594 ?_
        exact en_zret mv199 mc199_595 rfl (by decide) h
    by_cases q6 : ((sc.2 l4) % 32) = 6
    · replace h := h.2.2.2.2.2.2.1 q6
      refine en_tsw 616 mc199_40 g4 (by first | (rw [q6]; done) | (rw [q6]; rfl)) (by decide) ?_
      obtain ⟨g157, h⟩ := h
      obtain ⟨g158, h⟩ := h
      obtain ⟨g159, h⟩ := h
      obtain ⟨g160, h⟩ := h
      obtain ⟨g161, h⟩ := h
      obtain ⟨g162, h⟩ := h
      obtain ⟨g163, h⟩ := h
      obtain ⟨g164, h⟩ := h
      obtain ⟨g165, h⟩ := h
      obtain ⟨g166, h⟩ := h
      obtain ⟨g167, h⟩ := h
      obtain ⟨g168, h⟩ := h
      refine en_aload_n mc199_616 rfl ?_
      refine en_aload_n mc199_617 rfl ?_
      refine en_iload mc199_618 rfl ?_
      refine en_iconst mc199_620 ?_
      refine en_iadd mc199_621 ?_
      refine en_sald mc199_622 hL g157 g158 ?_
      refine en_aload_n mc199_623 rfl ?_
      refine en_iload mc199_624 rfl ?_
      refine en_iconst mc199_626 ?_
      refine en_iadd mc199_627 ?_
      refine en_sald mc199_628 hL g159 g160 ?_
      refine en_aload_n mc199_629 rfl ?_
      refine en_iload mc199_630 rfl ?_
      refine en_iconst mc199_632 ?_
      refine en_iadd mc199_633 ?_
      refine en_sald mc199_634 hL g161 g162 ?_
      refine en_aload_n mc199_635 rfl ?_
      refine en_iload mc199_636 rfl ?_
      refine en_iconst mc199_638 ?_
      refine en_iadd mc199_639 ?_
      refine en_sald mc199_640 hL g163 g164 ?_
      refine en_aload_n mc199_641 rfl ?_
      refine en_iload mc199_642 rfl ?_
      refine en_iconst mc199_644 ?_
      refine en_iadd mc199_645 ?_
      refine en_sald mc199_646 hL g165 g166 ?_
      refine en_aload_n mc199_647 rfl ?_
      refine en_iload mc199_648 rfl ?_
      refine en_bipush mc199_650 (by decide) ?_
      refine en_iadd mc199_652 ?_
      refine en_sald mc199_653 hL g167 g168 ?_
      refine en_aload_n mc199_654 rfl ?_
      refine en_callI (lz := [mm_r 0, mm_i (sc.2 (l4 + 1)), mm_i (sc.2 (l4 + 2)), mm_i (sc.2 (l4 + 3)), mm_i (sc.2 (l4 + 4)), mm_i (sc.2 (l4 + 5)), mm_i (sc.2 (l4 + 6)), mm_r 98, mm_u]) mv199 mc199_655 rfl rfl (lk_m8_120) mv92 rfl (by decide) rfl (mk_cokS rfl) rfl (mk_nh rfl _) ho ?_
      refine en_CI_mono h (fun x169 M170 h => ?_) (fun _ _ h => h)
      intro ho171
      replace h := h ho171
      obtain ⟨g172, h⟩ := h
      obtain ⟨g173, h⟩ := h
      obtain ⟨g174, h⟩ := h
      obtain ⟨g175, h⟩ := h
      obtain ⟨g176, h⟩ := h
      obtain ⟨g177, h⟩ := h
      obtain ⟨g178, h⟩ := h
      obtain ⟨g179, h⟩ := h
      obtain ⟨g180, h⟩ := h
      obtain ⟨g181, h⟩ := h
      obtain ⟨g182, h⟩ := h
      obtain ⟨g183, h⟩ := h
      refine en_istore (ls' := [mm_r mm_scr, mm_r 0, mm_r 72, mm_r 98, mm_i l4, mm_i x169, l6]) mc199_658 (Nat.le_of_ble_eq_true rfl) rfl ?_
      refine en_aload_n mc199_660 rfl ?_
      refine en_aload_n mc199_661 rfl ?_
      refine en_iload mc199_662 rfl ?_
      refine en_iconst mc199_664 ?_
      refine en_iadd mc199_665 ?_
      refine en_sald mc199_666 hL g172 g173 ?_
      refine en_aload_n mc199_667 rfl ?_
      refine en_iload mc199_668 rfl ?_
      refine en_iconst mc199_670 ?_
      refine en_iadd mc199_671 ?_
      refine en_sald mc199_672 hL g174 g175 ?_
      refine en_aload_n mc199_673 rfl ?_
      refine en_iload mc199_674 rfl ?_
      refine en_iconst mc199_676 ?_
      refine en_iadd mc199_677 ?_
      refine en_sald mc199_678 hL g176 g177 ?_
      refine en_aload_n mc199_679 rfl ?_
      refine en_iload mc199_680 rfl ?_
      refine en_iconst mc199_682 ?_
      refine en_iadd mc199_683 ?_
      refine en_sald mc199_684 hL g178 g179 ?_
      refine en_aload_n mc199_685 rfl ?_
      refine en_iload mc199_686 rfl ?_
      refine en_iconst mc199_688 ?_
      refine en_iadd mc199_689 ?_
      refine en_sald mc199_690 hL g180 g181 ?_
      refine en_aload_n mc199_691 rfl ?_
      refine en_iload mc199_692 rfl ?_
      refine en_bipush mc199_694 (by decide) ?_
      refine en_iadd mc199_696 ?_
      refine en_sald mc199_697 hL g182 g183 ?_
      refine en_callI (lz := [mm_r 72, mm_i (sc.2 (l4 + 1)), mm_i (sc.2 (l4 + 2)), mm_i (sc.2 (l4 + 3)), mm_i (sc.2 (l4 + 4)), mm_i (sc.2 (l4 + 5)), mm_i (sc.2 (l4 + 6)), mm_u, mm_u, mm_u]) mv199 mc199_698 rfl rfl (lk_m8_123) mv95 rfl (by decide) rfl (mk_cokV rfl (⟨rfl, by decide⟩ : mt_kd[72]? = some (.inl 7) ∧ 72 < 99)) rfl (mk_nh rfl _) ho171 ?_
      refine en_CI_mono h (fun x184 M185 h => ?_) (fun _ _ h => h)
      intro ho186
      replace h := h ho186
      refine en_istore (ls' := [mm_r mm_scr, mm_r 0, mm_r 72, mm_r 98, mm_i l4, mm_i x169, mm_i x184]) mc199_701 (Nat.le_of_ble_eq_true rfl) rfl ?_
      refine en_aload_n mc199_703 rfl ?_
      refine en_callI (lz := [mm_r 72]) mv199 mc199_704 rfl rfl (lk_m8_97) mv41 rfl (by decide) rfl (mk_cokV rfl (⟨rfl, by decide⟩ : mt_kd[72]? = some (.inl 7) ∧ 72 < 99)) rfl (mk_nh rfl _) ho186 ?_
      refine en_CI_mono h (fun x187 M188 h => ?_) (fun _ _ h => h)
      intro ho189
      replace h := h ho189
      obtain ⟨g190, h⟩ := h
      obtain ⟨g191, h⟩ := h
      refine en_iload mc199_707 rfl ?_
      refine en_icmp_eq 714 mc199_709 (by decide) g190 g191 (fun q => ?_) (fun q => ?_)
      · replace h := h.1 q
        refine en_iload mc199_714 rfl ?_
        refine en_if_ne 731 mc199_716 (by decide) g191 (fun q => ?_) (fun q => ?_)
        · replace h := h.1 q
          refine en_goto 1914 mc199_731 (by decide) ?_
          refine en_iinc (ls' := [mm_r mm_scr, mm_r 0, mm_r 72, mm_r 98, mm_i (l4 + 7), mm_i x169, mm_i x184]) mc199_1914 rfl rfl ?_
          refine en_goto 23 mc199_1917 (by decide) ?_
          exact h
        · replace h := h.2 q
          obtain ⟨g192, h⟩ := h
          obtain ⟨g193, h⟩ := h
          refine en_aload_n mc199_719 rfl ?_
          refine en_iconst mc199_720 ?_
          refine en_lald mc199_721 (⟨rfl, by decide, by decide⟩ : mt_kd[98]? = some (.inr (.long, 1)) ∧ 98 < 99 ∧ 1 < 2147483648) (by decide) (by decide) ?_
          refine en_iload mc199_722 rfl ?_
          refine en_i2l mc199_724 g192 ?_
          refine en_lcmp mc199_725 (ho189.1 98 0) g193 ?_
          refine en_if_eq 731 mc199_726 (by decide) (mk_cmp _ _) (fun q => ?_) (fun q => ?_)
          · replace h := h.1 q
            refine en_goto 1914 mc199_731 (by decide) ?_
            refine en_iinc (ls' := [mm_r mm_scr, mm_r 0, mm_r 72, mm_r 98, mm_i (l4 + 7), mm_i x169, mm_i x184]) mc199_1914 rfl rfl ?_
            refine en_goto 23 mc199_1917 (by decide) ?_
            exact h
          · replace h := h.2 q
            refine en_iconst mc199_729 ?_
            exact en_zret mv199 mc199_730 rfl (by decide) h
      · replace h := h.2 q
        refine en_iconst mc199_712 ?_
        exact en_zret mv199 mc199_713 rfl (by decide) h
    by_cases q7 : ((sc.2 l4) % 32) = 7
    · replace h := h.2.2.2.2.2.2.2.1 q7
      refine en_tsw 734 mc199_40 g4 (by first | (rw [q7]; done) | (rw [q7]; rfl)) (by decide) ?_
      obtain ⟨g194, h⟩ := h
      obtain ⟨g195, h⟩ := h
      obtain ⟨g196, h⟩ := h
      obtain ⟨g197, h⟩ := h
      obtain ⟨g198, h⟩ := h
      obtain ⟨g199, h⟩ := h
      obtain ⟨g200, h⟩ := h
      obtain ⟨g201, h⟩ := h
      obtain ⟨g202, h⟩ := h
      obtain ⟨g203, h⟩ := h
      obtain ⟨g204, h⟩ := h
      obtain ⟨g205, h⟩ := h
      refine en_aload_n mc199_734 rfl ?_
      refine en_aload_n mc199_735 rfl ?_
      refine en_iload mc199_736 rfl ?_
      refine en_iconst mc199_738 ?_
      refine en_iadd mc199_739 ?_
      refine en_sald mc199_740 hL g194 g195 ?_
      refine en_aload_n mc199_741 rfl ?_
      refine en_iload mc199_742 rfl ?_
      refine en_iconst mc199_744 ?_
      refine en_iadd mc199_745 ?_
      refine en_sald mc199_746 hL g196 g197 ?_
      refine en_aload_n mc199_747 rfl ?_
      refine en_iload mc199_748 rfl ?_
      refine en_iconst mc199_750 ?_
      refine en_iadd mc199_751 ?_
      refine en_sald mc199_752 hL g198 g199 ?_
      refine en_aload_n mc199_753 rfl ?_
      refine en_iload mc199_754 rfl ?_
      refine en_iconst mc199_756 ?_
      refine en_iadd mc199_757 ?_
      refine en_sald mc199_758 hL g200 g201 ?_
      refine en_aload_n mc199_759 rfl ?_
      refine en_iload mc199_760 rfl ?_
      refine en_iconst mc199_762 ?_
      refine en_iadd mc199_763 ?_
      refine en_sald mc199_764 hL g202 g203 ?_
      refine en_aload_n mc199_765 rfl ?_
      refine en_iload mc199_766 rfl ?_
      refine en_bipush mc199_768 (by decide) ?_
      refine en_iadd mc199_770 ?_
      refine en_sald mc199_771 hL g204 g205 ?_
      refine en_aload_n mc199_772 rfl ?_
      refine en_callI (lz := [mm_r 0, mm_i (sc.2 (l4 + 1)), mm_i (sc.2 (l4 + 2)), mm_i (sc.2 (l4 + 3)), mm_i (sc.2 (l4 + 4)), mm_i (sc.2 (l4 + 5)), mm_i (sc.2 (l4 + 6)), mm_r 98, mm_u]) mv199 mc199_773 rfl rfl (lk_m8_124) mv99 rfl (by decide) rfl (mk_cokS rfl) rfl (mk_nh rfl _) ho ?_
      refine en_CI_mono h (fun x206 M207 h => ?_) (fun _ _ h => h)
      intro ho208
      replace h := h ho208
      obtain ⟨g209, h⟩ := h
      obtain ⟨g210, h⟩ := h
      obtain ⟨g211, h⟩ := h
      obtain ⟨g212, h⟩ := h
      obtain ⟨g213, h⟩ := h
      obtain ⟨g214, h⟩ := h
      obtain ⟨g215, h⟩ := h
      obtain ⟨g216, h⟩ := h
      obtain ⟨g217, h⟩ := h
      obtain ⟨g218, h⟩ := h
      obtain ⟨g219, h⟩ := h
      obtain ⟨g220, h⟩ := h
      refine en_istore (ls' := [mm_r mm_scr, mm_r 0, mm_r 72, mm_r 98, mm_i l4, mm_i x206, l6]) mc199_776 (Nat.le_of_ble_eq_true rfl) rfl ?_
      refine en_aload_n mc199_778 rfl ?_
      refine en_aload_n mc199_779 rfl ?_
      refine en_iload mc199_780 rfl ?_
      refine en_iconst mc199_782 ?_
      refine en_iadd mc199_783 ?_
      refine en_sald mc199_784 hL g209 g210 ?_
      refine en_aload_n mc199_785 rfl ?_
      refine en_iload mc199_786 rfl ?_
      refine en_iconst mc199_788 ?_
      refine en_iadd mc199_789 ?_
      refine en_sald mc199_790 hL g211 g212 ?_
      refine en_aload_n mc199_791 rfl ?_
      refine en_iload mc199_792 rfl ?_
      refine en_iconst mc199_794 ?_
      refine en_iadd mc199_795 ?_
      refine en_sald mc199_796 hL g213 g214 ?_
      refine en_aload_n mc199_797 rfl ?_
      refine en_iload mc199_798 rfl ?_
      refine en_iconst mc199_800 ?_
      refine en_iadd mc199_801 ?_
      refine en_sald mc199_802 hL g215 g216 ?_
      refine en_aload_n mc199_803 rfl ?_
      refine en_iload mc199_804 rfl ?_
      refine en_iconst mc199_806 ?_
      refine en_iadd mc199_807 ?_
      refine en_sald mc199_808 hL g217 g218 ?_
      refine en_aload_n mc199_809 rfl ?_
      refine en_iload mc199_810 rfl ?_
      refine en_bipush mc199_812 (by decide) ?_
      refine en_iadd mc199_814 ?_
      refine en_sald mc199_815 hL g219 g220 ?_
      refine en_callI (lz := [mm_r 72, mm_i (sc.2 (l4 + 1)), mm_i (sc.2 (l4 + 2)), mm_i (sc.2 (l4 + 3)), mm_i (sc.2 (l4 + 4)), mm_i (sc.2 (l4 + 5)), mm_i (sc.2 (l4 + 6)), mm_u]) mv199 mc199_816 rfl rfl (lk_m8_126) mv101 rfl (by decide) rfl (mk_cokV rfl (⟨rfl, by decide⟩ : mt_kd[72]? = some (.inl 7) ∧ 72 < 99)) rfl (mk_nh rfl _) ho208 ?_
      refine en_CI_mono h (fun x221 M222 h => ?_) (fun _ _ h => h)
      intro ho223
      replace h := h ho223
      refine en_istore (ls' := [mm_r mm_scr, mm_r 0, mm_r 72, mm_r 98, mm_i l4, mm_i x206, mm_i x221]) mc199_819 (Nat.le_of_ble_eq_true rfl) rfl ?_
      refine en_aload_n mc199_821 rfl ?_
      refine en_callI (lz := [mm_r 72]) mv199 mc199_822 rfl rfl (lk_m8_97) mv41 rfl (by decide) rfl (mk_cokV rfl (⟨rfl, by decide⟩ : mt_kd[72]? = some (.inl 7) ∧ 72 < 99)) rfl (mk_nh rfl _) ho223 ?_
      refine en_CI_mono h (fun x224 M225 h => ?_) (fun _ _ h => h)
      intro ho226
      replace h := h ho226
      obtain ⟨g227, h⟩ := h
      obtain ⟨g228, h⟩ := h
      refine en_iload mc199_825 rfl ?_
      refine en_icmp_eq 832 mc199_827 (by decide) g227 g228 (fun q => ?_) (fun q => ?_)
      · replace h := h.1 q
        refine en_iload mc199_832 rfl ?_
        refine en_if_ne 849 mc199_834 (by decide) g228 (fun q => ?_) (fun q => ?_)
        · replace h := h.1 q
          refine en_goto 1914 mc199_849 (by decide) ?_
          refine en_iinc (ls' := [mm_r mm_scr, mm_r 0, mm_r 72, mm_r 98, mm_i (l4 + 7), mm_i x206, mm_i x221]) mc199_1914 rfl rfl ?_
          refine en_goto 23 mc199_1917 (by decide) ?_
          exact h
        · replace h := h.2 q
          obtain ⟨g229, h⟩ := h
          obtain ⟨g230, h⟩ := h
          refine en_aload_n mc199_837 rfl ?_
          refine en_iconst mc199_838 ?_
          refine en_lald mc199_839 (⟨rfl, by decide, by decide⟩ : mt_kd[98]? = some (.inr (.long, 1)) ∧ 98 < 99 ∧ 1 < 2147483648) (by decide) (by decide) ?_
          refine en_iload mc199_840 rfl ?_
          refine en_i2l mc199_842 g229 ?_
          refine en_lcmp mc199_843 (ho226.1 98 0) g230 ?_
          refine en_if_eq 849 mc199_844 (by decide) (mk_cmp _ _) (fun q => ?_) (fun q => ?_)
          · replace h := h.1 q
            refine en_goto 1914 mc199_849 (by decide) ?_
            refine en_iinc (ls' := [mm_r mm_scr, mm_r 0, mm_r 72, mm_r 98, mm_i (l4 + 7), mm_i x206, mm_i x221]) mc199_1914 rfl rfl ?_
            refine en_goto 23 mc199_1917 (by decide) ?_
            exact h
          · replace h := h.2 q
            refine en_iconst mc199_847 ?_
            exact en_zret mv199 mc199_848 rfl (by decide) h
      · replace h := h.2 q
        refine en_iconst mc199_830 ?_
        exact en_zret mv199 mc199_831 rfl (by decide) h
    by_cases q8 : ((sc.2 l4) % 32) = 8
    · replace h := h.2.2.2.2.2.2.2.2.1 q8
      refine en_tsw 852 mc199_40 g4 (by first | (rw [q8]; done) | (rw [q8]; rfl)) (by decide) ?_
      obtain ⟨g231, h⟩ := h
      obtain ⟨g232, h⟩ := h
      refine en_aload_n mc199_852 rfl ?_
      refine en_aload_n mc199_853 rfl ?_
      refine en_iload mc199_854 rfl ?_
      refine en_iconst mc199_856 ?_
      refine en_iadd mc199_857 ?_
      refine en_sald mc199_858 hL g231 g232 ?_
      refine en_aload_n mc199_859 rfl ?_
      refine en_callI (lz := [mm_r 0, mm_i (sc.2 (l4 + 1)), mm_r 98, mm_u]) mv199 mc199_860 rfl rfl (lk_m8_127) mv103 rfl (by decide) rfl (mk_cokS rfl) rfl (mk_nh rfl _) ho ?_
      refine en_CI_mono h (fun x233 M234 h => ?_) (fun _ _ h => h)
      intro ho235
      replace h := h ho235
      obtain ⟨g236, h⟩ := h
      obtain ⟨g237, h⟩ := h
      refine en_istore (ls' := [mm_r mm_scr, mm_r 0, mm_r 72, mm_r 98, mm_i l4, mm_i x233, l6]) mc199_863 (Nat.le_of_ble_eq_true rfl) rfl ?_
      refine en_aload_n mc199_865 rfl ?_
      refine en_aload_n mc199_866 rfl ?_
      refine en_iload mc199_867 rfl ?_
      refine en_iconst mc199_869 ?_
      refine en_iadd mc199_870 ?_
      refine en_sald mc199_871 hL g236 g237 ?_
      refine en_callI (lz := [mm_r 72, mm_i (sc.2 (l4 + 1))]) mv199 mc199_872 rfl rfl (lk_m8_129) mv104 rfl (by decide) rfl (mk_cokV rfl (⟨rfl, by decide⟩ : mt_kd[72]? = some (.inl 7) ∧ 72 < 99)) rfl (mk_nh rfl _) ho235 ?_
      refine en_CI_mono h (fun x238 M239 h => ?_) (fun _ _ h => h)
      intro ho240
      replace h := h ho240
      refine en_istore (ls' := [mm_r mm_scr, mm_r 0, mm_r 72, mm_r 98, mm_i l4, mm_i x233, mm_i x238]) mc199_875 (Nat.le_of_ble_eq_true rfl) rfl ?_
      refine en_aload_n mc199_877 rfl ?_
      refine en_callI (lz := [mm_r 72]) mv199 mc199_878 rfl rfl (lk_m8_97) mv41 rfl (by decide) rfl (mk_cokV rfl (⟨rfl, by decide⟩ : mt_kd[72]? = some (.inl 7) ∧ 72 < 99)) rfl (mk_nh rfl _) ho240 ?_
      refine en_CI_mono h (fun x241 M242 h => ?_) (fun _ _ h => h)
      intro ho243
      replace h := h ho243
      obtain ⟨g244, h⟩ := h
      obtain ⟨g245, h⟩ := h
      refine en_iload mc199_881 rfl ?_
      refine en_icmp_eq 888 mc199_883 (by decide) g244 g245 (fun q => ?_) (fun q => ?_)
      · replace h := h.1 q
        refine en_iload mc199_888 rfl ?_
        refine en_if_ne 905 mc199_890 (by decide) g245 (fun q => ?_) (fun q => ?_)
        · replace h := h.1 q
          refine en_goto 1914 mc199_905 (by decide) ?_
          refine en_iinc (ls' := [mm_r mm_scr, mm_r 0, mm_r 72, mm_r 98, mm_i (l4 + 7), mm_i x233, mm_i x238]) mc199_1914 rfl rfl ?_
          refine en_goto 23 mc199_1917 (by decide) ?_
          exact h
        · replace h := h.2 q
          obtain ⟨g246, h⟩ := h
          obtain ⟨g247, h⟩ := h
          refine en_aload_n mc199_893 rfl ?_
          refine en_iconst mc199_894 ?_
          refine en_lald mc199_895 (⟨rfl, by decide, by decide⟩ : mt_kd[98]? = some (.inr (.long, 1)) ∧ 98 < 99 ∧ 1 < 2147483648) (by decide) (by decide) ?_
          refine en_iload mc199_896 rfl ?_
          refine en_i2l mc199_898 g246 ?_
          refine en_lcmp mc199_899 (ho243.1 98 0) g247 ?_
          refine en_if_eq 905 mc199_900 (by decide) (mk_cmp _ _) (fun q => ?_) (fun q => ?_)
          · replace h := h.1 q
            refine en_goto 1914 mc199_905 (by decide) ?_
            refine en_iinc (ls' := [mm_r mm_scr, mm_r 0, mm_r 72, mm_r 98, mm_i (l4 + 7), mm_i x233, mm_i x238]) mc199_1914 rfl rfl ?_
            refine en_goto 23 mc199_1917 (by decide) ?_
            exact h
          · replace h := h.2 q
            refine en_iconst mc199_903 ?_
            exact en_zret mv199 mc199_904 rfl (by decide) h
      · replace h := h.2 q
        refine en_iconst mc199_886 ?_
        exact en_zret mv199 mc199_887 rfl (by decide) h
    by_cases q9 : ((sc.2 l4) % 32) = 9
    · replace h := h.2.2.2.2.2.2.2.2.2.1 q9
      refine en_tsw 908 mc199_40 g4 (by first | (rw [q9]; done) | (rw [q9]; rfl)) (by decide) ?_
      obtain ⟨g248, h⟩ := h
      obtain ⟨g249, h⟩ := h
      obtain ⟨g250, h⟩ := h
      obtain ⟨g251, h⟩ := h
      obtain ⟨g252, h⟩ := h
      obtain ⟨g253, h⟩ := h
      refine en_aload_n mc199_908 rfl ?_
      refine en_aload_n mc199_909 rfl ?_
      refine en_iload mc199_910 rfl ?_
      refine en_iconst mc199_912 ?_
      refine en_iadd mc199_913 ?_
      refine en_sald mc199_914 hL g248 g249 ?_
      refine en_aload_n mc199_915 rfl ?_
      refine en_iload mc199_916 rfl ?_
      refine en_iconst mc199_918 ?_
      refine en_iadd mc199_919 ?_
      refine en_sald mc199_920 hL g250 g251 ?_
      refine en_aload_n mc199_921 rfl ?_
      refine en_iload mc199_922 rfl ?_
      refine en_iconst mc199_924 ?_
      refine en_iadd mc199_925 ?_
      refine en_sald mc199_926 hL g252 g253 ?_
      refine en_aload_n mc199_927 rfl ?_
      refine en_callI (lz := [mm_r 0, mm_i (sc.2 (l4 + 1)), mm_i (sc.2 (l4 + 2)), mm_i (sc.2 (l4 + 3)), mm_r 98, mm_u]) mv199 mc199_928 rfl rfl (lk_m8_130) mv106 rfl (by decide) rfl (mk_cokS rfl) rfl (mk_nh rfl _) ho ?_
      refine en_CI_mono h (fun x254 M255 h => ?_) (fun _ _ h => h)
      intro ho256
      replace h := h ho256
      obtain ⟨g257, h⟩ := h
      obtain ⟨g258, h⟩ := h
      obtain ⟨g259, h⟩ := h
      obtain ⟨g260, h⟩ := h
      obtain ⟨g261, h⟩ := h
      obtain ⟨g262, h⟩ := h
      refine en_istore (ls' := [mm_r mm_scr, mm_r 0, mm_r 72, mm_r 98, mm_i l4, mm_i x254, l6]) mc199_931 (Nat.le_of_ble_eq_true rfl) rfl ?_
      refine en_aload_n mc199_933 rfl ?_
      refine en_aload_n mc199_934 rfl ?_
      refine en_iload mc199_935 rfl ?_
      refine en_iconst mc199_937 ?_
      refine en_iadd mc199_938 ?_
      refine en_sald mc199_939 hL g257 g258 ?_
      refine en_aload_n mc199_940 rfl ?_
      refine en_iload mc199_941 rfl ?_
      refine en_iconst mc199_943 ?_
      refine en_iadd mc199_944 ?_
      refine en_sald mc199_945 hL g259 g260 ?_
      refine en_aload_n mc199_946 rfl ?_
      refine en_iload mc199_947 rfl ?_
      refine en_iconst mc199_949 ?_
      refine en_iadd mc199_950 ?_
      refine en_sald mc199_951 hL g261 g262 ?_
      refine en_callI (lz := [mm_r 72, mm_i (sc.2 (l4 + 1)), mm_i (sc.2 (l4 + 2)), mm_i (sc.2 (l4 + 3)), mm_u]) mv199 mc199_952 rfl rfl (lk_m8_132) mv107 rfl (by decide) rfl (mk_cokV rfl (⟨rfl, by decide⟩ : mt_kd[72]? = some (.inl 7) ∧ 72 < 99)) rfl (mk_nh rfl _) ho256 ?_
      refine en_CI_mono h (fun x263 M264 h => ?_) (fun _ _ h => h)
      intro ho265
      replace h := h ho265
      refine en_istore (ls' := [mm_r mm_scr, mm_r 0, mm_r 72, mm_r 98, mm_i l4, mm_i x254, mm_i x263]) mc199_955 (Nat.le_of_ble_eq_true rfl) rfl ?_
      refine en_aload_n mc199_957 rfl ?_
      refine en_callI (lz := [mm_r 72]) mv199 mc199_958 rfl rfl (lk_m8_97) mv41 rfl (by decide) rfl (mk_cokV rfl (⟨rfl, by decide⟩ : mt_kd[72]? = some (.inl 7) ∧ 72 < 99)) rfl (mk_nh rfl _) ho265 ?_
      refine en_CI_mono h (fun x266 M267 h => ?_) (fun _ _ h => h)
      intro ho268
      replace h := h ho268
      obtain ⟨g269, h⟩ := h
      obtain ⟨g270, h⟩ := h
      refine en_iload mc199_961 rfl ?_
      refine en_icmp_eq 968 mc199_963 (by decide) g269 g270 (fun q => ?_) (fun q => ?_)
      · replace h := h.1 q
        refine en_iload mc199_968 rfl ?_
        refine en_if_ne 985 mc199_970 (by decide) g270 (fun q => ?_) (fun q => ?_)
        · replace h := h.1 q
          refine en_goto 1914 mc199_985 (by decide) ?_
          refine en_iinc (ls' := [mm_r mm_scr, mm_r 0, mm_r 72, mm_r 98, mm_i (l4 + 7), mm_i x254, mm_i x263]) mc199_1914 rfl rfl ?_
          refine en_goto 23 mc199_1917 (by decide) ?_
          exact h
        · replace h := h.2 q
          obtain ⟨g271, h⟩ := h
          obtain ⟨g272, h⟩ := h
          refine en_aload_n mc199_973 rfl ?_
          refine en_iconst mc199_974 ?_
          refine en_lald mc199_975 (⟨rfl, by decide, by decide⟩ : mt_kd[98]? = some (.inr (.long, 1)) ∧ 98 < 99 ∧ 1 < 2147483648) (by decide) (by decide) ?_
          refine en_iload mc199_976 rfl ?_
          refine en_i2l mc199_978 g271 ?_
          refine en_lcmp mc199_979 (ho268.1 98 0) g272 ?_
          refine en_if_eq 985 mc199_980 (by decide) (mk_cmp _ _) (fun q => ?_) (fun q => ?_)
          · replace h := h.1 q
            refine en_goto 1914 mc199_985 (by decide) ?_
            refine en_iinc (ls' := [mm_r mm_scr, mm_r 0, mm_r 72, mm_r 98, mm_i (l4 + 7), mm_i x254, mm_i x263]) mc199_1914 rfl rfl ?_
            refine en_goto 23 mc199_1917 (by decide) ?_
            exact h
          · replace h := h.2 q
            refine en_iconst mc199_983 ?_
            exact en_zret mv199 mc199_984 rfl (by decide) h
      · replace h := h.2 q
        refine en_iconst mc199_966 ?_
        exact en_zret mv199 mc199_967 rfl (by decide) h
    by_cases q10 : ((sc.2 l4) % 32) = 10
    · replace h := h.2.2.2.2.2.2.2.2.2.2.1 q10
      refine en_tsw 988 mc199_40 g4 (by first | (rw [q10]; done) | (rw [q10]; rfl)) (by decide) ?_
      obtain ⟨g273, h⟩ := h
      obtain ⟨g274, h⟩ := h
      obtain ⟨g275, h⟩ := h
      obtain ⟨g276, h⟩ := h
      obtain ⟨g277, h⟩ := h
      obtain ⟨g278, h⟩ := h
      obtain ⟨g279, h⟩ := h
      obtain ⟨g280, h⟩ := h
      refine en_aload_n mc199_988 rfl ?_
      refine en_aload_n mc199_989 rfl ?_
      refine en_iload mc199_990 rfl ?_
      refine en_iconst mc199_992 ?_
      refine en_iadd mc199_993 ?_
      refine en_sald mc199_994 hL g273 g274 ?_
      refine en_aload_n mc199_995 rfl ?_
      refine en_iload mc199_996 rfl ?_
      refine en_iconst mc199_998 ?_
      refine en_iadd mc199_999 ?_
      refine en_sald mc199_1000 hL g275 g276 ?_
      refine en_aload_n mc199_1001 rfl ?_
      refine en_iload mc199_1002 rfl ?_
      refine en_iconst mc199_1004 ?_
      refine en_iadd mc199_1005 ?_
      refine en_sald mc199_1006 hL g277 g278 ?_
      refine en_aload_n mc199_1007 rfl ?_
      refine en_iload mc199_1008 rfl ?_
      refine en_iconst mc199_1010 ?_
      refine en_iadd mc199_1011 ?_
      refine en_sald mc199_1012 hL g279 g280 ?_
      refine en_aload_n mc199_1013 rfl ?_
      refine en_callI (lz := [mm_r 0, mm_i (sc.2 (l4 + 1)), mm_i (sc.2 (l4 + 2)), mm_i (sc.2 (l4 + 3)), mm_i (sc.2 (l4 + 4)), mm_r 98, mm_u]) mv199 mc199_1014 rfl rfl (lk_m8_133) mv109 rfl (by decide) rfl (mk_cokS rfl) rfl (mk_nh rfl _) ho ?_
      refine en_CI_mono h (fun x281 M282 h => ?_) (fun _ _ h => h)
      intro ho283
      replace h := h ho283
      obtain ⟨g284, h⟩ := h
      obtain ⟨g285, h⟩ := h
      obtain ⟨g286, h⟩ := h
      obtain ⟨g287, h⟩ := h
      obtain ⟨g288, h⟩ := h
      obtain ⟨g289, h⟩ := h
      obtain ⟨g290, h⟩ := h
      obtain ⟨g291, h⟩ := h
      refine en_istore (ls' := [mm_r mm_scr, mm_r 0, mm_r 72, mm_r 98, mm_i l4, mm_i x281, l6]) mc199_1017 (Nat.le_of_ble_eq_true rfl) rfl ?_
      refine en_aload_n mc199_1019 rfl ?_
      refine en_aload_n mc199_1020 rfl ?_
      refine en_iload mc199_1021 rfl ?_
      refine en_iconst mc199_1023 ?_
      refine en_iadd mc199_1024 ?_
      refine en_sald mc199_1025 hL g284 g285 ?_
      refine en_aload_n mc199_1026 rfl ?_
      refine en_iload mc199_1027 rfl ?_
      refine en_iconst mc199_1029 ?_
      refine en_iadd mc199_1030 ?_
      refine en_sald mc199_1031 hL g286 g287 ?_
      refine en_aload_n mc199_1032 rfl ?_
      refine en_iload mc199_1033 rfl ?_
      refine en_iconst mc199_1035 ?_
      refine en_iadd mc199_1036 ?_
      refine en_sald mc199_1037 hL g288 g289 ?_
      refine en_aload_n mc199_1038 rfl ?_
      refine en_iload mc199_1039 rfl ?_
      refine en_iconst mc199_1041 ?_
      refine en_iadd mc199_1042 ?_
      refine en_sald mc199_1043 hL g290 g291 ?_
      refine en_callI (lz := [mm_r 72, mm_i (sc.2 (l4 + 1)), mm_i (sc.2 (l4 + 2)), mm_i (sc.2 (l4 + 3)), mm_i (sc.2 (l4 + 4)), mm_u]) mv199 mc199_1044 rfl rfl (lk_m8_135) mv110 rfl (by decide) rfl (mk_cokV rfl (⟨rfl, by decide⟩ : mt_kd[72]? = some (.inl 7) ∧ 72 < 99)) rfl (mk_nh rfl _) ho283 ?_
      refine en_CI_mono h (fun x292 M293 h => ?_) (fun _ _ h => h)
      intro ho294
      replace h := h ho294
      refine en_istore (ls' := [mm_r mm_scr, mm_r 0, mm_r 72, mm_r 98, mm_i l4, mm_i x281, mm_i x292]) mc199_1047 (Nat.le_of_ble_eq_true rfl) rfl ?_
      refine en_aload_n mc199_1049 rfl ?_
      refine en_callI (lz := [mm_r 72]) mv199 mc199_1050 rfl rfl (lk_m8_97) mv41 rfl (by decide) rfl (mk_cokV rfl (⟨rfl, by decide⟩ : mt_kd[72]? = some (.inl 7) ∧ 72 < 99)) rfl (mk_nh rfl _) ho294 ?_
      refine en_CI_mono h (fun x295 M296 h => ?_) (fun _ _ h => h)
      intro ho297
      replace h := h ho297
      obtain ⟨g298, h⟩ := h
      obtain ⟨g299, h⟩ := h
      refine en_iload mc199_1053 rfl ?_
      refine en_icmp_eq 1060 mc199_1055 (by decide) g298 g299 (fun q => ?_) (fun q => ?_)
      · replace h := h.1 q
        refine en_iload mc199_1060 rfl ?_
        refine en_if_ne 1077 mc199_1062 (by decide) g299 (fun q => ?_) (fun q => ?_)
        · replace h := h.1 q
          refine en_goto 1914 mc199_1077 (by decide) ?_
          refine en_iinc (ls' := [mm_r mm_scr, mm_r 0, mm_r 72, mm_r 98, mm_i (l4 + 7), mm_i x281, mm_i x292]) mc199_1914 rfl rfl ?_
          refine en_goto 23 mc199_1917 (by decide) ?_
          exact h
        · replace h := h.2 q
          obtain ⟨g300, h⟩ := h
          obtain ⟨g301, h⟩ := h
          refine en_aload_n mc199_1065 rfl ?_
          refine en_iconst mc199_1066 ?_
          refine en_lald mc199_1067 (⟨rfl, by decide, by decide⟩ : mt_kd[98]? = some (.inr (.long, 1)) ∧ 98 < 99 ∧ 1 < 2147483648) (by decide) (by decide) ?_
          refine en_iload mc199_1068 rfl ?_
          refine en_i2l mc199_1070 g300 ?_
          refine en_lcmp mc199_1071 (ho297.1 98 0) g301 ?_
          refine en_if_eq 1077 mc199_1072 (by decide) (mk_cmp _ _) (fun q => ?_) (fun q => ?_)
          · replace h := h.1 q
            refine en_goto 1914 mc199_1077 (by decide) ?_
            refine en_iinc (ls' := [mm_r mm_scr, mm_r 0, mm_r 72, mm_r 98, mm_i (l4 + 7), mm_i x281, mm_i x292]) mc199_1914 rfl rfl ?_
            refine en_goto 23 mc199_1917 (by decide) ?_
            exact h
          · replace h := h.2 q
            refine en_iconst mc199_1075 ?_
            exact en_zret mv199 mc199_1076 rfl (by decide) h
      · replace h := h.2 q
        refine en_iconst mc199_1058 ?_
        exact en_zret mv199 mc199_1059 rfl (by decide) h
    by_cases q11 : ((sc.2 l4) % 32) = 11
    · replace h := h.2.2.2.2.2.2.2.2.2.2.2.1 q11
      refine en_tsw 1080 mc199_40 g4 (by first | (rw [q11]; done) | (rw [q11]; rfl)) (by decide) ?_
      obtain ⟨g302, h⟩ := h
      obtain ⟨g303, h⟩ := h
      obtain ⟨g304, h⟩ := h
      obtain ⟨g305, h⟩ := h
      obtain ⟨g306, h⟩ := h
      obtain ⟨g307, h⟩ := h
      refine en_aload_n mc199_1080 rfl ?_
      refine en_aload_n mc199_1081 rfl ?_
      refine en_iload mc199_1082 rfl ?_
      refine en_iconst mc199_1084 ?_
      refine en_iadd mc199_1085 ?_
      refine en_sald mc199_1086 hL g302 g303 ?_
      refine en_aload_n mc199_1087 rfl ?_
      refine en_iload mc199_1088 rfl ?_
      refine en_iconst mc199_1090 ?_
      refine en_iadd mc199_1091 ?_
      refine en_sald mc199_1092 hL g304 g305 ?_
      refine en_aload_n mc199_1093 rfl ?_
      refine en_iload mc199_1094 rfl ?_
      refine en_iconst mc199_1096 ?_
      refine en_iadd mc199_1097 ?_
      refine en_sald mc199_1098 hL g306 g307 ?_
      refine en_aload_n mc199_1099 rfl ?_
      refine en_callI (lz := [mm_r 0, mm_i (sc.2 (l4 + 1)), mm_i (sc.2 (l4 + 2)), mm_i (sc.2 (l4 + 3)), mm_r 98, mm_u]) mv199 mc199_1100 rfl rfl (lk_m8_136) mv112 rfl (by decide) rfl (mk_cokS rfl) rfl (mk_nh rfl _) ho ?_
      refine en_CI_mono h (fun x308 M309 h => ?_) (fun _ _ h => h)
      intro ho310
      replace h := h ho310
      obtain ⟨g311, h⟩ := h
      obtain ⟨g312, h⟩ := h
      obtain ⟨g313, h⟩ := h
      obtain ⟨g314, h⟩ := h
      obtain ⟨g315, h⟩ := h
      obtain ⟨g316, h⟩ := h
      refine en_istore (ls' := [mm_r mm_scr, mm_r 0, mm_r 72, mm_r 98, mm_i l4, mm_i x308, l6]) mc199_1103 (Nat.le_of_ble_eq_true rfl) rfl ?_
      refine en_aload_n mc199_1105 rfl ?_
      refine en_aload_n mc199_1106 rfl ?_
      refine en_iload mc199_1107 rfl ?_
      refine en_iconst mc199_1109 ?_
      refine en_iadd mc199_1110 ?_
      refine en_sald mc199_1111 hL g311 g312 ?_
      refine en_aload_n mc199_1112 rfl ?_
      refine en_iload mc199_1113 rfl ?_
      refine en_iconst mc199_1115 ?_
      refine en_iadd mc199_1116 ?_
      refine en_sald mc199_1117 hL g313 g314 ?_
      refine en_aload_n mc199_1118 rfl ?_
      refine en_iload mc199_1119 rfl ?_
      refine en_iconst mc199_1121 ?_
      refine en_iadd mc199_1122 ?_
      refine en_sald mc199_1123 hL g315 g316 ?_
      refine en_callI (lz := [mm_r 72, mm_i (sc.2 (l4 + 1)), mm_i (sc.2 (l4 + 2)), mm_i (sc.2 (l4 + 3))]) mv199 mc199_1124 rfl rfl (lk_m8_138) mv114 rfl (by decide) rfl (mk_cokV rfl (⟨rfl, by decide⟩ : mt_kd[72]? = some (.inl 7) ∧ 72 < 99)) rfl (mk_nh rfl _) ho310 ?_
      refine en_CI_mono h (fun x317 M318 h => ?_) (fun _ _ h => h)
      intro ho319
      replace h := h ho319
      refine en_istore (ls' := [mm_r mm_scr, mm_r 0, mm_r 72, mm_r 98, mm_i l4, mm_i x308, mm_i x317]) mc199_1127 (Nat.le_of_ble_eq_true rfl) rfl ?_
      refine en_aload_n mc199_1129 rfl ?_
      refine en_callI (lz := [mm_r 72]) mv199 mc199_1130 rfl rfl (lk_m8_97) mv41 rfl (by decide) rfl (mk_cokV rfl (⟨rfl, by decide⟩ : mt_kd[72]? = some (.inl 7) ∧ 72 < 99)) rfl (mk_nh rfl _) ho319 ?_
      refine en_CI_mono h (fun x320 M321 h => ?_) (fun _ _ h => h)
      intro ho322
      replace h := h ho322
      obtain ⟨g323, h⟩ := h
      obtain ⟨g324, h⟩ := h
      refine en_iload mc199_1133 rfl ?_
      refine en_icmp_eq 1140 mc199_1135 (by decide) g323 g324 (fun q => ?_) (fun q => ?_)
      · replace h := h.1 q
        refine en_iload mc199_1140 rfl ?_
        refine en_if_ne 1164 mc199_1142 (by decide) g324 (fun q => ?_) (fun q => ?_)
        · replace h := h.1 q
          refine en_goto 1914 mc199_1164 (by decide) ?_
          refine en_iinc (ls' := [mm_r mm_scr, mm_r 0, mm_r 72, mm_r 98, mm_i (l4 + 7), mm_i x308, mm_i x317]) mc199_1914 rfl rfl ?_
          refine en_goto 23 mc199_1917 (by decide) ?_
          exact h
        · replace h := h.2 q
          obtain ⟨g325, h⟩ := h
          refine en_aload_n mc199_1145 rfl ?_
          refine en_iconst mc199_1146 ?_
          refine en_lald mc199_1147 (⟨rfl, by decide, by decide⟩ : mt_kd[98]? = some (.inr (.long, 1)) ∧ 98 < 99 ∧ 1 < 2147483648) (by decide) (by decide) ?_
          refine en_iload mc199_1148 rfl ?_
          refine en_if_eq 1157 mc199_1150 (by decide) g325 (fun q => ?_) (fun q => ?_)
          · replace h := h.1 q
            refine en_lconst mc199_1157 ?_
            refine en_lcmp mc199_1158 (ho322.1 98 0) (⟨by decide, by decide⟩ : mr_rj 0) ?_
            refine en_if_eq 1164 mc199_1159 (by decide) (mk_cmp _ _) (fun q => ?_) (fun q => ?_)
            · replace h := h.1 q
              refine en_goto 1914 mc199_1164 (by decide) ?_
              refine en_iinc (ls' := [mm_r mm_scr, mm_r 0, mm_r 72, mm_r 98, mm_i (l4 + 7), mm_i x308, mm_i x317]) mc199_1914 rfl rfl ?_
              refine en_goto 23 mc199_1917 (by decide) ?_
              exact h
            · replace h := h.2 q
              refine en_iconst mc199_1162 ?_
              exact en_zret mv199 mc199_1163 rfl (by decide) h
          · replace h := h.2 q
            refine en_lconst mc199_1153 ?_
            refine en_goto 1158 mc199_1154 (by decide) ?_
            refine en_lcmp mc199_1158 (ho322.1 98 0) (⟨by decide, by decide⟩ : mr_rj 1) ?_
            refine en_if_eq 1164 mc199_1159 (by decide) (mk_cmp _ _) (fun q => ?_) (fun q => ?_)
            · replace h := h.1 q
              refine en_goto 1914 mc199_1164 (by decide) ?_
              refine en_iinc (ls' := [mm_r mm_scr, mm_r 0, mm_r 72, mm_r 98, mm_i (l4 + 7), mm_i x308, mm_i x317]) mc199_1914 rfl rfl ?_
              refine en_goto 23 mc199_1917 (by decide) ?_
              exact h
            · replace h := h.2 q
              refine en_iconst mc199_1162 ?_
              exact en_zret mv199 mc199_1163 rfl (by decide) h
      · replace h := h.2 q
        refine en_iconst mc199_1138 ?_
        exact en_zret mv199 mc199_1139 rfl (by decide) h
    by_cases q12 : ((sc.2 l4) % 32) = 12
    · replace h := h.2.2.2.2.2.2.2.2.2.2.2.2.1 q12
      refine en_tsw 1167 mc199_40 g4 (by first | (rw [q12]; done) | (rw [q12]; rfl)) (by decide) ?_
      obtain ⟨g326, h⟩ := h
      obtain ⟨g327, h⟩ := h
      obtain ⟨g328, h⟩ := h
      obtain ⟨g329, h⟩ := h
      refine en_aload_n mc199_1167 rfl ?_
      refine en_aload_n mc199_1168 rfl ?_
      refine en_iload mc199_1169 rfl ?_
      refine en_iconst mc199_1171 ?_
      refine en_iadd mc199_1172 ?_
      refine en_sald mc199_1173 hL g326 g327 ?_
      refine en_aload_n mc199_1174 rfl ?_
      refine en_iload mc199_1175 rfl ?_
      refine en_iconst mc199_1177 ?_
      refine en_iadd mc199_1178 ?_
      refine en_sald mc199_1179 hL g328 g329 ?_
      refine en_aload_n mc199_1180 rfl ?_
      refine en_callI (lz := [mm_r 0, mm_i (sc.2 (l4 + 1)), mm_i (sc.2 (l4 + 2)), mm_r 98, mm_u]) mv199 mc199_1181 rfl rfl (lk_m8_139) mv141 rfl (by decide) rfl (mk_cokS rfl) rfl (mk_nh rfl _) ho ?_
      refine en_CI_mono h (fun x330 M331 h => ?_) (fun _ _ h => h)
      intro ho332
      replace h := h ho332
      obtain ⟨g333, h⟩ := h
      obtain ⟨g334, h⟩ := h
      obtain ⟨g335, h⟩ := h
      obtain ⟨g336, h⟩ := h
      refine en_istore (ls' := [mm_r mm_scr, mm_r 0, mm_r 72, mm_r 98, mm_i l4, mm_i x330, l6]) mc199_1184 (Nat.le_of_ble_eq_true rfl) rfl ?_
      refine en_aload_n mc199_1186 rfl ?_
      refine en_aload_n mc199_1187 rfl ?_
      refine en_iload mc199_1188 rfl ?_
      refine en_iconst mc199_1190 ?_
      refine en_iadd mc199_1191 ?_
      refine en_sald mc199_1192 hL g333 g334 ?_
      refine en_aload_n mc199_1193 rfl ?_
      refine en_iload mc199_1194 rfl ?_
      refine en_iconst mc199_1196 ?_
      refine en_iadd mc199_1197 ?_
      refine en_sald mc199_1198 hL g335 g336 ?_
      refine en_callI (lz := [mm_r 72, mm_i (sc.2 (l4 + 1)), mm_i (sc.2 (l4 + 2)), mm_u, mm_u]) mv199 mc199_1199 rfl rfl (lk_m8_141) mv155 rfl (by decide) rfl (mk_cokV rfl (⟨rfl, by decide⟩ : mt_kd[72]? = some (.inl 7) ∧ 72 < 99)) rfl (mk_nh rfl _) ho332 ?_
      refine en_CI_mono h (fun x337 M338 h => ?_) (fun _ _ h => h)
      intro ho339
      replace h := h ho339
      refine en_istore (ls' := [mm_r mm_scr, mm_r 0, mm_r 72, mm_r 98, mm_i l4, mm_i x330, mm_i x337]) mc199_1202 (Nat.le_of_ble_eq_true rfl) rfl ?_
      refine en_aload_n mc199_1204 rfl ?_
      refine en_callI (lz := [mm_r 72]) mv199 mc199_1205 rfl rfl (lk_m8_97) mv41 rfl (by decide) rfl (mk_cokV rfl (⟨rfl, by decide⟩ : mt_kd[72]? = some (.inl 7) ∧ 72 < 99)) rfl (mk_nh rfl _) ho339 ?_
      refine en_CI_mono h (fun x340 M341 h => ?_) (fun _ _ h => h)
      intro ho342
      replace h := h ho342
      obtain ⟨g343, h⟩ := h
      obtain ⟨g344, h⟩ := h
      refine en_iload mc199_1208 rfl ?_
      refine en_icmp_eq 1215 mc199_1210 (by decide) g343 g344 (fun q => ?_) (fun q => ?_)
      · replace h := h.1 q
        refine en_iload mc199_1215 rfl ?_
        refine en_if_ne 1232 mc199_1217 (by decide) g344 (fun q => ?_) (fun q => ?_)
        · replace h := h.1 q
          refine en_goto 1914 mc199_1232 (by decide) ?_
          refine en_iinc (ls' := [mm_r mm_scr, mm_r 0, mm_r 72, mm_r 98, mm_i (l4 + 7), mm_i x330, mm_i x337]) mc199_1914 rfl rfl ?_
          refine en_goto 23 mc199_1917 (by decide) ?_
          exact h
        · replace h := h.2 q
          obtain ⟨g345, h⟩ := h
          obtain ⟨g346, h⟩ := h
          refine en_aload_n mc199_1220 rfl ?_
          refine en_iconst mc199_1221 ?_
          refine en_lald mc199_1222 (⟨rfl, by decide, by decide⟩ : mt_kd[98]? = some (.inr (.long, 1)) ∧ 98 < 99 ∧ 1 < 2147483648) (by decide) (by decide) ?_
          refine en_iload mc199_1223 rfl ?_
          refine en_i2l mc199_1225 g345 ?_
          refine en_lcmp mc199_1226 (ho342.1 98 0) g346 ?_
          refine en_if_eq 1232 mc199_1227 (by decide) (mk_cmp _ _) (fun q => ?_) (fun q => ?_)
          · replace h := h.1 q
            refine en_goto 1914 mc199_1232 (by decide) ?_
            refine en_iinc (ls' := [mm_r mm_scr, mm_r 0, mm_r 72, mm_r 98, mm_i (l4 + 7), mm_i x330, mm_i x337]) mc199_1914 rfl rfl ?_
            refine en_goto 23 mc199_1917 (by decide) ?_
            exact h
          · replace h := h.2 q
            refine en_iconst mc199_1230 ?_
            exact en_zret mv199 mc199_1231 rfl (by decide) h
      · replace h := h.2 q
        refine en_iconst mc199_1213 ?_
        exact en_zret mv199 mc199_1214 rfl (by decide) h
    by_cases q13 : ((sc.2 l4) % 32) = 13
    · replace h := h.2.2.2.2.2.2.2.2.2.2.2.2.2.1 q13
      refine en_tsw 1235 mc199_40 g4 (by first | (rw [q13]; done) | (rw [q13]; rfl)) (by decide) ?_
      obtain ⟨g347, h⟩ := h
      obtain ⟨g348, h⟩ := h
      obtain ⟨g349, h⟩ := h
      obtain ⟨g350, h⟩ := h
      obtain ⟨g351, h⟩ := h
      obtain ⟨g352, h⟩ := h
      refine en_aload_n mc199_1235 rfl ?_
      refine en_aload_n mc199_1236 rfl ?_
      refine en_iload mc199_1237 rfl ?_
      refine en_iconst mc199_1239 ?_
      refine en_iadd mc199_1240 ?_
      refine en_sald mc199_1241 hL g347 g348 ?_
      refine en_aload_n mc199_1242 rfl ?_
      refine en_iload mc199_1243 rfl ?_
      refine en_iconst mc199_1245 ?_
      refine en_iadd mc199_1246 ?_
      refine en_sald mc199_1247 hL g349 g350 ?_
      refine en_aload_n mc199_1248 rfl ?_
      refine en_iload mc199_1249 rfl ?_
      refine en_iconst mc199_1251 ?_
      refine en_iadd mc199_1252 ?_
      refine en_sald mc199_1253 hL g351 g352 ?_
      refine en_aload_n mc199_1254 rfl ?_
      refine en_callI (lz := [mm_r 0, mm_i (sc.2 (l4 + 1)), mm_i (sc.2 (l4 + 2)), mm_i (sc.2 (l4 + 3)), mm_r 98, mm_u]) mv199 mc199_1255 rfl rfl (lk_m8_142) mv158 rfl (by decide) rfl (mk_cokS rfl) rfl (mk_nh rfl _) ho ?_
      refine en_CI_mono h (fun x353 M354 h => ?_) (fun _ _ h => h)
      intro ho355
      replace h := h ho355
      obtain ⟨g356, h⟩ := h
      obtain ⟨g357, h⟩ := h
      obtain ⟨g358, h⟩ := h
      obtain ⟨g359, h⟩ := h
      obtain ⟨g360, h⟩ := h
      obtain ⟨g361, h⟩ := h
      refine en_istore (ls' := [mm_r mm_scr, mm_r 0, mm_r 72, mm_r 98, mm_i l4, mm_i x353, l6]) mc199_1258 (Nat.le_of_ble_eq_true rfl) rfl ?_
      refine en_aload_n mc199_1260 rfl ?_
      refine en_aload_n mc199_1261 rfl ?_
      refine en_iload mc199_1262 rfl ?_
      refine en_iconst mc199_1264 ?_
      refine en_iadd mc199_1265 ?_
      refine en_sald mc199_1266 hL g356 g357 ?_
      refine en_aload_n mc199_1267 rfl ?_
      refine en_iload mc199_1268 rfl ?_
      refine en_iconst mc199_1270 ?_
      refine en_iadd mc199_1271 ?_
      refine en_sald mc199_1272 hL g358 g359 ?_
      refine en_aload_n mc199_1273 rfl ?_
      refine en_iload mc199_1274 rfl ?_
      refine en_iconst mc199_1276 ?_
      refine en_iadd mc199_1277 ?_
      refine en_sald mc199_1278 hL g360 g361 ?_
      refine en_callI (lz := [mm_r 72, mm_i (sc.2 (l4 + 1)), mm_i (sc.2 (l4 + 2)), mm_i (sc.2 (l4 + 3))]) mv199 mc199_1279 rfl rfl (lk_m8_144) mv159 rfl (by decide) rfl (mk_cokV rfl (⟨rfl, by decide⟩ : mt_kd[72]? = some (.inl 7) ∧ 72 < 99)) rfl (mk_nh rfl _) ho355 ?_
      refine en_CI_mono h (fun x362 M363 h => ?_) (fun _ _ h => h)
      intro ho364
      replace h := h ho364
      refine en_istore (ls' := [mm_r mm_scr, mm_r 0, mm_r 72, mm_r 98, mm_i l4, mm_i x353, mm_i x362]) mc199_1282 (Nat.le_of_ble_eq_true rfl) rfl ?_
      refine en_aload_n mc199_1284 rfl ?_
      refine en_callI (lz := [mm_r 72]) mv199 mc199_1285 rfl rfl (lk_m8_97) mv41 rfl (by decide) rfl (mk_cokV rfl (⟨rfl, by decide⟩ : mt_kd[72]? = some (.inl 7) ∧ 72 < 99)) rfl (mk_nh rfl _) ho364 ?_
      refine en_CI_mono h (fun x365 M366 h => ?_) (fun _ _ h => h)
      intro ho367
      replace h := h ho367
      obtain ⟨g368, h⟩ := h
      obtain ⟨g369, h⟩ := h
      refine en_iload mc199_1288 rfl ?_
      refine en_icmp_eq 1295 mc199_1290 (by decide) g368 g369 (fun q => ?_) (fun q => ?_)
      · replace h := h.1 q
        refine en_iload mc199_1295 rfl ?_
        refine en_if_ne 1312 mc199_1297 (by decide) g369 (fun q => ?_) (fun q => ?_)
        · replace h := h.1 q
          refine en_goto 1914 mc199_1312 (by decide) ?_
          refine en_iinc (ls' := [mm_r mm_scr, mm_r 0, mm_r 72, mm_r 98, mm_i (l4 + 7), mm_i x353, mm_i x362]) mc199_1914 rfl rfl ?_
          refine en_goto 23 mc199_1917 (by decide) ?_
          exact h
        · replace h := h.2 q
          obtain ⟨g370, h⟩ := h
          obtain ⟨g371, h⟩ := h
          refine en_aload_n mc199_1300 rfl ?_
          refine en_iconst mc199_1301 ?_
          refine en_lald mc199_1302 (⟨rfl, by decide, by decide⟩ : mt_kd[98]? = some (.inr (.long, 1)) ∧ 98 < 99 ∧ 1 < 2147483648) (by decide) (by decide) ?_
          refine en_iload mc199_1303 rfl ?_
          refine en_i2l mc199_1305 g370 ?_
          refine en_lcmp mc199_1306 (ho367.1 98 0) g371 ?_
          refine en_if_eq 1312 mc199_1307 (by decide) (mk_cmp _ _) (fun q => ?_) (fun q => ?_)
          · replace h := h.1 q
            refine en_goto 1914 mc199_1312 (by decide) ?_
            refine en_iinc (ls' := [mm_r mm_scr, mm_r 0, mm_r 72, mm_r 98, mm_i (l4 + 7), mm_i x353, mm_i x362]) mc199_1914 rfl rfl ?_
            refine en_goto 23 mc199_1917 (by decide) ?_
            exact h
          · replace h := h.2 q
            refine en_iconst mc199_1310 ?_
            exact en_zret mv199 mc199_1311 rfl (by decide) h
      · replace h := h.2 q
        refine en_iconst mc199_1293 ?_
        exact en_zret mv199 mc199_1294 rfl (by decide) h
    by_cases q14 : ((sc.2 l4) % 32) = 14
    · replace h := h.2.2.2.2.2.2.2.2.2.2.2.2.2.2.1 q14
      refine en_tsw 1315 mc199_40 g4 (by first | (rw [q14]; done) | (rw [q14]; rfl)) (by decide) ?_
      obtain ⟨g372, h⟩ := h
      obtain ⟨g373, h⟩ := h
      obtain ⟨g374, h⟩ := h
      obtain ⟨g375, h⟩ := h
      obtain ⟨g376, h⟩ := h
      obtain ⟨g377, h⟩ := h
      obtain ⟨g378, h⟩ := h
      obtain ⟨g379, h⟩ := h
      refine en_aload_n mc199_1315 rfl ?_
      refine en_aload_n mc199_1316 rfl ?_
      refine en_iload mc199_1317 rfl ?_
      refine en_iconst mc199_1319 ?_
      refine en_iadd mc199_1320 ?_
      refine en_sald mc199_1321 hL g372 g373 ?_
      refine en_aload_n mc199_1322 rfl ?_
      refine en_iload mc199_1323 rfl ?_
      refine en_iconst mc199_1325 ?_
      refine en_iadd mc199_1326 ?_
      refine en_sald mc199_1327 hL g374 g375 ?_
      refine en_aload_n mc199_1328 rfl ?_
      refine en_iload mc199_1329 rfl ?_
      refine en_iconst mc199_1331 ?_
      refine en_iadd mc199_1332 ?_
      refine en_sald mc199_1333 hL g376 g377 ?_
      refine en_aload_n mc199_1334 rfl ?_
      refine en_iload mc199_1335 rfl ?_
      refine en_iconst mc199_1337 ?_
      refine en_iadd mc199_1338 ?_
      refine en_sald mc199_1339 hL g378 g379 ?_
      refine en_aload_n mc199_1340 rfl ?_
      refine en_callI (lz := [mm_r 0, mm_i (sc.2 (l4 + 1)), mm_i (sc.2 (l4 + 2)), mm_i (sc.2 (l4 + 3)), mm_i (sc.2 (l4 + 4)), mm_r 98, mm_u]) mv199 mc199_1341 rfl rfl (lk_m8_145) mv161 rfl (by decide) rfl (mk_cokS rfl) rfl (mk_nh rfl _) ho ?_
      refine en_CI_mono h (fun x380 M381 h => ?_) (fun _ _ h => h)
      intro ho382
      replace h := h ho382
      obtain ⟨g383, h⟩ := h
      obtain ⟨g384, h⟩ := h
      obtain ⟨g385, h⟩ := h
      obtain ⟨g386, h⟩ := h
      obtain ⟨g387, h⟩ := h
      obtain ⟨g388, h⟩ := h
      obtain ⟨g389, h⟩ := h
      obtain ⟨g390, h⟩ := h
      refine en_istore (ls' := [mm_r mm_scr, mm_r 0, mm_r 72, mm_r 98, mm_i l4, mm_i x380, l6]) mc199_1344 (Nat.le_of_ble_eq_true rfl) rfl ?_
      refine en_aload_n mc199_1346 rfl ?_
      refine en_aload_n mc199_1347 rfl ?_
      refine en_iload mc199_1348 rfl ?_
      refine en_iconst mc199_1350 ?_
      refine en_iadd mc199_1351 ?_
      refine en_sald mc199_1352 hL g383 g384 ?_
      refine en_aload_n mc199_1353 rfl ?_
      refine en_iload mc199_1354 rfl ?_
      refine en_iconst mc199_1356 ?_
      refine en_iadd mc199_1357 ?_
      refine en_sald mc199_1358 hL g385 g386 ?_
      refine en_aload_n mc199_1359 rfl ?_
      refine en_iload mc199_1360 rfl ?_
      refine en_iconst mc199_1362 ?_
      refine en_iadd mc199_1363 ?_
      refine en_sald mc199_1364 hL g387 g388 ?_
      refine en_aload_n mc199_1365 rfl ?_
      refine en_iload mc199_1366 rfl ?_
      refine en_iconst mc199_1368 ?_
      refine en_iadd mc199_1369 ?_
      refine en_sald mc199_1370 hL g389 g390 ?_
      refine en_callI (lz := [mm_r 72, mm_i (sc.2 (l4 + 1)), mm_i (sc.2 (l4 + 2)), mm_i (sc.2 (l4 + 3)), mm_i (sc.2 (l4 + 4))]) mv199 mc199_1371 rfl rfl (lk_m8_147) mv162 rfl (by decide) rfl (mk_cokV rfl (⟨rfl, by decide⟩ : mt_kd[72]? = some (.inl 7) ∧ 72 < 99)) rfl (mk_nh rfl _) ho382 ?_
      refine en_CI_mono h (fun x391 M392 h => ?_) (fun _ _ h => h)
      intro ho393
      replace h := h ho393
      refine en_istore (ls' := [mm_r mm_scr, mm_r 0, mm_r 72, mm_r 98, mm_i l4, mm_i x380, mm_i x391]) mc199_1374 (Nat.le_of_ble_eq_true rfl) rfl ?_
      refine en_aload_n mc199_1376 rfl ?_
      refine en_callI (lz := [mm_r 72]) mv199 mc199_1377 rfl rfl (lk_m8_97) mv41 rfl (by decide) rfl (mk_cokV rfl (⟨rfl, by decide⟩ : mt_kd[72]? = some (.inl 7) ∧ 72 < 99)) rfl (mk_nh rfl _) ho393 ?_
      refine en_CI_mono h (fun x394 M395 h => ?_) (fun _ _ h => h)
      intro ho396
      replace h := h ho396
      obtain ⟨g397, h⟩ := h
      obtain ⟨g398, h⟩ := h
      refine en_iload mc199_1380 rfl ?_
      refine en_icmp_eq 1387 mc199_1382 (by decide) g397 g398 (fun q => ?_) (fun q => ?_)
      · replace h := h.1 q
        refine en_iload mc199_1387 rfl ?_
        refine en_if_ne 1404 mc199_1389 (by decide) g398 (fun q => ?_) (fun q => ?_)
        · replace h := h.1 q
          refine en_goto 1914 mc199_1404 (by decide) ?_
          refine en_iinc (ls' := [mm_r mm_scr, mm_r 0, mm_r 72, mm_r 98, mm_i (l4 + 7), mm_i x380, mm_i x391]) mc199_1914 rfl rfl ?_
          refine en_goto 23 mc199_1917 (by decide) ?_
          exact h
        · replace h := h.2 q
          obtain ⟨g399, h⟩ := h
          obtain ⟨g400, h⟩ := h
          refine en_aload_n mc199_1392 rfl ?_
          refine en_iconst mc199_1393 ?_
          refine en_lald mc199_1394 (⟨rfl, by decide, by decide⟩ : mt_kd[98]? = some (.inr (.long, 1)) ∧ 98 < 99 ∧ 1 < 2147483648) (by decide) (by decide) ?_
          refine en_iload mc199_1395 rfl ?_
          refine en_i2l mc199_1397 g399 ?_
          refine en_lcmp mc199_1398 (ho396.1 98 0) g400 ?_
          refine en_if_eq 1404 mc199_1399 (by decide) (mk_cmp _ _) (fun q => ?_) (fun q => ?_)
          · replace h := h.1 q
            refine en_goto 1914 mc199_1404 (by decide) ?_
            refine en_iinc (ls' := [mm_r mm_scr, mm_r 0, mm_r 72, mm_r 98, mm_i (l4 + 7), mm_i x380, mm_i x391]) mc199_1914 rfl rfl ?_
            refine en_goto 23 mc199_1917 (by decide) ?_
            exact h
          · replace h := h.2 q
            refine en_iconst mc199_1402 ?_
            exact en_zret mv199 mc199_1403 rfl (by decide) h
      · replace h := h.2 q
        refine en_iconst mc199_1385 ?_
        exact en_zret mv199 mc199_1386 rfl (by decide) h
    by_cases q15 : ((sc.2 l4) % 32) = 15
    · replace h := h.2.2.2.2.2.2.2.2.2.2.2.2.2.2.2.1 q15
      refine en_tsw 1407 mc199_40 g4 (by first | (rw [q15]; done) | (rw [q15]; rfl)) (by decide) ?_
      obtain ⟨g401, h⟩ := h
      obtain ⟨g402, h⟩ := h
      obtain ⟨g403, h⟩ := h
      obtain ⟨g404, h⟩ := h
      obtain ⟨g405, h⟩ := h
      obtain ⟨g406, h⟩ := h
      refine en_aload_n mc199_1407 rfl ?_
      refine en_aload_n mc199_1408 rfl ?_
      refine en_iload mc199_1409 rfl ?_
      refine en_iconst mc199_1411 ?_
      refine en_iadd mc199_1412 ?_
      refine en_sald mc199_1413 hL g401 g402 ?_
      refine en_aload_n mc199_1414 rfl ?_
      refine en_iload mc199_1415 rfl ?_
      refine en_iconst mc199_1417 ?_
      refine en_iadd mc199_1418 ?_
      refine en_sald mc199_1419 hL g403 g404 ?_
      refine en_aload_n mc199_1420 rfl ?_
      refine en_iload mc199_1421 rfl ?_
      refine en_iconst mc199_1423 ?_
      refine en_iadd mc199_1424 ?_
      refine en_sald mc199_1425 hL g405 g406 ?_
      refine en_aload_n mc199_1426 rfl ?_
      refine en_callI (lz := [mm_r 0, mm_i (sc.2 (l4 + 1)), mm_i (sc.2 (l4 + 2)), mm_i (sc.2 (l4 + 3)), mm_r 98, mm_u]) mv199 mc199_1427 rfl rfl (lk_m8_148) mv165 rfl (by decide) rfl (mk_cokS rfl) rfl (mk_nh rfl _) ho ?_
      refine en_CI_mono h (fun x407 M408 h => ?_) (fun _ _ h => h)
      intro ho409
      replace h := h ho409
      obtain ⟨g410, h⟩ := h
      obtain ⟨g411, h⟩ := h
      obtain ⟨g412, h⟩ := h
      obtain ⟨g413, h⟩ := h
      obtain ⟨g414, h⟩ := h
      obtain ⟨g415, h⟩ := h
      refine en_istore (ls' := [mm_r mm_scr, mm_r 0, mm_r 72, mm_r 98, mm_i l4, mm_i x407, l6]) mc199_1430 (Nat.le_of_ble_eq_true rfl) rfl ?_
      refine en_aload_n mc199_1432 rfl ?_
      refine en_aload_n mc199_1433 rfl ?_
      refine en_iload mc199_1434 rfl ?_
      refine en_iconst mc199_1436 ?_
      refine en_iadd mc199_1437 ?_
      refine en_sald mc199_1438 hL g410 g411 ?_
      refine en_aload_n mc199_1439 rfl ?_
      refine en_iload mc199_1440 rfl ?_
      refine en_iconst mc199_1442 ?_
      refine en_iadd mc199_1443 ?_
      refine en_sald mc199_1444 hL g412 g413 ?_
      refine en_aload_n mc199_1445 rfl ?_
      refine en_iload mc199_1446 rfl ?_
      refine en_iconst mc199_1448 ?_
      refine en_iadd mc199_1449 ?_
      refine en_sald mc199_1450 hL g414 g415 ?_
      refine en_callI (lz := [mm_r 72, mm_i (sc.2 (l4 + 1)), mm_i (sc.2 (l4 + 2)), mm_i (sc.2 (l4 + 3)), mm_u, mm_u, mm_u, mm_u, mm_u]) mv199 mc199_1451 rfl rfl (lk_m8_150) mv166 rfl (by decide) rfl (mk_cokV rfl (⟨rfl, by decide⟩ : mt_kd[72]? = some (.inl 7) ∧ 72 < 99)) rfl (mk_nh rfl _) ho409 ?_
      refine en_CI_mono h (fun x416 M417 h => ?_) (fun _ _ h => h)
      intro ho418
      replace h := h ho418
      refine en_istore (ls' := [mm_r mm_scr, mm_r 0, mm_r 72, mm_r 98, mm_i l4, mm_i x407, mm_i x416]) mc199_1454 (Nat.le_of_ble_eq_true rfl) rfl ?_
      refine en_aload_n mc199_1456 rfl ?_
      refine en_callI (lz := [mm_r 72]) mv199 mc199_1457 rfl rfl (lk_m8_97) mv41 rfl (by decide) rfl (mk_cokV rfl (⟨rfl, by decide⟩ : mt_kd[72]? = some (.inl 7) ∧ 72 < 99)) rfl (mk_nh rfl _) ho418 ?_
      refine en_CI_mono h (fun x419 M420 h => ?_) (fun _ _ h => h)
      intro ho421
      replace h := h ho421
      obtain ⟨g422, h⟩ := h
      obtain ⟨g423, h⟩ := h
      refine en_iload mc199_1460 rfl ?_
      refine en_icmp_eq 1467 mc199_1462 (by decide) g422 g423 (fun q => ?_) (fun q => ?_)
      · replace h := h.1 q
        refine en_iload mc199_1467 rfl ?_
        refine en_if_ne 1484 mc199_1469 (by decide) g423 (fun q => ?_) (fun q => ?_)
        · replace h := h.1 q
          refine en_goto 1914 mc199_1484 (by decide) ?_
          refine en_iinc (ls' := [mm_r mm_scr, mm_r 0, mm_r 72, mm_r 98, mm_i (l4 + 7), mm_i x407, mm_i x416]) mc199_1914 rfl rfl ?_
          refine en_goto 23 mc199_1917 (by decide) ?_
          exact h
        · replace h := h.2 q
          obtain ⟨g424, h⟩ := h
          obtain ⟨g425, h⟩ := h
          refine en_aload_n mc199_1472 rfl ?_
          refine en_iconst mc199_1473 ?_
          refine en_lald mc199_1474 (⟨rfl, by decide, by decide⟩ : mt_kd[98]? = some (.inr (.long, 1)) ∧ 98 < 99 ∧ 1 < 2147483648) (by decide) (by decide) ?_
          refine en_iload mc199_1475 rfl ?_
          refine en_i2l mc199_1477 g424 ?_
          refine en_lcmp mc199_1478 (ho421.1 98 0) g425 ?_
          refine en_if_eq 1484 mc199_1479 (by decide) (mk_cmp _ _) (fun q => ?_) (fun q => ?_)
          · replace h := h.1 q
            refine en_goto 1914 mc199_1484 (by decide) ?_
            refine en_iinc (ls' := [mm_r mm_scr, mm_r 0, mm_r 72, mm_r 98, mm_i (l4 + 7), mm_i x407, mm_i x416]) mc199_1914 rfl rfl ?_
            refine en_goto 23 mc199_1917 (by decide) ?_
            exact h
          · replace h := h.2 q
            refine en_iconst mc199_1482 ?_
            exact en_zret mv199 mc199_1483 rfl (by decide) h
      · replace h := h.2 q
        refine en_iconst mc199_1465 ?_
        exact en_zret mv199 mc199_1466 rfl (by decide) h
    by_cases q16 : ((sc.2 l4) % 32) = 16
    · replace h := h.2.2.2.2.2.2.2.2.2.2.2.2.2.2.2.2.1 q16
      refine en_tsw 1487 mc199_40 g4 (by first | (rw [q16]; done) | (rw [q16]; rfl)) (by decide) ?_
      obtain ⟨g426, h⟩ := h
      obtain ⟨g427, h⟩ := h
      obtain ⟨g428, h⟩ := h
      obtain ⟨g429, h⟩ := h
      obtain ⟨g430, h⟩ := h
      obtain ⟨g431, h⟩ := h
      refine en_aload_n mc199_1487 rfl ?_
      refine en_aload_n mc199_1488 rfl ?_
      refine en_iload mc199_1489 rfl ?_
      refine en_iconst mc199_1491 ?_
      refine en_iadd mc199_1492 ?_
      refine en_sald mc199_1493 hL g426 g427 ?_
      refine en_aload_n mc199_1494 rfl ?_
      refine en_iload mc199_1495 rfl ?_
      refine en_iconst mc199_1497 ?_
      refine en_iadd mc199_1498 ?_
      refine en_sald mc199_1499 hL g428 g429 ?_
      refine en_aload_n mc199_1500 rfl ?_
      refine en_iload mc199_1501 rfl ?_
      refine en_iconst mc199_1503 ?_
      refine en_iadd mc199_1504 ?_
      refine en_sald mc199_1505 hL g430 g431 ?_
      refine en_aload_n mc199_1506 rfl ?_
      refine en_callI (lz := [mm_r 0, mm_i (sc.2 (l4 + 1)), mm_i (sc.2 (l4 + 2)), mm_i (sc.2 (l4 + 3)), mm_r 98, mm_u]) mv199 mc199_1507 rfl rfl (lk_m8_151) mv168 rfl (by decide) rfl (mk_cokS rfl) rfl (mk_nh rfl _) ho ?_
      refine en_CI_mono h (fun x432 M433 h => ?_) (fun _ _ h => h)
      intro ho434
      replace h := h ho434
      obtain ⟨g435, h⟩ := h
      obtain ⟨g436, h⟩ := h
      obtain ⟨g437, h⟩ := h
      obtain ⟨g438, h⟩ := h
      obtain ⟨g439, h⟩ := h
      obtain ⟨g440, h⟩ := h
      refine en_istore (ls' := [mm_r mm_scr, mm_r 0, mm_r 72, mm_r 98, mm_i l4, mm_i x432, l6]) mc199_1510 (Nat.le_of_ble_eq_true rfl) rfl ?_
      refine en_aload_n mc199_1512 rfl ?_
      refine en_aload_n mc199_1513 rfl ?_
      refine en_iload mc199_1514 rfl ?_
      refine en_iconst mc199_1516 ?_
      refine en_iadd mc199_1517 ?_
      refine en_sald mc199_1518 hL g435 g436 ?_
      refine en_aload_n mc199_1519 rfl ?_
      refine en_iload mc199_1520 rfl ?_
      refine en_iconst mc199_1522 ?_
      refine en_iadd mc199_1523 ?_
      refine en_sald mc199_1524 hL g437 g438 ?_
      refine en_aload_n mc199_1525 rfl ?_
      refine en_iload mc199_1526 rfl ?_
      refine en_iconst mc199_1528 ?_
      refine en_iadd mc199_1529 ?_
      refine en_sald mc199_1530 hL g439 g440 ?_
      refine en_callI (lz := [mm_r 72, mm_i (sc.2 (l4 + 1)), mm_i (sc.2 (l4 + 2)), mm_i (sc.2 (l4 + 3)), mm_u, mm_u]) mv199 mc199_1531 rfl rfl (lk_m8_153) mv169 rfl (by decide) rfl (mk_cokV rfl (⟨rfl, by decide⟩ : mt_kd[72]? = some (.inl 7) ∧ 72 < 99)) rfl (mk_nh rfl _) ho434 ?_
      refine en_CI_mono h (fun x441 M442 h => ?_) (fun _ _ h => h)
      intro ho443
      replace h := h ho443
      refine en_istore (ls' := [mm_r mm_scr, mm_r 0, mm_r 72, mm_r 98, mm_i l4, mm_i x432, mm_i x441]) mc199_1534 (Nat.le_of_ble_eq_true rfl) rfl ?_
      refine en_aload_n mc199_1536 rfl ?_
      refine en_callI (lz := [mm_r 72]) mv199 mc199_1537 rfl rfl (lk_m8_97) mv41 rfl (by decide) rfl (mk_cokV rfl (⟨rfl, by decide⟩ : mt_kd[72]? = some (.inl 7) ∧ 72 < 99)) rfl (mk_nh rfl _) ho443 ?_
      refine en_CI_mono h (fun x444 M445 h => ?_) (fun _ _ h => h)
      intro ho446
      replace h := h ho446
      obtain ⟨g447, h⟩ := h
      obtain ⟨g448, h⟩ := h
      refine en_iload mc199_1540 rfl ?_
      refine en_icmp_eq 1547 mc199_1542 (by decide) g447 g448 (fun q => ?_) (fun q => ?_)
      · replace h := h.1 q
        refine en_iload mc199_1547 rfl ?_
        refine en_if_ne 1564 mc199_1549 (by decide) g448 (fun q => ?_) (fun q => ?_)
        · replace h := h.1 q
          refine en_goto 1914 mc199_1564 (by decide) ?_
          refine en_iinc (ls' := [mm_r mm_scr, mm_r 0, mm_r 72, mm_r 98, mm_i (l4 + 7), mm_i x432, mm_i x441]) mc199_1914 rfl rfl ?_
          refine en_goto 23 mc199_1917 (by decide) ?_
          exact h
        · replace h := h.2 q
          obtain ⟨g449, h⟩ := h
          obtain ⟨g450, h⟩ := h
          refine en_aload_n mc199_1552 rfl ?_
          refine en_iconst mc199_1553 ?_
          refine en_lald mc199_1554 (⟨rfl, by decide, by decide⟩ : mt_kd[98]? = some (.inr (.long, 1)) ∧ 98 < 99 ∧ 1 < 2147483648) (by decide) (by decide) ?_
          refine en_iload mc199_1555 rfl ?_
          refine en_i2l mc199_1557 g449 ?_
          refine en_lcmp mc199_1558 (ho446.1 98 0) g450 ?_
          refine en_if_eq 1564 mc199_1559 (by decide) (mk_cmp _ _) (fun q => ?_) (fun q => ?_)
          · replace h := h.1 q
            refine en_goto 1914 mc199_1564 (by decide) ?_
            refine en_iinc (ls' := [mm_r mm_scr, mm_r 0, mm_r 72, mm_r 98, mm_i (l4 + 7), mm_i x432, mm_i x441]) mc199_1914 rfl rfl ?_
            refine en_goto 23 mc199_1917 (by decide) ?_
            exact h
          · replace h := h.2 q
            refine en_iconst mc199_1562 ?_
            exact en_zret mv199 mc199_1563 rfl (by decide) h
      · replace h := h.2 q
        refine en_iconst mc199_1545 ?_
        exact en_zret mv199 mc199_1546 rfl (by decide) h
    by_cases q17 : ((sc.2 l4) % 32) = 17
    · replace h := h.2.2.2.2.2.2.2.2.2.2.2.2.2.2.2.2.2.1 q17
      refine en_tsw 1567 mc199_40 g4 (by first | (rw [q17]; done) | (rw [q17]; rfl)) (by decide) ?_
      obtain ⟨g451, h⟩ := h
      obtain ⟨g452, h⟩ := h
      obtain ⟨g453, h⟩ := h
      obtain ⟨g454, h⟩ := h
      obtain ⟨g455, h⟩ := h
      obtain ⟨g456, h⟩ := h
      refine en_aload_n mc199_1567 rfl ?_
      refine en_aload_n mc199_1568 rfl ?_
      refine en_iload mc199_1569 rfl ?_
      refine en_iconst mc199_1571 ?_
      refine en_iadd mc199_1572 ?_
      refine en_sald mc199_1573 hL g451 g452 ?_
      refine en_aload_n mc199_1574 rfl ?_
      refine en_iload mc199_1575 rfl ?_
      refine en_iconst mc199_1577 ?_
      refine en_iadd mc199_1578 ?_
      refine en_sald mc199_1579 hL g453 g454 ?_
      refine en_aload_n mc199_1580 rfl ?_
      refine en_iload mc199_1581 rfl ?_
      refine en_iconst mc199_1583 ?_
      refine en_iadd mc199_1584 ?_
      refine en_sald mc199_1585 hL g455 g456 ?_
      refine en_aload_n mc199_1586 rfl ?_
      refine en_callI (lz := [mm_r 0, mm_i (sc.2 (l4 + 1)), mm_i (sc.2 (l4 + 2)), mm_i (sc.2 (l4 + 3)), mm_r 98, mm_u]) mv199 mc199_1587 rfl rfl (lk_m8_154) mv171 rfl (by decide) rfl (mk_cokS rfl) rfl (mk_nh rfl _) ho ?_
      refine en_CI_mono h (fun x457 M458 h => ?_) (fun _ _ h => h)
      intro ho459
      replace h := h ho459
      obtain ⟨g460, h⟩ := h
      obtain ⟨g461, h⟩ := h
      obtain ⟨g462, h⟩ := h
      obtain ⟨g463, h⟩ := h
      obtain ⟨g464, h⟩ := h
      obtain ⟨g465, h⟩ := h
      refine en_istore (ls' := [mm_r mm_scr, mm_r 0, mm_r 72, mm_r 98, mm_i l4, mm_i x457, l6]) mc199_1590 (Nat.le_of_ble_eq_true rfl) rfl ?_
      refine en_aload_n mc199_1592 rfl ?_
      refine en_aload_n mc199_1593 rfl ?_
      refine en_iload mc199_1594 rfl ?_
      refine en_iconst mc199_1596 ?_
      refine en_iadd mc199_1597 ?_
      refine en_sald mc199_1598 hL g460 g461 ?_
      refine en_aload_n mc199_1599 rfl ?_
      refine en_iload mc199_1600 rfl ?_
      refine en_iconst mc199_1602 ?_
      refine en_iadd mc199_1603 ?_
      refine en_sald mc199_1604 hL g462 g463 ?_
      refine en_aload_n mc199_1605 rfl ?_
      refine en_iload mc199_1606 rfl ?_
      refine en_iconst mc199_1608 ?_
      refine en_iadd mc199_1609 ?_
      refine en_sald mc199_1610 hL g464 g465 ?_
      refine en_callI (lz := [mm_r 72, mm_i (sc.2 (l4 + 1)), mm_i (sc.2 (l4 + 2)), mm_i (sc.2 (l4 + 3)), mm_u, mm_u]) mv199 mc199_1611 rfl rfl (lk_m8_156) mv172 rfl (by decide) rfl (mk_cokV rfl (⟨rfl, by decide⟩ : mt_kd[72]? = some (.inl 7) ∧ 72 < 99)) rfl (mk_nh rfl _) ho459 ?_
      refine en_CI_mono h (fun x466 M467 h => ?_) (fun _ _ h => h)
      intro ho468
      replace h := h ho468
      refine en_istore (ls' := [mm_r mm_scr, mm_r 0, mm_r 72, mm_r 98, mm_i l4, mm_i x457, mm_i x466]) mc199_1614 (Nat.le_of_ble_eq_true rfl) rfl ?_
      refine en_aload_n mc199_1616 rfl ?_
      refine en_callI (lz := [mm_r 72]) mv199 mc199_1617 rfl rfl (lk_m8_97) mv41 rfl (by decide) rfl (mk_cokV rfl (⟨rfl, by decide⟩ : mt_kd[72]? = some (.inl 7) ∧ 72 < 99)) rfl (mk_nh rfl _) ho468 ?_
      refine en_CI_mono h (fun x469 M470 h => ?_) (fun _ _ h => h)
      intro ho471
      replace h := h ho471
      obtain ⟨g472, h⟩ := h
      obtain ⟨g473, h⟩ := h
      refine en_iload mc199_1620 rfl ?_
      refine en_icmp_eq 1627 mc199_1622 (by decide) g472 g473 (fun q => ?_) (fun q => ?_)
      · replace h := h.1 q
        refine en_iload mc199_1627 rfl ?_
        refine en_if_ne 1644 mc199_1629 (by decide) g473 (fun q => ?_) (fun q => ?_)
        · replace h := h.1 q
          refine en_goto 1914 mc199_1644 (by decide) ?_
          refine en_iinc (ls' := [mm_r mm_scr, mm_r 0, mm_r 72, mm_r 98, mm_i (l4 + 7), mm_i x457, mm_i x466]) mc199_1914 rfl rfl ?_
          refine en_goto 23 mc199_1917 (by decide) ?_
          exact h
        · replace h := h.2 q
          obtain ⟨g474, h⟩ := h
          obtain ⟨g475, h⟩ := h
          refine en_aload_n mc199_1632 rfl ?_
          refine en_iconst mc199_1633 ?_
          refine en_lald mc199_1634 (⟨rfl, by decide, by decide⟩ : mt_kd[98]? = some (.inr (.long, 1)) ∧ 98 < 99 ∧ 1 < 2147483648) (by decide) (by decide) ?_
          refine en_iload mc199_1635 rfl ?_
          refine en_i2l mc199_1637 g474 ?_
          refine en_lcmp mc199_1638 (ho471.1 98 0) g475 ?_
          refine en_if_eq 1644 mc199_1639 (by decide) (mk_cmp _ _) (fun q => ?_) (fun q => ?_)
          · replace h := h.1 q
            refine en_goto 1914 mc199_1644 (by decide) ?_
            refine en_iinc (ls' := [mm_r mm_scr, mm_r 0, mm_r 72, mm_r 98, mm_i (l4 + 7), mm_i x457, mm_i x466]) mc199_1914 rfl rfl ?_
            refine en_goto 23 mc199_1917 (by decide) ?_
            exact h
          · replace h := h.2 q
            refine en_iconst mc199_1642 ?_
            exact en_zret mv199 mc199_1643 rfl (by decide) h
      · replace h := h.2 q
        refine en_iconst mc199_1625 ?_
        exact en_zret mv199 mc199_1626 rfl (by decide) h
    by_cases q18 : ((sc.2 l4) % 32) = 18
    · replace h := h.2.2.2.2.2.2.2.2.2.2.2.2.2.2.2.2.2.2.1 q18
      refine en_tsw 1647 mc199_40 g4 (by first | (rw [q18]; done) | (rw [q18]; rfl)) (by decide) ?_
      obtain ⟨g476, h⟩ := h
      obtain ⟨g477, h⟩ := h
      obtain ⟨g478, h⟩ := h
      obtain ⟨g479, h⟩ := h
      refine en_aload_n mc199_1647 rfl ?_
      refine en_aload_n mc199_1648 rfl ?_
      refine en_iload mc199_1649 rfl ?_
      refine en_iconst mc199_1651 ?_
      refine en_iadd mc199_1652 ?_
      refine en_sald mc199_1653 hL g476 g477 ?_
      refine en_aload_n mc199_1654 rfl ?_
      refine en_iload mc199_1655 rfl ?_
      refine en_iconst mc199_1657 ?_
      refine en_iadd mc199_1658 ?_
      refine en_sald mc199_1659 hL g478 g479 ?_
      refine en_aload_n mc199_1660 rfl ?_
      refine en_callI (lz := [mm_r 0, mm_i (sc.2 (l4 + 1)), mm_i (sc.2 (l4 + 2)), mm_r 98, mm_u]) mv199 mc199_1661 rfl rfl (lk_m8_157) mv179 rfl (by decide) rfl (mk_cokS rfl) rfl (mk_nh rfl _) ho ?_
      refine en_CI_mono h (fun x480 M481 h => ?_) (fun _ _ h => h)
      intro ho482
      replace h := h ho482
      obtain ⟨g483, h⟩ := h
      obtain ⟨g484, h⟩ := h
      obtain ⟨g485, h⟩ := h
      obtain ⟨g486, h⟩ := h
      refine en_istore (ls' := [mm_r mm_scr, mm_r 0, mm_r 72, mm_r 98, mm_i l4, mm_i x480, l6]) mc199_1664 (Nat.le_of_ble_eq_true rfl) rfl ?_
      refine en_aload_n mc199_1666 rfl ?_
      refine en_aload_n mc199_1667 rfl ?_
      refine en_iload mc199_1668 rfl ?_
      refine en_iconst mc199_1670 ?_
      refine en_iadd mc199_1671 ?_
      refine en_sald mc199_1672 hL g483 g484 ?_
      refine en_aload_n mc199_1673 rfl ?_
      refine en_iload mc199_1674 rfl ?_
      refine en_iconst mc199_1676 ?_
      refine en_iadd mc199_1677 ?_
      refine en_sald mc199_1678 hL g485 g486 ?_
      refine en_callI (lz := [mm_r 72, mm_i (sc.2 (l4 + 1)), mm_i (sc.2 (l4 + 2)), mm_u]) mv199 mc199_1679 rfl rfl (lk_m8_159) mv182 rfl (by decide) rfl (mk_cokV rfl (⟨rfl, by decide⟩ : mt_kd[72]? = some (.inl 7) ∧ 72 < 99)) rfl (mk_nh rfl _) ho482 ?_
      refine en_CI_mono h (fun x487 M488 h => ?_) (fun _ _ h => h)
      intro ho489
      replace h := h ho489
      refine en_istore (ls' := [mm_r mm_scr, mm_r 0, mm_r 72, mm_r 98, mm_i l4, mm_i x480, mm_i x487]) mc199_1682 (Nat.le_of_ble_eq_true rfl) rfl ?_
      refine en_aload_n mc199_1684 rfl ?_
      refine en_callI (lz := [mm_r 72]) mv199 mc199_1685 rfl rfl (lk_m8_97) mv41 rfl (by decide) rfl (mk_cokV rfl (⟨rfl, by decide⟩ : mt_kd[72]? = some (.inl 7) ∧ 72 < 99)) rfl (mk_nh rfl _) ho489 ?_
      refine en_CI_mono h (fun x490 M491 h => ?_) (fun _ _ h => h)
      intro ho492
      replace h := h ho492
      obtain ⟨g493, h⟩ := h
      obtain ⟨g494, h⟩ := h
      refine en_iload mc199_1688 rfl ?_
      refine en_icmp_eq 1695 mc199_1690 (by decide) g493 g494 (fun q => ?_) (fun q => ?_)
      · replace h := h.1 q
        refine en_iload mc199_1695 rfl ?_
        refine en_if_ne 1712 mc199_1697 (by decide) g494 (fun q => ?_) (fun q => ?_)
        · replace h := h.1 q
          refine en_goto 1914 mc199_1712 (by decide) ?_
          refine en_iinc (ls' := [mm_r mm_scr, mm_r 0, mm_r 72, mm_r 98, mm_i (l4 + 7), mm_i x480, mm_i x487]) mc199_1914 rfl rfl ?_
          refine en_goto 23 mc199_1917 (by decide) ?_
          exact h
        · replace h := h.2 q
          obtain ⟨g495, h⟩ := h
          obtain ⟨g496, h⟩ := h
          refine en_aload_n mc199_1700 rfl ?_
          refine en_iconst mc199_1701 ?_
          refine en_lald mc199_1702 (⟨rfl, by decide, by decide⟩ : mt_kd[98]? = some (.inr (.long, 1)) ∧ 98 < 99 ∧ 1 < 2147483648) (by decide) (by decide) ?_
          refine en_iload mc199_1703 rfl ?_
          refine en_i2l mc199_1705 g495 ?_
          refine en_lcmp mc199_1706 (ho492.1 98 0) g496 ?_
          refine en_if_eq 1712 mc199_1707 (by decide) (mk_cmp _ _) (fun q => ?_) (fun q => ?_)
          · replace h := h.1 q
            refine en_goto 1914 mc199_1712 (by decide) ?_
            refine en_iinc (ls' := [mm_r mm_scr, mm_r 0, mm_r 72, mm_r 98, mm_i (l4 + 7), mm_i x480, mm_i x487]) mc199_1914 rfl rfl ?_
            refine en_goto 23 mc199_1917 (by decide) ?_
            exact h
          · replace h := h.2 q
            refine en_iconst mc199_1710 ?_
            exact en_zret mv199 mc199_1711 rfl (by decide) h
      · replace h := h.2 q
        refine en_iconst mc199_1693 ?_
        exact en_zret mv199 mc199_1694 rfl (by decide) h
    by_cases q19 : ((sc.2 l4) % 32) = 19
    · replace h := h.2.2.2.2.2.2.2.2.2.2.2.2.2.2.2.2.2.2.2.1 q19
      refine en_tsw 1715 mc199_40 g4 (by first | (rw [q19]; done) | (rw [q19]; rfl)) (by decide) ?_
      obtain ⟨g497, h⟩ := h
      obtain ⟨g498, h⟩ := h
      obtain ⟨g499, h⟩ := h
      obtain ⟨g500, h⟩ := h
      refine en_aload_n mc199_1715 rfl ?_
      refine en_aload_n mc199_1716 rfl ?_
      refine en_iload mc199_1717 rfl ?_
      refine en_iconst mc199_1719 ?_
      refine en_iadd mc199_1720 ?_
      refine en_sald mc199_1721 hL g497 g498 ?_
      refine en_aload_n mc199_1722 rfl ?_
      refine en_iload mc199_1723 rfl ?_
      refine en_iconst mc199_1725 ?_
      refine en_iadd mc199_1726 ?_
      refine en_sald mc199_1727 hL g499 g500 ?_
      refine en_aload_n mc199_1728 rfl ?_
      refine en_callI (lz := [mm_r 0, mm_i (sc.2 (l4 + 1)), mm_i (sc.2 (l4 + 2)), mm_r 98, mm_u]) mv199 mc199_1729 rfl rfl (lk_m8_160) mv184 rfl (by decide) rfl (mk_cokS rfl) rfl (mk_nh rfl _) ho ?_
      refine en_CI_mono h (fun x501 M502 h => ?_) (fun _ _ h => h)
      intro ho503
      replace h := h ho503
      obtain ⟨g504, h⟩ := h
      obtain ⟨g505, h⟩ := h
      obtain ⟨g506, h⟩ := h
      obtain ⟨g507, h⟩ := h
      refine en_istore (ls' := [mm_r mm_scr, mm_r 0, mm_r 72, mm_r 98, mm_i l4, mm_i x501, l6]) mc199_1732 (Nat.le_of_ble_eq_true rfl) rfl ?_
      refine en_aload_n mc199_1734 rfl ?_
      refine en_aload_n mc199_1735 rfl ?_
      refine en_iload mc199_1736 rfl ?_
      refine en_iconst mc199_1738 ?_
      refine en_iadd mc199_1739 ?_
      refine en_sald mc199_1740 hL g504 g505 ?_
      refine en_aload_n mc199_1741 rfl ?_
      refine en_iload mc199_1742 rfl ?_
      refine en_iconst mc199_1744 ?_
      refine en_iadd mc199_1745 ?_
      refine en_sald mc199_1746 hL g506 g507 ?_
      refine en_callI (lz := [mm_r 72, mm_i (sc.2 (l4 + 1)), mm_i (sc.2 (l4 + 2)), mm_u, mm_u]) mv199 mc199_1747 rfl rfl (lk_m8_162) mv185 rfl (by decide) rfl (mk_cokV rfl (⟨rfl, by decide⟩ : mt_kd[72]? = some (.inl 7) ∧ 72 < 99)) rfl (mk_nh rfl _) ho503 ?_
      refine en_CI_mono h (fun x508 M509 h => ?_) (fun _ _ h => h)
      intro ho510
      replace h := h ho510
      refine en_istore (ls' := [mm_r mm_scr, mm_r 0, mm_r 72, mm_r 98, mm_i l4, mm_i x501, mm_i x508]) mc199_1750 (Nat.le_of_ble_eq_true rfl) rfl ?_
      refine en_aload_n mc199_1752 rfl ?_
      refine en_callI (lz := [mm_r 72]) mv199 mc199_1753 rfl rfl (lk_m8_97) mv41 rfl (by decide) rfl (mk_cokV rfl (⟨rfl, by decide⟩ : mt_kd[72]? = some (.inl 7) ∧ 72 < 99)) rfl (mk_nh rfl _) ho510 ?_
      refine en_CI_mono h (fun x511 M512 h => ?_) (fun _ _ h => h)
      intro ho513
      replace h := h ho513
      obtain ⟨g514, h⟩ := h
      obtain ⟨g515, h⟩ := h
      refine en_iload mc199_1756 rfl ?_
      refine en_icmp_eq 1763 mc199_1758 (by decide) g514 g515 (fun q => ?_) (fun q => ?_)
      · replace h := h.1 q
        refine en_iload mc199_1763 rfl ?_
        refine en_if_ne 1787 mc199_1765 (by decide) g515 (fun q => ?_) (fun q => ?_)
        · replace h := h.1 q
          refine en_goto 1914 mc199_1787 (by decide) ?_
          refine en_iinc (ls' := [mm_r mm_scr, mm_r 0, mm_r 72, mm_r 98, mm_i (l4 + 7), mm_i x501, mm_i x508]) mc199_1914 rfl rfl ?_
          refine en_goto 23 mc199_1917 (by decide) ?_
          exact h
        · replace h := h.2 q
          obtain ⟨g516, h⟩ := h
          refine en_aload_n mc199_1768 rfl ?_
          refine en_iconst mc199_1769 ?_
          refine en_lald mc199_1770 (⟨rfl, by decide, by decide⟩ : mt_kd[98]? = some (.inr (.long, 1)) ∧ 98 < 99 ∧ 1 < 2147483648) (by decide) (by decide) ?_
          refine en_iload mc199_1771 rfl ?_
          refine en_if_eq 1780 mc199_1773 (by decide) g516 (fun q => ?_) (fun q => ?_)
          · replace h := h.1 q
            refine en_lconst mc199_1780 ?_
            refine en_lcmp mc199_1781 (ho513.1 98 0) (⟨by decide, by decide⟩ : mr_rj 0) ?_
            refine en_if_eq 1787 mc199_1782 (by decide) (mk_cmp _ _) (fun q => ?_) (fun q => ?_)
            · replace h := h.1 q
              refine en_goto 1914 mc199_1787 (by decide) ?_
              refine en_iinc (ls' := [mm_r mm_scr, mm_r 0, mm_r 72, mm_r 98, mm_i (l4 + 7), mm_i x501, mm_i x508]) mc199_1914 rfl rfl ?_
              refine en_goto 23 mc199_1917 (by decide) ?_
              exact h
            · replace h := h.2 q
              refine en_iconst mc199_1785 ?_
              exact en_zret mv199 mc199_1786 rfl (by decide) h
          · replace h := h.2 q
            refine en_lconst mc199_1776 ?_
            refine en_goto 1781 mc199_1777 (by decide) ?_
            refine en_lcmp mc199_1781 (ho513.1 98 0) (⟨by decide, by decide⟩ : mr_rj 1) ?_
            refine en_if_eq 1787 mc199_1782 (by decide) (mk_cmp _ _) (fun q => ?_) (fun q => ?_)
            · replace h := h.1 q
              refine en_goto 1914 mc199_1787 (by decide) ?_
              refine en_iinc (ls' := [mm_r mm_scr, mm_r 0, mm_r 72, mm_r 98, mm_i (l4 + 7), mm_i x501, mm_i x508]) mc199_1914 rfl rfl ?_
              refine en_goto 23 mc199_1917 (by decide) ?_
              exact h
            · replace h := h.2 q
              refine en_iconst mc199_1785 ?_
              exact en_zret mv199 mc199_1786 rfl (by decide) h
      · replace h := h.2 q
        refine en_iconst mc199_1761 ?_
        exact en_zret mv199 mc199_1762 rfl (by decide) h
    by_cases q20 : ((sc.2 l4) % 32) = 20
    · replace h := h.2.2.2.2.2.2.2.2.2.2.2.2.2.2.2.2.2.2.2.2.1 q20
      refine en_tsw 1790 mc199_40 g4 (by first | (rw [q20]; done) | (rw [q20]; rfl)) (by decide) ?_
      obtain ⟨g517, h⟩ := h
      obtain ⟨g518, h⟩ := h
      obtain ⟨g519, h⟩ := h
      obtain ⟨g520, h⟩ := h
      refine en_aload_n mc199_1790 rfl ?_
      refine en_aload_n mc199_1791 rfl ?_
      refine en_iload mc199_1792 rfl ?_
      refine en_iconst mc199_1794 ?_
      refine en_iadd mc199_1795 ?_
      refine en_sald mc199_1796 hL g517 g518 ?_
      refine en_aload_n mc199_1797 rfl ?_
      refine en_iload mc199_1798 rfl ?_
      refine en_iconst mc199_1800 ?_
      refine en_iadd mc199_1801 ?_
      refine en_sald mc199_1802 hL g519 g520 ?_
      refine en_aload_n mc199_1803 rfl ?_
      refine en_callI (lz := [mm_r 0, mm_i (sc.2 (l4 + 1)), mm_i (sc.2 (l4 + 2)), mm_r 98, mm_u]) mv199 mc199_1804 rfl rfl (lk_m8_163) mv189 rfl (by decide) rfl (mk_cokS rfl) rfl (mk_nh rfl _) ho ?_
      refine en_CI_mono h (fun x521 M522 h => ?_) (fun _ _ h => h)
      intro ho523
      replace h := h ho523
      obtain ⟨g524, h⟩ := h
      obtain ⟨g525, h⟩ := h
      obtain ⟨g526, h⟩ := h
      obtain ⟨g527, h⟩ := h
      refine en_istore (ls' := [mm_r mm_scr, mm_r 0, mm_r 72, mm_r 98, mm_i l4, mm_i x521, l6]) mc199_1807 (Nat.le_of_ble_eq_true rfl) rfl ?_
      refine en_aload_n mc199_1809 rfl ?_
      refine en_aload_n mc199_1810 rfl ?_
      refine en_iload mc199_1811 rfl ?_
      refine en_iconst mc199_1813 ?_
      refine en_iadd mc199_1814 ?_
      refine en_sald mc199_1815 hL g524 g525 ?_
      refine en_aload_n mc199_1816 rfl ?_
      refine en_iload mc199_1817 rfl ?_
      refine en_iconst mc199_1819 ?_
      refine en_iadd mc199_1820 ?_
      refine en_sald mc199_1821 hL g526 g527 ?_
      refine en_callI (lz := [mm_r 72, mm_i (sc.2 (l4 + 1)), mm_i (sc.2 (l4 + 2)), mm_u, mm_u, mm_u, mm_u, mm_u, mm_u, mm_u, mm_u]) mv199 mc199_1822 rfl rfl (lk_m8_165) mv191 rfl (by decide) rfl (mk_cokV rfl (⟨rfl, by decide⟩ : mt_kd[72]? = some (.inl 7) ∧ 72 < 99)) rfl (mk_nh rfl _) ho523 ?_
      refine en_CI_mono h (fun x528 M529 h => ?_) (fun _ _ h => h)
      intro ho530
      replace h := h ho530
      refine en_istore (ls' := [mm_r mm_scr, mm_r 0, mm_r 72, mm_r 98, mm_i l4, mm_i x521, mm_i x528]) mc199_1825 (Nat.le_of_ble_eq_true rfl) rfl ?_
      refine en_aload_n mc199_1827 rfl ?_
      refine en_callI (lz := [mm_r 72]) mv199 mc199_1828 rfl rfl (lk_m8_97) mv41 rfl (by decide) rfl (mk_cokV rfl (⟨rfl, by decide⟩ : mt_kd[72]? = some (.inl 7) ∧ 72 < 99)) rfl (mk_nh rfl _) ho530 ?_
      refine en_CI_mono h (fun x531 M532 h => ?_) (fun _ _ h => h)
      intro ho533
      replace h := h ho533
      obtain ⟨g534, h⟩ := h
      obtain ⟨g535, h⟩ := h
      refine en_iload mc199_1831 rfl ?_
      refine en_icmp_eq 1838 mc199_1833 (by decide) g534 g535 (fun q => ?_) (fun q => ?_)
      · replace h := h.1 q
        refine en_iload mc199_1838 rfl ?_
        refine en_if_ne 1855 mc199_1840 (by decide) g535 (fun q => ?_) (fun q => ?_)
        · replace h := h.1 q
          refine en_goto 1914 mc199_1855 (by decide) ?_
          refine en_iinc (ls' := [mm_r mm_scr, mm_r 0, mm_r 72, mm_r 98, mm_i (l4 + 7), mm_i x521, mm_i x528]) mc199_1914 rfl rfl ?_
          refine en_goto 23 mc199_1917 (by decide) ?_
          exact h
        · replace h := h.2 q
          obtain ⟨g536, h⟩ := h
          obtain ⟨g537, h⟩ := h
          refine en_aload_n mc199_1843 rfl ?_
          refine en_iconst mc199_1844 ?_
          refine en_lald mc199_1845 (⟨rfl, by decide, by decide⟩ : mt_kd[98]? = some (.inr (.long, 1)) ∧ 98 < 99 ∧ 1 < 2147483648) (by decide) (by decide) ?_
          refine en_iload mc199_1846 rfl ?_
          refine en_i2l mc199_1848 g536 ?_
          refine en_lcmp mc199_1849 (ho533.1 98 0) g537 ?_
          refine en_if_eq 1855 mc199_1850 (by decide) (mk_cmp _ _) (fun q => ?_) (fun q => ?_)
          · replace h := h.1 q
            refine en_goto 1914 mc199_1855 (by decide) ?_
            refine en_iinc (ls' := [mm_r mm_scr, mm_r 0, mm_r 72, mm_r 98, mm_i (l4 + 7), mm_i x521, mm_i x528]) mc199_1914 rfl rfl ?_
            refine en_goto 23 mc199_1917 (by decide) ?_
            exact h
          · replace h := h.2 q
            refine en_iconst mc199_1853 ?_
            exact en_zret mv199 mc199_1854 rfl (by decide) h
      · replace h := h.2 q
        refine en_iconst mc199_1836 ?_
        exact en_zret mv199 mc199_1837 rfl (by decide) h
    by_cases q21 : ((sc.2 l4) % 32) = 21
    · replace h := h.2.2.2.2.2.2.2.2.2.2.2.2.2.2.2.2.2.2.2.2.2.1 q21
      refine en_tsw 1858 mc199_40 g4 (by first | (rw [q21]; done) | (rw [q21]; rfl)) (by decide) ?_
      obtain ⟨g538, h⟩ := h
      obtain ⟨g539, h⟩ := h
      refine en_aload_n mc199_1858 rfl ?_
      refine en_aload_n mc199_1859 rfl ?_
      refine en_iload mc199_1860 rfl ?_
      refine en_iconst mc199_1862 ?_
      refine en_iadd mc199_1863 ?_
      refine en_sald mc199_1864 hL g538 g539 ?_
      refine en_aload_n mc199_1865 rfl ?_
      refine en_callI (lz := [mm_r 0, mm_i (sc.2 (l4 + 1)), mm_r 98, mm_u]) mv199 mc199_1866 rfl rfl (lk_m8_166) mv197 rfl (by decide) rfl (mk_cokS rfl) rfl (mk_nh rfl _) ho ?_
      refine en_CI_mono h (fun x540 M541 h => ?_) (fun _ _ h => h)
      intro ho542
      replace h := h ho542
      obtain ⟨g543, h⟩ := h
      obtain ⟨g544, h⟩ := h
      refine en_istore (ls' := [mm_r mm_scr, mm_r 0, mm_r 72, mm_r 98, mm_i l4, mm_i x540, l6]) mc199_1869 (Nat.le_of_ble_eq_true rfl) rfl ?_
      refine en_aload_n mc199_1871 rfl ?_
      refine en_aload_n mc199_1872 rfl ?_
      refine en_iload mc199_1873 rfl ?_
      refine en_iconst mc199_1875 ?_
      refine en_iadd mc199_1876 ?_
      refine en_sald mc199_1877 hL g543 g544 ?_
      refine en_callI (lz := [mm_r 72, mm_i (sc.2 (l4 + 1))]) mv199 mc199_1878 rfl rfl (lk_m8_168) mv198 rfl (by decide) rfl (mk_cokV rfl (⟨rfl, by decide⟩ : mt_kd[72]? = some (.inl 7) ∧ 72 < 99)) rfl (mk_nh rfl _) ho542 ?_
      refine en_CI_mono h (fun x545 M546 h => ?_) (fun _ _ h => h)
      intro ho547
      replace h := h ho547
      refine en_istore (ls' := [mm_r mm_scr, mm_r 0, mm_r 72, mm_r 98, mm_i l4, mm_i x540, mm_i x545]) mc199_1881 (Nat.le_of_ble_eq_true rfl) rfl ?_
      refine en_aload_n mc199_1883 rfl ?_
      refine en_callI (lz := [mm_r 72]) mv199 mc199_1884 rfl rfl (lk_m8_97) mv41 rfl (by decide) rfl (mk_cokV rfl (⟨rfl, by decide⟩ : mt_kd[72]? = some (.inl 7) ∧ 72 < 99)) rfl (mk_nh rfl _) ho547 ?_
      refine en_CI_mono h (fun x548 M549 h => ?_) (fun _ _ h => h)
      intro ho550
      replace h := h ho550
      obtain ⟨g551, h⟩ := h
      obtain ⟨g552, h⟩ := h
      refine en_iload mc199_1887 rfl ?_
      refine en_icmp_eq 1894 mc199_1889 (by decide) g551 g552 (fun q => ?_) (fun q => ?_)
      · replace h := h.1 q
        refine en_iload mc199_1894 rfl ?_
        refine en_if_ne 1911 mc199_1896 (by decide) g552 (fun q => ?_) (fun q => ?_)
        · replace h := h.1 q
          refine en_goto 1914 mc199_1911 (by decide) ?_
          refine en_iinc (ls' := [mm_r mm_scr, mm_r 0, mm_r 72, mm_r 98, mm_i (l4 + 7), mm_i x540, mm_i x545]) mc199_1914 rfl rfl ?_
          refine en_goto 23 mc199_1917 (by decide) ?_
          exact h
        · replace h := h.2 q
          obtain ⟨g553, h⟩ := h
          obtain ⟨g554, h⟩ := h
          refine en_aload_n mc199_1899 rfl ?_
          refine en_iconst mc199_1900 ?_
          refine en_lald mc199_1901 (⟨rfl, by decide, by decide⟩ : mt_kd[98]? = some (.inr (.long, 1)) ∧ 98 < 99 ∧ 1 < 2147483648) (by decide) (by decide) ?_
          refine en_iload mc199_1902 rfl ?_
          refine en_i2l mc199_1904 g553 ?_
          refine en_lcmp mc199_1905 (ho550.1 98 0) g554 ?_
          refine en_if_eq 1911 mc199_1906 (by decide) (mk_cmp _ _) (fun q => ?_) (fun q => ?_)
          · replace h := h.1 q
            refine en_goto 1914 mc199_1911 (by decide) ?_
            refine en_iinc (ls' := [mm_r mm_scr, mm_r 0, mm_r 72, mm_r 98, mm_i (l4 + 7), mm_i x540, mm_i x545]) mc199_1914 rfl rfl ?_
            refine en_goto 23 mc199_1917 (by decide) ?_
            exact h
          · replace h := h.2 q
            refine en_iconst mc199_1909 ?_
            exact en_zret mv199 mc199_1910 rfl (by decide) h
      · replace h := h.2 q
        refine en_iconst mc199_1892 ?_
        exact en_zret mv199 mc199_1893 rfl (by decide) h
    replace h := h.2.2.2.2.2.2.2.2.2.2.2.2.2.2.2.2.2.2.2.2.2.2 q0 q1 q2 q3 q4 q5 q6 q7 q8 q9 q10 q11 q12 q13 q14 q15 q16 q17 q18 q19 q20 q21
    refine en_tsw 1914 mc199_40 g4 (by rw [if_pos (by omega)]) (by decide) ?_
    refine en_iinc (ls' := [mm_r mm_scr, mm_r 0, mm_r 72, mm_r 98, mm_i (l4 + 7), l5, l6]) mc199_1914 rfl rfl ?_
    refine en_goto 23 mc199_1917 (by decide) ?_
    exact h
