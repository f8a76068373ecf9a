/-! ===== what stays: ranges of numbers, references that are never written again; printed by wip/whole/gen_rules2.py ===== -/
def mr_A (a : Nat) : Prop := a = 3 ∨ a = 24 ∨ a = 30 ∨ a = 36 ∨ a = 42 ∨ a = 48 ∨ a = 54 ∨ a = 60 ∨ a = 66
def mr_Rw (a : Nat) : Prop := a = 9 ∨ a = 11 ∨ a = 13 ∨ a = 15
def mr_rf : List (Nat × Int × Nat) := [(0, 0, 1), (0, 1, 2), (0, 2, 11), (0, 3, 13), (0, 4, 15), (0, 5, 17), (0, 7, 21), (0, 8, 23), (2, 1, 9), (3, 1, 4), (3, 2, 5), (3, 3, 6), (3, 4, 7), (3, 5, 8), (9, 0, 10), (11, 0, 12), (13, 0, 14), (15, 0, 16), (17, 2, 18), (17, 3, 19), (17, 4, 20), (21, 1, 22), (24, 1, 25), (24, 2, 26), (24, 3, 27), (24, 4, 28), (24, 5, 29), (30, 1, 31), (30, 2, 32), (30, 3, 33), (30, 4, 34), (30, 5, 35), (36, 1, 37), (36, 2, 38), (36, 3, 39), (36, 4, 40), (36, 5, 41), (42, 1, 43), (42, 2, 44), (42, 3, 45), (42, 4, 46), (42, 5, 47), (48, 1, 49), (48, 2, 50), (48, 3, 51), (48, 4, 52), (48, 5, 53), (54, 1, 55), (54, 2, 56), (54, 3, 57), (54, 4, 58), (54, 5, 59), (60, 1, 61), (60, 2, 62), (60, 3, 63), (60, 4, 64), (60, 5, 65), (66, 1, 67), (66, 2, 68), (66, 3, 69), (66, 4, 70), (66, 5, 71), (72, 1, 73), (72, 2, 74), (72, 3, 75), (72, 4, 76), (72, 5, 77), (72, 6, 78), (72, 7, 79), (72, 8, 80), (72, 9, 81), (72, 10, 82), (72, 12, 83), (72, 13, 84), (72, 15, 85), (72, 16, 86), (72, 18, 87), (72, 21, 88), (72, 22, 89), (72, 25, 90), (72, 26, 91), (72, 27, 92), (72, 28, 93), (72, 30, 94), (72, 39, 95), (72, 40, 96), (72, 41, 97)]
def mr_lg (a : Nat) (k : Int) : Prop := a = 10 ∨ a = 12 ∨ a = 14 ∨ a = 16 ∨ a = 98 ∨ (a = 72 ∧ k = 36)
def mr_ok (M : mm_M) : Prop := (∀ a k, mr_rj (M.1 a k)) ∧ (∀ a k, ¬ mr_lg a k → mr_rg (M.1 a k)) ∧ ∀ e ∈ mr_rf, M.2.1 e.1 e.2.1 = some e.2.2
theorem mr_ok_putI {M : mm_M} {a : Nat} {k x : Int} (h : mr_ok M) (hx : mr_rg x) : mr_ok (mm_putN M a k x) := by
  refine ⟨fun b j => ?_, fun b j hj => ?_, h.2.2⟩
  · simp only [mm_putN]; split
    · exact mr_rj_of hx
    · exact h.1 b j
  · simp only [mm_putN]; split
    · exact hx
    · exact h.2.1 b j hj
theorem mr_ok_putL {M : mm_M} {a : Nat} {k x : Int} (h : mr_ok M) (ha : mr_lg a k) (hx : mr_rj x) : mr_ok (mm_putN M a k x) := by
  refine ⟨fun b j => ?_, fun b j hj => ?_, h.2.2⟩
  · simp only [mm_putN]; split
    · exact hx
    · exact h.1 b j
  · simp only [mm_putN]; split
    · rename_i q
      obtain ⟨rfl, rfl⟩ := q
      exact absurd ha hj
    · exact h.2.1 b j hj
theorem mr_ok_putR {M : mm_M} {a : Nat} {k : Int} {x : Option Nat} (h : mr_ok M) (ha : ∀ e ∈ mr_rf, ¬ (e.1 = a ∧ e.2.1 = k)) : mr_ok (mm_putR M a k x) := by
  refine ⟨h.1, h.2.1, fun e he => ?_⟩
  simp only [mm_putR]
  rw [if_neg (ha e he)]
  exact h.2.2 e he
theorem mr_rf1 : ∀ e ∈ mr_rf, e.1 ≠ 1 := by decide +kernel
theorem mr_rf2 : ∀ e ∈ mr_rf, ¬ (e.1 = 2 ∧ e.2.1 = 0) := by decide +kernel
def mr_isr (t : Option FieldType) : Bool := match t with
  | some (.object _) => true
  | some (.array _) => true
  | _ => false
theorem mr_t1 : ∀ d, d < 8 → ∀ k, k < 47 → ((mt_ft.getD d [])[k]?).map (·.1) = some .long → d = 7 ∧ k = 36 := by decide +kernel
theorem mr_t2 : ∀ d, d < 8 → ∀ k, k < 47 → (((mt_ft.getD d [])[k]?).map (·.2)).getD false = false → mr_isr (((mt_ft.getD d [])[k]?).map (·.1)) = true → d = 2 ∧ k = 0 := by decide +kernel
theorem mr_t0 : ∀ d k, ((mt_ft.getD d [])[k]?).isSome = true → d < 8 ∧ k < 47 := by
  intro d k h
  by_cases hd : d < 8
  · refine ⟨hd, Nat.lt_of_not_le fun hk => ?_⟩
    have hl : ∀ d, d < 8 → (mt_ft.getD d []).length ≤ 47 := by decide +kernel
    rw [List.getElem?_eq_none (Nat.le_trans (hl d hd) hk)] at h
    cases h
  · have h8 : mt_ft.length = 8 := by decide +kernel
    rw [List.getD_eq_getElem?_getD, List.getElem?_eq_none (show mt_ft.length ≤ d by omega)] at h
    cases h
def mr_kb (a : Nat) : Bool := match mt_kd[a]? with
  | some (.inl d) => (decide (d = 7) == decide (a = 72)) && (decide (d = 2) == decide (a = 2))
  | some (.inr (.long, _)) => decide (a = 10) || decide (a = 12) || decide (a = 14) || decide (a = 16) || decide (a = 98)
  | some (.inr (.object _, _)) => decide (a = 1)
  | _ => true
theorem mr_kball : ((List.range 99).all mr_kb) = true := by decide +kernel
theorem mr_kdl : mt_kd.length = 99 := by decide +kernel
theorem mr_k {a : Nat} {k : mm_K} (h : mt_kd[a]? = some k) : mr_kb a = true := by
  have hl := (List.getElem?_eq_some_iff.mp h).1
  rw [mr_kdl] at hl
  exact List.all_eq_true.mp mr_kball a (List.mem_range.mpr hl)
theorem mr_k7 {a : Nat} (h : mt_kd[a]? = some (.inl 7)) : a = 72 := by
  have g := mr_k h
  unfold mr_kb at g
  rw [h] at g
  simp at g
  exact g.1
theorem mr_k2 {a : Nat} (h : mt_kd[a]? = some (.inl 2)) : a = 2 := by
  have g := mr_k h
  unfold mr_kb at g
  rw [h] at g
  simp at g
  exact g.2
theorem mr_kl {a m : Nat} (h : mt_kd[a]? = some (.inr (.long, m))) (k : Int) : mr_lg a k := by
  have g := mr_k h
  unfold mr_kb at g
  rw [h] at g
  simp only [Bool.or_eq_true, decide_eq_true_eq] at g
  unfold mr_lg
  omega
theorem mr_ko {a m : Nat} {C : String} (h : mt_kd[a]? = some (.inr (.object C, m))) : a = 1 := by
  have g := mr_k h
  unfold mr_kb at g
  rw [h] at g
  simpa using g
theorem mr_k99 : mt_kd[99]? = none := by decide +kernel
section
variable {pc : Nat} {ls st : List mm_V} {n : Nat} {M : mm_M} {P : mm_P} {c : Nat} {ini : Bool} {τ : mm_S}
theorem mm_ld_q {k i w : Nat} (h : mm_ld pc ls st n M k i w = some τ) : τ.2.2.2.1 = n ∧ τ.2.2.2.2 = M := by
  unfold mm_ld at h
  repeat' split at h
  all_goals first | (cases h; exact ⟨rfl, rfl⟩) | cases h
theorem mm_sto_q {k i w : Nat} (h : mm_sto pc ls st n M k i w = some τ) : τ.2.2.2.1 = n ∧ τ.2.2.2.2 = M := by
  unfold mm_sto at h
  repeat' split at h
  all_goals first | (cases h; exact ⟨rfl, rfl⟩) | cases h
theorem mm_i1_q {f : Int → Int} (h : mm_i1 pc ls st n M f = some τ) : τ.2.2.2.1 = n ∧ τ.2.2.2.2 = M := by
  unfold mm_i1 at h
  repeat' split at h
  all_goals first | (cases h; exact ⟨rfl, rfl⟩) | cases h
theorem mm_i2_q {f : Int → Int → Int} (h : mm_i2 pc ls st n M f = some τ) : τ.2.2.2.1 = n ∧ τ.2.2.2.2 = M := by
  unfold mm_i2 at h
  repeat' split at h
  all_goals first | (cases h; exact ⟨rfl, rfl⟩) | cases h
theorem mm_j2_q {f : Int → Int → Int} (h : mm_j2 pc ls st n M f = some τ) : τ.2.2.2.1 = n ∧ τ.2.2.2.2 = M := by
  unfold mm_j2 at h
  repeat' split at h
  all_goals first | (cases h; exact ⟨rfl, rfl⟩) | cases h
theorem mm_js_q {f : Int → Int → Int} (h : mm_js pc ls st n M f = some τ) : τ.2.2.2.1 = n ∧ τ.2.2.2.2 = M := by
  unfold mm_js at h
  repeat' split at h
  all_goals first | (cases h; exact ⟨rfl, rfl⟩) | cases h
theorem mm_to_q {off : Int} {r : List mm_V} (h : mm_to pc ls n M off r = some τ) : τ.2.2.2.1 = n ∧ τ.2.2.2.2 = M := by
  unfold mm_to at h
  repeat' split at h
  all_goals first | (cases h; exact ⟨rfl, rfl⟩) | cases h
theorem mm_ald_q {ty : FieldType} {w : Nat} (h : mm_ald pc ls st n M P ty w = some τ) : τ.2.2.2.1 = n ∧ τ.2.2.2.2 = M := by
  unfold mm_ald at h
  repeat' split at h
  all_goals first | (cases h; exact ⟨rfl, rfl⟩) | cases h
theorem mm_aald_q  (h : mm_aald pc ls st n M P = some τ) : τ.2.2.2.1 = n ∧ τ.2.2.2.2 = M := by
  unfold mm_aald at h
  repeat' split at h
  all_goals first | (cases h; exact ⟨rfl, rfl⟩) | cases h
theorem mm_alen_q  (h : mm_alen pc ls st n M P = some τ) : τ.2.2.2.1 = n ∧ τ.2.2.2.2 = M := by
  unfold mm_alen at h
  repeat' split at h
  all_goals first | (cases h; exact ⟨rfl, rfl⟩) | cases h
theorem mm_get_q {idx : Nat} (h : mm_get pc ls st n M P c idx = some τ) : τ.2.2.2.1 = n ∧ τ.2.2.2.2 = M := by
  unfold mm_get at h
  repeat' split at h
  all_goals first | (cases h; exact ⟨rfl, rfl⟩) | cases h
theorem mm_if1_q {f : Int32 → Bool} {off : Int} (h : mm_if1 pc ls st n M f off = some τ) : τ.2.2.2.1 = n ∧ τ.2.2.2.2 = M := by
  unfold mm_if1 at h
  split at h
  · split at h
    · rename_i hq
      split at h
      · cases h; exact mm_to_q hq
      · cases h; exact ⟨rfl, rfl⟩
    · cases h
  · cases h
theorem mm_if2_q {f : Int32 → Int32 → Bool} {off : Int} (h : mm_if2 pc ls st n M f off = some τ) : τ.2.2.2.1 = n ∧ τ.2.2.2.2 = M := by
  unfold mm_if2 at h
  split at h
  · split at h
    · rename_i hq
      split at h
      · cases h; exact mm_to_q hq
      · cases h; exact ⟨rfl, rfl⟩
    · cases h
  · cases h
theorem mm_sw_q {x : Int} {r : List mm_V} {dflt lo hi : Int} {offs : Array Int} (h : mm_sw pc ls n M x r dflt lo hi offs = some τ) : τ.2.2.2.1 = n ∧ τ.2.2.2.2 = M := by
  unfold mm_sw at h
  split at h
  · exact mm_to_q h
  · split at h
    · exact mm_to_q h
    · cases h
theorem mm_lsw_q {x : Int} {r : List mm_V} {dflt : Int} {ps : Array (Int × Int)} (h : mm_lsw pc ls n M x r dflt ps = some τ) : τ.2.2.2.1 = n ∧ τ.2.2.2.2 = M := by
  unfold mm_lsw at h
  split at h
  · exact mm_to_q h
  · cases h
end
section
variable {pc : Nat} {ls st : List mm_V} {M : mm_M} {sc : Nat × (Int → Int)} {c : Nat} {τ : mm_S}
def mr_st (M : mm_M) (τ : mm_S) : Prop := τ.2.2.2.1 = 99 ∧ (mr_ok M → mr_ok τ.2.2.2.2)
theorem mr_st_q (h : τ.2.2.2.1 = 99 ∧ τ.2.2.2.2 = M) : mr_st M τ := ⟨h.1, fun q => by rw [h.2]; exact q⟩
theorem mr_ast_ok {ty : FieldType} {w : Nat} (hw : w = 1 → ty = .long) (h : mm_ast pc ls st 99 M (mt_P sc) ty w = some τ) : mr_st M τ := by
  unfold mm_ast at h
  split at h
  · split at h
    · cases h; exact ⟨rfl, fun q => mr_ok_putI q (mr_rgI _)⟩
    · cases h
  · split at h
    · rename_i ha
      cases h
      obtain ⟨k, hk, -⟩ := mm_arr_spec ha
      obtain rfl := hw rfl
      exact ⟨rfl, fun q => mr_ok_putL q (mr_kl hk _) (mr_rjJ _)⟩
    · cases h
  · cases h
theorem mr_aast_ok (h : mm_aast pc ls st 99 M (mt_P sc) = some τ) : mr_st M τ := by
  unfold mm_aast at h
  split at h
  · rename_i b i a r
    split at h
    · rename_i C m hk hb2
      split at h
      · cases h
        obtain rfl := mr_ko hk
        exact ⟨rfl, fun q => mr_ok_putR q (fun e he z => mr_rf1 e he z.1)⟩
      · cases h
    · cases h
  · cases h
theorem mr_fs {d k : Nat} {t : FieldType} (h : mm_ft (mt_P sc) d k = some t) : ((mt_ft.getD d [])[k]?).isSome = true := by
  have h2 : ((mt_ft.getD d [])[k]?).map (·.1) = some t := h
  cases hq : (mt_ft.getD d [])[k]? with
  | none => rw [hq] at h2; cases h2
  | some _ => rfl
theorem mr_put_ok {idx : Nat} (h : mm_put pc ls st 99 M (mt_P sc) c false idx = some τ) : mr_st M τ := by
  unfold mm_put at h
  split at h
  · rename_i v a r d k hf
    split at h
    · rename_i hc
      have hfi : mm_fi (mt_P sc) d k = false := by
        cases hq : mm_fi (mt_P sc) d k with
        | false => rfl
        | true => exact absurd (hc.2.2 hq).1 (by decide)
      have dyn : ∀ t, mm_ft (mt_P sc) d k = some t → mr_isr (some t) = true → a = 2 ∧ k = 0 := by
        intro t ht hr
        obtain ⟨g1, g2⟩ := mr_t0 d k (mr_fs ht)
        obtain ⟨rfl, rfl⟩ := mr_t2 d g1 k g2 hfi (by rw [show ((mt_ft.getD d [])[k]?).map (·.1) = some t from ht]; exact hr)
        exact ⟨mr_k2 hc.1, rfl⟩
      split at h
      · cases h; exact ⟨rfl, fun q => mr_ok_putI q (mr_rgI _)⟩
      · split at h
        · rename_i h01
          cases h
          exact ⟨rfl, fun q => mr_ok_putI q (by rcases h01 with rfl | rfl <;> exact ⟨by decide, by decide⟩)⟩
        · cases h
      · rename_i x hq
        cases h
        obtain ⟨g1, g2⟩ := mr_t0 d k (mr_fs hq)
        obtain ⟨rfl, rfl⟩ := mr_t1 d g1 k g2 hq
        obtain rfl := mr_k7 hc.1
        exact ⟨rfl, fun q => mr_ok_putL q (by unfold mr_lg; omega) (mr_rjJ _)⟩
      · rename_i C x hq
        cases h
        obtain ⟨rfl, rfl⟩ := dyn _ hq rfl
        exact ⟨rfl, fun q => mr_ok_putR q mr_rf2⟩
      · rename_i C x hq
        cases h
        obtain ⟨rfl, rfl⟩ := dyn _ hq rfl
        exact ⟨rfl, fun q => mr_ok_putR q mr_rf2⟩
      · cases h
    · cases h
  · cases h
theorem mr_nwa_ok {ty : FieldType} {k : Nat} (h : mm_nwa pc ls st 99 M (mt_P sc) ty k = some τ) : mr_st M τ := by
  unfold mm_nwa at h
  split at h
  · split at h
    · rename_i hq
      have : mt_kd[99]? = some _ := hq.1
      rw [mr_k99] at this; cases this
    · cases h
  · cases h
theorem mr_new_ok {idx : Nat} (h : mm_new pc ls st 99 M (mt_P sc) c idx = some τ) : mr_st M τ := by
  unfold mm_new at h
  split at h
  · split at h
    · rename_i hq
      have : mt_kd[99]? = some _ := hq.1
      rw [mr_k99] at this; cases this
    · cases h
  · cases h
theorem mr_do_ok {i : Instr} (h : mm_do pc ls st 99 M (mt_P sc) c false i = some τ) : mr_st M τ := by
  unfold mm_do at h
  split at h
  all_goals first
    | (cases h; exact mr_st_q ⟨rfl, rfl⟩)
    | exact mr_st_q (mm_ld_q h)
    | exact mr_st_q (mm_sto_q h)
    | exact mr_st_q (mm_i1_q h)
    | exact mr_st_q (mm_i2_q h)
    | exact mr_st_q (mm_j2_q h)
    | exact mr_st_q (mm_js_q h)
    | exact mr_st_q (mm_if1_q h)
    | exact mr_st_q (mm_if2_q h)
    | exact mr_st_q (mm_ald_q h)
    | exact mr_ast_ok (fun q => absurd q (by decide)) h
    | exact mr_ast_ok (fun _ => rfl) h
    | exact mr_st_q (mm_aald_q h)
    | exact mr_aast_ok h
    | exact mr_st_q (mm_alen_q h)
    | exact mr_st_q (mm_get_q h)
    | exact mr_put_ok h
    | exact mr_nwa_ok h
    | exact mr_new_ok h
    | exact mr_st_q (mm_to_q h)
    | (cases h; done)
    | (split at h <;> first | (cases h; exact mr_st_q ⟨rfl, rfl⟩) | exact mr_nwa_ok h | exact mr_st_q (mm_sw_q h) | exact mr_st_q (mm_lsw_q h) | (cases h; done) | (split at h <;> first | (cases h; exact mr_st_q ⟨rfl, rfl⟩) | (cases h; done)))
theorem mr_bi_ok {me : mm_E} {b w : Nat} (h : mm_bi (mt_P sc) me b w pc ls st 99 M = some τ) : mr_st M τ := by
  unfold mm_bi at h
  split at h
  · split at h
    · cases h; exact mr_st_q ⟨rfl, rfl⟩
    · cases h; exact mr_st_q ⟨rfl, rfl⟩
    · cases h; exact mr_st_q ⟨rfl, rfl⟩
    · cases h; exact mr_st_q ⟨rfl, rfl⟩
    · split at h
      · rename_i k1 k2 hka hkt
        split at h
        · cases h
          refine ⟨rfl, fun q => ⟨fun b j => ?_, fun b j hj => ?_, q.2.2⟩⟩
          · simp only [mm_cpy]; split
            · exact q.1 _ _
            · exact q.1 _ _
          · simp only [mm_cpy]; split
            · rename_i z
              exact absurd (by rw [z.1]; exact mr_kl hkt j) hj
            · exact q.2.1 _ _ hj
        · cases h
      · cases h
    · cases h
  · cases h
end
set_option maxRecDepth 4000 in
theorem mr_ev_ok (sc : Nat × (Int → Int)) : ∀ (f y : Nat) (me : mm_E) (pc : Nat) (ls st : List mm_V) (M : mm_M) (r : mm_R) (n' : Nat) (M' : mm_M), mt_mt[y]? = some me → me.2.1 ≠ 2 → mm_ev (mt_P sc) f y (pc, ls, st, 99, M) = some (r, n', M') → n' = 99 ∧ (mr_ok M → mr_ok M')
  | 0 => by intro y me pc ls st M r n' M' _ _ h; simp [mm_ev] at h
  | f + 1 => by
    intro y me pc ls st M r n' M' h1 hk2 h
    have ih := mr_ev_ok sc f
    have next : ∀ τ : mm_S, mr_st M τ → mm_ev (mt_P sc) f y τ = some (r, n', M') → n' = 99 ∧ (mr_ok M → mr_ok M') := by
      rintro ⟨pc2, l2, s2, n2, M2⟩ ⟨q1, q2⟩ hev
      simp only at q1
      subst q1
      obtain ⟨g1, g2⟩ := ih y me pc2 l2 s2 M2 r n' M' h1 hk2 hev
      exact ⟨g1, fun q => g2 (q2 q)⟩
    rw [mm_ev] at h
    simp only [show mm_mt (mt_P sc) y = some me from h1] at h
    cases h2 : mm_co (mt_P sc) y pc with
    | none => simp [h2] at h
    | some il =>
    obtain ⟨i, len⟩ := il
    simp only [h2] at h
    split at h
    case isFalse => cases h
    case isTrue hlok =>
    cases h3 : mm_iv i with
    | none =>
      simp only [h3] at h
      cases h4 : mm_ret me.2.2.2.2.1 i st with
      | some v => simp only [h4] at h; cases h; exact ⟨rfl, fun q => q⟩
      | none =>
        simp only [h4] at h
        cases h5 : mm_thr (mt_P sc) y me pc st i with
        | some x => simp only [h5] at h; cases h; exact ⟨rfl, fun q => q⟩
        | none =>
          simp only [h5] at h
          have hb2 : (me.2.1 == 2) = false := by simpa using hk2
          rw [hb2] at h
          cases h6 : mm_do pc ls st 99 M (mt_P sc) me.1 false i with
          | none => simp [h6] at h
          | some τ => simp only [h6] at h; exact next τ (mr_do_ok h6) h
    | some wi =>
      obtain ⟨w, idx⟩ := wi
      simp only [h3] at h
      cases h4 : mm_lm (mt_P sc) me.1 idx with
      | none => simp [h4] at h
      | some z =>
      simp only [h4] at h
      cases h5 : mm_mt (mt_P sc) z with
      | none => simp [h5] at h
      | some mz =>
      simp only [h5] at h
      split at h
      case isTrue hb =>
        cases h6 : mm_bi (mt_P sc) me mz.2.1 w pc ls st 99 M with
        | none => simp [h6] at h
        | some τ => simp only [h6] at h; exact next τ (mr_bi_ok h6) h
      case isFalse hb =>
      split at h
      case isFalse => cases h
      case isTrue hw =>
      have hw2 : mz.2.1 ≠ 2 := fun q => (hw.2 (hw.1 ▸ q)) mr_k99
      cases h6 : mm_args (mz.2.2.1 + (if w = 0 then 0 else 1)) st with
      | none => simp [h6] at h
      | some ar =>
      obtain ⟨as, rr⟩ := ar
      simp only [h6] at h
      split at h
      case isFalse => cases h
      case isTrue hc =>
      cases h7 : mm_ev (mt_P sc) f z (0, mm_ent mz.2.2.2.1 as, [], 99, M) with
      | none => simp [h7] at h
      | some q =>
      obtain ⟨x, n1, M1⟩ := q
      obtain ⟨g1, g2⟩ := ih z mz 0 _ [] M x n1 M1 h5 hw2 h7
      subst g1
      rcases x with x | x
      · simp only [h7] at h
        obtain ⟨g3, g4⟩ := ih y me _ _ _ M1 r n' M' h1 hk2 h
        exact ⟨g3, fun q => g4 (g2 q)⟩
      · simp only [h7] at h
        split at h
        case isTrue => cases h
        case isFalse hx =>
        cases h9 : mm_hd (mt_P sc) y pc x with
        | none => simp only [h9] at h; cases h; exact ⟨rfl, g2⟩
        | some hh =>
          simp only [h9] at h
          cases h10 : mm_cat9 (mt_P sc) y pc x ls 99 M1 with
          | none => simp [h10] at h
          | some τ =>
            simp only [h10] at h
            obtain ⟨pc2, l2, s2, n2, M2⟩ := τ
            obtain ⟨e1, e2⟩ := mm_cat9_n h10
            simp only at e1 e2
            subst e1; subst e2
            obtain ⟨g3, g4⟩ := ih y me _ _ _ _ r n' M' h1 hk2 h
            exact ⟨g3, fun q => g4 (g2 q)⟩
