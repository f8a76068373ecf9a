/-! ===== rules: fields, arrays, calls, ends ===== -/
section
variable {sc : Nat × (Int → Int)} {y pc pc' : Nat} {ls ls' st st' : List mm_V} {M M' : mm_M} {Q : mm_R → mm_M → Prop} {i : Instr} {len : Nat} {me : mm_E}
theorem en_getI {idx a d k : Nat} (hm : mt_mt[y]? = some me) (hc : mr_C y pc = some (.getfield idx, 3)) (hf : mm_lf (mt_P sc) me.1 idx = some (d, k)) (ha : mt_kd[a]? = some (.inl d) ∧ a < 99) (ht : mm_ft (mt_P sc) d k = some .int ∨ mm_ft (mt_P sc) d k = some .boolean) (kk : en_R sc y (pc + 3) ls (mm_i (M.1 a k) :: st) M Q) : en_R sc y pc ls (mm_r a :: st) M Q := by
  refine en_dom hm hc rfl rfl rfl rfl ?_ kk
  rcases ht with ht | ht <;> simp only [mm_do, mm_get, hf, show mm_kd (mt_P sc) a = some (.inl d) from ha.1, ha.2, and_self, if_true, ht]
theorem en_getJ {idx a d k : Nat} (hm : mt_mt[y]? = some me) (hc : mr_C y pc = some (.getfield idx, 3)) (hf : mm_lf (mt_P sc) me.1 idx = some (d, k)) (ha : mt_kd[a]? = some (.inl d) ∧ a < 99) (ht : mm_ft (mt_P sc) d k = some .long) (kk : en_R sc y (pc + 3) ls (mm_j (M.1 a k) :: st) M Q) : en_R sc y pc ls (mm_r a :: st) M Q := by
  refine en_dom hm hc rfl rfl rfl rfl ?_ kk
  simp only [mm_do, mm_get, hf, show mm_kd (mt_P sc) a = some (.inl d) from ha.1, ha.2, and_self, if_true, ht]
theorem en_getR {idx a d k b : Nat} (hm : mt_mt[y]? = some me) (hc : mr_C y pc = some (.getfield idx, 3)) (hf : mm_lf (mt_P sc) me.1 idx = some (d, k)) (ha : mt_kd[a]? = some (.inl d) ∧ a < 99) (ht : mr_isr (mm_ft (mt_P sc) d k) = true) (hb : M.2.1 a k = some b) (kk : en_R sc y (pc + 3) ls (mm_r b :: st) M Q) : en_R sc y pc ls (mm_r a :: st) M Q := by
  refine en_dom hm hc rfl rfl rfl rfl ?_ kk
  simp only [mm_do, mm_get, hf, show mm_kd (mt_P sc) a = some (.inl d) from ha.1, ha.2, and_self, if_true]
  cases hq : mm_ft (mt_P sc) d k with
  | none => rw [hq] at ht; cases ht
  | some t =>
    rw [hq] at ht
    cases t with
    | object C => simp only [hb]
    | array C => simp only [hb]
    | _ => cases ht
theorem en_putI {idx a d k : Nat} {x : Int} (hm : mt_mt[y]? = some me) (hc : mr_C y pc = some (.putfield idx, 3)) (hf : mm_lf (mt_P sc) me.1 idx = some (d, k)) (ha : mt_kd[a]? = some (.inl d) ∧ a < 99) (hn : mm_fi (mt_P sc) d k = false) (ht : mm_ft (mt_P sc) d k = some .int) (hx : mr_rg x) (kk : en_R sc y (pc + 3) ls st (mm_putN M a k x) Q) : en_R sc y pc ls (mm_i x :: mm_r a :: st) M Q := by
  refine en_dom hm hc rfl rfl rfl rfl ?_ kk
  simp only [mm_do, mm_put, hf, show mm_kd (mt_P sc) a = some (.inl d) from ha.1, ha.2, hn, ht, mr_I hx]
  simp
theorem en_putZ {idx a d k : Nat} {x : Int} (hm : mt_mt[y]? = some me) (hc : mr_C y pc = some (.putfield idx, 3)) (hf : mm_lf (mt_P sc) me.1 idx = some (d, k)) (ha : mt_kd[a]? = some (.inl d) ∧ a < 99) (hn : mm_fi (mt_P sc) d k = false) (ht : mm_ft (mt_P sc) d k = some .boolean) (hx : x = 0 ∨ x = 1) (kk : en_R sc y (pc + 3) ls st (mm_putN M a k x) Q) : en_R sc y pc ls (mm_i x :: mm_r a :: st) M Q := by
  refine en_dom hm hc rfl rfl rfl rfl ?_ kk
  simp only [mm_do, mm_put, hf, show mm_kd (mt_P sc) a = some (.inl d) from ha.1, ha.2, hn, ht, hx]
  simp
theorem en_putJ {idx a d k : Nat} {x : Int} (hm : mt_mt[y]? = some me) (hc : mr_C y pc = some (.putfield idx, 3)) (hf : mm_lf (mt_P sc) me.1 idx = some (d, k)) (ha : mt_kd[a]? = some (.inl d) ∧ a < 99) (hn : mm_fi (mt_P sc) d k = false) (ht : mm_ft (mt_P sc) d k = some .long) (hx : mr_rj x) (kk : en_R sc y (pc + 3) ls st (mm_putN M a k x) Q) : en_R sc y pc ls (mm_j x :: mm_r a :: st) M Q := by
  refine en_dom hm hc rfl rfl rfl rfl ?_ kk
  simp only [mm_do, mm_put, hf, show mm_kd (mt_P sc) a = some (.inl d) from ha.1, ha.2, hn, ht, mr_J hx]
  simp
theorem en_putR {idx a d k b : Nat} {C : String} (hm : mt_mt[y]? = some me) (hc : mr_C y pc = some (.putfield idx, 3)) (hf : mm_lf (mt_P sc) me.1 idx = some (d, k)) (ha : mt_kd[a]? = some (.inl d) ∧ a < 99) (hn : mm_fi (mt_P sc) d k = false) (ht : mm_ft (mt_P sc) d k = some (.object C)) (kk : en_R sc y (pc + 3) ls st (mm_putR M a k (some b)) Q) : en_R sc y pc ls (mm_r b :: mm_r a :: st) M Q := by
  refine en_dom hm hc rfl rfl rfl rfl ?_ kk
  simp only [mm_do, mm_put, hf, show mm_kd (mt_P sc) a = some (.inl d) from ha.1, ha.2, hn, ht]
  simp
theorem mr_arr {ty : FieldType} {a m : Nat} {x : Int} (ha : mt_kd[a]? = some (.inr (ty, m)) ∧ a < 99 ∧ m < 2147483648) (h0 : 0 ≤ x) (h1 : x < m) : mm_arr 99 (mt_P sc) ty a x = true := by
  simp only [mm_arr, show mm_kd (mt_P sc) a = some (.inr (ty, m)) from ha.1, ha.2.1, ha.2.2, h0, h1, decide_true, Bool.and_self]
theorem mr_nscr {a : Nat} (h : a < 99) : ¬ a = mm_scr := fun q => by rw [q] at h; exact absurd h (by decide)
theorem en_iald {a m : Nat} {x : Int} (hc : mr_C y pc = some (.iaload, 1)) (ha : mt_kd[a]? = some (.inr (.int, m)) ∧ a < 99 ∧ m < 2147483648) (h0 : 0 ≤ x) (h1 : x < m) (kk : en_R sc y (pc + 1) ls (mm_i (M.1 a x) :: st) M Q) : en_R sc y pc ls (mm_i x :: mm_r a :: st) M Q := by
  refine en_do hc rfl rfl (fun _ => rfl) (fun _ => rfl) (fun _ _ => ?_) kk
  simp only [mm_do, mm_ald, mr_arr ha h0 h1, if_true, mr_nscr ha.2.1, false_and, if_false]
theorem en_bald {a m : Nat} {x : Int} (hc : mr_C y pc = some (.baload, 1)) (ha : mt_kd[a]? = some (.inr (.boolean, m)) ∧ a < 99 ∧ m < 2147483648) (h0 : 0 ≤ x) (h1 : x < m) (kk : en_R sc y (pc + 1) ls (mm_i (M.1 a x) :: st) M Q) : en_R sc y pc ls (mm_i x :: mm_r a :: st) M Q := by
  refine en_do hc rfl rfl (fun _ => rfl) (fun _ => rfl) (fun _ _ => ?_) kk
  simp only [mm_do, mm_ald, mr_arr ha h0 h1, if_true, mr_nscr ha.2.1, false_and, if_false]
theorem en_lald {a m : Nat} {x : Int} (hc : mr_C y pc = some (.laload, 1)) (ha : mt_kd[a]? = some (.inr (.long, m)) ∧ a < 99 ∧ m < 2147483648) (h0 : 0 ≤ x) (h1 : x < m) (kk : en_R sc y (pc + 1) ls (mm_j (M.1 a x) :: st) M Q) : en_R sc y pc ls (mm_i x :: mm_r a :: st) M Q := by
  refine en_do hc rfl rfl (fun _ => rfl) (fun _ => rfl) (fun _ _ => ?_) kk
  simp only [mm_do, mm_ald, mr_arr ha h0 h1, if_true, mr_nscr ha.2.1, false_and, if_false]
  rw [if_neg (by decide)]
theorem en_sald {x : Int} (hc : mr_C y pc = some (.iaload, 1)) (hL : sc.1 < 2147483648) (h0 : 0 ≤ x) (h1 : x < sc.1) (kk : en_R sc y (pc + 1) ls (mm_i (sc.2 x) :: st) M Q) : en_R sc y pc ls (mm_i x :: mm_r mm_scr :: st) M Q := by
  refine en_do hc rfl rfl (fun _ => rfl) (fun _ => rfl) (fun _ _ => ?_) kk
  simp only [mm_do, mm_ald, and_self, if_true]
  rw [if_pos (show 0 ≤ x ∧ x < ((mm_sc (mt_P sc)).1 : Int) ∧ (mm_sc (mt_P sc)).1 < 2147483648 from ⟨h0, h1, hL⟩)]
  rfl
theorem en_slen (hc : mr_C y pc = some (.arraylength, 1)) (kk : en_R sc y (pc + 1) ls (mm_i sc.1 :: st) M Q) : en_R sc y pc ls (mm_r mm_scr :: st) M Q := by
  refine en_do hc rfl rfl (fun _ => rfl) (fun _ => rfl) (fun _ _ => ?_) kk
  simp only [mm_do, mm_alen, if_true]
  rfl
theorem en_alen {a m : Nat} {ty : FieldType} (hc : mr_C y pc = some (.arraylength, 1)) (ha : mt_kd[a]? = some (.inr (ty, m)) ∧ a < 99) (kk : en_R sc y (pc + 1) ls (mm_i m :: st) M Q) : en_R sc y pc ls (mm_r a :: st) M Q := by
  refine en_do hc rfl rfl (fun _ => rfl) (fun _ => rfl) (fun _ _ => ?_) kk
  simp only [mm_do, mm_alen, show mm_kd (mt_P sc) a = some (.inr (ty, m)) from ha.1, ha.2, if_true]
  rw [if_neg (mr_nscr ha.2)]
theorem en_iast {a m : Nat} {x v : Int} (hc : mr_C y pc = some (.iastore, 1)) (ha : mt_kd[a]? = some (.inr (.int, m)) ∧ a < 99 ∧ m < 2147483648) (h0 : 0 ≤ x) (h1 : x < m) (hv : mr_rg v) (kk : en_R sc y (pc + 1) ls st (mm_putN M a x v) Q) : en_R sc y pc ls (mm_i v :: mm_i x :: mm_r a :: st) M Q := by
  refine en_do hc rfl rfl (fun _ => rfl) (fun _ => rfl) (fun _ _ => ?_) kk
  simp only [mm_do, mm_ast, mr_arr ha h0 h1, mr_I hv]
  simp
theorem en_bast {a m : Nat} {x v : Int} (hc : mr_C y pc = some (.bastore, 1)) (ha : mt_kd[a]? = some (.inr (.boolean, m)) ∧ a < 99 ∧ m < 2147483648) (h0 : 0 ≤ x) (h1 : x < m) (hv : v = 0 ∨ v = 1) (kk : en_R sc y (pc + 1) ls st (mm_putN M a x v) Q) : en_R sc y pc ls (mm_i v :: mm_i x :: mm_r a :: st) M Q := by
  refine en_do hc rfl rfl (fun _ => rfl) (fun _ => rfl) (fun _ _ => ?_) kk
  have hr : mr_rg v := by rcases hv with rfl | rfl <;> exact ⟨by decide, by decide⟩
  simp only [mm_do, mm_ast, mr_arr ha h0 h1, mr_I hr]
  simp [hv]
theorem en_last {a m : Nat} {x v : Int} (hc : mr_C y pc = some (.lastore, 1)) (ha : mt_kd[a]? = some (.inr (.long, m)) ∧ a < 99 ∧ m < 2147483648) (h0 : 0 ≤ x) (h1 : x < m) (hv : mr_rj v) (kk : en_R sc y (pc + 1) ls st (mm_putN M a x v) Q) : en_R sc y pc ls (mm_j v :: mm_i x :: mm_r a :: st) M Q := by
  refine en_do hc rfl rfl (fun _ => rfl) (fun _ => rfl) (fun _ _ => ?_) kk
  simp only [mm_do, mm_ast, mr_arr ha h0 h1, mr_J hv, if_true]
theorem en_aald {b : Nat} {x : Int} (hc : mr_C y pc = some (.aaload, 1)) (h0 : 0 ≤ x) (h1 : x < 8) (hb : M.2.1 1 x = some b) (kk : en_R sc y (pc + 1) ls (mm_r b :: st) M Q) : en_R sc y pc ls (mm_i x :: mm_r 1 :: st) M Q := by
  refine en_do hc rfl rfl (fun _ => rfl) (fun _ => rfl) (fun _ _ => ?_) kk
  have hk : mm_kd (mt_P sc) 1 = some (.inr (.object mm_arC, 8)) := rfl
  simp only [mm_do, mm_aald, hk, hb]
  rw [if_pos ⟨by decide, h0, h1, by decide⟩]
theorem en_aast {b : Nat} {x : Int} (hc : mr_C y pc = some (.aastore, 1)) (h0 : 0 ≤ x) (h1 : x < 8) (hb : mt_kd[b]? = some (.inl 0) ∧ b < 99) (kk : en_R sc y (pc + 1) ls st (mm_putR M 1 x (some b)) Q) : en_R sc y pc ls (mm_r b :: mm_i x :: mm_r 1 :: st) M Q := by
  refine en_do hc rfl rfl (fun _ => rfl) (fun _ => rfl) (fun _ _ => ?_) kk
  have hk : mm_kd (mt_P sc) 1 = some (.inr (.object mm_arC, 8)) := rfl
  simp only [mm_do, mm_aast, hk, show mm_kd (mt_P sc) b = some (.inl 0) from hb.1]
  rw [if_pos ⟨by decide, hb.2, h0, h1, by decide⟩]
/-! ends -/
theorem en_end {v : Option mm_V} (hm : mt_mt[y]? = some me) (hc : mr_C y pc = some (i, 1)) (hl : mm_lok i 1 = true) (h3 : mm_iv i = none) (h4 : mm_ret me.2.2.2.2.1 i st = some v) (k : Q (.inl v) M) : en_R sc y pc ls st M Q := by
  refine ⟨1, .inl v, M, ?_, k⟩
  rw [mm_ev]
  simp only [show mm_mt (mt_P sc) y = some me from hm, show mm_co (mt_P sc) y pc = some (i, 1) from hc, hl, if_true, h3, h4]
theorem en_iret {x : Int} (hm : mt_mt[y]? = some me) (hc : mr_C y pc = some (.ireturn, 1)) (ht : me.2.2.2.2.1 = some .int) (k : Q (.inl (some (mm_i x))) M) : en_R sc y pc ls [mm_i x] M Q := en_end hm hc rfl rfl (by rw [ht]; rfl) k
theorem en_zret {x : Int} (hm : mt_mt[y]? = some me) (hc : mr_C y pc = some (.ireturn, 1)) (ht : me.2.2.2.2.1 = some .boolean) (hx : x = 0 ∨ x = 1) (k : Q (.inl (some (mm_i x))) M) : en_R sc y pc ls [mm_i x] M Q := en_end hm hc rfl rfl (by rw [ht]; simp only [mm_ret, hx, if_true]) k
theorem en_lret {x : Int} (hm : mt_mt[y]? = some me) (hc : mr_C y pc = some (.lreturn, 1)) (ht : me.2.2.2.2.1 = some .long) (k : Q (.inl (some (mm_j x))) M) : en_R sc y pc ls [mm_j x] M Q := en_end hm hc rfl rfl (by rw [ht]; rfl) k
theorem en_aret {x : Nat} {C : String} (hm : mt_mt[y]? = some me) (hc : mr_C y pc = some (.areturn, 1)) (ht : me.2.2.2.2.1 = some (.object C)) (k : Q (.inl (some (mm_r x))) M) : en_R sc y pc ls [mm_r x] M Q := en_end hm hc rfl rfl (by rw [ht]; rfl) k
theorem en_vret (hm : mt_mt[y]? = some me) (hc : mr_C y pc = some (.return_, 1)) (ht : me.2.2.2.2.1 = none) (k : Q (.inl none) M) : en_R sc y pc ls [] M Q := en_end hm hc rfl rfl (by rw [ht]; rfl) k
theorem en_throw {idx x : Nat} (hm : mt_mt[y]? = some me) (hc : mr_C y pc = some (.new idx, 3)) (hx : mm_thr (mt_P sc) y me pc [] (.new idx) = some x) (k : Q (.inr x) (M.1, M.2.1, M.2.2 + 1)) : en_R sc y pc ls [] M Q := by
  refine ⟨1, .inr x, _, ?_, k⟩
  rw [mm_ev]
  simp only [show mm_mt (mt_P sc) y = some me from hm, show mm_co (mt_P sc) y pc = some (.new idx, 3) from hc, hx]
  rfl
/-! built in -/
theorem en_bi {z idx w : Nat} {mz : mm_E} (hm : mt_mt[y]? = some me) (hc : mr_C y pc = some (i, 3)) (hl : mm_lok i 3 = true) (hiv : mm_iv i = some (w, idx)) (hlm : mm_lm (mt_P sc) me.1 idx = some z) (hz : mt_mt[z]? = some mz) (hk : 10 ≤ mz.2.1) (hb : mm_bi (mt_P sc) me mz.2.1 w pc ls st 99 M = some (pc', ls', st', 99, M')) (k : en_R sc y pc' ls' st' M' Q) : en_R sc y pc ls st M Q := by
  obtain ⟨f, r, M2, h, q⟩ := k
  refine ⟨f + 1, r, M2, ?_, q⟩
  rw [mm_ev]
  simp only [show mm_mt (mt_P sc) y = some me from hm, show mm_co (mt_P sc) y pc = some (i, 3) from hc, hl, if_true, hiv, hlm, show mm_mt (mt_P sc) z = some mz from hz, hk, hb]
  exact h
theorem en_max {idx z : Nat} {mz : mm_E} {a b : Int} (hm : mt_mt[y]? = some me) (hc : mr_C y pc = some (.invokestatic idx, 3)) (hlm : mm_lm (mt_P sc) me.1 idx = some z) (hz : mt_mt[z]? = some mz) (hk : mz.2.1 = 11) (hr : 1 ≤ me.2.2.2.2.2.1 ∧ mm_wd (mm_i b :: mm_i a :: st) + 40 ≤ me.2.2.2.2.2.2) (ha : mr_rg a) (hb : mr_rg b) (k : en_R sc y (pc + 3) ls (mm_i (max a b) :: st) M Q) : en_R sc y pc ls (mm_i b :: mm_i a :: st) M Q := by
  refine en_bi hm hc rfl rfl hlm hz (by omega) ?_ k
  have e : (if mm_I a < mm_I b then b else a) = max a b := by
    by_cases h : a < b
    · rw [if_pos ((mr_lt ha hb).mpr h)]; omega
    · rw [if_neg (fun q => h ((mr_lt ha hb).mp q))]; omega
  simp only [mm_bi, hr, and_self, if_true, hk, e]
theorem en_min {idx z : Nat} {mz : mm_E} {a b : Int} (hm : mt_mt[y]? = some me) (hc : mr_C y pc = some (.invokestatic idx, 3)) (hlm : mm_lm (mt_P sc) me.1 idx = some z) (hz : mt_mt[z]? = some mz) (hk : mz.2.1 = 12) (hr : 1 ≤ me.2.2.2.2.2.1 ∧ mm_wd (mm_i b :: mm_i a :: st) + 40 ≤ me.2.2.2.2.2.2) (ha : mr_rg a) (hb : mr_rg b) (k : en_R sc y (pc + 3) ls (mm_i (min a b) :: st) M Q) : en_R sc y pc ls (mm_i b :: mm_i a :: st) M Q := by
  refine en_bi hm hc rfl rfl hlm hz (by omega) ?_ k
  have e : (if mm_I b < mm_I a then b else a) = min a b := by
    by_cases h : b < a
    · rw [if_pos ((mr_lt hb ha).mpr h)]; omega
    · rw [if_neg (fun q => h ((mr_lt hb ha).mp q))]; omega
  simp only [mm_bi, hr, and_self, if_true, hk, e]
theorem en_abs {idx z : Nat} {mz : mm_E} {a : Int} (hm : mt_mt[y]? = some me) (hc : mr_C y pc = some (.invokestatic idx, 3)) (hlm : mm_lm (mt_P sc) me.1 idx = some z) (hz : mt_mt[z]? = some mz) (hk : mz.2.1 = 13) (hr : 1 ≤ me.2.2.2.2.2.1 ∧ mm_wd (mm_i a :: st) + 40 ≤ me.2.2.2.2.2.2) (ha : mr_rg a) (k : en_R sc y (pc + 3) ls (mm_i (max a (0 - a)) :: st) M Q) : en_R sc y pc ls (mm_i a :: st) M Q := by
  refine en_bi hm hc rfl rfl hlm hz (by omega) ?_ k
  have e : (if 0 ≤ mm_I a then a else 0 - a) = max a (0 - a) := by
    by_cases h : 0 ≤ a
    · rw [if_pos (show (0 : Int32) ≤ mm_I a from (mr_le mr_r0 ha).mpr h)]; omega
    · rw [if_neg (show ¬ (0 : Int32) ≤ mm_I a from fun q => h ((mr_le mr_r0 ha).mp q))]; omega
  simp only [mm_bi, hr, and_self, if_true, hk, e]
theorem en_acopy {idx z a t m m2 : Nat} {mz : mm_E} {sp dp n : Int} (hm : mt_mt[y]? = some me) (hc : mr_C y pc = some (.invokestatic idx, 3)) (hlm : mm_lm (mt_P sc) me.1 idx = some z) (hz : mt_mt[z]? = some mz) (hk : mz.2.1 = 14) (hr : 1 ≤ me.2.2.2.2.2.1 ∧ mm_wd (mm_i n :: mm_i dp :: mm_r t :: mm_i sp :: mm_r a :: st) + 40 ≤ me.2.2.2.2.2.2) (ha : mt_kd[a]? = some (.inr (.long, m)) ∧ a < 99 ∧ m < 2147483648) (ht : mt_kd[t]? = some (.inr (.long, m2)) ∧ t < 99 ∧ m2 < 2147483648) (h1 : 0 ≤ n) (h2 : 0 ≤ sp) (h3 : 0 ≤ dp) (h4 : sp + n ≤ m) (h5 : dp + n ≤ m2) (k : en_R sc y (pc + 3) ls st (mm_cpy M a t sp dp n) Q) : en_R sc y pc ls (mm_i n :: mm_i dp :: mm_r t :: mm_i sp :: mm_r a :: st) M Q := by
  refine en_bi hm hc rfl rfl hlm hz (by omega) ?_ k
  simp only [mm_bi, hr, and_self, if_true, hk, show mm_kd (mt_P sc) a = some (.inr (.long, m)) from ha.1, show mm_kd (mt_P sc) t = some (.inr (.long, m2)) from ht.1]
  rw [if_pos ⟨ha.2.1, ht.2.1, h1, h2, h3, h4, h5, ha.2.2, ht.2.2⟩]
/-! calls -/
def en_CI (sc : Nat × (Int → Int)) (z : Nat) (lz : List mm_V) (M : mm_M) (K : Int → mm_M → Prop) (X : Nat → mm_M → Prop) : Prop := en_R sc z 0 lz [] M (fun r M1 => (∃ x, r = .inl (some (mm_i x)) ∧ K x M1) ∨ ∃ e, r = .inr e ∧ e < 100 ∧ X e M1)
def en_CJ (sc : Nat × (Int → Int)) (z : Nat) (lz : List mm_V) (M : mm_M) (K : Int → mm_M → Prop) (X : Nat → mm_M → Prop) : Prop := en_R sc z 0 lz [] M (fun r M1 => (∃ x, r = .inl (some (mm_j x)) ∧ K x M1) ∨ ∃ e, r = .inr e ∧ e < 100 ∧ X e M1)
def en_CR (sc : Nat × (Int → Int)) (z : Nat) (lz : List mm_V) (M : mm_M) (K : Nat → mm_M → Prop) (X : Nat → mm_M → Prop) : Prop := en_R sc z 0 lz [] M (fun r M1 => (∃ x, r = .inl (some (mm_r x)) ∧ K x M1) ∨ ∃ e, r = .inr e ∧ e < 100 ∧ X e M1)
def en_CV (sc : Nat × (Int → Int)) (z : Nat) (lz : List mm_V) (M : mm_M) (K : mm_M → Prop) (X : Nat → mm_M → Prop) : Prop := en_R sc z 0 lz [] M (fun r M1 => (r = .inl none ∧ K M1) ∨ ∃ e, r = .inr e ∧ e < 100 ∧ X e M1)
theorem en_mono {Q' : mm_R → mm_M → Prop} (h : en_R sc y pc ls st M Q) (k : ∀ r M1, Q r M1 → Q' r M1) : en_R sc y pc ls st M Q' := by
  obtain ⟨f, r, M1, h1, h2⟩ := h
  exact ⟨f, r, M1, h1, k r M1 h2⟩
theorem en_ok {me : mm_E} (hm : mt_mt[y]? = some me) (hk : me.2.1 ≠ 2) (ho : mr_ok M) (h : en_R sc y pc ls st M Q) : en_R sc y pc ls st M (fun r M1 => mr_ok M1 ∧ Q r M1) := by
  obtain ⟨f, r, M1, h1, h2⟩ := h
  exact ⟨f, r, M1, h1, (mr_ev_ok sc f y me pc ls st M r 99 M1 hm hk h1).2 ho, h2⟩
theorem en_call {z idx w : Nat} {mz : mm_E} {as rr lz : List mm_V} (hm : mt_mt[y]? = some me) (hc : mr_C y pc = some (i, 3)) (hl : mm_lok i 3 = true) (hiv : mm_iv i = some (w, idx)) (hlm : mm_lm (mt_P sc) me.1 idx = some z) (hz : mt_mt[z]? = some mz) (hk : mz.2.1 = w) (hw : w < 2) (has : mm_args (mz.2.2.1 + (if w = 0 then 0 else 1)) st = some (as, rr)) (hok : mm_cok (mt_P sc) w me mz as rr 99 = true) (hent : mm_ent mz.2.2.2.1 as = lz) (hnh : ∀ x, mm_hd (mt_P sc) y pc x = none)
    (k : en_R sc z 0 lz [] M (fun r M1 => (∃ v, r = .inl v ∧ en_R sc y (pc + 3) ls (v.toList ++ rr) M1 Q) ∨ ∃ x, r = .inr x ∧ x < 100 ∧ Q (.inr x) M1)) : en_R sc y pc ls st M Q := by
  obtain ⟨f, r, M1, h, hq⟩ := k
  subst hent
  rcases hq with ⟨v, rfl, f2, r2, M2, h2, q2⟩ | ⟨x, rfl, hx, q2⟩
  · refine ⟨max f f2 + 1, r2, M2, ?_, q2⟩
    have h' := mm_ev_le (mt_P sc) h (Nat.le_max_left f f2)
    have h2' := mm_ev_le (mt_P sc) h2 (Nat.le_max_right f f2)
    rw [mm_ev]
    simp only [show mm_mt (mt_P sc) y = some me from hm, show mm_co (mt_P sc) y pc = some (i, 3) from hc, hl, if_true, hiv, hlm, show mm_mt (mt_P sc) z = some mz from hz]
    rw [if_neg (by omega), if_pos ⟨hk, fun q => by omega⟩]
    simp only [has, hok, if_true, h', h2']
  · refine ⟨f + 1, .inr x, M1, ?_, q2⟩
    rw [mm_ev]
    simp only [show mm_mt (mt_P sc) y = some me from hm, show mm_co (mt_P sc) y pc = some (i, 3) from hc, hl, if_true, hiv, hlm, show mm_mt (mt_P sc) z = some mz from hz]
    rw [if_neg (by omega), if_pos ⟨hk, fun q => by omega⟩]
    simp only [has, hok, if_true, h, hnh]
    rw [if_neg (by omega)]
theorem en_callI {z idx w : Nat} {mz : mm_E} {as rr lz : List mm_V} (hm : mt_mt[y]? = some me) (hc : mr_C y pc = some (i, 3)) (hl : mm_lok i 3 = true) (hiv : mm_iv i = some (w, idx)) (hlm : mm_lm (mt_P sc) me.1 idx = some z) (hz : mt_mt[z]? = some mz) (hk : mz.2.1 = w) (hw : w < 2) (has : mm_args (mz.2.2.1 + (if w = 0 then 0 else 1)) st = some (as, rr)) (hok : mm_cok (mt_P sc) w me mz as rr 99 = true) (hent : mm_ent mz.2.2.2.1 as = lz) (hnh : ∀ x, mm_hd (mt_P sc) y pc x = none) (ho : mr_ok M)
    (k : en_CI sc z lz M (fun x M1 => mr_ok M1 → en_R sc y (pc + 3) ls (mm_i x :: rr) M1 Q) (fun e M1 => Q (.inr e) M1)) : en_R sc y pc ls st M Q := by
  refine en_call hm hc hl hiv hlm hz hk hw has hok hent hnh (en_mono (en_ok hz (by omega) ho k) ?_)
  rintro r M1 ⟨g1, ⟨x, rfl, g2⟩ | ⟨e, rfl, g2, g3⟩⟩
  · exact Or.inl ⟨_, rfl, g2 g1⟩
  · exact Or.inr ⟨e, rfl, g2, g3⟩
theorem en_callJ {z idx w : Nat} {mz : mm_E} {as rr lz : List mm_V} (hm : mt_mt[y]? = some me) (hc : mr_C y pc = some (i, 3)) (hl : mm_lok i 3 = true) (hiv : mm_iv i = some (w, idx)) (hlm : mm_lm (mt_P sc) me.1 idx = some z) (hz : mt_mt[z]? = some mz) (hk : mz.2.1 = w) (hw : w < 2) (has : mm_args (mz.2.2.1 + (if w = 0 then 0 else 1)) st = some (as, rr)) (hok : mm_cok (mt_P sc) w me mz as rr 99 = true) (hent : mm_ent mz.2.2.2.1 as = lz) (hnh : ∀ x, mm_hd (mt_P sc) y pc x = none) (ho : mr_ok M)
    (k : en_CJ sc z lz M (fun x M1 => mr_ok M1 → en_R sc y (pc + 3) ls (mm_j x :: rr) M1 Q) (fun e M1 => Q (.inr e) M1)) : en_R sc y pc ls st M Q := by
  refine en_call hm hc hl hiv hlm hz hk hw has hok hent hnh (en_mono (en_ok hz (by omega) ho k) ?_)
  rintro r M1 ⟨g1, ⟨x, rfl, g2⟩ | ⟨e, rfl, g2, g3⟩⟩
  · exact Or.inl ⟨_, rfl, g2 g1⟩
  · exact Or.inr ⟨e, rfl, g2, g3⟩
theorem en_callR {z idx w : Nat} {mz : mm_E} {as rr lz : List mm_V} (hm : mt_mt[y]? = some me) (hc : mr_C y pc = some (i, 3)) (hl : mm_lok i 3 = true) (hiv : mm_iv i = some (w, idx)) (hlm : mm_lm (mt_P sc) me.1 idx = some z) (hz : mt_mt[z]? = some mz) (hk : mz.2.1 = w) (hw : w < 2) (has : mm_args (mz.2.2.1 + (if w = 0 then 0 else 1)) st = some (as, rr)) (hok : mm_cok (mt_P sc) w me mz as rr 99 = true) (hent : mm_ent mz.2.2.2.1 as = lz) (hnh : ∀ x, mm_hd (mt_P sc) y pc x = none) (ho : mr_ok M)
    (k : en_CR sc z lz M (fun x M1 => mr_ok M1 → en_R sc y (pc + 3) ls (mm_r x :: rr) M1 Q) (fun e M1 => Q (.inr e) M1)) : en_R sc y pc ls st M Q := by
  refine en_call hm hc hl hiv hlm hz hk hw has hok hent hnh (en_mono (en_ok hz (by omega) ho k) ?_)
  rintro r M1 ⟨g1, ⟨x, rfl, g2⟩ | ⟨e, rfl, g2, g3⟩⟩
  · exact Or.inl ⟨_, rfl, g2 g1⟩
  · exact Or.inr ⟨e, rfl, g2, g3⟩
theorem en_callV {z idx w : Nat} {mz : mm_E} {as rr lz : List mm_V} (hm : mt_mt[y]? = some me) (hc : mr_C y pc = some (i, 3)) (hl : mm_lok i 3 = true) (hiv : mm_iv i = some (w, idx)) (hlm : mm_lm (mt_P sc) me.1 idx = some z) (hz : mt_mt[z]? = some mz) (hk : mz.2.1 = w) (hw : w < 2) (has : mm_args (mz.2.2.1 + (if w = 0 then 0 else 1)) st = some (as, rr)) (hok : mm_cok (mt_P sc) w me mz as rr 99 = true) (hent : mm_ent mz.2.2.2.1 as = lz) (hnh : ∀ x, mm_hd (mt_P sc) y pc x = none) (ho : mr_ok M)
    (k : en_CV sc z lz M (fun M1 => mr_ok M1 → en_R sc y (pc + 3) ls rr M1 Q) (fun e M1 => Q (.inr e) M1)) : en_R sc y pc ls st M Q := by
  refine en_call hm hc hl hiv hlm hz hk hw has hok hent hnh (en_mono (en_ok hz (by omega) ho k) ?_)
  rintro r M1 ⟨g1, ⟨rfl, g2⟩ | ⟨e, rfl, g2, g3⟩⟩
  · exact Or.inl ⟨_, rfl, g2 g1⟩
  · exact Or.inr ⟨e, rfl, g2, g3⟩
theorem en_CI_mono {z : Nat} {lz : List mm_V} {K K' : Int → mm_M → Prop} {X X' : Nat → mm_M → Prop} (h : en_CI sc z lz M K X) (hk : ∀ x M1, K x M1 → K' x M1) (hx : ∀ e M1, X e M1 → X' e M1) : en_CI sc z lz M K' X' := by
  refine en_mono h ?_
  rintro r M1 (⟨x, rfl, g⟩ | ⟨e, rfl, g1, g2⟩)
  · exact Or.inl ⟨x, rfl, hk _ _ g⟩
  · exact Or.inr ⟨e, rfl, g1, hx _ _ g2⟩
theorem en_CJ_mono {z : Nat} {lz : List mm_V} {K K' : Int → mm_M → Prop} {X X' : Nat → mm_M → Prop} (h : en_CJ sc z lz M K X) (hk : ∀ x M1, K x M1 → K' x M1) (hx : ∀ e M1, X e M1 → X' e M1) : en_CJ sc z lz M K' X' := by
  refine en_mono h ?_
  rintro r M1 (⟨x, rfl, g⟩ | ⟨e, rfl, g1, g2⟩)
  · exact Or.inl ⟨x, rfl, hk _ _ g⟩
  · exact Or.inr ⟨e, rfl, g1, hx _ _ g2⟩
theorem en_CR_mono {z : Nat} {lz : List mm_V} {K K' : Nat → mm_M → Prop} {X X' : Nat → mm_M → Prop} (h : en_CR sc z lz M K X) (hk : ∀ x M1, K x M1 → K' x M1) (hx : ∀ e M1, X e M1 → X' e M1) : en_CR sc z lz M K' X' := by
  refine en_mono h ?_
  rintro r M1 (⟨x, rfl, g⟩ | ⟨e, rfl, g1, g2⟩)
  · exact Or.inl ⟨x, rfl, hk _ _ g⟩
  · exact Or.inr ⟨e, rfl, g1, hx _ _ g2⟩
theorem en_CV_mono {z : Nat} {lz : List mm_V} {K K' : mm_M → Prop} {X X' : Nat → mm_M → Prop} (h : en_CV sc z lz M K X) (hk : ∀ M1, K M1 → K' M1) (hx : ∀ e M1, X e M1 → X' e M1) : en_CV sc z lz M K' X' := by
  refine en_mono h ?_
  rintro r M1 (⟨rfl, g⟩ | ⟨e, rfl, g1, g2⟩)
  · exact Or.inl ⟨rfl, hk _ g⟩
  · exact Or.inr ⟨e, rfl, g1, hx _ _ g2⟩
/-- switches -/
theorem en_tsw {x dflt lo hi off : Int} {offs : Array Int} (t : Nat) (hc : mr_C y pc = some (.tableswitch dflt lo hi offs, len)) (hx : mr_rg x) (ho : (if x < lo ∨ hi < x then some dflt else offs[(x - lo).toNat]?) = some off) (ht : (pc : Int) + off = t) (k : en_R sc y t ls st M Q) : en_R sc y pc ls (mm_i x :: st) M Q := by
  refine en_do hc rfl rfl (fun _ => rfl) (fun _ => rfl) (fun _ _ => ?_) k
  simp only [mm_do, mm_sw, mr_I hx]
  split at ho
  · rename_i h
    rw [if_pos h]
    cases ho
    exact mr_to ht st
  · rename_i h
    rw [if_neg h]
    simp only [ho]
    exact mr_to ht st
theorem en_lsw {x dflt off : Int} {ps : Array (Int × Int)} (t : Nat) (hc : mr_C y pc = some (.lookupswitch dflt ps, len)) (hx : mr_rg x) (hs : (ps.toList.zip (ps.toList.drop 1)).all (fun (a, next) => a.1 < next.1) = true) (ho : Op.lookupswitch.offset ps.toList dflt x = off) (ht : (pc : Int) + off = t) (k : en_R sc y t ls st M Q) : en_R sc y pc ls (mm_i x :: st) M Q := by
  refine en_do hc rfl rfl (fun _ => rfl) (fun _ => rfl) (fun _ _ => ?_) k
  simp only [mm_do, mm_lsw, mr_I hx, hs, if_true, ho]
  exact mr_to ht st
end
