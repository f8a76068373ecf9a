/-! ===== runs behind the constructors (99 things): a rule an instruction ===== -/
def mr_rg (x : Int) : Prop := -2147483648 ≤ x ∧ x < 2147483648
def mr_rj (x : Int) : Prop := -9223372036854775808 ≤ x ∧ x < 9223372036854775808
theorem mr_I {x : Int} (h : mr_rg x) : (mm_I x).toInt = x := mm_I_in h.1 h.2
theorem mr_J {x : Int} (h : mr_rj x) : (mm_J x).toInt = x := Int64.toInt_ofInt_of_le (by have := h.1; omega) (by have := h.2; omega)
theorem mr_rgI (z : Int32) : mr_rg z.toInt := ⟨by have := Int32.le_toInt z; omega, by have := Int32.toInt_lt z; omega⟩
theorem mr_rjJ (z : Int64) : mr_rj z.toInt := ⟨by have := Int64.le_toInt z; omega, by have := Int64.toInt_lt z; omega⟩
theorem mr_rj_of {x : Int} (h : mr_rg x) : mr_rj x := ⟨by have := h.1; omega, by have := h.2; omega⟩
theorem mr_eq {x y : Int} (hx : mr_rg x) (hy : mr_rg y) : (mm_I x = mm_I y) ↔ x = y := by
  rw [← Int32.toInt_inj, mr_I hx, mr_I hy]
theorem mr_lt {x y : Int} (hx : mr_rg x) (hy : mr_rg y) : (mm_I x < mm_I y) ↔ x < y := by
  rw [Int32.lt_iff_toInt_lt, mr_I hx, mr_I hy]
theorem mr_le {x y : Int} (hx : mr_rg x) (hy : mr_rg y) : (mm_I x ≤ mm_I y) ↔ x ≤ y := by
  rw [Int32.le_iff_toInt_le, mr_I hx, mr_I hy]
theorem mr_z : (0 : Int32) = mm_I 0 := rfl
theorem mr_r0 : mr_rg 0 := ⟨by decide, by decide⟩
def mr_C (y pc : Nat) : Option (Instr × Nat) := mt_find (mt_co.getD y []) pc
def en_R (sc : Nat × (Int → Int)) (y pc : Nat) (ls st : List mm_V) (M : mm_M) (Q : mm_R → mm_M → Prop) : Prop := ∃ f r M', mm_ev (mt_P sc) f y (pc, ls, st, 99, M) = some (r, 99, M') ∧ Q r M'
theorem mr_len : mt_co.length = mt_mt.length := by decide +kernel
theorem mr_me {y pc : Nat} {v : Instr × Nat} (h : mr_C y pc = some v) : ∃ me, mt_mt[y]? = some me := by
  have hl : y < mt_mt.length := by
    rw [← mr_len]
    refine Nat.lt_of_not_le fun hn => ?_
    unfold mr_C at h
    rw [List.getD_eq_getElem?_getD, List.getElem?_eq_none hn] at h
    cases h
  exact ⟨_, List.getElem?_eq_getElem hl⟩
section
variable {sc : Nat × (Int → Int)} {y pc pc' : Nat} {ls ls' st st' : List mm_V} {M M' : mm_M} {Q : mm_R → mm_M → Prop} {i : Instr} {len : Nat}
theorem en_dom {me : mm_E} (hm : mt_mt[y]? = some me) (hc : mr_C y pc = some (i, len)) (hl : mm_lok i len = true) (h3 : mm_iv i = none) (h4 : mm_ret me.2.2.2.2.1 i st = none) (h5 : mm_thr (mt_P sc) y me pc st i = none) (h6 : mm_do pc ls st 99 M (mt_P sc) me.1 (me.2.1 == 2) i = some (pc', ls', st', 99, M')) (k : en_R sc y pc' ls' st' M' Q) : en_R sc y pc ls st M Q := by
  obtain ⟨f, r, M2, h, q⟩ := k
  refine ⟨f + 1, r, M2, ?_, q⟩
  rw [mm_ev]
  simp only [show mm_mt (mt_P sc) y = some me from hm, show mm_co (mt_P sc) y pc = some (i, len) from hc, hl, if_true, h3, h4, h5, h6]
  exact h
theorem en_do (hc : mr_C y pc = some (i, len)) (hl : mm_lok i len = true) (h3 : mm_iv i = none) (h4 : ∀ t, mm_ret t i st = none) (h5 : ∀ me, mm_thr (mt_P sc) y me pc st i = none) (h6 : ∀ c b, mm_do pc ls st 99 M (mt_P sc) c b i = some (pc', ls', st', 99, M')) (k : en_R sc y pc' ls' st' M' Q) : en_R sc y pc ls st M Q := by
  obtain ⟨me, hm⟩ := mr_me hc
  exact en_dom hm hc hl h3 (h4 _) (h5 _) (h6 _ _) k
theorem en_iconst {v : Int} (hc : mr_C y pc = some (.iconst v, 1)) (k : en_R sc y (pc + 1) ls (mm_i v :: st) M Q) : en_R sc y pc ls st M Q := en_do hc rfl rfl (fun _ => rfl) (fun _ => rfl) (fun _ _ => rfl) k
theorem en_bipush {v : Int} (hc : mr_C y pc = some (.bipush v, 2)) (hv : -128 ≤ v ∧ v < 128) (k : en_R sc y (pc + 2) ls (mm_i v :: st) M Q) : en_R sc y pc ls st M Q := en_do hc rfl rfl (fun _ => rfl) (fun _ => rfl) (fun _ _ => by simp only [mm_do, hv, and_self, if_true]) k
theorem en_sipush {v : Int} (hc : mr_C y pc = some (.sipush v, 3)) (hv : -32768 ≤ v ∧ v < 32768) (k : en_R sc y (pc + 3) ls (mm_i v :: st) M Q) : en_R sc y pc ls st M Q := en_do hc rfl rfl (fun _ => rfl) (fun _ => rfl) (fun _ _ => by simp only [mm_do, hv, and_self, if_true]) k
theorem en_lconst {v : Fin 2} (hc : mr_C y pc = some (.lconst v, 1)) (k : en_R sc y (pc + 1) ls (mm_j (v : Nat) :: st) M Q) : en_R sc y pc ls st M Q := en_do hc rfl rfl (fun _ => rfl) (fun _ => rfl) (fun _ _ => rfl) k
theorem en_ldc {idx : Nat} {v : Int} {me : mm_E} (hm : mt_mt[y]? = some me) (hc : mr_C y pc = some (.ldc idx, 2)) (hv : mm_lc (mt_P sc) me.1 idx = some v) (k : en_R sc y (pc + 2) ls (mm_i v :: st) M Q) : en_R sc y pc ls st M Q := en_dom hm hc rfl rfl rfl rfl (by simp only [mm_do, hv]) k
theorem en_ldcw {idx : Nat} {v : Int} {me : mm_E} (hm : mt_mt[y]? = some me) (hc : mr_C y pc = some (.ldc_w idx, 3)) (hv : mm_lc (mt_P sc) me.1 idx = some v) (k : en_R sc y (pc + 3) ls (mm_i v :: st) M Q) : en_R sc y pc ls st M Q := en_dom hm hc rfl rfl rfl rfl (by simp only [mm_do, hv]) k
theorem en_ldc2 {idx : Nat} {v : Int} {me : mm_E} (hm : mt_mt[y]? = some me) (hc : mr_C y pc = some (.ldc2_w idx, 3)) (hv : mm_lj (mt_P sc) me.1 idx = some v) (k : en_R sc y (pc + 3) ls (mm_j v :: st) M Q) : en_R sc y pc ls st M Q := en_dom hm hc rfl rfl rfl rfl (by simp only [mm_do, hv]) k
theorem en_iload {i : Nat} {x : Int} (hc : mr_C y pc = some (.iload i, 2)) (hl : ls[i]? = some (mm_i x)) (k : en_R sc y (pc + 2) ls (mm_i x :: st) M Q) : en_R sc y pc ls st M Q := en_do hc rfl rfl (fun _ => rfl) (fun _ => rfl) (fun _ _ => by simp only [mm_do, mm_ld, hl]) k
theorem en_iload_n {i : Fin 4} {x : Int} (hc : mr_C y pc = some (.iload_n i, 1)) (hl : ls[(i : Nat)]? = some (mm_i x)) (k : en_R sc y (pc + 1) ls (mm_i x :: st) M Q) : en_R sc y pc ls st M Q := en_do hc rfl rfl (fun _ => rfl) (fun _ => rfl) (fun _ _ => by simp only [mm_do, mm_ld, hl]) k
theorem en_lload {i : Nat} {x : Int} (hc : mr_C y pc = some (.lload i, 2)) (hl : ls[i]? = some (mm_j x)) (k : en_R sc y (pc + 2) ls (mm_j x :: st) M Q) : en_R sc y pc ls st M Q := en_do hc rfl rfl (fun _ => rfl) (fun _ => rfl) (fun _ _ => by simp only [mm_do, mm_ld, hl]) k
theorem en_lload_n {i : Fin 4} {x : Int} (hc : mr_C y pc = some (.lload_n i, 1)) (hl : ls[(i : Nat)]? = some (mm_j x)) (k : en_R sc y (pc + 1) ls (mm_j x :: st) M Q) : en_R sc y pc ls st M Q := en_do hc rfl rfl (fun _ => rfl) (fun _ => rfl) (fun _ _ => by simp only [mm_do, mm_ld, hl]) k
theorem en_aload {i : Nat} {x : Nat} (hc : mr_C y pc = some (.aload i, 2)) (hl : ls[i]? = some (mm_r x)) (k : en_R sc y (pc + 2) ls (mm_r x :: st) M Q) : en_R sc y pc ls st M Q := en_do hc rfl rfl (fun _ => rfl) (fun _ => rfl) (fun _ _ => by simp only [mm_do, mm_ld, hl]) k
theorem en_aload_n {i : Fin 4} {x : Nat} (hc : mr_C y pc = some (.aload_n i, 1)) (hl : ls[(i : Nat)]? = some (mm_r x)) (k : en_R sc y (pc + 1) ls (mm_r x :: st) M Q) : en_R sc y pc ls st M Q := en_do hc rfl rfl (fun _ => rfl) (fun _ => rfl) (fun _ _ => by simp only [mm_do, mm_ld, hl]) k
theorem en_istore {i : Nat} {x : Int} (hc : mr_C y pc = some (.istore i, 2)) (hi : i < ls.length) (hl : mm_st1 ls i (mm_i x) = ls') (k : en_R sc y (pc + 2) ls' st M Q) : en_R sc y pc ls (mm_i x :: st) M Q := en_do hc rfl rfl (fun _ => rfl) (fun _ => rfl) (fun _ _ => by simp only [mm_do, mm_sto, hi, if_true, hl]) k
theorem en_istore_n {i : Fin 4} {x : Int} (hc : mr_C y pc = some (.istore_n i, 1)) (hi : (i : Nat) < ls.length) (hl : mm_st1 ls i (mm_i x) = ls') (k : en_R sc y (pc + 1) ls' st M Q) : en_R sc y pc ls (mm_i x :: st) M Q := en_do hc rfl rfl (fun _ => rfl) (fun _ => rfl) (fun _ _ => by simp only [mm_do, mm_sto, hi, if_true, hl]) k
theorem en_lstore {i : Nat} {x : Int} (hc : mr_C y pc = some (.lstore i, 2)) (hi : i + 1 < ls.length) (hl : mm_st2 ls i (mm_j x) = ls') (k : en_R sc y (pc + 2) ls' st M Q) : en_R sc y pc ls (mm_j x :: st) M Q := en_do hc rfl rfl (fun _ => rfl) (fun _ => rfl) (fun _ _ => by simp only [mm_do, mm_sto, hi, if_true, hl]) k
theorem en_lstore_n {i : Fin 4} {x : Int} (hc : mr_C y pc = some (.lstore_n i, 1)) (hi : (i : Nat) + 1 < ls.length) (hl : mm_st2 ls i (mm_j x) = ls') (k : en_R sc y (pc + 1) ls' st M Q) : en_R sc y pc ls (mm_j x :: st) M Q := en_do hc rfl rfl (fun _ => rfl) (fun _ => rfl) (fun _ _ => by simp only [mm_do, mm_sto, hi, if_true, hl]) k
theorem en_astore {i : Nat} {x : Nat} (hc : mr_C y pc = some (.astore i, 2)) (hi : i < ls.length) (hl : mm_st1 ls i (mm_r x) = ls') (k : en_R sc y (pc + 2) ls' st M Q) : en_R sc y pc ls (mm_r x :: st) M Q := en_do hc rfl rfl (fun _ => rfl) (fun _ => rfl) (fun _ _ => by simp only [mm_do, mm_sto, hi, if_true, hl]) k
theorem en_astore_n {i : Fin 4} {x : Nat} (hc : mr_C y pc = some (.astore_n i, 1)) (hi : (i : Nat) < ls.length) (hl : mm_st1 ls i (mm_r x) = ls') (k : en_R sc y (pc + 1) ls' st M Q) : en_R sc y pc ls (mm_r x :: st) M Q := en_do hc rfl rfl (fun _ => rfl) (fun _ => rfl) (fun _ _ => by simp only [mm_do, mm_sto, hi, if_true, hl]) k
theorem en_iinc {i : Nat} {x v : Int} (hc : mr_C y pc = some (.iinc i v, 3)) (hx : ls[i]? = some (mm_i x)) (hl : mm_st1 ls i (mm_i (x + v)) = ls') (k : en_R sc y (pc + 3) ls' st M Q) : en_R sc y pc ls st M Q := en_do hc rfl rfl (fun _ => rfl) (fun _ => rfl) (fun _ _ => by simp only [mm_do, hx, hl]) k
theorem en_iadd {a b : Int} (hc : mr_C y pc = some (.iadd, 1)) (k : en_R sc y (pc + 1) ls (mm_i (a + b) :: st) M Q) : en_R sc y pc ls (mm_i b :: mm_i a :: st) M Q := en_do hc rfl rfl (fun _ => rfl) (fun _ => rfl) (fun _ _ => rfl) k
theorem en_isub {a b : Int} (hc : mr_C y pc = some (.isub, 1)) (k : en_R sc y (pc + 1) ls (mm_i (a - b) :: st) M Q) : en_R sc y pc ls (mm_i b :: mm_i a :: st) M Q := en_do hc rfl rfl (fun _ => rfl) (fun _ => rfl) (fun _ _ => rfl) k
theorem en_imul {a b : Int} (hc : mr_C y pc = some (.imul, 1)) (k : en_R sc y (pc + 1) ls (mm_i (a * b) :: st) M Q) : en_R sc y pc ls (mm_i b :: mm_i a :: st) M Q := en_do hc rfl rfl (fun _ => rfl) (fun _ => rfl) (fun _ _ => rfl) k
theorem en_ineg {a : Int} (hc : mr_C y pc = some (.ineg, 1)) (k : en_R sc y (pc + 1) ls (mm_i (0 - a) :: st) M Q) : en_R sc y pc ls (mm_i a :: st) M Q := en_do hc rfl rfl (fun _ => rfl) (fun _ => rfl) (fun _ _ => rfl) k
theorem en_ladd {a b : Int} (hc : mr_C y pc = some (.ladd, 1)) (k : en_R sc y (pc + 1) ls (mm_j (a + b) :: st) M Q) : en_R sc y pc ls (mm_j b :: mm_j a :: st) M Q := en_do hc rfl rfl (fun _ => rfl) (fun _ => rfl) (fun _ _ => rfl) k
theorem en_lsub {a b : Int} (hc : mr_C y pc = some (.lsub, 1)) (k : en_R sc y (pc + 1) ls (mm_j (a - b) :: st) M Q) : en_R sc y pc ls (mm_j b :: mm_j a :: st) M Q := en_do hc rfl rfl (fun _ => rfl) (fun _ => rfl) (fun _ _ => rfl) k
theorem en_lmul {a b : Int} (hc : mr_C y pc = some (.lmul, 1)) (k : en_R sc y (pc + 1) ls (mm_j (a * b) :: st) M Q) : en_R sc y pc ls (mm_j b :: mm_j a :: st) M Q := en_do hc rfl rfl (fun _ => rfl) (fun _ => rfl) (fun _ _ => rfl) k
def mr_and (a b : Int) : Int := (mm_J a &&& mm_J b).toInt
def mr_or (a b : Int) : Int := (mm_J a ||| mm_J b).toInt
def mr_xor (a b : Int) : Int := (mm_J a ^^^ mm_J b).toInt
def mr_shl (a b : Int) : Int := (mm_J a <<< ((mm_I b).toInt64 &&& 63)).toInt
def mr_ushr (a b : Int) : Int := ((mm_J a).toUInt64 >>> ((mm_I b).toInt64.toUInt64 &&& Int64.toUInt64 63)).toInt64.toInt
def mr_iand (a b : Int) : Int := (mm_I a &&& mm_I b).toInt
def mr_ixor (a b : Int) : Int := (mm_I a ^^^ mm_I b).toInt
def mr_iushr (a b : Int) : Int := ((mm_I a).toUInt32 >>> ((mm_I b).toUInt32 &&& Int32.toUInt32 31)).toInt32.toInt
theorem en_land {a b : Int} (hc : mr_C y pc = some (.land, 1)) (k : en_R sc y (pc + 1) ls (mm_j (mr_and a b) :: st) M Q) : en_R sc y pc ls (mm_j b :: mm_j a :: st) M Q := en_do hc rfl rfl (fun _ => rfl) (fun _ => rfl) (fun _ _ => rfl) k
theorem en_lor {a b : Int} (hc : mr_C y pc = some (.lor, 1)) (k : en_R sc y (pc + 1) ls (mm_j (mr_or a b) :: st) M Q) : en_R sc y pc ls (mm_j b :: mm_j a :: st) M Q := en_do hc rfl rfl (fun _ => rfl) (fun _ => rfl) (fun _ _ => rfl) k
theorem en_lxor {a b : Int} (hc : mr_C y pc = some (.lxor, 1)) (k : en_R sc y (pc + 1) ls (mm_j (mr_xor a b) :: st) M Q) : en_R sc y pc ls (mm_j b :: mm_j a :: st) M Q := en_do hc rfl rfl (fun _ => rfl) (fun _ => rfl) (fun _ _ => rfl) k
theorem en_lshl {a b : Int} (hc : mr_C y pc = some (.lshl, 1)) (k : en_R sc y (pc + 1) ls (mm_j (mr_shl a b) :: st) M Q) : en_R sc y pc ls (mm_i b :: mm_j a :: st) M Q := en_do hc rfl rfl (fun _ => rfl) (fun _ => rfl) (fun _ _ => rfl) k
theorem en_lushr {a b : Int} (hc : mr_C y pc = some (.lushr, 1)) (k : en_R sc y (pc + 1) ls (mm_j (mr_ushr a b) :: st) M Q) : en_R sc y pc ls (mm_i b :: mm_j a :: st) M Q := en_do hc rfl rfl (fun _ => rfl) (fun _ => rfl) (fun _ _ => rfl) k
theorem en_iand {a b : Int} (hc : mr_C y pc = some (.iand, 1)) (k : en_R sc y (pc + 1) ls (mm_i (mr_iand a b) :: st) M Q) : en_R sc y pc ls (mm_i b :: mm_i a :: st) M Q := en_do hc rfl rfl (fun _ => rfl) (fun _ => rfl) (fun _ _ => rfl) k
theorem en_ixor {a b : Int} (hc : mr_C y pc = some (.ixor, 1)) (k : en_R sc y (pc + 1) ls (mm_i (mr_ixor a b) :: st) M Q) : en_R sc y pc ls (mm_i b :: mm_i a :: st) M Q := en_do hc rfl rfl (fun _ => rfl) (fun _ => rfl) (fun _ _ => rfl) k
theorem en_iushr {a b : Int} (hc : mr_C y pc = some (.iushr, 1)) (k : en_R sc y (pc + 1) ls (mm_i (mr_iushr a b) :: st) M Q) : en_R sc y pc ls (mm_i b :: mm_i a :: st) M Q := en_do hc rfl rfl (fun _ => rfl) (fun _ => rfl) (fun _ _ => rfl) k
/-- a right shift of what is not below 0 -/
theorem mr_ishr6 {a : Int} (h0 : 0 ≤ a) (h : mr_rg a) : (mm_I a >>> (mm_I 6 &&& 31)).toInt = a / 64 := by
  obtain ⟨k, rfl⟩ := Int.eq_ofNat_of_zero_le h0
  have hk : k < 2 ^ 31 := by have := h.2; omega
  have h1 : mm_I (k : Int) = nI k := (mm_I_nat k).symm
  rw [h1, pk_shrN hk _ 6 (by decide +kernel), nI_toInt (Nat.lt_of_le_of_lt (Nat.div_le_self _ _) hk)]
  rfl
theorem en_ishr6 {a : Int} (hc : mr_C y pc = some (.ishr, 1)) (h0 : 0 ≤ a) (h : mr_rg a) (k : en_R sc y (pc + 1) ls (mm_i (a / 64) :: st) M Q) : en_R sc y pc ls (mm_i 6 :: mm_i a :: st) M Q := by
  refine en_do hc rfl rfl (fun _ => rfl) (fun _ => rfl) (fun _ _ => ?_) k
  simp only [mm_do, mm_i2, mr_ishr6 h0 h]
/-- a mask of low bits -/
theorem mr_mask (a : Int) (k : Nat) (hk : k ≤ 30) {m : Int} (hm : mm_I m = Int32.ofNat (2 ^ k - 1)) : (mm_I a &&& mm_I m).toInt = a % (2 ^ k : Nat) := by
  have h2 : (mm_I m).toBitVec.toNat = 2 ^ k - 1 := by
    rw [hm]
    exact pk_tn (n := 2 ^ k - 1) (Nat.lt_of_lt_of_le (Nat.sub_lt (Nat.two_pow_pos k) (by decide)) (Nat.le_trans (Nat.pow_le_pow_right (by decide) hk) (by decide)))
  rw [pk_and (mm_I a) k h2]
  have hlt : (mm_I a).toBitVec.toNat % 2 ^ k < 2 ^ 31 := Nat.lt_of_lt_of_le (Nat.mod_lt _ (Nat.two_pow_pos k)) (Nat.pow_le_pow_right (by decide) (by omega))
  rw [nI_toInt hlt]
  have hb : (mm_I a).toBitVec.toNat = (a % (2 ^ 32 : Nat)).toNat := by
    show (BitVec.ofInt 32 a).toNat = _
    rw [BitVec.toNat_ofInt]
  rw [hb]
  have h32 : (2 ^ k : Nat) ∣ 2 ^ 32 := Nat.pow_dvd_pow 2 (by omega)
  have hnn : 0 ≤ a % ((2 ^ 32 : Nat) : Int) := Int.emod_nonneg _ (by decide)
  rw [Int.natCast_emod, Int.toNat_of_nonneg hnn, Int.emod_emod_of_dvd _ (Int.natCast_dvd_natCast.mpr h32)]
theorem en_mask {a m : Int} (k : Nat) (hk : k ≤ 30) (hc : mr_C y pc = some (.iand, 1)) (hm : mm_I m = Int32.ofNat (2 ^ k - 1)) {d : Int} (hd : ((2 ^ k : Nat) : Int) = d) (kk : en_R sc y (pc + 1) ls (mm_i (a % d) :: st) M Q) : en_R sc y pc ls (mm_i m :: mm_i a :: st) M Q := by
  refine en_do hc rfl rfl (fun _ => rfl) (fun _ => rfl) (fun _ _ => ?_) kk
  simp only [mm_do, mm_i2, mr_mask a k hk hm, hd]
theorem mr_div {a b : Int} (ha : mr_rg a) (hb : mr_rg b) (h0 : 0 ≤ a) (h1 : 0 < b) : ¬ mm_I b = 0 ∧ (mm_I a / mm_I b).toInt = a / b ∧ (mm_I a - mm_I a / mm_I b * mm_I b).toInt = a % b := by
  obtain ⟨k, rfl⟩ := Int.eq_ofNat_of_zero_le h0
  obtain ⟨d, rfl⟩ := Int.eq_ofNat_of_zero_le (Int.le_of_lt h1)
  have hk : k < 2 ^ 31 := by have := ha.2; omega
  have hd : d < 2 ^ 31 := by have := hb.2; omega
  have hd0 : 0 < d := by omega
  have e1 : mm_I (k : Int) = nI k := (mm_I_nat k).symm
  have e2 : mm_I (d : Int) = nI d := (mm_I_nat d).symm
  rw [e1, e2]
  refine ⟨nI_ne0 hd0 hd, ?_, ?_⟩
  · rw [pk_div hk hd0 hd, nI_toInt (Nat.lt_of_le_of_lt (Nat.div_le_self _ _) hk)]; rfl
  · rw [pk_rem hk hd0 hd, nI_toInt (Nat.lt_trans (Nat.mod_lt _ hd0) hd)]; rfl
theorem en_idiv {a b : Int} (hc : mr_C y pc = some (.idiv, 1)) (ha : mr_rg a) (hb : mr_rg b) (h0 : 0 ≤ a) (h1 : 0 < b) (k : en_R sc y (pc + 1) ls (mm_i (a / b) :: st) M Q) : en_R sc y pc ls (mm_i b :: mm_i a :: st) M Q := by
  obtain ⟨q1, q2, q3⟩ := mr_div ha hb h0 h1
  exact en_do hc rfl rfl (fun _ => rfl) (fun _ => rfl) (fun _ _ => by simp only [mm_do, q1, if_false, q2]) k
theorem en_irem {a b : Int} (hc : mr_C y pc = some (.irem, 1)) (ha : mr_rg a) (hb : mr_rg b) (h0 : 0 ≤ a) (h1 : 0 < b) (k : en_R sc y (pc + 1) ls (mm_i (a % b) :: st) M Q) : en_R sc y pc ls (mm_i b :: mm_i a :: st) M Q := by
  obtain ⟨q1, q2, q3⟩ := mr_div ha hb h0 h1
  exact en_do hc rfl rfl (fun _ => rfl) (fun _ => rfl) (fun _ _ => by simp only [mm_do, q1, if_false, q3]) k
def mr_ldiv (a b : Int) : Int := (mm_J a / mm_J b).toInt
theorem en_ldiv {a b : Int} (hc : mr_C y pc = some (.ldiv, 1)) (hb : ¬ mm_J b = 0) (k : en_R sc y (pc + 1) ls (mm_j (mr_ldiv a b) :: st) M Q) : en_R sc y pc ls (mm_j b :: mm_j a :: st) M Q := en_do hc rfl rfl (fun _ => rfl) (fun _ => rfl) (fun _ _ => by simp only [mm_do, hb, if_false]; rfl) k
theorem en_i2l {a : Int} (hc : mr_C y pc = some (.i2l, 1)) (ha : mr_rg a) (k : en_R sc y (pc + 1) ls (mm_j a :: st) M Q) : en_R sc y pc ls (mm_i a :: st) M Q := en_do hc rfl rfl (fun _ => rfl) (fun _ => rfl) (fun _ _ => by simp only [mm_do, mr_I ha]) k
theorem en_l2i {a : Int} (hc : mr_C y pc = some (.l2i, 1)) (k : en_R sc y (pc + 1) ls (mm_i a :: st) M Q) : en_R sc y pc ls (mm_j a :: st) M Q := en_do hc rfl rfl (fun _ => rfl) (fun _ => rfl) (fun _ _ => rfl) k
def mr_cmp (a b : Int) : Int := if a < b then -1 else if b < a then 1 else 0
theorem mr_lcmp {a b : Int} (ha : mr_rj a) (hb : mr_rj b) : (lg_cmp (mm_J a) (mm_J b)).toInt = mr_cmp a b := by
  have l1 : (mm_J b < mm_J a) ↔ b < a := by rw [Int64.lt_iff_toInt_lt, mr_J ha, mr_J hb]
  have l2 : (mm_J a < mm_J b) ↔ a < b := by rw [Int64.lt_iff_toInt_lt, mr_J ha, mr_J hb]
  unfold lg_cmp mr_cmp
  by_cases h1 : b < a
  · rw [if_pos (l1.mpr h1), if_neg (by omega), if_pos h1]; rfl
  · rw [if_neg (fun q => h1 (l1.mp q))]
    by_cases h2 : a < b
    · rw [if_pos h2]
      have h3 : ¬ mm_J a = mm_J b := fun q => by have := l2.mpr h2; rw [q] at this; exact absurd this (by simp)
      first | (rw [if_neg h3]; rfl) | (rw [if_pos (l2.mpr h2)]; rfl)
    · rw [if_neg h2, if_neg h1]
      have h3 : mm_J a = mm_J b := by rw [show a = b by omega]
      first | (rw [if_pos h3]; rfl) | (rw [if_neg (fun q => h2 (l2.mp q))]; rfl)
theorem en_lcmp {a b : Int} (hc : mr_C y pc = some (.lcmp, 1)) (ha : mr_rj a) (hb : mr_rj b) (k : en_R sc y (pc + 1) ls (mm_i (mr_cmp a b) :: st) M Q) : en_R sc y pc ls (mm_j b :: mm_j a :: st) M Q := en_do hc rfl rfl (fun _ => rfl) (fun _ => rfl) (fun _ _ => by simp only [mm_do, mr_lcmp ha hb]) k
theorem en_dup {v : mm_V} (hc : mr_C y pc = some (.dup, 1)) (hv : mm_cat v = 1) (k : en_R sc y (pc + 1) ls (v :: v :: st) M Q) : en_R sc y pc ls (v :: st) M Q := en_do hc rfl rfl (fun _ => rfl) (fun _ => rfl) (fun _ _ => by simp only [mm_do, hv, if_true]) k
theorem en_pop {v : mm_V} (hc : mr_C y pc = some (.pop, 1)) (hv : mm_cat v = 1) (k : en_R sc y (pc + 1) ls st M Q) : en_R sc y pc ls (v :: st) M Q := en_do hc rfl rfl (fun _ => rfl) (fun _ => rfl) (fun _ _ => by simp only [mm_do, hv, if_true]) k
theorem en_dup_x1 {v w : mm_V} (hc : mr_C y pc = some (.dup_x1, 1)) (hv : mm_cat v = 1) (hw : mm_cat w = 1) (k : en_R sc y (pc + 1) ls (v :: w :: v :: st) M Q) : en_R sc y pc ls (v :: w :: st) M Q := en_do hc rfl rfl (fun _ => rfl) (fun _ => rfl) (fun _ _ => by simp only [mm_do, hv, hw, and_self, if_true]) k
theorem en_dup2 {v w : mm_V} (hc : mr_C y pc = some (.dup2, 1)) (hv : mm_cat v = 1) (hw : mm_cat w = 1) (k : en_R sc y (pc + 1) ls (v :: w :: v :: w :: st) M Q) : en_R sc y pc ls (v :: w :: st) M Q := en_do hc rfl rfl (fun _ => rfl) (fun _ => rfl) (fun _ _ => by simp only [mm_do, hv, hw, and_self, if_true]) k
theorem mr_to {off : Int} {t : Nat} (ht : (pc : Int) + off = t) (r : List mm_V) : mm_to pc ls 99 M off r = some (t, ls, r, 99, M) := by
  unfold mm_to
  rw [if_pos (by omega), show ((pc : Int) + off).toNat = t by omega]
theorem en_goto {off : Int} (t : Nat) (hc : mr_C y pc = some (.goto off, 3)) (ht : (pc : Int) + off = t) (k : en_R sc y t ls st M Q) : en_R sc y pc ls st M Q := en_do hc rfl rfl (fun _ => rfl) (fun _ => rfl) (fun _ _ => mr_to ht st) k
theorem en_br1 {x off : Int} {p : Int32 → Bool} {c : Prop} (t : Nat) (hc : mr_C y pc = some (i, 3)) (hl : mm_lok i 3 = true) (h3 : mm_iv i = none) (h4 : ∀ t, mm_ret t i (mm_i x :: st) = none) (h5 : ∀ me, mm_thr (mt_P sc) y me pc (mm_i x :: st) i = none) (hd : ∀ c b, mm_do pc ls (mm_i x :: st) 99 M (mt_P sc) c b i = mm_if1 pc ls (mm_i x :: st) 99 M p off) (ht : (pc : Int) + off = t) (hp : p (mm_I x) = true ↔ c)
    (k1 : c → en_R sc y t ls st M Q) (k2 : ¬ c → en_R sc y (pc + 3) ls st M Q) : en_R sc y pc ls (mm_i x :: st) M Q := by
  by_cases h : c
  · exact en_do hc hl h3 h4 h5 (fun c b => by rw [hd]; simp only [mm_if1, mr_to ht, hp.mpr h, if_true]) (k1 h)
  · exact en_do hc hl h3 h4 h5 (fun c b => by rw [hd]; simp only [mm_if1, mr_to ht]; rw [if_neg (fun q => h (hp.mp q))]) (k2 h)
theorem en_br2 {x z off : Int} {p : Int32 → Int32 → Bool} {c : Prop} (t : Nat) (hc : mr_C y pc = some (i, 3)) (hl : mm_lok i 3 = true) (h3 : mm_iv i = none) (h4 : ∀ t, mm_ret t i (mm_i z :: mm_i x :: st) = none) (h5 : ∀ me, mm_thr (mt_P sc) y me pc (mm_i z :: mm_i x :: st) i = none) (hd : ∀ c b, mm_do pc ls (mm_i z :: mm_i x :: st) 99 M (mt_P sc) c b i = mm_if2 pc ls (mm_i z :: mm_i x :: st) 99 M p off) (ht : (pc : Int) + off = t) (hp : p (mm_I x) (mm_I z) = true ↔ c)
    (k1 : c → en_R sc y t ls st M Q) (k2 : ¬ c → en_R sc y (pc + 3) ls st M Q) : en_R sc y pc ls (mm_i z :: mm_i x :: st) M Q := by
  by_cases h : c
  · exact en_do hc hl h3 h4 h5 (fun c b => by rw [hd]; simp only [mm_if2, mr_to ht, hp.mpr h, if_true]) (k1 h)
  · exact en_do hc hl h3 h4 h5 (fun c b => by rw [hd]; simp only [mm_if2, mr_to ht]; rw [if_neg (fun q => h (hp.mp q))]) (k2 h)
theorem en_if_eq {x off : Int} (t : Nat) (hc : mr_C y pc = some (.ifCond .eq off, 3)) (ht : (pc : Int) + off = t) (hx : mr_rg x) (k1 : x = 0 → en_R sc y t ls st M Q) (k2 : ¬ x = 0 → en_R sc y (pc + 3) ls st M Q) : en_R sc y pc ls (mm_i x :: st) M Q := en_br1 (p := fun x => decide (x = 0)) t hc rfl rfl (fun _ => rfl) (fun _ => rfl) (fun _ _ => rfl) ht (decide_eq_true_iff.trans (mr_eq hx mr_r0)) k1 k2
theorem en_if_ne {x off : Int} (t : Nat) (hc : mr_C y pc = some (.ifCond .ne off, 3)) (ht : (pc : Int) + off = t) (hx : mr_rg x) (k1 : x ≠ 0 → en_R sc y t ls st M Q) (k2 : ¬ (x ≠ 0) → en_R sc y (pc + 3) ls st M Q) : en_R sc y pc ls (mm_i x :: st) M Q := en_br1 (p := fun x => decide (x ≠ 0)) t hc rfl rfl (fun _ => rfl) (fun _ => rfl) (fun _ _ => rfl) ht (decide_eq_true_iff.trans (not_congr (mr_eq hx mr_r0))) k1 k2
theorem en_if_lt {x off : Int} (t : Nat) (hc : mr_C y pc = some (.ifCond .lt off, 3)) (ht : (pc : Int) + off = t) (hx : mr_rg x) (k1 : x < 0 → en_R sc y t ls st M Q) (k2 : ¬ x < 0 → en_R sc y (pc + 3) ls st M Q) : en_R sc y pc ls (mm_i x :: st) M Q := en_br1 (p := fun x => decide (x < 0)) t hc rfl rfl (fun _ => rfl) (fun _ => rfl) (fun _ _ => rfl) ht (decide_eq_true_iff.trans (mr_lt hx mr_r0)) k1 k2
theorem en_if_ge {x off : Int} (t : Nat) (hc : mr_C y pc = some (.ifCond .ge off, 3)) (ht : (pc : Int) + off = t) (hx : mr_rg x) (k1 : 0 ≤ x → en_R sc y t ls st M Q) (k2 : ¬ 0 ≤ x → en_R sc y (pc + 3) ls st M Q) : en_R sc y pc ls (mm_i x :: st) M Q := en_br1 (p := fun x => decide (0 ≤ x)) t hc rfl rfl (fun _ => rfl) (fun _ => rfl) (fun _ _ => rfl) ht (decide_eq_true_iff.trans (mr_le mr_r0 hx)) k1 k2
theorem en_if_gt {x off : Int} (t : Nat) (hc : mr_C y pc = some (.ifCond .gt off, 3)) (ht : (pc : Int) + off = t) (hx : mr_rg x) (k1 : 0 < x → en_R sc y t ls st M Q) (k2 : ¬ 0 < x → en_R sc y (pc + 3) ls st M Q) : en_R sc y pc ls (mm_i x :: st) M Q := en_br1 (p := fun x => decide (0 < x)) t hc rfl rfl (fun _ => rfl) (fun _ => rfl) (fun _ _ => rfl) ht (decide_eq_true_iff.trans (mr_lt mr_r0 hx)) k1 k2
theorem en_if_le {x off : Int} (t : Nat) (hc : mr_C y pc = some (.ifCond .le off, 3)) (ht : (pc : Int) + off = t) (hx : mr_rg x) (k1 : x ≤ 0 → en_R sc y t ls st M Q) (k2 : ¬ x ≤ 0 → en_R sc y (pc + 3) ls st M Q) : en_R sc y pc ls (mm_i x :: st) M Q := en_br1 (p := fun x => decide (x ≤ 0)) t hc rfl rfl (fun _ => rfl) (fun _ => rfl) (fun _ _ => rfl) ht (decide_eq_true_iff.trans (mr_le hx mr_r0)) k1 k2
theorem en_icmp_eq {x z off : Int} (t : Nat) (hc : mr_C y pc = some (.if_icmp .eq off, 3)) (ht : (pc : Int) + off = t) (hx : mr_rg x) (hz : mr_rg z) (k1 : x = z → en_R sc y t ls st M Q) (k2 : ¬ x = z → en_R sc y (pc + 3) ls st M Q) : en_R sc y pc ls (mm_i z :: mm_i x :: st) M Q := en_br2 (p := fun x z => decide (x = z)) t hc rfl rfl (fun _ => rfl) (fun _ => rfl) (fun _ _ => rfl) ht (decide_eq_true_iff.trans (mr_eq hx hz)) k1 k2
theorem en_icmp_ne {x z off : Int} (t : Nat) (hc : mr_C y pc = some (.if_icmp .ne off, 3)) (ht : (pc : Int) + off = t) (hx : mr_rg x) (hz : mr_rg z) (k1 : x ≠ z → en_R sc y t ls st M Q) (k2 : ¬ (x ≠ z) → en_R sc y (pc + 3) ls st M Q) : en_R sc y pc ls (mm_i z :: mm_i x :: st) M Q := en_br2 (p := fun x z => decide (x ≠ z)) t hc rfl rfl (fun _ => rfl) (fun _ => rfl) (fun _ _ => rfl) ht (decide_eq_true_iff.trans (not_congr (mr_eq hx hz))) k1 k2
theorem en_icmp_lt {x z off : Int} (t : Nat) (hc : mr_C y pc = some (.if_icmp .lt off, 3)) (ht : (pc : Int) + off = t) (hx : mr_rg x) (hz : mr_rg z) (k1 : x < z → en_R sc y t ls st M Q) (k2 : ¬ x < z → en_R sc y (pc + 3) ls st M Q) : en_R sc y pc ls (mm_i z :: mm_i x :: st) M Q := en_br2 (p := fun x z => decide (x < z)) t hc rfl rfl (fun _ => rfl) (fun _ => rfl) (fun _ _ => rfl) ht (decide_eq_true_iff.trans (mr_lt hx hz)) k1 k2
theorem en_icmp_ge {x z off : Int} (t : Nat) (hc : mr_C y pc = some (.if_icmp .ge off, 3)) (ht : (pc : Int) + off = t) (hx : mr_rg x) (hz : mr_rg z) (k1 : z ≤ x → en_R sc y t ls st M Q) (k2 : ¬ z ≤ x → en_R sc y (pc + 3) ls st M Q) : en_R sc y pc ls (mm_i z :: mm_i x :: st) M Q := en_br2 (p := fun x z => decide (z ≤ x)) t hc rfl rfl (fun _ => rfl) (fun _ => rfl) (fun _ _ => rfl) ht (decide_eq_true_iff.trans (mr_le hz hx)) k1 k2
theorem en_icmp_gt {x z off : Int} (t : Nat) (hc : mr_C y pc = some (.if_icmp .gt off, 3)) (ht : (pc : Int) + off = t) (hx : mr_rg x) (hz : mr_rg z) (k1 : z < x → en_R sc y t ls st M Q) (k2 : ¬ z < x → en_R sc y (pc + 3) ls st M Q) : en_R sc y pc ls (mm_i z :: mm_i x :: st) M Q := en_br2 (p := fun x z => decide (z < x)) t hc rfl rfl (fun _ => rfl) (fun _ => rfl) (fun _ _ => rfl) ht (decide_eq_true_iff.trans (mr_lt hz hx)) k1 k2
theorem en_icmp_le {x z off : Int} (t : Nat) (hc : mr_C y pc = some (.if_icmp .le off, 3)) (ht : (pc : Int) + off = t) (hx : mr_rg x) (hz : mr_rg z) (k1 : x ≤ z → en_R sc y t ls st M Q) (k2 : ¬ x ≤ z → en_R sc y (pc + 3) ls st M Q) : en_R sc y pc ls (mm_i z :: mm_i x :: st) M Q := en_br2 (p := fun x z => decide (x ≤ z)) t hc rfl rfl (fun _ => rfl) (fun _ => rfl) (fun _ _ => rfl) ht (decide_eq_true_iff.trans (mr_le hx hz)) k1 k2
end
