/-! ===== the number of trailing zeros ===== -/
theorem nz_nat {n t : Nat} (h1 : n.testBit t = true) (h0 : ∀ j, j < t → n.testBit j = false) : ∃ u, n = 2 ^ (t + 1) * u + 2 ^ t := by
  refine ⟨n / 2 ^ (t + 1), ?_⟩
  have hm : n % 2 ^ (t + 1) = 2 ^ t := by
    apply Nat.eq_of_testBit_eq
    intro j
    rw [Nat.testBit_mod_two_pow, Nat.testBit_two_pow]
    rcases Nat.lt_trichotomy j t with g | g | g
    · rw [h0 j g]
      have : ¬ t = j := by omega
      simp [this]
    · subst g
      simp [h1]
    · have a : ¬ j < t + 1 := by omega
      have b : ¬ t = j := by omega
      simp [a, b]
  have := Nat.div_add_mod n (2 ^ (t + 1))
  omega
theorem nz_bit {n t : Nat} (h1 : n.testBit t = true) (h0 : ∀ j, j < t → n.testBit j = false) (k : Nat) : (!(n.testBit k) && (n - 1).testBit k) = decide (k < t) := by
  obtain ⟨u, hu⟩ := nz_nat h1 h0
  have hp : 0 < 2 ^ t := Nat.two_pow_pos t
  have e2 : 2 ^ (t + 1) = 2 * 2 ^ t := by rw [Nat.pow_succ, Nat.mul_comm]
  have e : n - 1 = 2 ^ (t + 1) * u + (2 ^ t - 1) := by omega
  rw [e, Nat.testBit_two_pow_mul_add u (by omega : 2 ^ t - 1 < 2 ^ (t + 1)), Nat.testBit_two_pow_sub_one]
  rcases Nat.lt_trichotomy k t with g | g | g
  · rw [h0 k g]
    have a : k < t + 1 := by omega
    simp [a, g]
  · subst g
    simp [h1]
  · rw [hu, Nat.testBit_two_pow_mul_add u (by omega : 2 ^ t < 2 ^ (t + 1))]
    have a : ¬ k < t + 1 := by omega
    have b : ¬ k < t := by omega
    simp [a, b]
theorem nz_bv {v : BitVec 32} {t : Nat} (h1 : v.getLsbD t = true) (h0 : ∀ j, j < t → v.getLsbD j = false) : (v ^^^ (-1#32)) &&& (v - 1#32) = BitVec.ofNat 32 (2 ^ t - 1) := by
  apply BitVec.eq_of_getLsbD_eq
  intro k hk
  have hv : v.toNat ≠ 0 := by
    intro q
    rw [BitVec.getLsbD, q] at h1
    simp at h1
  have hs : (v - 1#32).toNat = v.toNat - 1 := by
    rw [BitVec.toNat_sub]
    have := v.isLt
    show (2 ^ 32 - 1 + v.toNat) % 2 ^ 32 = v.toNat - 1
    omega
  have hb := nz_bit (n := v.toNat) (t := t) h1 h0 k
  rw [BitVec.getLsbD_and, BitVec.getLsbD_xor]
  have hm : (-1#32).getLsbD k = true := by
    have : ∀ j : Fin 32, (-1#32).getLsbD j.val = true := by decide +kernel
    exact this ⟨k, hk⟩
  have e1 : (v - 1#32).getLsbD k = (v.toNat - 1).testBit k := by rw [BitVec.getLsbD, hs]
  have e2 : v.getLsbD k = v.toNat.testBit k := rfl
  rw [hm, e1, e2, Bool.xor_true, hb]
  rw [BitVec.getLsbD_ofNat, Nat.testBit_two_pow_sub_one]
  simp [hk]
def nz3 (x n : Int) : Int := if x ≤ 4 then n + mr_iushr x 1 else (n + 2) + mr_iushr (mr_iushr x 2) 1
def nz2 (x n : Int) : Int := if x ≤ 16 then nz3 x n else nz3 (mr_iushr x 4) (n + 4)
def nz1 (x n : Int) : Int := if x ≤ 256 then nz2 x n else nz2 (mr_iushr x 8) (n + 8)
def nz0 (i : Int) : Int := if 0 < i then (if i ≤ 65536 then nz1 i 1 else nz1 (mr_iushr i 16) (1 + 16)) else mr_iand i 32
theorem nz_all : ∀ t : Fin 32, nz0 ((BitVec.ofNat 32 (2 ^ t.val - 1)).toInt) = Int.ofNat t.val := by decide +kernel
section
variable {sc : Nat × (Int → Int)} {M : mm_M} {Q : mm_R → mm_M → Prop}
theorem mr_iushr_rg (a b : Int) : mr_rg (mr_iushr a b) := mr_rgI _
theorem nz_62 {x n : Int} (ho : mr_ok M) (hx : mr_rg x) (h : Q (.inl (some (mm_i (nz3 x n)))) M) : en_R sc 19 62 [mm_i x, mm_i n] [] M Q := by
  unfold nz3 at h
  refine vc19_62 ho hx ⟨fun q => ?_, fun q => ?_⟩
  · rwa [if_pos q] at h
  · rwa [if_neg q] at h
theorem nz_49 {x n : Int} (ho : mr_ok M) (hx : mr_rg x) (h : Q (.inl (some (mm_i (nz2 x n)))) M) : en_R sc 19 49 [mm_i x, mm_i n] [] M Q := by
  unfold nz2 at h
  refine vc19_49 ho hx ⟨fun q => ?_, fun q => ?_⟩
  · rw [if_pos q] at h
    exact nz_62 ho hx h
  · rw [if_neg q] at h
    exact nz_62 ho (mr_iushr_rg _ _) h
theorem nz_34 {x n : Int} (ho : mr_ok M) (hx : mr_rg x) (h : Q (.inl (some (mm_i (nz1 x n)))) M) : en_R sc 19 34 [mm_i x, mm_i n] [] M Q := by
  unfold nz1 at h
  refine vc19_34 ho hx ⟨fun q => ?_, fun q => ?_⟩
  · rw [if_pos q] at h
    exact nz_49 ho hx h
  · rw [if_neg q] at h
    exact nz_49 ho (mr_iushr_rg _ _) h
theorem c19 {K : Int → mm_M → Prop} {X : Nat → mm_M → Prop} {l0 : Int} {t : Nat} (ho : mr_ok M) (ht : t < 32) (h1 : (Int32.ofInt l0).toBitVec.getLsbD t = true) (h0 : ∀ j, j < t → (Int32.ofInt l0).toBitVec.getLsbD j = false) (k : K t M) : en_CI sc 19 [mm_i l0, mm_u] M K X := by
  have e : mr_iand (mr_ixor l0 (-1)) (l0 - 1) = (BitVec.ofNat 32 (2 ^ t - 1)).toInt := by
    rw [← nz_bv h1 h0]
    show (Int32.ofInt (Int32.ofInt l0 ^^^ Int32.ofInt (-1)).toInt &&& Int32.ofInt (l0 - 1)).toInt = _
    rw [Int32.ofInt_toInt, Int32.ofInt_sub]
    rfl
  have hz : nz0 (mr_iand (mr_ixor l0 (-1)) (l0 - 1)) = t := by
    rw [e]
    exact nz_all ⟨t, ht⟩
  have hg : mr_rg (mr_iand (mr_ixor l0 (-1)) (l0 - 1)) := mr_rgI _
  unfold nz0 at hz
  refine vc19_0 ho ⟨fun p => ⟨fun q => ?_, fun q => ?_⟩, fun p => ?_⟩
  · rw [if_pos p, if_pos q] at hz
    refine nz_34 ho hg (Or.inl ⟨_, rfl, ?_⟩)
    rw [hz]
    exact k
  · rw [if_pos p, if_neg q] at hz
    refine nz_34 ho (mr_iushr_rg _ _) (Or.inl ⟨_, rfl, ?_⟩)
    rw [hz]
    exact k
  · rw [if_neg p] at hz
    refine Or.inl ⟨_, rfl, ?_⟩
    rw [hz]
    exact k
theorem rb_low {l0 : Int} {k : Nat} (hk : k < 32) : (Int32.ofInt l0).toBitVec.getLsbD k = rb l0 k := by
  show (BitVec.ofInt 32 l0).getLsbD k = (BitVec.ofInt 64 l0).getLsbD k
  have e : (BitVec.ofInt 32 l0).toNat = (BitVec.ofInt 64 l0).toNat % 2 ^ 32 := by
    rw [BitVec.toNat_ofInt, BitVec.toNat_ofInt]
    have a : ((2 ^ 32 : Nat) : Int) = 4294967296 := by decide
    have b : ((2 ^ 64 : Nat) : Int) = 18446744073709551616 := by decide
    rw [a, b]
    omega
  rw [BitVec.getLsbD, e, Nat.testBit_mod_two_pow, BitVec.getLsbD]
  simp [hk]
theorem rb_high {l0 : Int} {k : Nat} (hk : k < 32) : (Int32.ofInt (mr_ushr l0 32)).toBitVec.getLsbD k = rb l0 (k + 32) := by
  rw [rb_low hk]
  unfold mr_ushr
  rw [rb_of]
  have e : ((mm_I 32).toInt64.toUInt64 &&& Int64.toUInt64 63) = 32 := by decide +kernel
  rw [e]
  show ((Int64.ofInt l0).toUInt64 >>> (32 : UInt64)).toBitVec.getLsbD k = _
  rw [UInt64.toBitVec_shiftRight]
  have e2 : (32 : UInt64).toBitVec % 64 = 32#64 := by decide +kernel
  rw [e2, BitVec.ushiftRight_eq', BitVec.getLsbD_ushiftRight]
  show (Int64.ofInt l0).toBitVec.getLsbD (32 + k) = (Int64.ofInt l0).toBitVec.getLsbD (k + 32)
  rw [Nat.add_comm]
/-- Long.numberOfTrailingZeros -/
theorem c20 {K : Int → mm_M → Prop} {X : Nat → mm_M → Prop} {l0 : Int} {t : Nat} (ho : mr_ok M) (ht : t < 64) (h1 : rb l0 t = true) (h0 : ∀ j, j < t → rb l0 j = false) (k : K t M) : en_CI sc 20 [mm_j l0, mm_u, mm_u] M K X := by
  have hc : (decide (mm_I l0 ≠ 0) = true) ↔ t < 32 := by
    rw [decide_eq_true_iff]
    constructor
    · intro q
      refine Decidable.byContradiction fun g => q ?_
      apply Int32.toBitVec_inj.mp
      apply BitVec.eq_of_getLsbD_eq
      intro j hj
      show (Int32.ofInt l0).toBitVec.getLsbD j = (0#32).getLsbD j
      rw [rb_low hj, h0 j (by omega), BitVec.getLsbD_zero]
    · intro q z
      have a : (Int32.ofInt l0).toBitVec.getLsbD t = true := by rw [rb_low q, h1]
      have b : (Int32.ofInt l0) = 0 := z
      rw [b] at a
      have d : (0#32).getLsbD t = true := a
      rw [BitVec.getLsbD_zero] at d
      cases d
  refine en_lload_n mc20_0 rfl ?_
  refine en_l2i mc20_1 ?_
  refine en_istore_n (ls' := [mm_j l0, mm_u, mm_i l0]) mc20_2 (Nat.le_of_ble_eq_true rfl) rfl ?_
  refine en_iload_n mc20_3 rfl ?_
  refine en_br1 (p := fun x => decide (x ≠ 0)) (off := 17) 21 mc20_4 rfl rfl (fun _ => rfl) (fun _ => rfl) (fun _ _ => rfl) (by decide) hc (fun q => ?_) (fun q => ?_)
  · refine en_iload_n mc20_21 rfl ?_
    refine en_callI (lz := [mm_i l0, mm_u]) mv20 mc20_22 rfl rfl (lk_m10_311) mv19 rfl (by decide) rfl (mk_cokS rfl) rfl (mk_nh rfl _) ho ?_
    refine c19 ho q (by rw [rb_low q, h1]) (fun j hj => by rw [rb_low (by omega), h0 j hj]) ?_
    intro _
    exact en_iret mv20 mc20_25 rfl (Or.inl ⟨_, rfl, k⟩)
  · refine en_bipush mc20_7 (by decide) ?_
    refine en_lload_n mc20_9 rfl ?_
    refine en_bipush mc20_10 (by decide) ?_
    refine en_lushr mc20_12 ?_
    refine en_l2i mc20_13 ?_
    refine en_callI (lz := [mm_i (mr_ushr l0 32), mm_u]) mv20 mc20_14 rfl rfl (lk_m10_311) mv19 rfl (by decide) rfl (mk_cokS rfl) rfl (mk_nh rfl _) ho ?_
    have et : t - 32 + 32 = t := by omega
    refine c19 (t := t - 32) ho (by omega) (by rw [rb_high (by omega), et, h1]) (fun j hj => by rw [rb_high (by omega), h0 _ (by omega)]) ?_
    intro _
    refine en_iadd mc20_17 ?_
    refine en_goto 25 mc20_18 (by decide) ?_
    refine en_iret mv20 mc20_25 rfl (Or.inl ⟨_, rfl, ?_⟩)
    have : (32 + ((t - 32 : Nat) : Int)) = t := by omega
    rw [this]
    exact k
end
