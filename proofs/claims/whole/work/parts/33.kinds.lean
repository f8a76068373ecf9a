/-! ===== kinds of things and fixed references ===== -/
def mr_Ww (a : Nat) : Prop := a = 10 ∨ a = 12 ∨ a = 14 ∨ a = 16
section
variable {a : Nat} {M : mm_M} {sc : Nat × (Int → Int)}
theorem mk_A0 (h : mr_A a) : mt_kd[a]? = some (.inl 0) ∧ a < 99 := by
  rcases h with rfl | rfl | rfl | rfl | rfl | rfl | rfl | rfl | rfl <;> exact ⟨rfl, by decide⟩
theorem mk_A1 (h : mr_A a) : mt_kd[a + 1]? = some (.inr (.int, 100)) ∧ a + 1 < 99 ∧ 100 < 2147483648 := by
  rcases h with rfl | rfl | rfl | rfl | rfl | rfl | rfl | rfl | rfl <;> exact ⟨rfl, by decide, by decide⟩
theorem mk_A2 (h : mr_A a) : mt_kd[a + 2]? = some (.inr (.int, 100)) ∧ a + 2 < 99 ∧ 100 < 2147483648 := by
  rcases h with rfl | rfl | rfl | rfl | rfl | rfl | rfl | rfl | rfl <;> exact ⟨rfl, by decide, by decide⟩
theorem mk_A3 (h : mr_A a) : mt_kd[a + 3]? = some (.inr (.int, 101)) ∧ a + 3 < 99 ∧ 101 < 2147483648 := by
  rcases h with rfl | rfl | rfl | rfl | rfl | rfl | rfl | rfl | rfl <;> exact ⟨rfl, by decide, by decide⟩
theorem mk_A4 (h : mr_A a) : mt_kd[a + 4]? = some (.inr (.int, 400)) ∧ a + 4 < 99 ∧ 400 < 2147483648 := by
  rcases h with rfl | rfl | rfl | rfl | rfl | rfl | rfl | rfl | rfl <;> exact ⟨rfl, by decide, by decide⟩
theorem mk_A5 (h : mr_A a) : mt_kd[a + 5]? = some (.inr (.int, 400)) ∧ a + 5 < 99 ∧ 400 < 2147483648 := by
  rcases h with rfl | rfl | rfl | rfl | rfl | rfl | rfl | rfl | rfl <;> exact ⟨rfl, by decide, by decide⟩
theorem mk_nA0 (h : mr_A a) (k : Int) : ¬ mr_lg a k := by unfold mr_A at h; unfold mr_lg; omega
theorem mk_nA1 (h : mr_A a) (k : Int) : ¬ mr_lg (a + 1) k := by unfold mr_A at h; unfold mr_lg; omega
theorem mk_nA2 (h : mr_A a) (k : Int) : ¬ mr_lg (a + 2) k := by unfold mr_A at h; unfold mr_lg; omega
theorem mk_nA3 (h : mr_A a) (k : Int) : ¬ mr_lg (a + 3) k := by unfold mr_A at h; unfold mr_lg; omega
theorem mk_nA4 (h : mr_A a) (k : Int) : ¬ mr_lg (a + 4) k := by unfold mr_A at h; unfold mr_lg; omega
theorem mk_nA5 (h : mr_A a) (k : Int) : ¬ mr_lg (a + 5) k := by unfold mr_A at h; unfold mr_lg; omega
theorem mk_fc {k : Int} {b : Nat} (ho : mr_ok M) (h : (a, k, b) ∈ mr_rf) : M.2.1 a k = some b := ho.2.2 _ h
theorem mk_fA1 (h : mr_A a) (ho : mr_ok M) : M.2.1 a 1 = some (a + 1) := by
  rcases h with rfl | rfl | rfl | rfl | rfl | rfl | rfl | rfl | rfl <;> exact mk_fc ho (by decide +kernel)
theorem mk_fA2 (h : mr_A a) (ho : mr_ok M) : M.2.1 a 2 = some (a + 2) := by
  rcases h with rfl | rfl | rfl | rfl | rfl | rfl | rfl | rfl | rfl <;> exact mk_fc ho (by decide +kernel)
theorem mk_fA3 (h : mr_A a) (ho : mr_ok M) : M.2.1 a 3 = some (a + 3) := by
  rcases h with rfl | rfl | rfl | rfl | rfl | rfl | rfl | rfl | rfl <;> exact mk_fc ho (by decide +kernel)
theorem mk_fA4 (h : mr_A a) (ho : mr_ok M) : M.2.1 a 4 = some (a + 4) := by
  rcases h with rfl | rfl | rfl | rfl | rfl | rfl | rfl | rfl | rfl <;> exact mk_fc ho (by decide +kernel)
theorem mk_fA5 (h : mr_A a) (ho : mr_ok M) : M.2.1 a 5 = some (a + 5) := by
  rcases h with rfl | rfl | rfl | rfl | rfl | rfl | rfl | rfl | rfl <;> exact mk_fc ho (by decide +kernel)
theorem mk_R0 (h : mr_Rw a) : mt_kd[a]? = some (.inl 5) ∧ a < 99 := by
  rcases h with rfl | rfl | rfl | rfl <;> exact ⟨rfl, by decide⟩
theorem mk_R1 (h : mr_Rw a) : mt_kd[a + 1]? = some (.inr (.long, 32)) ∧ a + 1 < 99 ∧ 32 < 2147483648 := by
  rcases h with rfl | rfl | rfl | rfl <;> exact ⟨rfl, by decide, by decide⟩
theorem mk_fR (h : mr_Rw a) (ho : mr_ok M) : M.2.1 a 0 = some (a + 1) := by
  rcases h with rfl | rfl | rfl | rfl <;> exact mk_fc ho (by decide +kernel)
theorem mk_W0 (h : mr_Ww a) : mt_kd[a]? = some (.inr (.long, 32)) ∧ a < 99 ∧ 32 < 2147483648 := by
  rcases h with rfl | rfl | rfl | rfl <;> exact ⟨rfl, by decide, by decide⟩
theorem mk_WR (h : mr_Rw a) : mr_Ww (a + 1) := by unfold mr_Rw at h; unfold mr_Ww; omega
theorem mk_01 {x : Int} (h : x = 0 ∨ x = 1) : mr_rg x := by rcases h with rfl | rfl <;> exact ⟨by decide, by decide⟩
theorem mk_cmp (x z : Int) : mr_rg (mr_cmp x z) := by
  unfold mr_cmp
  split
  · exact ⟨by decide, by decide⟩
  · split <;> exact ⟨by decide, by decide⟩
theorem mk_scl (h : sc.1 < 2147483648) : mr_rg (sc.1 : Int) := ⟨by omega, by omega⟩
theorem mk_cokS {me mz : mm_E} {as rr : List mm_V} (h : (decide (mm_wd rr ≤ 8) && decide (mz.2.2.2.2.2.1 + 1 ≤ me.2.2.2.2.2.1) && decide (8 + (mz.2.2.2.1 + 11) + mz.2.2.2.2.2.2 ≤ me.2.2.2.2.2.2) && decide ((mm_exp as).length ≤ mz.2.2.2.1)) = true) : mm_cok (mt_P sc) 0 me mz as rr 99 = true := by
  unfold mm_cok
  rw [h]; rfl
theorem mk_cokV {me mz : mm_E} {as rr : List mm_V} (h : (decide (mm_wd rr ≤ 8) && decide (mz.2.2.2.2.2.1 + 1 ≤ me.2.2.2.2.2.1) && decide (8 + (mz.2.2.2.1 + 11) + mz.2.2.2.2.2.2 ≤ me.2.2.2.2.2.2) && decide ((mm_exp (mm_r a :: as)).length ≤ mz.2.2.2.1)) = true) (hk : mt_kd[a]? = some (.inl mz.1) ∧ a < 99) : mm_cok (mt_P sc) 1 me mz (mm_r a :: as) rr 99 = true := by
  unfold mm_cok
  rw [h]
  simp only [List.head?_cons, show mm_kd (mt_P sc) a = some (.inl mz.1) from hk.1, hk.2, decide_true, Bool.and_self, Bool.or_true]
theorem mk_nh {y : Nat} (h : mt_hh.getD y [] = []) (pc x : Nat) : mm_hd (mt_P sc) y pc x = none := by
  show mt_hd y pc x = none
  unfold mt_hd
  rw [h]; rfl
theorem mk_cpy {f t m : Nat} {sp dp n : Int} (ho : mr_ok M) (ht : mt_kd[t]? = some (.inr (.long, m)) ∧ t < 99 ∧ m < 2147483648) : mr_ok (mm_cpy M f t sp dp n) := by
  refine ⟨fun b j => ?_, fun b j hj => ?_, ho.2.2⟩
  · simp only [mm_cpy]; split
    · exact ho.1 _ _
    · exact ho.1 _ _
  · simp only [mm_cpy]; split
    · rename_i z
      exact absurd (by rw [z.1]; exact mr_kl ht.1 j) hj
    · exact ho.2.1 _ _ hj
theorem mk_lsw2 {d a0 o0 a1 o1 x : Int} (h0 : x ≠ a0) (h1 : x ≠ a1) : Op.lookupswitch.offset [(a0, o0), (a1, o1)] d x = d := by
  rw [Op.lookupswitch.offset_cons, if_neg (Ne.symm h0), Op.lookupswitch.offset_cons, if_neg (Ne.symm h1)]; rfl
theorem mk_lsw3 {d a0 o0 a1 o1 a2 o2 x : Int} (h0 : x ≠ a0) (h1 : x ≠ a1) (h2 : x ≠ a2) : Op.lookupswitch.offset [(a0, o0), (a1, o1), (a2, o2)] d x = d := by
  rw [Op.lookupswitch.offset_cons, if_neg (Ne.symm h0), Op.lookupswitch.offset_cons, if_neg (Ne.symm h1), Op.lookupswitch.offset_cons, if_neg (Ne.symm h2)]; rfl
theorem mk_stn {ls ls' : List mm_V} {j i : Nat} {w v : mm_V} (hw : w = mm_u ∨ ∃ x, w = mm_i x) (hj : ls[j]? = some w) (hi : i = j + 1) (hs : ls.set i v = ls') : mm_st1 ls i v = ls' := by
  subst hi
  unfold mm_st1
  have : mm_fix ls (j + 1) = ls := by
    unfold mm_fix
    simp only [hj]
    rcases hw with rfl | ⟨x, rfl⟩ <;> rfl
  rw [this, hs]
end
