/-! ===== frames; bits of longs ===== -/
def fr (S : Nat → Int → Prop) (M M1 : mm_M) : Prop := M1.2 = M.2 ∧ ∀ b k, ¬ S b k → M1.1 b k = M.1 b k
theorem fr_refl {S : Nat → Int → Prop} {M : mm_M} : fr S M M := ⟨rfl, fun _ _ _ => rfl⟩
theorem fr_trans {S : Nat → Int → Prop} {M M1 M2 : mm_M} (h : fr S M M1) (g : fr S M1 M2) : fr S M M2 := ⟨g.1.trans h.1, fun b k q => (g.2 b k q).trans (h.2 b k q)⟩
theorem fr_mono {S T : Nat → Int → Prop} {M M1 : mm_M} (h : fr S M M1) (g : ∀ b k, S b k → T b k) : fr T M M1 := ⟨h.1, fun b k q => h.2 b k (fun s => q (g b k s))⟩
theorem fr_put {S : Nat → Int → Prop} {M : mm_M} {a : Nat} {k x : Int} (h : S a k) : fr S M (mm_putN M a k x) := by
  refine ⟨rfl, fun b j q => ?_⟩
  show (if b = a ∧ j = k then x else M.1 b j) = M.1 b j
  rw [if_neg]
  rintro ⟨rfl, rfl⟩
  exact q h
theorem put_eq {M : mm_M} {a : Nat} {k x : Int} : (mm_putN M a k x).1 a k = x := by
  show (if a = a ∧ k = k then x else M.1 a k) = x
  rw [if_pos ⟨rfl, rfl⟩]
theorem put_ne {M : mm_M} {a b : Nat} {k j x : Int} (h : ¬ (b = a ∧ j = k)) : (mm_putN M a k x).1 b j = M.1 b j := if_neg h
theorem put_k {M : mm_M} {a : Nat} {k j x : Int} (h : j ≠ k) : (mm_putN M a k x).1 a j = M.1 a j := if_neg (fun q => h q.2)
theorem put_a {M : mm_M} {a b : Nat} {k j x : Int} (h : b ≠ a) : (mm_putN M a k x).1 b j = M.1 b j := if_neg (fun q => h q.1)
def rb (v : Int) (k : Nat) : Bool := (Int64.ofInt v).toBitVec.getLsbD k
theorem rb_of (z : Int64) (k : Nat) : rb z.toInt k = z.toBitVec.getLsbD k := by
  unfold rb
  rw [Int64.ofInt_toInt]
theorem rb_and (a b : Int) (k : Nat) : rb (mr_and a b) k = (rb a k && rb b k) := by
  unfold mr_and
  rw [rb_of, Int64.toBitVec_and, BitVec.getLsbD_and]
  rfl
theorem rb_or (a b : Int) (k : Nat) : rb (mr_or a b) k = (rb a k || rb b k) := by
  unfold mr_or
  rw [rb_of, Int64.toBitVec_or, BitVec.getLsbD_or]
  rfl
theorem rb_xor (a b : Int) (k : Nat) : rb (mr_xor a b) k = (rb a k ^^ rb b k) := by
  unfold mr_xor
  rw [rb_of, Int64.toBitVec_xor, BitVec.getLsbD_xor]
  rfl
theorem rb_0 (k : Nat) : rb 0 k = false := by
  unfold rb
  show (0#64).getLsbD k = false
  exact BitVec.getLsbD_zero
theorem rb_m1 {k : Nat} (h : k < 64) : rb (-1) k = true := by
  have : ∀ j : Fin 64, rb (-1) j.val = true := by decide +kernel
  exact this ⟨k, h⟩
theorem rb_lt {v : Int} {k : Nat} (h : rb v k = true) : k < 64 := BitVec.lt_of_getLsbD h
theorem rb_shl_ : ∀ s k : Fin 64, rb (mr_shl (-1) (Int.ofNat s.val)) k.val = decide (s.val ≤ k.val) := by decide +kernel
theorem rb_ushr_ : ∀ s k : Fin 64, rb (mr_ushr (-1) (63 - Int.ofNat s.val)) k.val = decide (k.val ≤ s.val) := by decide +kernel
theorem rb_shl {s : Int} {k : Nat} (h0 : 0 ≤ s) (h1 : s < 64) (hk : k < 64) : rb (mr_shl (-1) s) k = decide (s ≤ k) := by
  have := rb_shl_ ⟨s.toNat, by omega⟩ ⟨k, hk⟩
  have e : Int.ofNat s.toNat = s := Int.toNat_of_nonneg h0
  simp only [e] at this
  rw [this]
  apply decide_eq_decide.mpr
  omega
theorem rb_ushr {s : Int} {k : Nat} (h0 : 0 ≤ s) (h1 : s < 64) (hk : k < 64) : rb (mr_ushr (-1) (63 - s)) k = decide (k ≤ s) := by
  have := rb_ushr_ ⟨s.toNat, by omega⟩ ⟨k, hk⟩
  have e : Int.ofNat s.toNat = s := Int.toNat_of_nonneg h0
  simp only [e] at this
  rw [this]
  apply decide_eq_decide.mpr
  omega
/-- two longs are the same if their bits are -/
theorem rb_ext {a b : Int} (ha : mr_rj a) (hb : mr_rj b) (h : ∀ k, k < 64 → rb a k = rb b k) : a = b := by
  have e : (Int64.ofInt a) = (Int64.ofInt b) := by
    apply Int64.toBitVec_inj.mp
    apply BitVec.eq_of_getLsbD_eq
    exact h
  have ea : (Int64.ofInt a).toInt = a := Int64.toInt_ofInt_of_le ha.1 ha.2
  have eb : (Int64.ofInt b).toInt = b := Int64.toInt_ofInt_of_le hb.1 hb.2
  rw [← ea, ← eb, e]
theorem mr_and_rj (a b : Int) : mr_rj (mr_and a b) := mr_rjJ _
theorem mr_or_rj (a b : Int) : mr_rj (mr_or a b) := mr_rjJ _
theorem mr_xor_rj (a b : Int) : mr_rj (mr_xor a b) := mr_rjJ _
theorem mr_cmp_0 {a : Int} (h : mr_rj a) : mr_cmp a 0 = 0 ↔ ∀ k, k < 64 → rb a k = false := by
  unfold mr_cmp
  constructor
  · intro g k _
    have : a = 0 := by
      split at g
      · omega
      · split at g <;> omega
    rw [this, rb_0]
  · intro g
    have : a = 0 := rb_ext h ⟨by decide, by decide⟩ (fun k hk => by rw [g k hk, rb_0])
    rw [this]
    rfl
theorem mr_cmp_eq (a b : Int) : mr_cmp a b = 0 ↔ a = b := by
  unfold mr_cmp
  split
  · omega
  · split <;> omega
/-- Row.mask -/
theorem c15 {sc : Nat × (Int → Int)} {M : mm_M} {K : Int → mm_M → Prop} {X : Nat → mm_M → Prop} {w a b : Int} (ho : mr_ok M) (h0 : 0 ≤ a) (h1 : a < 2048) (h2 : 0 ≤ b) (h3 : b < 2048) (h4 : a / 64 ≤ w) (h5 : w ≤ b / 64)
    (k : ∀ x, mr_rj x → (∀ j, j < 64 → rb x j = decide (a ≤ 64 * w + j ∧ 64 * w + j ≤ b)) → K x M) : en_CJ sc 15 [mm_i w, mm_i a, mm_i b, mm_u, mm_u] M K X := by
  have step : ∀ v : Int, mr_rj v → (∀ j, j < 64 → rb v j = decide (a ≤ 64 * w + j)) → en_R sc 15 23 [mm_i w, mm_i a, mm_i b, mm_j v, mm_u] [] M (fun r M1 => (∃ x, r = .inl (some (mm_j x)) ∧ K x M1) ∨ ∃ e, r = .inr e ∧ e < 100 ∧ X e M1) := by
    intro v hr hv
    refine vc15_23 ho ⟨by omega, by omega⟩ ⟨by omega, by omega⟩ ⟨h2, ⟨by omega, by omega⟩, fun q => ?_, fun q => ?_⟩
    · refine Or.inl ⟨_, rfl, k _ hr (fun j hj => ?_)⟩
      rw [hv j hj]
      apply decide_eq_decide.mpr
      omega
    · refine Or.inl ⟨_, rfl, k _ (mr_and_rj _ _) (fun j hj => ?_)⟩
      rw [rb_and, hv j hj, rb_ushr (by omega) (by omega) hj, ← Bool.decide_and]
      apply decide_eq_decide.mpr
      omega
  refine vc15_0 ho ⟨by omega, by omega⟩ ⟨by omega, by omega⟩ ⟨h0, ⟨by omega, by omega⟩, fun q => ?_, fun q => ?_⟩
  · refine step _ ⟨by decide, by decide⟩ (fun j hj => ?_)
    rw [rb_m1 hj]
    symm
    apply decide_eq_true
    omega
  · refine step _ (mr_and_rj _ _) (fun j hj => ?_)
    rw [rb_and, rb_m1 hj, rb_shl (by omega) (by omega) hj, Bool.true_and]
    apply decide_eq_decide.mpr
    omega
