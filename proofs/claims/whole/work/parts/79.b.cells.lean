/-! ===== the number of cells ===== -/
def cS (s : sh) (i : Int) : Nat → Int
  | 0 => 0
  | m + 1 => cS s i m + (shi s i - slo s i) * (srt s (sst s i + m) - slf s (sst s i + m))
def cB (s : sh) : Nat → Int
  | 0 => 0
  | n + 1 => cB s n + cS s n (sst s (n + 1) - sst s n).toNat
def cells (s : sh) : Int := cB s (sn s).toNat
theorem cells_eqv {s t : sh} (h : wf s) (e : eqv s t) : cells s = cells t := by
  have n0 := h.1
  have key : ∀ n : Nat, (n : Int) ≤ sn s → cB s n = cB t n := by
    intro n
    induction n with
    | zero => intro _; rfl
    | succ n ih =>
      intro g
      have a := e.2.2.1 n (by omega) (by omega)
      have b := e.2.2.1 (n + 1) (by omega) (by omega)
      have c := e.2.1 n (by omega) (by omega)
      have d := sst_mono h (Int.le_refl 0) (by omega : (0 : Int) ≤ n) (by omega)
      have f := sst_mono h (by omega : (0 : Int) ≤ n + 1) (by omega) (Int.le_refl _)
      rw [h.2.1] at d
      have inner : ∀ m : Nat, (m : Int) ≤ sst s (n + 1) - sst s n → cS s n m = cS t n m := by
        intro m
        induction m with
        | zero => intro _; rfl
        | succ m ih2 =>
          intro g2
          have x := e.2.2.2 (sst s n + m) (by omega) (by omega)
          show cS s n m + (shi s n - slo s n) * (srt s (sst s n + m) - slf s (sst s n + m)) = cS t n m + (shi t n - slo t n) * (srt t (sst t n + m) - slf t (sst t n + m))
          rw [ih2 (by omega), x.1, x.2, c.1, c.2, a]
      have bk := (h.2.2.1 n (by omega) (by omega)).1
      show cB s n + cS s n (sst s (n + 1) - sst s n).toNat = cB t n + cS t n (sst t (n + 1) - sst t n).toNat
      rw [ih (by omega), ← a, ← b, inner _ (by omega)]
  unfold cells
  rw [← e.1]
  exact key _ (by omega)
section
variable {sc : Nat × (Int → Int)} {M : mm_M} {X : Nat → mm_M → Prop}
/-- Area.cells -/
theorem c42 {K : Int → mm_M → Prop} {a : Nat} (ho : mr_ok M) (h : AW M a) (k : K (cells (rdA M a)) M) : en_CI sc 42 [mm_r a, mm_u, mm_u, mm_u] M K X := by
  have hA := h.1
  have hn := h.2.2.1
  have n0 : 0 ≤ M.1 a 0 := h.2.1.1
  refine vc42_0 ho ?_
  have outer : ∀ (c n : Nat) (l3 : mm_V), c = (M.1 a 0 - n).toNat → (n : Int) ≤ M.1 a 0 → en_R sc 42 4 [mm_r a, mm_i (cB (rdA M a) n), mm_i n, l3] [] M (fun r M1 => (∃ x, r = .inl (some (mm_i x)) ∧ K x M1) ∨ ∃ e, r = .inr e ∧ e < 100 ∧ X e M1) := by
    intro c
    induction c with
    | zero =>
      intro n l3 hc h1
      refine vc42_4 ho hA ⟨by omega, by omega⟩ ⟨fun q => Or.inl ⟨_, rfl, ?_⟩, fun q => absurd q (by omega)⟩
      have e : n = (sn (rdA M a)).toNat := by
        show n = (M.1 a 0).toNat
        omega
      rw [e]
      exact k
    | succ c ih =>
      intro n l3 hc h1
      have s1 := AW_st h (by omega : (0 : Int) ≤ n) (by omega)
      have s2 := AW_st h (by omega : (0 : Int) ≤ n + 1) (by omega)
      have s3 : M.1 (a + 3) n < M.1 (a + 3) (n + 1) := (h.2.1.2.2.1 n (by omega) (show (n : Int) < M.1 a 0 by omega)).1
      refine vc42_4 ho hA ⟨by omega, by omega⟩ ⟨fun q => absurd q (by omega), fun q => ⟨by omega, by omega, ?_⟩⟩
      have inner : ∀ (d m : Nat), d = (M.1 (a + 3) (n + 1) - M.1 (a + 3) n - m).toNat → (m : Int) ≤ M.1 (a + 3) (n + 1) - M.1 (a + 3) n → en_R sc 42 19 [mm_r a, mm_i (cB (rdA M a) n + cS (rdA M a) n m), mm_i n, mm_i (M.1 (a + 3) n + m)] [] M (fun r M1 => (∃ x, r = .inl (some (mm_i x)) ∧ K x M1) ∨ ∃ e, r = .inr e ∧ e < 100 ∧ X e M1) := by
        intro d
        induction d with
        | zero =>
          intro m hd hm
          refine vc42_19 ho hA ⟨by omega, by omega⟩ ⟨by omega, by omega, fun q2 => ?_, fun q2 => absurd q2 (by omega)⟩
          have e : m = (M.1 (a + 3) (n + 1) - M.1 (a + 3) n).toNat := by omega
          have := ih (n + 1) (mm_i (M.1 (a + 3) n + m)) (by omega) (by omega)
          rw [e] at this ⊢
          exact this
        | succ d ih2 =>
          intro m hd hm
          refine vc42_19 ho hA ⟨by omega, by omega⟩ ⟨by omega, by omega, fun q2 => absurd q2 (by omega), fun q2 => ⟨by omega, by omega, by omega, by omega, by omega, by omega, by omega, by omega, ?_⟩⟩
          have := ih2 (m + 1) (by omega) (by omega)
          have e1 : M.1 (a + 3) n + m + 1 = M.1 (a + 3) n + ((m + 1 : Nat) : Int) := by omega
          have e2 : cB (rdA M a) n + cS (rdA M a) n m + (M.1 (a + 2) n - M.1 (a + 1) n) * (M.1 (a + 5) (M.1 (a + 3) n + m) - M.1 (a + 4) (M.1 (a + 3) n + m)) = cB (rdA M a) n + cS (rdA M a) n (m + 1) := by
            rw [Int.add_assoc]
            rfl
          rw [e1, e2]
          exact this
      have := inner _ 0 rfl (by omega)
      have e1 : M.1 (a + 3) n + ((0 : Nat) : Int) = M.1 (a + 3) n := by omega
      have e2 : cB (rdA M a) n + cS (rdA M a) n 0 = cB (rdA M a) n := Int.add_zero _
      rw [e1, e2] at this
      exact this
  exact outer _ 0 _ rfl (by omega)
end
