/-! ===== the turns of a walk ===== -/
def trn (C : Int → Int → Bool) (p : wlk) (u : Nat) : Prop := (sti C u p).2.2 ≠ (sti C (u + 1) p).2.2
/-- how often it turns in m steps -/
def tcn (C : Int → Int → Bool) (p : wlk) : Nat → Int
  | 0 => 0
  | m + 1 => tcn C p m + (if (sti C m p).2.2 = (sti C (m + 1) p).2.2 then 0 else 1)
/-- a place as the class holds it -/
def pq (M : mm_M) (p : wlk) : Int := pl (gx M p.1) (gy M p.2.1)
section
variable {C : Int → Int → Bool} {p : wlk}
theorem tcn_1 {m : Nat} (h : trn C p m) : tcn C p (m + 1) = tcn C p m + 1 := by
  show tcn C p m + (if (sti C m p).2.2 = (sti C (m + 1) p).2.2 then 0 else 1) = _
  rw [if_neg h]
theorem tcn_0 {m : Nat} (h : ¬ trn C p m) : tcn C p (m + 1) = tcn C p m := by
  have h' : (sti C m p).2.2 = (sti C (m + 1) p).2.2 := Classical.byContradiction h
  show tcn C p m + (if (sti C m p).2.2 = (sti C (m + 1) p).2.2 then 0 else 1) = _
  rw [if_pos h']
  omega
theorem tcn_s (m : Nat) : tcn C p m ≤ tcn C p (m + 1) ∧ tcn C p (m + 1) ≤ tcn C p m + 1 := by
  by_cases h : trn C p m
  · rw [tcn_1 h]; omega
  · rw [tcn_0 h]; omega
theorem tcn_mono {m n : Nat} (h : m ≤ n) : tcn C p m ≤ tcn C p n := by
  induction n with
  | zero =>
    have e : m = 0 := by omega
    rw [e]; exact Int.le_refl _
  | succ n ih =>
    by_cases e : m = n + 1
    · rw [e]; exact Int.le_refl _
    · have := ih (by omega)
      have := (tcn_s (C := C) (p := p) n).1
      omega
theorem tcn_ge (m : Nat) : 0 ≤ tcn C p m := tcn_mono (m := 0) (Nat.zero_le _)
theorem tcn_lt {m n : Nat} (h : m < n) (t : trn C p m) : tcn C p m + 1 ≤ tcn C p n := by
  have := tcn_1 t
  have := tcn_mono (C := C) (p := p) (show m + 1 ≤ n from h)
  omega
/-- the same from the next side on -/
theorem trn_shift (u : Nat) : trn C (stp C p) u ↔ trn C p (u + 1) := Iff.rfl
theorem tcn_shift (m : Nat) : tcn C p (m + 1) = tcn C p 1 + tcn C (stp C p) m := by
  induction m with
  | zero => show tcn C p 1 = tcn C p 1 + 0; omega
  | succ m ih =>
    by_cases h : trn C p (m + 1)
    · rw [tcn_1 h, ih, tcn_1 ((trn_shift m).mpr h)]
      omega
    · rw [tcn_0 h, ih, tcn_0 (fun z => h ((trn_shift m).mp z))]
end
/-- the corners that are written of the first t steps from P, the first at b -/
def WR (s : sh) (Mg : mm_M) (P : wlk) (b : Int) (t : Nat) (M : mm_M) : Prop := M.1 17 1 = b + tcn (Cg s Mg) P t ∧ ∀ u, u < t → trn (Cg s Mg) P u → M.1 20 (b + tcn (Cg s Mg) P u) = pq Mg (sti (Cg s Mg) (u + 1) P)
section
variable {s : sh} {Mg : mm_M}
theorem WR_seg {P : wlk} {b : Int} {t m : Nat} {em : Option (Int × Int × Int)} {M M1 : mm_M} (h : WR s Mg P b t M) (g : SEG s Mg (sti (Cg s Mg) t P) m em) (v0 : (sti (Cg s Mg) t P).2.2 = 1 ∨ (sti (Cg s Mg) t P).2.2 = 3) (v1 : (sti (Cg s Mg) (t + m) P).2.2 = 1 ∨ (sti (Cg s Mg) (t + m) P).2.2 = 3) {c : Int} (hc : M.1 17 1 = c) (e : EMI M M1 c em) :
    WR s Mg P b (t + m) M1 ∧ tcn (Cg s Mg) P (t + m) ≤ tcn (Cg s Mg) P t + 2 ∧ ∀ j, j < b → M1.1 20 j = M.1 20 j := by
  obtain ⟨h1, h2⟩ := h
  have at' : ∀ u, sti (Cg s Mg) (t + u) P = sti (Cg s Mg) u (sti (Cg s Mg) t P) := fun u => sti_add t u P
  have step : ∀ u : Nat, sti (Cg s Mg) (t + u + 1) P = sti (Cg s Mg) (t + (u + 1)) P := fun u => rfl
  rcases g with ⟨g1, g2, g3⟩ | ⟨x1, x2, y, w, g1, g2, gw', g3, g4, g5, g6, g7⟩
  · rcases e with ⟨_, e⟩ | ⟨_, _, _, e, _⟩
    · rw [e, g2]
      have nt : ¬ trn (Cg s Mg) P t := fun z => z (by
        have x : sti (Cg s Mg) (t + 1) P = stp (Cg s Mg) (sti (Cg s Mg) t P) := sti_last t P
        rw [x, g3])
      refine ⟨⟨by rw [tcn_0 nt]; exact h1, fun u u1 tu => ?_⟩, by rw [tcn_0 nt]; omega, fun _ _ => rfl⟩
      by_cases z : u = t
      · rw [z] at tu; exact absurd tu nt
      · exact h2 u (by omega) tu
    · rw [g1] at e; exact absurd e (by simp)
  · rcases e with ⟨e, _⟩ | ⟨y1, y2, z, e, f, e1, e2, e3, e4⟩
    · rw [g1] at e; exact absurd e (by simp)
    · rw [g1] at e
      have ee := Option.some.inj e
      have ex1 : x1 = y1 := congrArg (fun z : Int × Int × Int => z.1) ee
      have ex2 : x2 = y2 := congrArg (fun z : Int × Int × Int => z.2.1) ee
      have ey : y = z := congrArg (fun z : Int × Int × Int => z.2.2) ee
      subst ex1 ex2 ey
      -- the ways
      have W : ∀ u, 1 ≤ u → u < m → (sti (Cg s Mg) (t + u) P).2.2 = w := fun u a b => by rw [at']; exact g3 u a b
      have tr0 : trn (Cg s Mg) P t := by
        unfold trn
        rw [W 1 (by omega) (by omega)]
        rcases v0 with v | v <;> rw [v] <;> omega
      have trm : trn (Cg s Mg) P (t + (m - 1)) := by
        have x : t + (m - 1) + 1 = t + m := by omega
        unfold trn
        rw [W (m - 1) (by omega) (by omega), x]
        rcases v1 with v | v <;> rw [v] <;> omega
      have no : ∀ u, 1 ≤ u → u < m - 1 → ¬ trn (Cg s Mg) P (t + u) := fun u a b z => z (by
        rw [step, W u a (by omega), W (u + 1) (by omega) (by omega)])
      have cn : ∀ u : Nat, u + 1 ≤ m - 1 → tcn (Cg s Mg) P (t + (u + 1)) = tcn (Cg s Mg) P t + 1 := by
        intro u
        induction u with
        | zero => intro _; exact tcn_1 tr0
        | succ u ih =>
          intro hu
          have := ih (by omega)
          rw [show t + (u + 1 + 1) = t + (u + 1) + 1 from rfl, tcn_0 (no (u + 1) (by omega) (by omega)), this]
      have cm1 : tcn (Cg s Mg) P (t + (m - 1)) = tcn (Cg s Mg) P t + 1 := by
        have x := cn (m - 2) (by omega)
        have y : m - 2 + 1 = m - 1 := by omega
        rw [y] at x
        exact x
      have cm : tcn (Cg s Mg) P (t + m) = tcn (Cg s Mg) P t + 2 := by
        have x : t + m = t + (m - 1) + 1 := by omega
        rw [x, tcn_1 trm, cm1]
        omega
      have c0 : c = b + tcn (Cg s Mg) P t := by omega
      have t0 := tcn_ge (C := Cg s Mg) (p := P) t
      refine ⟨⟨by rw [cm, e1, c0]; omega, fun u u1 tu => ?_⟩, by omega, fun j z => e4 j (by omega)⟩
      by_cases q : u < t
      · have := tcn_lt q tu
        rw [e4 _ (by omega)]
        exact h2 u q tu
      · by_cases q2 : u = t
        · rw [q2, ← c0, e2, sti_last]
          unfold pq
          rw [g4, g5]
        · by_cases q3 : u = t + (m - 1)
          · have x : t + (m - 1) + 1 = t + m := by omega
            rw [q3, cm1, x, at']
            have x2 : b + (tcn (Cg s Mg) P t + 1) = c + 1 := by omega
            rw [x2, e3]
            unfold pq
            rw [g6, g7]
          · obtain ⟨v, rfl⟩ : ∃ v, u = t + v := ⟨u - t, by omega⟩
            exact absurd tu (no v (by omega) (by omega))
/-- an edge is not its own next -/
theorem SEG_ne (h : wf s) (g : GL s Mg) {p : wlk} {m : Nat} {em : Option (Int × Int × Int)} (hp : isS (Cg s Mg) p) (v : p.2.2 = 1 ∨ p.2.2 = 3) (q : SEG s Mg p m em) : sti (Cg s Mg) m p ≠ p := by
  intro e
  have ascy := g.2.2.2.2.2.1
  have r := isS_rg hp
  have r1 := isS_rg (stp_isS hp)
  have y1 : (stp (Cg s Mg) p).2.1 = goY p := rfl
  have y2 : goY p ≠ p.2.1 := by
    unfold goY
    rcases v with v | v
    · rw [v, if_pos rfl]; omega
    · rw [v, if_neg (by decide), if_pos rfl]; omega
  rcases q with ⟨_, q2, _⟩ | ⟨x1, x2, y, w, _, _, _, _, _, q5, _, q7⟩
  · rw [q2] at e
    have e' : stp (Cg s Mg) p = p := e
    exact y2 (y1.symm.trans (congrArg (fun z : wlk => z.2.1) e'))
  · rw [e] at q7
    have := (asc_inj ascy r1.2.2.1 r1.2.2.2.1 r.2.2.1 r.2.2.2.1).2.mp (q5.trans q7.symm)
    exact y2 (y1.symm.trans this)
end
theorem sumN_upd {f g : Int → Int} {n : Nat} {j : Int} (j0 : 0 ≤ j) (j1 : j < (n : Int)) (h : ∀ k, 0 ≤ k → k < (n : Int) → k ≠ j → g k = f k) : sumN g n = sumN f n + (g j - f j) := by
  induction n with
  | zero => exact absurd j1 (by omega)
  | succ n ih =>
    show sumN g n + g (n : Int) = sumN f n + f (n : Int) + _
    by_cases q : j = (n : Int)
    · have same : ∀ m : Nat, m ≤ n → sumN g m = sumN f m := by
        intro m
        induction m with
        | zero => intro _; rfl
        | succ m ih2 =>
          intro hm
          show sumN g m + g (m : Int) = sumN f m + f (m : Int)
          rw [ih2 (by omega), h (m : Int) (by omega) (by omega) (by omega)]
      rw [same n (Nat.le_refl _), q]
      omega
    · rw [ih (by omega) (fun k a b c => h k a (by omega) c), h (n : Int) (by omega) (by omega) (fun z => q z.symm)]
      omega
theorem sumN_eq {f g : Int → Int} {n : Nat} (h : ∀ k, 0 ≤ k → k < (n : Int) → g k = f k) : sumN g n = sumN f n := by
  induction n with
  | zero => rfl
  | succ n ih =>
    show sumN g n + g (n : Int) = sumN f n + f (n : Int)
    rw [ih (fun k a b => h k a (by omega)), h (n : Int) (by omega) (by omega)]
