/-! ===== CellAreasModel.measure ===== -/
def sumU (h : Nat → Int) : Nat → Int
  | 0 => 0
  | m + 1 => sumU h m + h m
theorem sumU_1 {h : Nat → Int} {m : Nat} : sumU h (m + 1) = sumU h m + h m := rfl
/-- different keys below N: a sum over them is a sum over all that are met -/
theorem sum_img {g : Nat → Int} {w : Int → Int} {N : Nat} : ∀ m : Nat, (∀ u, u < m → 0 ≤ g u ∧ g u < (N : Int)) → (∀ u v, u < v → v < m → g u ≠ g v) → sumU (fun u => w (g u)) m = sumN (fun K => @ite _ (∃ v, v < m ∧ g v = K) (Classical.propDecidable _) (w K) 0) N := by
  intro m
  induction m with
  | zero =>
    intro _ _
    have z : ∀ n : Nat, sumN (fun K => @ite _ (∃ v, v < 0 ∧ g v = K) (Classical.propDecidable _) (w K) 0) n = 0 := by
      intro n
      induction n with
      | zero => rfl
      | succ n ih =>
        show sumN _ n + @ite _ (∃ v, v < 0 ∧ g v = (n : Int)) (Classical.propDecidable _) (w n) 0 = 0
        rw [ih, if_neg (fun ⟨v, a, _⟩ => absurd a (by omega))]
        rfl
    rw [z]
    rfl
  | succ m ih =>
    intro r inj
    have a := ih (fun u h => r u (by omega)) (fun u v h1 h2 => inj u v h1 (by omega))
    have b := r m (by omega)
    rw [sumU_1, a]
    have up := sumN_upd (f := fun K => @ite _ (∃ v, v < m ∧ g v = K) (Classical.propDecidable _) (w K) 0) (g := fun K => @ite _ (∃ v, v < m + 1 ∧ g v = K) (Classical.propDecidable _) (w K) 0) (n := N) (j := g m) b.1 b.2 (fun k k0 k1 z => by
      show @ite _ (∃ v, v < m + 1 ∧ g v = k) (Classical.propDecidable _) (w k) 0 = @ite _ (∃ v, v < m ∧ g v = k) (Classical.propDecidable _) (w k) 0
      by_cases y : ∃ v, v < m ∧ g v = k
      · have y2 : ∃ v, v < m + 1 ∧ g v = k := by
          obtain ⟨v, v1, v2⟩ := y
          exact ⟨v, by omega, v2⟩
        rw [if_pos y, if_pos y2]
      · have y2 : ¬ ∃ v, v < m + 1 ∧ g v = k := fun ⟨v, v1, v2⟩ => by
          by_cases e : v = m
          · rw [e] at v2; exact z v2.symm
          · exact y ⟨v, by omega, v2⟩
        rw [if_neg y, if_neg y2])
    have e1 : @ite _ (∃ v, v < m ∧ g v = g m) (Classical.propDecidable _) (w (g m)) 0 = 0 := if_neg (fun ⟨v, v1, v2⟩ => inj v m v1 (by omega) v2)
    have e2 : @ite _ (∃ v, v < m + 1 ∧ g v = g m) (Classical.propDecidable _) (w (g m)) 0 = w (g m) := if_pos ⟨m, by omega, rfl⟩
    rw [e1, e2] at up
    rw [up]
    omega
theorem inj_count {g : Nat → Int} {N m : Nat} (r : ∀ u, u < m → 0 ≤ g u ∧ g u < (N : Int)) (inj : ∀ u v, u < v → v < m → g u ≠ g v) : m ≤ N := by
  have a := sum_img (g := g) (w := fun _ => 1) (N := N) m r inj
  have b : ∀ n : Nat, sumU (fun _ => 1) n = n := by
    intro n
    induction n with
    | zero => rfl
    | succ n ih => rw [sumU_1, ih]; omega
  have c := sum01 (f := fun K => @ite _ (∃ v, v < m ∧ g v = K) (Classical.propDecidable _) (1 : Int) 0) (n := N) (fun k _ _ => by
    by_cases y : ∃ v, v < m ∧ g v = k
    · exact Or.inr (if_pos y)
    · exact Or.inl (if_neg y))
  have b' := b m
  have a' : sumU (fun _ => 1) m = sumN (fun K => @ite _ (∃ v, v < m ∧ g v = K) (Classical.propDecidable _) (1 : Int) 0) N := a
  omega
section
variable {s : sh} {M : mm_M}
theorem loop_inj {p : wlk} (hp : isS (Cg s M) p) {m : Nat} (hm : sti (Cg s M) m p = p) (nr : ∀ u, 0 < u → u < m → sti (Cg s M) u p ≠ p) : ∀ u v, u < v → v < m → sti (Cg s M) u p ≠ sti (Cg s M) v p := by
  intro u v uv vm e
  obtain ⟨d, rfl⟩ : ∃ d, v = d + u := ⟨v - u, by omega⟩
  rw [sti_add d u] at e
  exact nr d (by omega) (by omega) (sti_inj (sti_isS hp d) hp u e.symm)
/-- a loop is no longer than there are sides -/
theorem loop_le (g : GRD s M) {p : wlk} (hp : isS (Cg s M) p) {m : Nat} (hm : sti (Cg s M) m p = p) (nr : ∀ u, 0 < u → u < m → sti (Cg s M) u p ≠ p) : m ≤ 640000 := by
  have T := side_rg g hp
  have x := inj_count (g := fun u => sx (gw M) (sti (Cg s M) u p)) (N := (nT M).toNat) (m := m) (fun u _ => by
    have r := side_rg g (sti_isS hp u)
    exact ⟨r.1, by omega⟩) (fun u v a b e => loop_inj hp hm nr u v a b (side_inj (sti_isS hp u) (sti_isS hp v) e))
  omega
end
def px (M : mm_M) (p : wlk) : Int := gx M p.1
def py (M : mm_M) (p : wlk) : Int := gy M p.2.1
/-- the length of step u, and what it adds to the area -/
def slen (C : Int → Int → Bool) (M : mm_M) (p : wlk) (u : Nat) : Int := (if (sti C u p).2.2 % 2 = 0 then px M (sti C (u + 1) p) - px M (sti C u p) else py M (sti C (u + 1) p) - py M (sti C u p)) * (if (sti C u p).2.2 < 2 then 1 else -1)
def srnd (C : Int → Int → Bool) (M : mm_M) (p : wlk) (u : Nat) : Int := px M (sti C u p) * py M (sti C (u + 1) p) - px M (sti C (u + 1) p) * py M (sti C u p)
/-- the lines lie in the field -/
def GBd (M : mm_M) : Prop := (∀ i, 0 ≤ i → i ≤ gw M → -1000 ≤ gx M i ∧ gx M i ≤ 1000) ∧ ∀ j, 0 ≤ j → j ≤ gh M → -1000 ≤ gy M j ∧ gy M j ≤ 1000
section
variable {s : sh} {M : mm_M}
theorem GL_GB (h : wf s) (g : GL s M) (n : 0 < sn s) : GBd M := by
  obtain ⟨_, _, hc, he⟩ := GL_pos g (Int.le_refl 0) n
  refine ⟨fun i i0 i1 => ?_, fun j j0 j1 => ?_⟩
  · obtain ⟨k, k0, k1, k2⟩ := (hc _).mpr ⟨i, i0, i1, rfl⟩
    obtain ⟨b, b0, b1, b2, b3⟩ := k_band h k0 k1
    have bk := h.2.2.1 b b0 b1
    have x := bk.2.2.2.2.2 k b2 b3
    have y := bk.2.2.2.2.1.1 k b2 b3
    omega
  · obtain ⟨b, b0, b1, b2⟩ := (he _).mpr ⟨j, j0, j1, rfl⟩
    have bk := h.2.2.1 b b0 b1
    have x1 := bk.2.1
    have x2 := bk.2.2.1
    have x3 := bk.2.2.2.1
    omega
theorem isS_sn {p : wlk} (hp : isS (Cg s M) p) (g : GL s M) : 0 < sn s := by
  have r := isS_rg hp
  have w := hp.1
  rcases g.2.2.2.2.2.2 with z | z
  · omega
  · exact z.1
theorem pxy_rg (h : wf s) (g : GL s M) {p : wlk} (hp : isS (Cg s M) p) : -1000 ≤ px M p ∧ px M p ≤ 1000 ∧ -1000 ≤ py M p ∧ py M p ≤ 1000 := by
  have B := GL_GB h g (isS_sn hp g)
  have r := isS_rg hp
  have a := B.1 p.1 r.1 r.2.1
  have b := B.2 p.2.1 r.2.2.1 r.2.2.2.1
  exact ⟨a.1, a.2, b.1, b.2⟩
theorem mul_rg {a b : Int} (h1 : -1000 ≤ a) (h2 : a ≤ 1000) (h3 : -1000 ≤ b) (h4 : b ≤ 1000) : -1000000 ≤ a * b ∧ a * b ≤ 1000000 := by
  have x1 : 0 ≤ (a + 1000) * (b + 1000) := Int.mul_nonneg (by omega) (by omega)
  have x2 : 0 ≤ (1000 - a) * (1000 - b) := Int.mul_nonneg (by omega) (by omega)
  have x3 : 0 ≤ (a + 1000) * (1000 - b) := Int.mul_nonneg (by omega) (by omega)
  have x4 : 0 ≤ (1000 - a) * (b + 1000) := Int.mul_nonneg (by omega) (by omega)
  rw [Int.add_mul, Int.mul_add a] at x1
  rw [Int.sub_mul, Int.mul_sub a] at x2
  rw [Int.add_mul, Int.mul_sub a] at x3
  rw [Int.sub_mul, Int.mul_add a] at x4
  omega
theorem slen_rg (h : wf s) (g : GL s M) {p : wlk} (hp : isS (Cg s M) p) (u : Nat) : -2000 ≤ slen (Cg s M) M p u ∧ slen (Cg s M) M p u ≤ 2000 := by
  have a := pxy_rg h g (sti_isS hp u)
  have b := pxy_rg h g (sti_isS hp (u + 1))
  unfold slen
  split <;> split <;> omega
theorem srnd_rg (h : wf s) (g : GL s M) {p : wlk} (hp : isS (Cg s M) p) (u : Nat) : -2000000 ≤ srnd (Cg s M) M p u ∧ srnd (Cg s M) M p u ≤ 2000000 := by
  have a := pxy_rg h g (sti_isS hp u)
  have b := pxy_rg h g (sti_isS hp (u + 1))
  have x := mul_rg a.1 a.2.1 b.2.2.1 b.2.2.2
  have y := mul_rg b.1 b.2.1 a.2.2.1 a.2.2.2
  unfold srnd
  omega
theorem sumU_rg {f : Nat → Int} {B : Int} (h : ∀ u, -B ≤ f u ∧ f u ≤ B) : ∀ m : Nat, -(B * m) ≤ sumU f m ∧ sumU f m ≤ B * m := by
  intro m
  induction m with
  | zero =>
    have : B * ((0 : Nat) : Int) = 0 := Int.mul_zero _
    rw [this]
    exact ⟨Int.le_refl _, Int.le_refl _⟩
  | succ m ih =>
    have a := h m
    have e : B * ((m + 1 : Nat) : Int) = B * m + B := by
      have : ((m + 1 : Nat) : Int) = (m : Int) + 1 := by omega
      rw [this, Int.mul_add, Int.mul_one]
    rw [e, sumU_1]
    omega
end
abbrev meS : Nat → Int → Prop := fun a k => a = 72 ∧ 31 ≤ k ∧ k ≤ 38
/-- what measure leaves: after m steps from p, corner k -/
def MEA (C : Int → Int → Bool) (Mg : mm_M) (p : wlk) (m : Nat) (k : Int) (M : mm_M) : Prop := M.1 72 34 = tcn C p m ∧ M.1 72 35 = sumU (slen C Mg p) m ∧ M.1 72 36 = sumU (srnd C Mg p) m ∧ (k ≤ 0 → M.1 72 37 = px Mg p ∧ M.1 72 38 = py Mg p) ∧ (∀ v, v + 1 < m → trn C p v → tcn C p v + 1 = k → M.1 72 37 = px Mg (sti C (v + 1) p) ∧ M.1 72 38 = py Mg (sti C (v + 1) p))
/-- the corner that is remembered after u steps -/
def CXI (C : Int → Int → Bool) (Mg : mm_M) (p : wlk) (m : Nat) (k : Int) (u : Nat) (a b : Int) : Prop := ((k ≤ 0 ∨ tcn C p u < k) → a = px Mg p ∧ b = py Mg p) ∧ ∀ v, v < u → v + 1 < m → trn C p v → tcn C p v + 1 = k → a = px Mg (sti C (v + 1) p) ∧ b = py Mg (sti C (v + 1) p)
/-- after u steps -/
def MI (C : Int → Int → Bool) (Mg : mm_M) (p : wlk) (m : Nat) (k : Int) (u : Nat) (M : mm_M) : Prop := mr_ok M ∧ fr meS Mg M ∧ at3 M = sti C u p ∧ M.1 72 34 = tcn C p u ∧ M.1 72 35 = sumU (slen C Mg p) u ∧ M.1 72 36 = sumU (srnd C Mg p) u ∧ CXI C Mg p m k u (M.1 72 37) (M.1 72 38)
section
variable {C : Int → Int → Bool} {Mg : mm_M} {p : wlk} {m : Nat} {k : Int} {u : Nat} {a b : Int}
theorem CXI_no (h : CXI C Mg p m k u a b) (t : ¬ trn C p u) : CXI C Mg p m k (u + 1) a b := by
  refine ⟨fun z => ?_, fun v v1 v2 v3 v4 => ?_⟩
  · rw [tcn_0 t] at z
    exact h.1 z
  · by_cases y : v = u
    · rw [y] at v3; exact absurd v3 t
    · exact h.2 v (by omega) v2 v3 v4
theorem CXI_skip (h : CXI C Mg p m k u a b) (t : trn C p u) (n : u + 1 = m ∨ tcn C p u + 1 ≠ k) : CXI C Mg p m k (u + 1) a b := by
  refine ⟨fun z => ?_, fun v v1 v2 v3 v4 => ?_⟩
  · rw [tcn_1 t] at z
    exact h.1 (by omega)
  · by_cases y : v = u
    · rw [y] at v2 v4
      exfalso
      omega
    · exact h.2 v (by omega) v2 v3 v4
theorem CXI_set (t : trn C p u) (e : tcn C p u + 1 = k) (ea : a = px Mg (sti C (u + 1) p)) (eb : b = py Mg (sti C (u + 1) p)) : CXI C Mg p m k (u + 1) a b := by
  have := tcn_ge (C := C) (p := p) u
  refine ⟨fun z => ?_, fun v v1 v2 v3 v4 => ?_⟩
  · rw [tcn_1 t] at z
    exfalso
    omega
  · by_cases y : v = u
    · rw [y]; exact ⟨ea, eb⟩
    · have := tcn_lt (show v < u by omega) v3
      exfalso
      omega
end
section
variable {sc : Nat × (Int → Int)} {s : sh} {M : mm_M} {Q : mm_R → mm_M → Prop} {X : Nat → mm_M → Prop}
theorem mr_rgt (h : mr_ok M) {j : Int} (n : ¬ mr_lg 72 j) : mr_rg (M.1 72 j) := h.2.1 72 j n
theorem m246 {l k mo mo' x4 x5 : Int} {y7 : mm_V} {p : wlk} {m u : Nat} {Mz : mm_M} (w : wf s) (g : GRD s M) (hp : isS (Cg s M) p) (hk : mr_rg k) (uB : ((u + 1 : Nat) : Int) ≤ 640000) (oz : mr_ok Mz) (fz : fr meS M Mz) (az : at3 Mz = sti (Cg s M) (u + 1) p) (z34 : Mz.1 72 34 = tcn (Cg s M) p u) (z35 : Mz.1 72 35 = sumU (slen (Cg s M) M p) (u + 1)) (z36 : Mz.1 72 36 = sumU (srnd (Cg s M) M p) (u + 1)) (cx : CXI (Cg s M) M p m k u (Mz.1 72 37) (Mz.1 72 38)) (hmo : (mo' = 1 ∧ u + 1 < m) ∨ (mo' = 0 ∧ u + 1 = m))
    (kk : ∀ (l4 l5 l6 l7 : mm_V) (Mw : mm_M), MI (Cg s M) M p m k (u + 1) Mw → en_R sc 154 73 [mm_r 72, mm_i l, mm_i k, mm_i mo', l4, l5, l6, l7] [] Mw Q) :
    en_R sc 154 246 [mm_r 72, mm_i l, mm_i k, mm_i mo, mm_i x4, mm_i x5, mm_i (sti (Cg s M) u p).2.2, y7] [mm_i mo'] Mz Q := by
  have isU1 := sti_isS hp (u + 1)
  have ru1 := isS_rg isU1
  have wy := (sti_isS hp u).1
  have h1 := g.1.2.1
  have h2 := g.1.2.2.2.1
  have zp : gKeep M Mz := gKeep_fr fz (fun a k z => by
    have z' : a = 72 ∧ 31 ≤ k ∧ k ≤ 38 := z
    omega)
  have e88 : Mz.1 88 = gx M := zp.2.2.1
  have e89 : Mz.1 89 = gy M := zp.2.2.2.1
  have d31 : Mz.1 72 31 = (sti (Cg s M) (u + 1) p).1 := congrArg (fun z : wlk => z.1) az
  have d32 : Mz.1 72 32 = (sti (Cg s M) (u + 1) p).2.1 := congrArg (fun z : wlk => z.2.1) az
  have d33 : Mz.1 72 33 = (sti (Cg s M) (u + 1) p).2.2 := congrArg (fun z : wlk => z.2.2) az
  have T1 := tcn_ge (C := Cg s M) (p := p) u
  have T2 : ∀ n : Nat, tcn (Cg s M) p n ≤ n := by
    intro n
    induction n with
    | zero => exact Int.le_refl _
    | succ n ihn => have := (tcn_s (C := Cg s M) (p := p) n).2; omega
  have T2u := T2 u
  clear zp T2
  have rw' : mr_rg (sti (Cg s M) u p).2.2 := ⟨by omega, by omega⟩
  have rmo : mr_rg mo' := ⟨by omega, by omega⟩
  have r34 : mr_rg (Mz.1 72 34 + 1) := ⟨by omega, by omega⟩
  have mo0 : mo' = 0 → u + 1 = m := fun z => by omega
  have i31 : (sti (Cg s M) (u + 1) p).1 < 801 := by have := ru1.2.1; omega
  have i32 : (sti (Cg s M) (u + 1) p).2.1 < 202 := by have := ru1.2.2.2.1; omega
  have P := pxy_rg w g.1 isU1
  have rgx : mr_rg (gx M (sti (Cg s M) (u + 1) p).1) := by
    have a1 : -1000 ≤ gx M (sti (Cg s M) (u + 1) p).1 := P.1
    have a2 : gx M (sti (Cg s M) (u + 1) p).1 ≤ 1000 := P.2.1
    exact ⟨by omega, by omega⟩
  have rgy : mr_rg (gy M (sti (Cg s M) (u + 1) p).2.1) := by
    have a1 : -1000 ≤ gy M (sti (Cg s M) (u + 1) p).2.1 := P.2.2.1
    have a2 : gy M (sti (Cg s M) (u + 1) p).2.1 ≤ 1000 := P.2.2.2
    exact ⟨by omega, by omega⟩
  clear hmo uB wy h1 h2
  refine vc154_246 oz rw' rmo hk ?_
  rw [d33]
  refine ⟨fun nt => kk _ _ _ _ Mz ⟨oz, fz, az, by rw [tcn_0 (fun z => z nt)]; exact z34, z35, z36, CXI_no cx (fun z => z nt)⟩, fun tu => ⟨r34, ?_⟩⟩
  have tu' : trn (Cg s M) p u := tu
  have t1 := tcn_1 tu'
  have oy : mr_ok (mm_putN Mz 72 34 (Mz.1 72 34 + 1)) := mr_ok_putI oz r34
  have p34 : (mm_putN Mz 72 34 (Mz.1 72 34 + 1)).1 72 34 = tcn (Cg s M) p u + 1 := by rw [put_eq, z34]
  have pk : ∀ a j, ¬ (a = 72 ∧ j = 34) → (mm_putN Mz 72 34 (Mz.1 72 34 + 1)).1 a j = Mz.1 a j := fun a j z => put_ne z
  have fy : fr meS M (mm_putN Mz 72 34 (Mz.1 72 34 + 1)) := fr_trans fz (fr_put ⟨rfl, by decide, by decide⟩)
  rw [p34]
  generalize mm_putN Mz 72 34 (Mz.1 72 34 + 1) = My at oy p34 pk fy
  have dy : ∀ j, j ≠ 34 → My.1 72 j = Mz.1 72 j := fun j z => pk 72 j (fun y => z y.2)
  have last : ∀ (y4 y5 y6 y7 : mm_V) (c d : Int), mr_rg c → mr_rg d → CXI (Cg s M) M p m k (u + 1) c d → en_R sc 154 73 [mm_r 72, mm_i l, mm_i k, mm_i mo', y4, y5, y6, y7] [] (mm_putN (mm_putN My 72 37 c) 72 38 d) Q := by
    intro y4 y5 y6 y7 c d rc rd cx'
    have wv : ∀ j, j ≠ 37 → j ≠ 38 → (mm_putN (mm_putN My 72 37 c) 72 38 d).1 72 j = My.1 72 j := fun j y1 y2 => by rw [put_k y2, put_k y1]
    refine kk _ _ _ _ _ ⟨mr_ok_putI (mr_ok_putI oy rc) rd, fr_trans fy (fr_trans (fr_put ⟨rfl, by decide, by decide⟩) (fr_put ⟨rfl, by decide, by decide⟩)), ?_, ?_, ?_, ?_, ?_⟩
    · unfold at3
      rw [wv 31 (by decide) (by decide), wv 32 (by decide) (by decide), wv 33 (by decide) (by decide), dy 31 (by decide), dy 32 (by decide), dy 33 (by decide)]
      exact az
    · rw [wv 34 (by decide) (by decide), p34, t1]
    · rw [wv 35 (by decide) (by decide), dy 35 (by decide), z35]
    · rw [wv 36 (by decide) (by decide), dy 36 (by decide), z36]
    · have w37 : (mm_putN (mm_putN My 72 37 c) 72 38 d).1 72 37 = c := by rw [put_k (by decide), put_eq]
      have w38 : (mm_putN (mm_putN My 72 37 c) 72 38 d).1 72 38 = d := put_eq
      rw [w37, w38]
      exact cx'
  have q37 := dy 37 (by decide)
  have q38 := dy 38 (by decide)
  have no : (u + 1 = m ∨ tcn (Cg s M) p u + 1 ≠ k) → en_R sc 154 282 [mm_r 72, mm_i l, mm_i k, mm_i mo', mm_i x4, mm_i x5, mm_i (sti (Cg s M) u p).2.2, y7] [] My Q := by
    intro nk
    refine vc154_282 oy (vc154_283 oy ⟨by decide, by decide⟩ ⟨fun _ => ?_, fun q => absurd rfl q⟩)
    refine vc154_307 oy (mr_rgt oy (by unfold mr_lg; omega)) ⟨by decide, by decide⟩ ⟨fun _ => ?_, fun q => absurd rfl q⟩
    rw [put_k (show (38 : Int) ≠ 37 by decide)]
    refine last _ _ _ _ _ _ (mr_rgt oy (by unfold mr_lg; omega)) (mr_rgt oy (by unfold mr_lg; omega)) ?_
    rw [q37, q38]
    exact CXI_skip cx tu' nk
  refine ⟨fun m0' => no (Or.inl (mo0 m0')), fun m1' => ⟨fun nk => no (Or.inr nk), fun yk => ?_⟩⟩
  have yk' : tcn (Cg s M) p u + 1 = k := Classical.byContradiction yk
  refine vc154_283 oy ⟨by decide, by decide⟩ ⟨fun q => absurd q (by decide), fun _ => ?_⟩
  rw [dy 31 (by decide), d31, pk 88 _ (fun y => absurd y.1 (by decide)), e88]
  refine ⟨ru1.1, i31, vc154_307 oy rgx ⟨by decide, by decide⟩ ⟨fun q => absurd q (by decide), fun _ => ?_⟩⟩
  rw [put_k (show (32 : Int) ≠ 37 by decide), dy 32 (by decide), d32, put_a (show 89 ≠ 72 by decide), pk 89 _ (fun y => absurd y.1 (by decide)), e89]
  exact ⟨ru1.2.2.1, i32, last _ _ _ _ _ _ rgx rgy (CXI_set tu' yk' rfl rfl)⟩
theorem m159 {l k mo s2 s3 : Int} {l7 : mm_V} {p : wlk} {m u : Nat} {M6 : mm_M} (w : wf s) (g : GRD s M) (hp : isS (Cg s M) p) (hk : mr_rg k) (l0 : 0 ≤ l) (l1 : l < 900) (hl : st3 M l = p) (ult : u < m) (hm : sti (Cg s M) m p = p) (nr : ∀ u, 0 < u → u < m → sti (Cg s M) u p ≠ p) (mB : m ≤ 640000) (o6 : mr_ok M6) (f6 : fr meS M M6) (a6 : at3 M6 = sti (Cg s M) (u + 1) p) (z34 : M6.1 72 34 = tcn (Cg s M) p u) (z35 : M6.1 72 35 = sumU (slen (Cg s M) M p) u) (z36 : M6.1 72 36 = sumU (srnd (Cg s M) M p) u) (cx : CXI (Cg s M) M p m k u (M6.1 72 37) (M6.1 72 38)) (hs : s2 * s3 = slen (Cg s M) M p u)
    (kk : ∀ (mo' : Int) (l4 l5 l6 l7 : mm_V) (Mw : mm_M), ((mo' = 1 ∧ u + 1 < m) ∨ (mo' = 0 ∧ u + 1 = m)) → MI (Cg s M) M p m k (u + 1) Mw → en_R sc 154 73 [mm_r 72, mm_i l, mm_i k, mm_i mo', l4, l5, l6, l7] [] Mw Q) :
    en_R sc 154 159 [mm_r 72, mm_i l, mm_i k, mm_i mo, mm_i (gx M (sti (Cg s M) u p).1), mm_i (gy M (sti (Cg s M) u p).2.1), mm_i (sti (Cg s M) u p).2.2, l7] [mm_i s3, mm_i s2, mm_i (M6.1 72 35), mm_r 72] M6 Q := by
  have isU := sti_isS hp u
  have isU1 := sti_isS hp (u + 1)
  have ru1 := isS_rg isU1
  have h1 := g.1.2.1
  have h2 := g.1.2.2.2.1
  have i31 : (sti (Cg s M) (u + 1) p).1 < 801 := by have := ru1.2.1; omega
  have i32 : (sti (Cg s M) (u + 1) p).2.1 < 202 := by have := ru1.2.2.2.1; omega
  have uB : ((u + 1 : Nat) : Int) ≤ 640000 := by omega
  have rl : mr_rg (sumU (slen (Cg s M) M p) (u + 1)) := by
    have B := sumU_rg (slen_rg w g.1 hp) (u + 1)
    exact ⟨by omega, by omega⟩
  have rr : mr_rj (sumU (srnd (Cg s M) M p) (u + 1)) := by
    have B := sumU_rg (srnd_rg w g.1 hp) (u + 1)
    exact ⟨by omega, by omega⟩
  have P := pxy_rg w g.1 isU
  have rgx : mr_rg (gx M (sti (Cg s M) u p).1) := by
    have a1 : -1000 ≤ gx M (sti (Cg s M) u p).1 := P.1
    have a2 : gx M (sti (Cg s M) u p).1 ≤ 1000 := P.2.1
    exact ⟨by omega, by omega⟩
  have rgy : mr_rg (gy M (sti (Cg s M) u p).2.1) := by
    have a1 : -1000 ≤ gy M (sti (Cg s M) u p).2.1 := P.2.2.1
    have a2 : gy M (sti (Cg s M) u p).2.1 ≤ 1000 := P.2.2.2
    exact ⟨by omega, by omega⟩
  have e91 : p.1 = M.1 91 l := by rw [← hl]; rfl
  have e92 : p.2.1 = M.1 92 l := by rw [← hl]; rfl
  have e93 : p.2.2 = M.1 93 l := by rw [← hl]; rfl
  have zp : gKeep M M6 := gKeep_fr f6 (fun a k z => by
    have z' : a = 72 ∧ 31 ≤ k ∧ k ≤ 38 := z
    omega)
  have e88 : M6.1 88 = gx M := zp.2.2.1
  have e89 : M6.1 89 = gy M := zp.2.2.2.1
  have d31 : M6.1 72 31 = (sti (Cg s M) (u + 1) p).1 := congrArg (fun z : wlk => z.1) a6
  have d32 : M6.1 72 32 = (sti (Cg s M) (u + 1) p).2.1 := congrArg (fun z : wlk => z.2.1) a6
  have d33 : M6.1 72 33 = (sti (Cg s M) (u + 1) p).2.2 := congrArg (fun z : wlk => z.2.2) a6
  have n9 : ∀ a j, a ≠ 72 → M6.1 a j = M.1 a j := fun a j hj => f6.2 a j (fun z => hj z.1)
  have mo1 : sti (Cg s M) (u + 1) p ≠ p → u + 1 < m := fun y => by
    by_cases z : u + 1 = m
    · rw [z] at y; exact absurd hm y
    · omega
  have mo0 : sti (Cg s M) (u + 1) p = p → u + 1 = m := fun y => by
    by_cases z : u + 1 = m
    · exact z
    · exact absurd y (nr (u + 1) (by omega) (by omega))
  refine vc154_159 o6 rgx rgy ?_
  have e35 : M6.1 72 35 + s2 * s3 = sumU (slen (Cg s M) M p) (u + 1) := by rw [z35, hs]; rfl
  rw [e35]
  simp (discharger := decide) only [put_eq, put_k, put_a]
  rw [d31, d32, d33, e88, e89, n9 91 l (by decide), n9 92 l (by decide), n9 93 l (by decide), z36]
  have e36 : sumU (srnd (Cg s M) M p) u + gx M (sti (Cg s M) u p).1 * gy M (sti (Cg s M) (u + 1) p).2.1 - gx M (sti (Cg s M) (u + 1) p).1 * gy M (sti (Cg s M) u p).2.1 = sumU (srnd (Cg s M) M p) (u + 1) := by
    show _ = sumU (srnd (Cg s M) M p) u + (gx M (sti (Cg s M) u p).1 * gy M (sti (Cg s M) (u + 1) p).2.1 - gx M (sti (Cg s M) (u + 1) p).1 * gy M (sti (Cg s M) u p).2.1)
    omega
  rw [e36, ← e91, ← e92, ← e93]
  have oz : mr_ok (mm_putN (mm_putN M6 72 35 (sumU (slen (Cg s M) M p) (u + 1))) 72 36 (sumU (srnd (Cg s M) M p) (u + 1))) := mr_ok_putL (mr_ok_putI o6 rl) (by unfold mr_lg; omega) rr
  have zv : ∀ j, j ≠ 35 → j ≠ 36 → (mm_putN (mm_putN M6 72 35 (sumU (slen (Cg s M) M p) (u + 1))) 72 36 (sumU (srnd (Cg s M) M p) (u + 1))).1 72 j = M6.1 72 j := fun j y1 y2 => by rw [put_k y2, put_k y1]
  have y35 : (mm_putN (mm_putN M6 72 35 (sumU (slen (Cg s M) M p) (u + 1))) 72 36 (sumU (srnd (Cg s M) M p) (u + 1))).1 72 35 = sumU (slen (Cg s M) M p) (u + 1) := by rw [put_k (by decide), put_eq]
  have y36 : (mm_putN (mm_putN M6 72 35 (sumU (slen (Cg s M) M p) (u + 1))) 72 36 (sumU (srnd (Cg s M) M p) (u + 1))).1 72 36 = sumU (srnd (Cg s M) M p) (u + 1) := put_eq
  have fz : fr meS M (mm_putN (mm_putN M6 72 35 (sumU (slen (Cg s M) M p) (u + 1))) 72 36 (sumU (srnd (Cg s M) M p) (u + 1))) := fr_trans f6 (fr_trans (fr_put ⟨rfl, by decide, by decide⟩) (fr_put ⟨rfl, by decide, by decide⟩))
  generalize mm_putN (mm_putN M6 72 35 (sumU (slen (Cg s M) M p) (u + 1))) 72 36 (sumU (srnd (Cg s M) M p) (u + 1)) = Mz at oz zv y35 y36 fz
  have az : at3 Mz = sti (Cg s M) (u + 1) p := by
    unfold at3
    rw [zv 31 (by decide) (by decide), zv 32 (by decide) (by decide), zv 33 (by decide) (by decide)]
    exact a6
  have cz : CXI (Cg s M) M p m k u (Mz.1 72 37) (Mz.1 72 38) := by rw [zv 37 (by decide) (by decide), zv 38 (by decide) (by decide)]; exact cx
  have q34 : Mz.1 72 34 = tcn (Cg s M) p u := by rw [zv 34 (by decide) (by decide)]; exact z34
  have ne : sti (Cg s M) (u + 1) p ≠ p → en_R sc 154 241 [mm_r 72, mm_i l, mm_i k, mm_i mo, mm_i (gx M (sti (Cg s M) u p).1), mm_i (gy M (sti (Cg s M) u p).2.1), mm_i (sti (Cg s M) u p).2.2, l7] [] Mz Q := fun y => vc154_241 oz (m246 w g hp hk uB oz fz az q34 y35 y36 cz (Or.inl ⟨rfl, mo1 y⟩) (fun l4 l5 l6 l7 Mw h => kk 1 l4 l5 l6 l7 Mw (Or.inl ⟨rfl, mo1 y⟩) h))
  refine ⟨rl, ru1.2.2.1, i32, ru1.1, i31, rr, l0, l1, fun y => ne (fun z => y (congrArg (fun z : wlk => z.1) z)), fun y1 => ⟨l0, l1, fun y => ne (fun z => y (congrArg (fun z : wlk => z.2.1) z)), fun y2 => ⟨l0, l1, fun y3 => ?_, fun y => ne (fun z => y (congrArg (fun z : wlk => z.2.2) z))⟩⟩⟩
  have q1 : (sti (Cg s M) (u + 1) p).1 = p.1 := Classical.byContradiction y1
  have q2 : (sti (Cg s M) (u + 1) p).2.1 = p.2.1 := Classical.byContradiction y2
  have e0 := mo0 (Prod.ext q1 (Prod.ext q2 y3))
  exact m246 w g hp hk uB oz fz az q34 y35 y36 cz (Or.inr ⟨rfl, e0⟩) (fun l4 l5 l6 l7 Mw h => kk 0 l4 l5 l6 l7 Mw (Or.inr ⟨rfl, e0⟩) h)
theorem c154 {K : mm_M → Prop} {l k : Int} {m : Nat} (ho : mr_ok M) (w : wf s) (g : GRD s M) (l0 : 0 ≤ l) (l1 : l < 900) (hk : mr_rg k) (hp : isS (Cg s M) (st3 M l)) (m0 : 0 < m) (hm : sti (Cg s M) m (st3 M l) = st3 M l) (nr : ∀ u, 0 < u → u < m → sti (Cg s M) u (st3 M l) ≠ st3 M l)
    (kk : ∀ M1, fr meS M M1 → MEA (Cg s M) M (st3 M l) m k M1 → K M1) : en_CV sc 154 [mm_r 72, mm_i l, mm_i k, mm_u, mm_u, mm_u, mm_u, mm_u] M K X := by
  have ml := loop_le g hp hm nr
  have h1 := g.1.2.1
  have h2 := g.1.2.2.2.1
  have pr := isS_rg hp
  have pw := hp.1
  have e91 : (st3 M l).1 = M.1 91 l := rfl
  have e92 : (st3 M l).2.1 = M.1 92 l := rfl
  have e93 : (st3 M l).2.2 = M.1 93 l := rfl
  generalize hP : st3 M l = p at *
  have fin : ∀ (l4 l5 l6 l7 : mm_V) (M' : mm_M), MI (Cg s M) M p m k m M' → en_R sc 154 73 [mm_r 72, mm_i l, mm_i k, mm_i 0, l4, l5, l6, l7] [] M' (QV K X) := fun l4 l5 l6 l7 M' h => by
    obtain ⟨o, f, a, b1, b2, b3, b4⟩ := h
    exact vc154_73 o ⟨by decide, by decide⟩ ⟨fun _ => Or.inl ⟨rfl, kk M' f ⟨b1, b2, b3, fun z => b4.1 (Or.inl z), fun v v1 t e => b4.2 v (by omega) v1 t e⟩⟩, fun q => absurd rfl q⟩
  have loop : ∀ (c u : Nat) (l4 l5 l6 l7 : mm_V) (M' : mm_M), m - u ≤ c → u < m → MI (Cg s M) M p m k u M' → en_R sc 154 73 [mm_r 72, mm_i l, mm_i k, mm_i 1, l4, l5, l6, l7] [] M' (QV K X) := by
    intro c
    induction c with
    | zero =>
      intro u l4 l5 l6 l7 M' hc hu
      exact absurd hu (by omega)
    | succ c ih =>
      intro u l4 l5 l6 l7 M' hc ult h
      obtain ⟨ho', hf, ha, b1, b2, b3, b4⟩ := h
      have kp : gKeep M M' := gKeep_fr hf (fun a k z => by
        have z' : a = 72 ∧ 31 ≤ k ∧ k ≤ 38 := z
        omega)
      have G' := gKeep_GRD kp g
      have C' : Cg s M' = Cg s M := Cg_keep kp
      have isU := sti_isS hp u
      have isU1 := sti_isS hp (u + 1)
      have ru := isS_rg isU
      have ru1 := isS_rg isU1
      have a31 : M'.1 72 31 = (sti (Cg s M) u p).1 := congrArg (fun z : wlk => z.1) ha
      have a32 : M'.1 72 32 = (sti (Cg s M) u p).2.1 := congrArg (fun z : wlk => z.2.1) ha
      have a33 : M'.1 72 33 = (sti (Cg s M) u p).2.2 := congrArg (fun z : wlk => z.2.2) ha
      have wy := isU.1
      have ex : M'.1 88 = gx M := kp.2.2.1
      have ey : M'.1 89 = gy M := kp.2.2.2.1
      refine vc154_73 ho' ⟨by decide, by decide⟩ ⟨fun q => absurd q (by decide), fun _ => ?_⟩
      rw [a31, a32, a33, ex, ey]
      refine ⟨ru.1, by omega, ru.2.2.1, by omega, c151 ho' G' (by rw [ha, C']; exact isU) (fun M6 f6 s6 ho6 => ?_)⟩
      rw [ha, C', ← sti_last] at s6
      have f6' : fr meS M M6 := fr_trans hf (fr_mono f6 (fun a k z => by
        have z' : a = 72 ∧ 31 ≤ k ∧ k ≤ 33 := z
        show a = 72 ∧ 31 ≤ k ∧ k ≤ 38
        omega))
      have c31 : M6.1 72 31 = (sti (Cg s M) (u + 1) p).1 := congrArg (fun z : wlk => z.1) s6
      have c32 : M6.1 72 32 = (sti (Cg s M) (u + 1) p).2.1 := congrArg (fun z : wlk => z.2.1) s6
      have n6 : ∀ j, 34 ≤ j → M6.1 72 j = M'.1 72 j := fun j hj => f6.2 72 j (by omega)
      have ex6 : ∀ i, M6.1 88 i = gx M i := fun i => f6'.2 88 i (by omega)
      have ey6 : ∀ i, M6.1 89 i = gy M i := fun i => f6'.2 89 i (by omega)
      have go : ∀ s2 s3 : Int, s2 * s3 = slen (Cg s M) M p u → en_R sc 154 159 [mm_r 72, mm_i l, mm_i k, mm_i 1, mm_i (gx M (sti (Cg s M) u p).1), mm_i (gy M (sti (Cg s M) u p).2.1), mm_i (sti (Cg s M) u p).2.2, l7] [mm_i s3, mm_i s2, mm_i (M6.1 72 35), mm_r 72] M6 (QV K X) := by
        intro s2 s3 hs
        refine m159 w g hp hk l0 l1 hP ult hm nr ml ho6 f6' s6 (by rw [n6 34 (by decide)]; exact b1) (by rw [n6 35 (by decide)]; exact b2) (by rw [n6 36 (by decide)]; exact b3) (by rw [n6 37 (by decide), n6 38 (by decide)]; exact b4) hs (fun mo' l4 l5 l6 l7 Mw hmo h => ?_)
        rcases hmo with ⟨e, lt⟩ | ⟨e, eq⟩
        · rw [e]
          exact ih (u + 1) _ _ _ _ Mw (by omega) lt h
        · rw [e]
          rw [eq] at h
          exact fin _ _ _ _ Mw h
      have way : ∀ s2 : Int, s2 = (if (sti (Cg s M) u p).2.2 % 2 = 0 then px M (sti (Cg s M) (u + 1) p) - px M (sti (Cg s M) u p) else py M (sti (Cg s M) (u + 1) p) - py M (sti (Cg s M) u p)) → en_R sc 154 148 [mm_r 72, mm_i l, mm_i k, mm_i 1, mm_i (gx M (sti (Cg s M) u p).1), mm_i (gy M (sti (Cg s M) u p).2.1), mm_i (sti (Cg s M) u p).2.2, l7] [mm_i s2, mm_i (M6.1 72 35), mm_r 72] M6 (QV K X) := by
        intro s2 hs
        refine vc154_148 ho6 ⟨by omega, by omega⟩ ⟨fun q => go s2 (-1) ?_, fun q => go s2 1 ?_⟩
        · unfold slen
          rw [← hs, if_neg (show ¬ (sti (Cg s M) u p).2.2 < 2 by omega)]
        · unfold slen
          rw [← hs, if_pos (show (sti (Cg s M) u p).2.2 < 2 by omega)]
      refine ⟨by omega, ⟨by omega, by omega⟩, fun q => ?_, fun q => ?_⟩
      · rw [c32, ey6]
        refine ⟨ru1.2.2.1, by omega, way _ ?_⟩
        rw [if_neg q]
        rfl
      · rw [c31, ex6]
        refine ⟨ru1.1, by omega, way _ ?_⟩
        rw [if_pos (Classical.byContradiction q)]
        rfl
  have P := pxy_rg w g.1 hp
  have rgx : mr_rg (gx M p.1) := by
    have a1 : -1000 ≤ gx M p.1 := P.1
    have a2 : gx M p.1 ≤ 1000 := P.2.1
    exact ⟨by omega, by omega⟩
  have rgy : mr_rg (gy M p.2.1) := by
    have a1 : -1000 ≤ gy M p.2.1 := P.2.2.1
    have a2 : gy M p.2.1 ≤ 1000 := P.2.2.2
    exact ⟨by omega, by omega⟩
  have r1 : mr_rg p.1 := ⟨by omega, by omega⟩
  have r2 : mr_rg p.2.1 := ⟨by omega, by omega⟩
  have r3 : mr_rg p.2.2 := ⟨by omega, by omega⟩
  refine vc154_0 ho ⟨l0, l1, l0, l1, l0, l1, ?_⟩
  simp (discharger := decide) only [put_eq, put_k, put_a]
  rw [← e91, ← e92, ← e93]
  refine ⟨pr.1, by omega, pr.2.2.1, by omega, ?_⟩
  refine loop m 0 _ _ _ _ _ (by omega) m0 ⟨?_, ?_, ?_, ?_, ?_, ?_, ?_⟩
  · exact mr_ok_putI (mr_ok_putI (mr_ok_putI (mr_ok_putI (mr_ok_putI (mr_ok_putI (mr_ok_putI (mr_ok_putI ho r1) r2) r3) ⟨by decide, by decide⟩) ⟨by decide, by decide⟩) ⟨by decide, by decide⟩) rgx) rgy
  · have fp : ∀ (N : mm_M) (j x : Int), 31 ≤ j → j ≤ 38 → fr meS N (mm_putN N 72 j x) := fun N j x a b => fr_put ⟨rfl, a, b⟩
    exact fr_trans (fr_trans (fr_trans (fr_trans (fr_trans (fr_trans (fr_trans (fp _ _ _ (by decide) (by decide)) (fp _ _ _ (by decide) (by decide))) (fp _ _ _ (by decide) (by decide))) (fp _ _ _ (by decide) (by decide))) (fp _ _ _ (by decide) (by decide))) (fp _ _ _ (by decide) (by decide))) (fp _ _ _ (by decide) (by decide))) (fp _ _ _ (by decide) (by decide))
  · unfold at3
    simp (discharger := decide) only [put_eq, put_k, put_a]
    rfl
  · simp (discharger := decide) only [put_eq, put_k, put_a]
    rfl
  · simp (discharger := decide) only [put_eq, put_k, put_a]
    rfl
  · simp (discharger := decide) only [put_eq, put_k, put_a]
    rfl
  · simp (discharger := decide) only [put_eq, put_k, put_a]
    exact ⟨fun _ => ⟨rfl, rfl⟩, fun v v1 => absurd v1 (by omega)⟩
end
