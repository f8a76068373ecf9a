/-! ===== CellAreasModel.flood, holesOf ===== -/
/-- the cell with an index -/
def clK (W K : Int) : Int × Int := (K % (W + 2) - 1, K / (W + 2) - 1)
theorem clK_ix {W : Int} (W0 : 0 ≤ W) (K : Int) : idx W (clK W K) = K := by
  show (K / (W + 2) - 1 + 1) * (W + 2) + (K % (W + 2) - 1 + 1) = K
  rw [show K / (W + 2) - 1 + 1 = K / (W + 2) by omega, show K % (W + 2) - 1 + 1 = K % (W + 2) by omega, Int.mul_comm]
  exact Int.mul_ediv_add_emod K (W + 2)
theorem ix_clK {W : Int} {a : Int × Int} (h1 : -1 ≤ a.1) (h2 : a.1 ≤ W) : clK W (idx W a) = a := by
  have d := dec_ix (w := W + 2) (j := a.2 + 1) (c := a.1 + 1) (by omega) (by omega)
  unfold clK idx
  rw [d.1, d.2]
  exact Prod.ext (by show a.1 + 1 - 1 = a.1; omega) (by show a.2 + 1 - 1 = a.2; omega)
theorem K_rg {W H K : Int} (W0 : 0 ≤ W) (H0 : 0 ≤ H) (k0 : 0 ≤ K) (k1 : K < (W + 2) * (H + 2)) : 0 ≤ K % (W + 2) ∧ K % (W + 2) < W + 2 ∧ 0 ≤ K / (W + 2) ∧ K / (W + 2) < H + 2 := by
  refine ⟨Int.emod_nonneg _ (by omega), Int.emod_lt_of_pos _ (by omega), Int.ediv_nonneg k0 (by omega), ?_⟩
  exact Int.ediv_lt_of_lt_mul (by omega) (by rw [Int.mul_comm]; exact k1)
theorem clK_ok {C : Int → Int → Bool} {W H K : Int} (W0 : 0 ≤ W) (H0 : 0 ≤ H) (k0 : 0 ≤ K) (k1 : K < (W + 2) * (H + 2)) : okc C W H (clK W K) ↔ C (clK W K).1 (clK W K).2 = false := by
  have r := K_rg W0 H0 k0 k1
  refine ⟨fun h => h.2.2.2.2, fun h => ⟨?_, ?_, ?_, ?_, h⟩⟩
  · show -1 ≤ K % (W + 2) - 1
    omega
  · show K % (W + 2) - 1 ≤ W
    omega
  · show -1 ≤ K / (W + 2) - 1
    omega
  · show K / (W + 2) - 1 ≤ H
    omega
def flS : Nat → Int → Prop := fun a _ => a = 94 ∨ a = 95
/-- how many are not marked -/
def unm (M : mm_M) (N : Int) : Int := sumN (fun K => if M.1 94 K = 0 then 1 else 0) N.toNat
/-- what the flood needs of the marks A that there are before -/
def FLA (C : Int → Int → Bool) (W H : Int) (A : Int → Prop) : Prop := (∀ K, 0 ≤ K → K < (W + 2) * (H + 2) → C (clK W K).1 (clK W K).2 = true → A K) ∧
  ∀ K K', 0 ≤ K → K < (W + 2) * (H + 2) → 0 ≤ K' → K' < (W + 2) * (H + 2) → okc C W H (clK W K) → okc C W H (clK W K') → cmp C W H (clK W K) (clK W K') → A K → A K'
/-- while the flood runs, z aside: t on the pile -/
def FLI (C : Int → Int → Bool) (W H : Int) (A : Int → Prop) (l t : Int) (Z : Int → Prop) (M : mm_M) : Prop := 0 ≤ t ∧ t + unm M ((W + 2) * (H + 2)) ≤ (W + 2) * (H + 2) ∧
  (∀ K, 0 ≤ K → K < (W + 2) * (H + 2) → (M.1 94 K ≠ 0 → A K ∨ (okc C W H (clK W K) ∧ cmp C W H (clK W l) (clK W K))) ∧ (A K → M.1 94 K ≠ 0)) ∧ M.1 94 l ≠ 0 ∧
  (∀ n, 0 ≤ n → n < t → 0 ≤ M.1 95 n ∧ M.1 95 n < (W + 2) * (H + 2) ∧ M.1 94 (M.1 95 n) ≠ 0 ∧ okc C W H (clK W (M.1 95 n)) ∧ cmp C W H (clK W l) (clK W (M.1 95 n))) ∧
  ∀ K, 0 ≤ K → K < (W + 2) * (H + 2) → M.1 94 K ≠ 0 → ¬ A K → (∃ n, 0 ≤ n ∧ n < t ∧ M.1 95 n = K) ∨ Z K ∨ ∀ K', 0 ≤ K' → K' < (W + 2) * (H + 2) → okc C W H (clK W K') → near (clK W K) (clK W K') → M.1 94 K' ≠ 0
theorem unm_put {M : mm_M} {N K : Int} (k0 : 0 ≤ K) (k1 : K < N) (h : M.1 94 K = 0) {M1 : mm_M} (e1 : M1.1 94 K ≠ 0) (e2 : ∀ k, k ≠ K → M1.1 94 k = M.1 94 k) : unm M1 N = unm M N - 1 := by
  unfold unm
  have u := sumN_upd (f := fun K => if M.1 94 K = 0 then 1 else 0) (g := fun K => if M1.1 94 K = 0 then 1 else 0) (n := N.toNat) (j := K) k0 (by omega) (fun k _ _ z => by
    show (if M1.1 94 k = 0 then (1 : Int) else 0) = if M.1 94 k = 0 then 1 else 0
    rw [e2 k z])
  have a : (if M1.1 94 K = 0 then (1 : Int) else 0) = 0 := if_neg e1
  have b : (if M.1 94 K = 0 then (1 : Int) else 0) = 1 := if_pos h
  rw [a, b] at u
  omega
theorem unm_0 (M : mm_M) (N : Int) : 0 ≤ unm M N := sumN_0 (fun k _ _ => by
  show 0 ≤ (if M.1 94 k = 0 then (1 : Int) else 0)
  split <;> decide)
theorem unm_le (M : mm_M) {N : Int} (h : 0 ≤ N) : unm M N ≤ N := by
  have key : ∀ n : Nat, sumN (fun K => if M.1 94 K = 0 then 1 else 0) n ≤ (n : Int) := by
    intro n
    induction n with
    | zero => exact Int.le_refl _
    | succ n ih =>
      show sumN (fun K => if M.1 94 K = 0 then 1 else 0) n + (if M.1 94 (n : Int) = 0 then 1 else 0) ≤ _
      split <;> omega
  have := key N.toNat
  unfold unm
  omega
theorem NB {W H : Int} (W0 : 0 ≤ W) (W1 : W ≤ 799) (H0 : 0 ≤ H) (H1 : H ≤ 199) : 0 < (W + 2) * (H + 2) ∧ (W + 2) * (H + 2) ≤ 161001 := by
  have a : (W + 2) * (H + 2) ≤ 801 * (H + 2) := Int.mul_le_mul_of_nonneg_right (by omega) (by omega)
  have b : 0 < (W + 2) * (H + 2) := Int.mul_pos (by omega) (by omega)
  omega
section
variable {sc : Nat × (Int → Int)} {M : mm_M} {X : Nat → mm_M → Prop} {C : Int → Int → Bool} {K : mm_M → Prop} {W H : Int}
theorem fl_keep {M M' : mm_M} (f : fr flS M M') : ∀ a k, a ≠ 94 → a ≠ 95 → M'.1 a k = M.1 a k := fun a k h1 h2 => f.2 a k (fun z => z.elim h1 h2)
/-- one neighbour more -/
theorem FLI_put {A : Int → Prop} {l t z i j : Int} {d : Int} {M' M1 : mm_M} (W0 : 0 ≤ W) (H0 : 0 ≤ H) (fa : FLA C W H A) (z0 : 0 ≤ z) (z1 : z < (W + 2) * (H + 2)) (zo : okc C W H (clK W z)) (zc : cmp C W H (clK W l) (clK W z))
    (h : FLI C W H A l t (fun K => K = z) M') (i0 : 0 ≤ i) (i1 : i < W + 2) (j0 : 0 ≤ j) (j1 : j < H + 2) (nr : near (clK W z) (i - 1, j - 1)) (un : M'.1 94 (j * (W + 2) + i) = 0) (e1 : M1.1 94 (j * (W + 2) + i) = 1) (e2 : ∀ k, k ≠ j * (W + 2) + i → M1.1 94 k = M'.1 94 k) (e3 : M1.1 95 t = j * (W + 2) + i) (e4 : ∀ k, k ≠ t → M1.1 95 k = M'.1 95 k) :
    FLI C W H A l (t + 1) (fun K => K = z) M1 ∧ unm M1 ((W + 2) * (H + 2)) = unm M' ((W + 2) * (H + 2)) - 1 := by
  obtain ⟨h1, h2, h3, h4, h5, h6⟩ := h
  have ei : idx W (i - 1, j - 1) = j * (W + 2) + i := by
    show (j - 1 + 1) * (W + 2) + (i - 1 + 1) = _
    rw [show j - 1 + 1 = j by omega, show i - 1 + 1 = i by omega]
  have ec : clK W (j * (W + 2) + i) = (i - 1, j - 1) := by
    rw [← ei]
    exact ix_clK (by show -1 ≤ i - 1; omega) (by show i - 1 ≤ W; omega)
  have a : 0 ≤ j * (W + 2) := Int.mul_nonneg j0 (by omega)
  have b : (j + 1) * (W + 2) ≤ (H + 2) * (W + 2) := Int.mul_le_mul_of_nonneg_right (by omega) (by omega)
  rw [Int.add_mul, Int.one_mul, Int.mul_comm (H + 2)] at b
  have x0 : 0 ≤ j * (W + 2) + i := by omega
  have x1 : j * (W + 2) + i < (W + 2) * (H + 2) := by omega
  rw [← ec] at nr
  clear ei a b
  generalize j * (W + 2) + i = x at *
  clear ec
  have na : ¬ A x := fun y => (h3 x x0 x1).2 y un
  have ok : okc C W H (clK W x) := (clK_ok W0 H0 x0 x1).mpr (by
    cases e : C (clK W x).1 (clK W x).2
    · rfl
    · exact absurd (fa.1 x x0 x1 e) na)
  have cx : cmp C W H (clK W l) (clK W x) := cmp_trans zc (cmp_step zo ok nr)
  have up : ∀ K, M'.1 94 K ≠ 0 → M1.1 94 K ≠ 0 := fun K y => by
    by_cases q : K = x
    · rw [q, e1]; decide
    · rw [e2 K q]; exact y
  have u := unm_put x0 x1 un (M1 := M1) (by rw [e1]; decide) e2
  refine ⟨⟨by omega, by omega, fun K k0 k1 => ⟨fun y => ?_, fun y => up K ((h3 K k0 k1).2 y)⟩, up l h4, fun n n0 n1 => ?_, fun K k0 k1 y nA => ?_⟩, u⟩
  · by_cases q : K = x
    · rw [q]; exact Or.inr ⟨ok, cx⟩
    · rw [e2 K q] at y
      exact (h3 K k0 k1).1 y
  · by_cases q : n = t
    · rw [q, e3]
      exact ⟨x0, x1, by rw [e1]; decide, ok, cx⟩
    · rw [e4 n q]
      obtain ⟨g1, g2, g3, g4⟩ := h5 n n0 (by omega)
      exact ⟨g1, g2, up _ g3, g4⟩
  · by_cases q : K = x
    · exact Or.inl ⟨t, h1, by omega, by rw [e3, q]⟩
    · rw [e2 K q] at y
      rcases h6 K k0 k1 y nA with ⟨n, n0, n1, n2⟩ | g | g
      · exact Or.inl ⟨n, n0, by omega, by rw [e4 n (by omega)]; exact n2⟩
      · exact Or.inr (Or.inl g)
      · exact Or.inr (Or.inr (fun K' a1 a2 a3 a4 => up K' (g K' a1 a2 a3 a4)))
/-- the nine round z -/
theorem m147_in {A : Int → Prop} {l z : Int} (M : mm_M) (W0 : 0 ≤ gw M) (W1 : gw M ≤ 799) (H0 : 0 ≤ gh M) (H1 : gh M ≤ 199) (fa : FLA C (gw M) (gh M) A) (z0 : 0 ≤ z) (z1 : z < (gw M + 2) * (gh M + 2)) (zo : okc C (gw M) (gh M) (clK (gw M) z)) (zc : cmp C (gw M) (gh M) (clK (gw M) l) (clK (gw M) z)) (m : Int)
    (fin : ∀ (t l5 : Int) (l6 l7 l8 : mm_V) (M1 : mm_M), mr_ok M1 → fr flS M M1 → FLI C (gw M) (gh M) A l t (fun _ => False) M1 → 2 * unm M1 ((gw M + 2) * (gh M + 2)) + t ≤ m → en_R sc 147 16 [mm_r 72, mm_i l, mm_i t, mm_i (z % (gw M + 2)), mm_i (z / (gw M + 2)), mm_i l5, l6, l7, l8] [] M1 (QV K X)) :
    ∀ (e : Nat) (t d : Int) (l6 l7 l8 : mm_V) (M' : mm_M), (9 - d).toNat ≤ e → 0 ≤ d → d ≤ 9 → mr_ok M' → fr flS M M' → FLI C (gw M) (gh M) A l t (fun K => K = z) M' → 2 * unm M' ((gw M + 2) * (gh M + 2)) + t ≤ m →
    (∀ d', 0 ≤ d' → d' < d → ∀ K', 0 ≤ K' → K' < (gw M + 2) * (gh M + 2) → clK (gw M) K' = (z % (gw M + 2) + d' % 3 - 1 - 1, z / (gw M + 2) + d' / 3 - 1 - 1) → M'.1 94 K' ≠ 0) →
    en_R sc 147 55 [mm_r 72, mm_i l, mm_i t, mm_i (z % (gw M + 2)), mm_i (z / (gw M + 2)), mm_i d, l6, l7, l8] [] M' (QV K X) := by
  have zr := K_rg W0 H0 z0 z1
  have nb := NB W0 W1 H0 H1
  have done : ∀ (t d : Int) (M' : mm_M), 9 ≤ d → FLI C (gw M) (gh M) A l t (fun K => K = z) M' → (∀ d', 0 ≤ d' → d' < d → ∀ K', 0 ≤ K' → K' < (gw M + 2) * (gh M + 2) → clK (gw M) K' = (z % (gw M + 2) + d' % 3 - 1 - 1, z / (gw M + 2) + d' / 3 - 1 - 1) → M'.1 94 K' ≠ 0) → FLI C (gw M) (gh M) A l t (fun _ => False) M' := fun t d M' d9 h nbr => by
    obtain ⟨h1, h2, h3, h4, h5, h6⟩ := h
    refine ⟨h1, h2, h3, h4, h5, fun K k0 k1 y nA => ?_⟩
    rcases h6 K k0 k1 y nA with g | g | g
    · exact Or.inl g
    · have g' : K = z := g
      refine Or.inr (Or.inr (fun K' a1 a2 a3 a4 => ?_))
      rw [g'] at a4
      have a4' : -1 ≤ K' % (gw M + 2) - 1 - (z % (gw M + 2) - 1) ∧ K' % (gw M + 2) - 1 - (z % (gw M + 2) - 1) ≤ 1 ∧ -1 ≤ K' / (gw M + 2) - 1 - (z / (gw M + 2) - 1) ∧ K' / (gw M + 2) - 1 - (z / (gw M + 2) - 1) ≤ 1 := a4
      refine nbr ((K' / (gw M + 2) - z / (gw M + 2) + 1) * 3 + (K' % (gw M + 2) - z % (gw M + 2) + 1)) (by omega) (by omega) K' a1 a2 ?_
      refine Prod.ext ?_ ?_
      · show K' % (gw M + 2) - 1 = _
        show K' % (gw M + 2) - 1 = z % (gw M + 2) + ((K' / (gw M + 2) - z / (gw M + 2) + 1) * 3 + (K' % (gw M + 2) - z % (gw M + 2) + 1)) % 3 - 1 - 1
        omega
      · show K' / (gw M + 2) - 1 = z / (gw M + 2) + ((K' / (gw M + 2) - z / (gw M + 2) + 1) * 3 + (K' % (gw M + 2) - z % (gw M + 2) + 1)) / 3 - 1 - 1
        omega
    · exact Or.inr (Or.inr g)
  intro e
  induction e with
  | zero =>
    intro t d l6 l7 l8 M' he d0 d1 ho' hf h hm nbr
    exact vc147_55 ho' ⟨by omega, by omega⟩ ⟨fun _ => fin t d l6 l7 l8 M' ho' hf (done t d M' (by omega) h nbr) hm, fun q => absurd (by omega) q⟩
  | succ e ih =>
    intro t d l6 l7 l8 M' he d0 d1 ho' hf h hm nbr
    have e23 : M'.1 72 23 = gw M := fl_keep hf 72 23 (by decide) (by decide)
    have e24 : M'.1 72 24 = gh M := fl_keep hf 72 24 (by decide) (by decide)
    have r0 : mr_rg 0 := ⟨by decide, by decide⟩
    have r1 : mr_rg 1 := ⟨by decide, by decide⟩
    -- a neighbour outside
    have off : ¬ (0 ≤ z % (gw M + 2) + d % 3 - 1 ∧ z % (gw M + 2) + d % 3 - 1 < gw M + 2 ∧ 0 ≤ z / (gw M + 2) + d / 3 - 1 ∧ z / (gw M + 2) + d / 3 - 1 < gh M + 2) → ∀ d', 0 ≤ d' → d' < d + 1 → ∀ K', 0 ≤ K' → K' < (gw M + 2) * (gh M + 2) → clK (gw M) K' = (z % (gw M + 2) + d' % 3 - 1 - 1, z / (gw M + 2) + d' / 3 - 1 - 1) → M'.1 94 K' ≠ 0 := fun q d' a1 a2 K' k0 k1 ek => by
      by_cases y : d' = d
      · exfalso
        have kr := K_rg W0 H0 k0 k1
        rw [y] at ek
        have ek1 : K' % (gw M + 2) - 1 = z % (gw M + 2) + d % 3 - 1 - 1 := congrArg (fun u : Int × Int => u.1) ek
        have ek2 : K' / (gw M + 2) - 1 = z / (gw M + 2) + d / 3 - 1 - 1 := congrArg (fun u : Int × Int => u.2) ek
        exact q (by omega)
      · exact nbr d' a1 (by omega) K' k0 k1 ek
    have skip : d < 9 → (∀ d', 0 ≤ d' → d' < d + 1 → ∀ K', 0 ≤ K' → K' < (gw M + 2) * (gh M + 2) → clK (gw M) K' = (z % (gw M + 2) + d' % 3 - 1 - 1, z / (gw M + 2) + d' / 3 - 1 - 1) → M'.1 94 K' ≠ 0) → ∀ l6 l7 l8 : mm_V, en_R sc 147 55 [mm_r 72, mm_i l, mm_i t, mm_i (z % (gw M + 2)), mm_i (z / (gw M + 2)), mm_i (d + 1), l6, l7, l8] [] M' (QV K X) := fun d9 n' l6 l7 l8 => ih t (d + 1) l6 l7 l8 M' (by omega) (by omega) (by omega) ho' hf h hm n'
    refine vc147_55 ho' ⟨by omega, by omega⟩ ⟨fun q => fin t d l6 l7 l8 M' ho' hf (done t d M' q h nbr) hm, fun q => ⟨by omega, by omega, ⟨by omega, by omega⟩, fun q1 => vc147_119 ho' (vc147_120 ho' r0 ⟨fun _ => skip (by omega) (off (by omega)) _ _ _, fun y => absurd rfl y⟩), fun q1 => ?_⟩⟩
    rw [e23, e24]
    refine ⟨⟨by omega, by omega⟩, fun q2 => vc147_119 ho' (vc147_120 ho' r0 ⟨fun _ => skip (by omega) (off (by omega)) _ _ _, fun y => absurd rfl y⟩), fun q2 => ⟨⟨by omega, by omega⟩, fun q3 => vc147_119 ho' (vc147_120 ho' r0 ⟨fun _ => skip (by omega) (off (by omega)) _ _ _, fun y => absurd rfl y⟩), fun q3 => ⟨⟨by omega, by omega⟩, fun q4 => vc147_119 ho' (vc147_120 ho' r0 ⟨fun _ => skip (by omega) (off (by omega)) _ _ _, fun y => absurd rfl y⟩), fun q4 => ?_⟩⟩⟩
    have zi : 0 ≤ z % (gw M + 2) + d % 3 - 1 ∧ z % (gw M + 2) + d % 3 - 1 < gw M + 2 ∧ 0 ≤ z / (gw M + 2) + d / 3 - 1 ∧ z / (gw M + 2) + d / 3 - 1 < gh M + 2 := by omega
    have nr : near (clK (gw M) z) (z % (gw M + 2) + d % 3 - 1 - 1, z / (gw M + 2) + d / 3 - 1 - 1) := by
      show -1 ≤ z % (gw M + 2) + d % 3 - 1 - 1 - (z % (gw M + 2) - 1) ∧ z % (gw M + 2) + d % 3 - 1 - 1 - (z % (gw M + 2) - 1) ≤ 1 ∧ -1 ≤ z / (gw M + 2) + d / 3 - 1 - 1 - (z / (gw M + 2) - 1) ∧ z / (gw M + 2) + d / 3 - 1 - 1 - (z / (gw M + 2) - 1) ≤ 1
      omega
    -- the cell with this index is that neighbour
    have this1 : ∀ K', 0 ≤ K' → clK (gw M) K' = (z % (gw M + 2) + d % 3 - 1 - 1, z / (gw M + 2) + d / 3 - 1 - 1) → K' = (z / (gw M + 2) + d / 3 - 1) * (gw M + 2) + (z % (gw M + 2) + d % 3 - 1) := fun K' _ ek => by
      have x := clK_ix W0 K'
      rw [ek] at x
      rw [← x]
      show (z / (gw M + 2) + d / 3 - 1 - 1 + 1) * (gw M + 2) + (z % (gw M + 2) + d % 3 - 1 - 1 + 1) = _
      rw [show z / (gw M + 2) + d / 3 - 1 - 1 + 1 = z / (gw M + 2) + d / 3 - 1 by omega, show z % (gw M + 2) + d % 3 - 1 - 1 + 1 = z % (gw M + 2) + d % 3 - 1 by omega]
    have bb : 0 ≤ (z / (gw M + 2) + d / 3 - 1) * (gw M + 2) + (z % (gw M + 2) + d % 3 - 1) ∧ (z / (gw M + 2) + d / 3 - 1) * (gw M + 2) + (z % (gw M + 2) + d % 3 - 1) < (gw M + 2) * (gh M + 2) := by
      have a : 0 ≤ (z / (gw M + 2) + d / 3 - 1) * (gw M + 2) := Int.mul_nonneg zi.2.2.1 (by omega)
      have b : (z / (gw M + 2) + d / 3 - 1 + 1) * (gw M + 2) ≤ (gh M + 2) * (gw M + 2) := Int.mul_le_mul_of_nonneg_right (by omega) (by omega)
      rw [Int.add_mul, Int.one_mul, Int.mul_comm (gh M + 2)] at b
      omega
    have P := fun M1 => FLI_put (M1 := M1) (d := d) W0 H0 fa z0 z1 zo zc h zi.1 zi.2.1 zi.2.2.1 zi.2.2.2 nr
    clear off nr
    have u0 := unm_0 M' ((gw M + 2) * (gh M + 2))
    have t0 := h.1
    have t1 := h.2.1
    generalize hx6 : z % (gw M + 2) + d % 3 - 1 = x6 at *
    generalize hx7 : z / (gw M + 2) + d / 3 - 1 = x7 at *
    generalize hX : x7 * (gw M + 2) + x6 = xx at *
    refine vc147_120 ho' r1 ⟨fun y => absurd y (by decide), fun _ => ?_⟩
    rw [put_a (show 72 ≠ 94 by decide), e23, hX]
    refine ⟨bb.1, by omega, fun y => skip (by omega) (fun d' a1 a2 K' k0 k1 ek => ?_) _ _ _, fun y => ?_⟩
    · by_cases y2 : d' = d
      · rw [y2, hx6, hx7] at ek
        rw [this1 K' k0 ek]
        exact y
      · exact nbr d' a1 (by omega) K' k0 k1 ek
    · have un : M'.1 94 xx = 0 := Classical.byContradiction y
      have rx : mr_rg xx := ⟨by omega, by omega⟩
      refine ⟨bb.1, by omega, t0, by omega, rx, ?_⟩
      have o1 : mr_ok (mm_putN (mm_putN M' 94 xx 1) 95 t xx) := mr_ok_putI (mr_ok_putI ho' r1) rx
      have f1 : fr flS M (mm_putN (mm_putN M' 94 xx 1) 95 t xx) := fr_trans hf (fr_trans (fr_put (Or.inl rfl)) (fr_put (Or.inr rfl)))
      have e1 : (mm_putN (mm_putN M' 94 xx 1) 95 t xx).1 94 xx = 1 := by rw [put_a (by decide), put_eq]
      have e2 : ∀ k, k ≠ xx → (mm_putN (mm_putN M' 94 xx 1) 95 t xx).1 94 k = M'.1 94 k := fun k hk => by rw [put_a (by decide), put_k hk]
      have e3 : (mm_putN (mm_putN M' 94 xx 1) 95 t xx).1 95 t = xx := put_eq
      have e4 : ∀ k, k ≠ t → (mm_putN (mm_putN M' 94 xx 1) 95 t xx).1 95 k = M'.1 95 k := fun k hk => by rw [put_k hk, put_a (by decide)]
      generalize mm_putN (mm_putN M' 94 xx 1) 95 t xx = M1 at o1 f1 e1 e2 e3 e4
      have Q := P M1 un e1 e2 e3 e4
      refine ih (t + 1) (d + 1) _ _ _ M1 (by omega) (by omega) (by omega) o1 f1 Q.1 (by omega) (fun d' a1 a2 K' k0 k1 ek => ?_)
      have up : ∀ k, M'.1 94 k ≠ 0 → M1.1 94 k ≠ 0 := fun k hk => by
        by_cases q : k = xx
        · rw [q, e1]; decide
        · rw [e2 k q]; exact hk
      by_cases y2 : d' = d
      · rw [y2, hx6, hx7] at ek
        rw [this1 K' k0 ek, e1]
        decide
      · exact up K' (nbr d' a1 (by omega) K' k0 k1 ek)
theorem c147 {A : Int → Prop} {l : Int} (ho : mr_ok M) (W0 : 0 ≤ gw M) (W1 : gw M ≤ 799) (H0 : 0 ≤ gh M) (H1 : gh M ≤ 199) (fa : FLA C (gw M) (gh M) A) (l0 : 0 ≤ l) (l1 : l < (gw M + 2) * (gh M + 2)) (hA : ∀ K, 0 ≤ K → K < (gw M + 2) * (gh M + 2) → (M.1 94 K ≠ 0 ↔ A K)) (nl : ¬ A l)
    (k : ∀ M1, fr flS M M1 → (∀ K, 0 ≤ K → K < (gw M + 2) * (gh M + 2) → (M1.1 94 K ≠ 0 ↔ A K ∨ (okc C (gw M) (gh M) (clK (gw M) K) ∧ cmp C (gw M) (gh M) (clK (gw M) l) (clK (gw M) K)))) → K M1) : en_CV sc 147 [mm_r 72, mm_i l, mm_u, mm_u, mm_u, mm_u, mm_u, mm_u, mm_u] M K X := by
  have nb := NB W0 W1 H0 H1
  have r1 : mr_rg 1 := ⟨by decide, by decide⟩
  have rl : mr_rg l := ⟨by omega, by omega⟩
  have okl : okc C (gw M) (gh M) (clK (gw M) l) := (clK_ok W0 H0 l0 l1).mpr (by
    cases e : C (clK (gw M) l).1 (clK (gw M) l).2
    · rfl
    · exact absurd (fa.1 l l0 l1 e) nl)
  have loop : ∀ (m : Nat) (t : Int) (l3 l4 l5 l6 l7 l8 : mm_V) (M' : mm_M), 2 * unm M' ((gw M + 2) * (gh M + 2)) + t ≤ (m : Int) → mr_ok M' → fr flS M M' → FLI C (gw M) (gh M) A l t (fun _ => False) M' → en_R sc 147 16 [mm_r 72, mm_i l, mm_i t, l3, l4, l5, l6, l7, l8] [] M' (QV K X) := by
    have fin : ∀ M' : mm_M, fr flS M M' → FLI C (gw M) (gh M) A l 0 (fun _ => False) M' → K M' := fun M' hf h => by
      obtain ⟨h1, h2, h3, h4, h5, h6⟩ := h
      refine k M' hf (fun K' k0 k1 => ⟨(h3 K' k0 k1).1, fun y => ?_⟩)
      rcases y with y | ⟨oy, cy⟩
      · exact (h3 K' k0 k1).2 y
      · have x := cy (fun q => M'.1 94 (idx (gw M) q) ≠ 0 ∧ ¬ A (idx (gw M) q) ∧ okc C (gw M) (gh M) q) ⟨by rw [clK_ix W0]; exact h4, by rw [clK_ix W0]; exact nl, okl⟩ (fun a b sa oa ob n => by
          obtain ⟨s1, s2, s3⟩ := sa
          have ra := idx_rg oa
          have rb := idx_rg ob
          have ea := ix_clK (W := gw M) oa.1 oa.2.1
          have eb := ix_clK (W := gw M) ob.1 ob.2.1
          have nA : ¬ A (idx (gw M) b) := fun z => s2 (fa.2 _ _ rb.1 rb.2 ra.1 ra.2 (by rw [eb]; exact ob) (by rw [ea]; exact oa) (by rw [ea, eb]; exact cmp_step ob oa (near_sym n)) z)
          refine ⟨?_, nA, ob⟩
          rcases h6 _ ra.1 ra.2 s1 s2 with ⟨n, n0, n1, _⟩ | g | g
          · omega
          · exact g.elim
          · exact g _ rb.1 rb.2 (by rw [eb]; exact ob) (by rw [ea, eb]; exact n))
        rw [clK_ix W0] at x
        exact x.1
    intro m
    induction m with
    | zero =>
      intro t l3 l4 l5 l6 l7 l8 M' hm ho' hf h
      have := unm_0 M' ((gw M + 2) * (gh M + 2))
      have t0 := h.1
      rw [show t = 0 by omega] at h ⊢
      exact vc147_16 ho' ⟨by decide, by decide⟩ ⟨fun _ => Or.inl ⟨rfl, fin M' hf h⟩, fun q => absurd (by decide) q⟩
    | succ m ih =>
      intro t l3 l4 l5 l6 l7 l8 M' hm ho' hf h
      have u0 := unm_0 M' ((gw M + 2) * (gh M + 2))
      have t0 := h.1
      have t1 := h.2.1
      refine vc147_16 ho' ⟨by omega, by omega⟩ ⟨fun q => ?_, fun q => ?_⟩
      · rw [show t = 0 by omega] at h
        exact Or.inl ⟨rfl, fin M' hf h⟩
      · have e23 : M'.1 72 23 = gw M := fl_keep hf 72 23 (by decide) (by decide)
        obtain ⟨h1, h2, h3, h4, h5, h6⟩ := h
        obtain ⟨z0, z1, z2, zo, zc⟩ := h5 (t - 1) (by omega) (by omega)
        rw [e23, show t + (-1) = t - 1 by omega]
        refine ⟨by omega, by omega, ⟨by omega, by omega⟩, z0, by omega, by omega, by omega, z0, by omega, ?_⟩
        refine m147_in M W0 W1 H0 H1 fa z0 z1 zo zc (m : Int) (fun t' l5 l6 l7 l8 M1 o1 f1 i1 m1 => ih t' _ _ _ _ _ _ M1 m1 o1 f1 i1) _ (t - 1) 0 _ _ _ M' (Nat.le_refl _) (Int.le_refl _) (by decide) ho' hf ⟨by omega, by omega, h3, h4, fun n n0 n1 => h5 n n0 (by omega), fun K' k0 k1 y nA => ?_⟩ (by omega) (fun d' a1 a2 => absurd a2 (by omega))
        rcases h6 K' k0 k1 y nA with ⟨n, n0, n1, n2⟩ | g | g
        · by_cases y2 : n = t - 1
          · rw [y2] at n2
            exact Or.inr (Or.inl n2.symm)
          · exact Or.inl ⟨n, n0, by omega, n2⟩
        · exact g.elim
        · exact Or.inr (Or.inr g)
  refine vc147_0 ho rl ⟨l0, by omega, ?_⟩
  have un : M.1 94 l = 0 := Classical.byContradiction (fun y => nl ((hA l l0 l1).mp y))
  have o1 : mr_ok (mm_putN (mm_putN M 95 0 l) 94 l 1) := mr_ok_putI (mr_ok_putI ho rl) r1
  have f1 : fr flS M (mm_putN (mm_putN M 95 0 l) 94 l 1) := fr_trans (fr_put (Or.inr rfl)) (fr_put (Or.inl rfl))
  have e1 : (mm_putN (mm_putN M 95 0 l) 94 l 1).1 94 l = 1 := put_eq
  have e2 : ∀ k, k ≠ l → (mm_putN (mm_putN M 95 0 l) 94 l 1).1 94 k = M.1 94 k := fun k hk => by rw [put_k hk, put_a (by decide)]
  have e3 : (mm_putN (mm_putN M 95 0 l) 94 l 1).1 95 0 = l := by rw [put_a (by decide), put_eq]
  generalize mm_putN (mm_putN M 95 0 l) 94 l 1 = M1 at o1 f1 e1 e2 e3
  have u := unm_put l0 l1 un (M1 := M1) (by rw [e1]; decide) e2
  have ul := unm_le M (show 0 ≤ (gw M + 2) * (gh M + 2) by omega)
  have u0 := unm_0 M1 ((gw M + 2) * (gh M + 2))
  refine loop (2 * unm M1 ((gw M + 2) * (gh M + 2)) + 1).toNat 1 _ _ _ _ _ _ M1 (by omega) o1 f1 ⟨by decide, by omega, fun K' k0 k1 => ⟨fun y => ?_, fun y => ?_⟩, by rw [e1]; decide, fun n n0 n1 => ?_, fun K' k0 k1 y nA => ?_⟩
  · by_cases q : K' = l
    · rw [q]; exact Or.inr ⟨okl, cmp_refl _⟩
    · rw [e2 K' q] at y
      exact Or.inl ((hA K' k0 k1).mp y)
  · by_cases q : K' = l
    · rw [q, e1]; decide
    · rw [e2 K' q]
      exact (hA K' k0 k1).mpr y
  · rw [show n = 0 by omega, e3]
    exact ⟨l0, l1, by rw [e1]; decide, okl, cmp_refl _⟩
  · by_cases q : K' = l
    · exact Or.inl ⟨0, Int.le_refl _, by decide, by rw [e3, q]⟩
    · rw [e2 K' q] at y
      exact absurd ((hA K' k0 k1).mp y) nA
end
