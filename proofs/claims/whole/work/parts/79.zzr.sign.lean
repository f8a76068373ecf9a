/-! ===== what a loop goes round, cell by cell of the grid ===== -/
theorem sumN_split {f : Int → Int} {n : Nat} : ∀ d : Nat, sumN f (n + d) = sumN f n + sumN (fun k => f ((n : Int) + k)) d := by
  intro d
  induction d with
  | zero =>
    show sumN f n = sumN f n + 0
    omega
  | succ d ih =>
    show sumN f (n + d) + f ((n + d : Nat) : Int) = sumN f n + (sumN (fun k => f ((n : Int) + k)) d + f ((n : Int) + (d : Int)))
    rw [ih, show ((n + d : Nat) : Int) = (n : Int) + (d : Int) by omega]
    omega
theorem sum_blocks {f : Int → Int} {a : Nat} : ∀ b : Nat, sumN f (b * a) = sumN (fun j => sumN (fun c => f (j * (a : Int) + c)) a) b := by
  intro b
  induction b with
  | zero =>
    rw [Nat.zero_mul]
    rfl
  | succ b ih =>
    rw [Nat.add_mul, Nat.one_mul, sumN_split, ih]
    show _ = sumN (fun j => sumN (fun c => f (j * (a : Int) + c)) a) b + sumN (fun c => f ((b : Int) * (a : Int) + c)) a
    rw [show ((b * a : Nat) : Int) = (b : Int) * (a : Int) from Int.natCast_mul b a]
theorem sumN_mul {f : Int → Int} {a : Int} : ∀ n : Nat, sumN (fun k => a * f k) n = a * sumN f n := by
  intro n
  induction n with
  | zero =>
    show (0 : Int) = a * 0
    rw [Int.mul_zero]
  | succ n ih =>
    show sumN (fun k => a * f k) n + a * f n = a * (sumN f n + f n)
    rw [ih, Int.mul_add]
theorem dec_ix {w j c : Int} (c0 : 0 ≤ c) (c1 : c < w) : (j * w + c) % w = c ∧ (j * w + c) / w = j := by
  have w0 : w ≠ 0 := by omega
  rw [Int.add_comm (j * w) c]
  constructor
  · rw [Int.add_mul_emod_self_right, Int.emod_eq_of_lt c0 c1]
  · rw [Int.add_mul_ediv_right _ _ w0, Int.ediv_eq_zero_of_lt c0 c1, Int.zero_add]
section
variable {s : sh} {M : mm_M}
def vk (W : Int) (q : wlk) : Int := (if q.2.2 = 1 then q.2.1 else q.2.1 - 1) * (W + 1) + q.1
noncomputable def kF (O : wlk → Prop) (M : mm_M) (K : Int) : Int := -(dX O (K % (gw M + 1)) (K / (gw M + 1))) * (gx M (K % (gw M + 1)) * (gy M (K / (gw M + 1) + 1) - gy M (K / (gw M + 1))))
theorem kF_at {O : wlk → Prop} {c j : Int} (c0 : 0 ≤ c) (c1 : c ≤ gw M) : kF O M (j * (gw M + 1) + c) = -(dX O c j) * (gx M c * (gy M (j + 1) - gy M j)) := by
  have d := dec_ix (w := gw M + 1) (j := j) c0 (by omega)
  unfold kF
  rw [d.1, d.2]
theorem BC_Cg (g : GL s M) : BC (Cg s M) (gw M) (gh M) := ⟨g.1, g.2.2.1, fun i j h => by
  have e := Cg_iff.mp h
  exact ⟨e.1, e.2.1, e.2.2.1, e.2.2.2.1⟩⟩
/-- an upright side: its row and column, and which way -/
theorem vside {q : wlk} (hq : isS (Cg s M) q) (w : q.2.2 = 1 ∨ q.2.2 = 3) : ∃ c j, 0 ≤ c ∧ c ≤ gw M ∧ 0 ≤ j ∧ j < gh M ∧ vk (gw M) q = j * (gw M + 1) + c ∧ ((q = (c, j, 1) ∧ Cg s M c j = false) ∨ (q = (c, j + 1, 3) ∧ Cg s M c j = true)) := by
  have r := isS_rg hq
  have lr := cLR hq
  obtain ⟨c, j, v⟩ := q
  have w' : v = 1 ∨ v = 3 := w
  rcases w' with rfl | rfl
  · have r6 := r.2.2.2.2.2.1 rfl
    exact ⟨c, j, r.1, r.2.1, r.2.2.1, r6.2, rfl, Or.inl ⟨rfl, lr.2⟩⟩
  · have r6 := r.2.2.2.2.2.2.2 rfl
    have r3 : 0 < j := r6.2
    have r4 : j ≤ gh M := r.2.2.2.1
    refine ⟨c, j - 1, r.1, r.2.1, by omega, by omega, rfl, Or.inr ⟨?_, lr.1⟩⟩
    rw [show j - 1 + 1 = j by omega]
theorem loop_K (g : GL s M) {p : wlk} (hp : isS (Cg s M) p) {m : Nat} (m0 : 0 < m) (hm : sti (Cg s M) m p = p) (nr : ∀ u, 0 < u → u < m → sti (Cg s M) u p ≠ p) :
    sumU (xdy (Cg s M) M p) m = sumN (kF (orb (Cg s M) p) M) ((gw M + 1) * gh M).toNat := by
  have W0 := g.1
  have H0 := g.2.2.1
  have os := OS_orb hp m0 hm
  have x := sum_imgP (P := fun u => (sti (Cg s M) u p).2.2 = 1 ∨ (sti (Cg s M) u p).2.2 = 3) (g := fun u => vk (gw M) (sti (Cg s M) u p)) (w := kF (orb (Cg s M) p) M) (N := ((gw M + 1) * gh M).toNat) m (fun u u1 pu => by
    obtain ⟨c, j, c0, c1, j0, j1, e, _⟩ := vside (sti_isS hp u) pu
    show 0 ≤ vk (gw M) (sti (Cg s M) u p) ∧ vk (gw M) (sti (Cg s M) u p) < ((((gw M + 1) * gh M).toNat : Nat) : Int)
    rw [e]
    have a : 0 ≤ j * (gw M + 1) := Int.mul_nonneg j0 (by omega)
    have b : (j + 1) * (gw M + 1) ≤ gh M * (gw M + 1) := Int.mul_le_mul_of_nonneg_right (by omega) (by omega)
    rw [Int.add_mul, Int.one_mul] at b
    rw [Int.mul_comm (gh M)] at b
    omega) (fun u v uv vm pu pv e => by
    obtain ⟨c, j, c0, c1, j0, j1, e1, q1⟩ := vside (sti_isS hp u) pu
    obtain ⟨c', j', c0', c1', j0', j1', e2, q2⟩ := vside (sti_isS hp v) pv
    have e' : vk (gw M) (sti (Cg s M) u p) = vk (gw M) (sti (Cg s M) v p) := e
    rw [e1, e2] at e'
    obtain ⟨y1, y2⟩ := ix_inj c0 (by omega) c0' (by omega) e'
    rw [← y1, ← y2] at q2
    refine loop_inj hp hm nr u v uv vm ?_
    rcases q1 with ⟨a, b⟩ | ⟨a, b⟩ <;> rcases q2 with ⟨a', b'⟩ | ⟨a', b'⟩
    · rw [a, a']
    · rw [b] at b'; exact absurd b' (by decide)
    · rw [b] at b'; exact absurd b' (by decide)
    · rw [a, a'])
  have y : sumU (xdy (Cg s M) M p) m = sumU (fun u => @ite _ ((sti (Cg s M) u p).2.2 = 1 ∨ (sti (Cg s M) u p).2.2 = 3) (Classical.propDecidable _) (kF (orb (Cg s M) p) M (vk (gw M) (sti (Cg s M) u p))) 0) m := by
    have key : ∀ n : Nat, sumU (xdy (Cg s M) M p) n = sumU (fun u => @ite _ ((sti (Cg s M) u p).2.2 = 1 ∨ (sti (Cg s M) u p).2.2 = 3) (Classical.propDecidable _) (kF (orb (Cg s M) p) M (vk (gw M) (sti (Cg s M) u p))) 0) n := by
      intro n
      induction n with
      | zero => rfl
      | succ n ih =>
        rw [sumU_1, sumU_1, ih]
        have e : xdy (Cg s M) M p n = @ite _ ((sti (Cg s M) n p).2.2 = 1 ∨ (sti (Cg s M) n p).2.2 = 3) (Classical.propDecidable _) (kF (orb (Cg s M) p) M (vk (gw M) (sti (Cg s M) n p))) 0 := by
          have iq := sti_isS hp n
          have oq : orb (Cg s M) p (sti (Cg s M) n p) := ⟨n, rfl⟩
          unfold xdy
          rw [sti_last]
          generalize sti (Cg s M) n p = q at *
          by_cases z : q.2.2 = 1 ∨ q.2.2 = 3
          · rw [if_pos z]
            obtain ⟨c, j, c0, c1, j0, j1, e1, q1⟩ := vside iq z
            rw [e1, kF_at c0 c1]
            rcases q1 with ⟨rfl, b⟩ | ⟨rfl, b⟩
            · have n3 : ¬ orb (Cg s M) p (c, j + 1, 3) := fun o => by
                have t : Cg s M c (j + 1 - 1) = true := (cLR (os.1 _ o)).1
                rw [show j + 1 - 1 = j by omega, b] at t
                exact absurd t (by decide)
              unfold dX
              rw [iN_f n3, iN_t oq]
              show gx M c * (gy M (j + 1) - gy M j) = _
              generalize gx M c * (gy M (j + 1) - gy M j) = A
              rw [show -((0 : Int) - 1) = 1 by omega, Int.one_mul]
            · have n1 : ¬ orb (Cg s M) p (c, j, 1) := fun o => by
                have t : Cg s M c j = false := (cLR (os.1 _ o)).2
                rw [b] at t
                exact absurd t (by decide)
              unfold dX
              rw [iN_f n1, iN_t oq]
              show gx M c * (gy M (j + 1 - 1) - gy M (j + 1)) = _
              rw [show j + 1 - 1 = j by omega, Int.mul_sub, Int.mul_sub, show -((1 : Int) - 0) = -1 by omega, Int.neg_mul, Int.one_mul]
              omega
          · rw [if_neg z]
            have S := way_step g iq
            have e : py M (stp (Cg s M) q) = py M q := by
              rcases iq.1 with y | y | y | y
              · exact (S.1 y).1
              · exact absurd (Or.inl y) z
              · exact (S.2.2.1 y).1
              · exact absurd (Or.inr y) z
            rw [e, Int.sub_self, Int.mul_zero]
        rw [e]
    exact key m
  rw [y, x]
  refine (sumN_eq (fun K k0 k1 => ?_)).symm
  show kF (orb (Cg s M) p) M K = @ite _ (∃ v, v < m ∧ ((sti (Cg s M) v p).2.2 = 1 ∨ (sti (Cg s M) v p).2.2 = 3) ∧ vk (gw M) (sti (Cg s M) v p) = K) (Classical.propDecidable _) (kF (orb (Cg s M) p) M K) 0
  by_cases z : ∃ v, v < m ∧ ((sti (Cg s M) v p).2.2 = 1 ∨ (sti (Cg s M) v p).2.2 = 3) ∧ vk (gw M) (sti (Cg s M) v p) = K
  · rw [if_pos z]
  · rw [if_neg z]
    have ek : (K / (gw M + 1)) * (gw M + 1) + K % (gw M + 1) = K := by
      rw [Int.mul_comm]
      exact Int.mul_ediv_add_emod K (gw M + 1)
    have no : ∀ q, orb (Cg s M) p q → (q.2.2 = 1 ∨ q.2.2 = 3) → vk (gw M) q ≠ K := fun q o wq e => by
      obtain ⟨u, eu⟩ := o
      apply z
      refine ⟨u % m, Nat.mod_lt _ m0, ?_⟩
      rw [← sti_mod hm, eu]
      exact ⟨wq, e⟩
    have a : ¬ orb (Cg s M) p (K % (gw M + 1), K / (gw M + 1) + 1, 3) := fun o => no _ o (Or.inr rfl) (by
      show (K / (gw M + 1) + 1 - 1) * (gw M + 1) + K % (gw M + 1) = K
      rw [show K / (gw M + 1) + 1 - 1 = K / (gw M + 1) by omega]
      exact ek)
    have b : ¬ orb (Cg s M) p (K % (gw M + 1), K / (gw M + 1), 1) := fun o => no _ o (Or.inl rfl) ek
    unfold kF dX
    rw [iN_f a, iN_f b, show -((0 : Int) - 0) = 0 by omega, Int.zero_mul]
/-- by parts -/
theorem abel {O : wlk → Prop} (os : OS (Cg s M) O) (b : BC (Cg s M) (gw M) (gh M)) (j : Int) : ∀ n : Nat, sumN (fun c => dX O c j * gx M c) (n + 1) = wn O n j * gx M n - sumN (fun c => wn O c j * (gx M (c + 1) - gx M c)) n := by
  intro n
  induction n with
  | zero =>
    have e := wn_h os b 0 j
    rw [wn_neg (show (0 : Int) - 1 < 0 by omega)] at e
    show (0 : Int) + dX O ((0 : Nat) : Int) j * gx M ((0 : Nat) : Int) = wn O ((0 : Nat) : Int) j * gx M ((0 : Nat) : Int) - 0
    have e' : wn O ((0 : Nat) : Int) j = dX O ((0 : Nat) : Int) j := by
      show wn O 0 j = dX O 0 j
      omega
    rw [e']
    omega
  | succ n ih =>
    have e := wn_h os b ((n + 1 : Nat) : Int) j
    rw [show ((n + 1 : Nat) : Int) - 1 = (n : Int) by omega] at e
    show sumN (fun c => dX O c j * gx M c) (n + 1) + dX O ((n + 1 : Nat) : Int) j * gx M ((n + 1 : Nat) : Int) = wn O ((n + 1 : Nat) : Int) j * gx M ((n + 1 : Nat) : Int) - (sumN (fun c => wn O c j * (gx M (c + 1) - gx M c)) n + wn O (n : Int) j * (gx M ((n : Int) + 1) - gx M (n : Int)))
    rw [ih, e, show ((n + 1 : Nat) : Int) = (n : Int) + 1 by omega, Int.add_mul, Int.mul_sub]
    omega
theorem ar_w (g : GL s M) {p : wlk} (hp : isS (Cg s M) p) {m : Nat} (m0 : 0 < m) (hm : sti (Cg s M) m p = p) (nr : ∀ u, 0 < u → u < m → sti (Cg s M) u p ≠ p) :
    sumU (xdy (Cg s M) M p) m = sumN (fun j => (gy M (j + 1) - gy M j) * sumN (fun c => wn (orb (Cg s M) p) c j * (gx M (c + 1) - gx M c)) (gw M).toNat) (gh M).toNat := by
  have W0 := g.1
  have H0 := g.2.2.1
  have os := OS_orb hp m0 hm
  have b := BC_Cg g
  rw [loop_K g hp m0 hm nr]
  have eN : ((gw M + 1) * gh M).toNat = (gh M).toNat * (gw M + 1).toNat := by
    have e : (((gh M).toNat * (gw M + 1).toNat : Nat) : Int) = (gw M + 1) * gh M := by
      rw [Int.natCast_mul, show (((gh M).toNat : Nat) : Int) = gh M by omega, show (((gw M + 1).toNat : Nat) : Int) = gw M + 1 by omega, Int.mul_comm]
    omega
  rw [eN, sum_blocks]
  refine sumN_eq (fun j j0 j1 => ?_)
  have e1 : sumN (fun c => kF (orb (Cg s M) p) M (j * (((gw M + 1).toNat : Nat) : Int) + c)) (gw M + 1).toNat = sumN (fun c => (gy M (j + 1) - gy M j) * (-1 * (dX (orb (Cg s M) p) c j * gx M c))) (gw M + 1).toNat := sumN_eq (fun c c0 c1 => by
    rw [show (((gw M + 1).toNat : Nat) : Int) = gw M + 1 by omega, kF_at c0 (by omega)]
    generalize dX (orb (Cg s M) p) c j = d
    generalize gx M c = x
    generalize gy M (j + 1) - gy M j = h
    rw [Int.neg_mul, Int.mul_comm h, Int.neg_one_mul, Int.neg_mul, Int.mul_assoc])
  have e2 := abel os b j (gw M).toNat
  rw [show (((gw M).toNat : Nat) : Int) = gw M by omega, wn_out os b (show ¬ (0 ≤ gw M ∧ gw M < gw M ∧ 0 ≤ j ∧ j < gh M) by omega), Int.zero_mul] at e2
  rw [e1, sumN_mul, sumN_mul, show (gw M + 1).toNat = (gw M).toNat + 1 by omega, e2]
  rw [Int.neg_one_mul]
  show _ * -(0 - _) = _
  rw [Int.zero_sub, Int.neg_neg]
/-- the sign -/
theorem ar_sign (g : GL s M) {p : wlk} (hp : isS (Cg s M) p) {m : Nat} (m0 : 0 < m) (hm : sti (Cg s M) m p = p) (nr : ∀ u, 0 < u → u < m → sti (Cg s M) u p ≠ p) {c j : Int} (v : vcol (Cg s M) p j c) : sumU (xdy (Cg s M) M p) m < 0 ↔ wn (orb (Cg s M) p) (cL p).1 (cL p).2 = 0 := by
  have W0 := g.1
  have H0 := g.2.2.1
  have ax := g.2.2.2.2.1
  have ay := g.2.2.2.2.2.1
  have os := OS_orb hp m0 hm
  have b := BC_Cg g
  rw [ar_w g hp m0 hm nr]
  have vals := fun i j => wn_vals os b hp j _ i (Nat.le_refl _)
  have dx : ∀ c, 0 ≤ c → c < ((gw M).toNat : Int) → 0 < gx M (c + 1) - gx M c := fun c c0 c1 => by
    have := ax c (c + 1) c0 (by omega) (by omega)
    omega
  have dy : ∀ j, 0 ≤ j → j < ((gh M).toNat : Int) → 0 < gy M (j + 1) - gy M j := fun j j0 j1 => by
    have := ay j (j + 1) j0 (by omega) (by omega)
    omega
  rcases wn_k os b hp v with k0 | k1
  · refine ⟨fun _ => k0, fun _ => ?_⟩
    have le : ∀ j, ∀ c, 0 ≤ c → c < ((gw M).toNat : Int) → wn (orb (Cg s M) p) c j * (gx M (c + 1) - gx M c) ≤ 0 := fun j c c0 c1 => by
      have d := dx c c0 c1
      have w : wn (orb (Cg s M) p) c j ≤ 0 := by
        have := vals c j
        omega
      have := Int.mul_le_mul_of_nonneg_right w (show 0 ≤ gx M (c + 1) - gx M c by omega)
      rw [Int.zero_mul] at this
      exact this
    have zz : ∀ n : Nat, sumN (fun _ => 0) n = 0 := fun n => sumN_z (fun _ _ _ => rfl)
    have row : ∀ j, sumN (fun c => wn (orb (Cg s M) p) c j * (gx M (c + 1) - gx M c)) (gw M).toNat ≤ 0 := fun j => by
      have := sumN_le (g := fun _ => 0) (le j)
      rw [zz] at this
      exact this
    have r := (wn_all os b hp (q := p) ⟨0, rfl⟩).2
    rw [k0] at r
    generalize (cR p).1 = i0 at r
    generalize (cR p).2 = j0 at r
    have rg : 0 ≤ i0 ∧ i0 < gw M ∧ 0 ≤ j0 ∧ j0 < gh M := Classical.byContradiction (fun z => by
      rw [wn_out os b z] at r
      exact absurd r (by decide))
    have r1 : sumN (fun c => wn (orb (Cg s M) p) c j0 * (gx M (c + 1) - gx M c)) (gw M).toNat < 0 := by
      have := sumN_lt (g := fun _ => 0) (le j0) rg.1 (by omega) (show wn (orb (Cg s M) p) i0 j0 * (gx M (i0 + 1) - gx M i0) < 0 by
        rw [r, show ((0 : Int) - 1) = -1 by omega, Int.neg_one_mul]
        have := dx i0 rg.1 (by omega)
        omega)
      rw [zz] at this
      exact this
    have := sumN_lt (g := fun _ => 0) (f := fun j => (gy M (j + 1) - gy M j) * sumN (fun c => wn (orb (Cg s M) p) c j * (gx M (c + 1) - gx M c)) (gw M).toNat) (n := (gh M).toNat) (fun j a b' => by
      have := Int.mul_le_mul_of_nonneg_left (row j) (show 0 ≤ gy M (j + 1) - gy M j by have := dy j a b'; omega)
      rw [Int.mul_zero] at this
      exact this) rg.2.2.1 (by omega) (show (gy M (j0 + 1) - gy M j0) * sumN (fun c => wn (orb (Cg s M) p) c j0 * (gx M (c + 1) - gx M c)) (gw M).toNat < 0 by
      have := Int.mul_lt_mul_of_pos_left r1 (dy j0 rg.2.2.1 (by omega))
      rw [Int.mul_zero] at this
      exact this)
    rw [zz] at this
    exact this
  · refine ⟨fun h => ?_, fun h => absurd h (by omega)⟩
    exfalso
    have ge : ∀ j, ∀ c, 0 ≤ c → c < ((gw M).toNat : Int) → 0 ≤ wn (orb (Cg s M) p) c j * (gx M (c + 1) - gx M c) := fun j c c0 c1 => by
      have d := dx c c0 c1
      have w : 0 ≤ wn (orb (Cg s M) p) c j := by
        have := vals c j
        omega
      exact Int.mul_nonneg w (by omega)
    have := sumN_0 (f := fun j => (gy M (j + 1) - gy M j) * sumN (fun c => wn (orb (Cg s M) p) c j * (gx M (c + 1) - gx M c)) (gw M).toNat) (n := (gh M).toNat) (fun j a b' => Int.mul_nonneg (by have := dy j a b'; omega) (sumN_0 (ge j)))
    omega
/-- a loop has an upright side -/
theorem st_vcol {p : wlk} (hp : isS (Cg s M) p) {m : Nat} (m0 : 0 < m) (hm : sti (Cg s M) m p = p) (t : STp s M p) : ∃ c j, vcol (Cg s M) p j c := by
  obtain ⟨i, j, w⟩ := p
  rcases t with ⟨t1, t2, t3⟩ | ⟨t1, t2, t3⟩
  · have e : w = 0 := t1
    subst e
    refine ⟨i, j, Or.inr ?_⟩
    have lr := cLR hp
    have c1 : Cg s M i j = true := lr.1
    have c2 : Cg s M i (j - 1) = false := lr.2
    have c3 : Cg s M (i - 1) j = false := Cg_f t3
    have s1 : isS (Cg s M) (i, j + 1, 3) := ⟨Or.inr (Or.inr (Or.inr rfl)), by
      show (Cg s M i (j + 1 - 1) && !Cg s M (i - 1) (j + 1 - 1)) = true
      rw [show j + 1 - 1 = j by omega, c1, c3]
      rfl⟩
    have e := st_3 (C := Cg s M) i j
    rw [c1, c2, c3] at e
    have e' : stp (Cg s M) (i, j + 1, 3) = (i, j, 0) := by
      rw [e]
      cases Cg s M (i - 1) (j - 1) <;> rfl
    have x := orb_clo hp m0 hm s1
    rw [e'] at x
    exact x.mp ⟨0, rfl⟩
  · have e : w = 1 := t1
    subst e
    exact ⟨i, j, Or.inl ⟨0, rfl⟩⟩
end
