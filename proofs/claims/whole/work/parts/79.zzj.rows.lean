/-! ===== the upright sides of a loop in one row ===== -/
/-- an upright side of the loop from p stands at c, in row j -/
def vcol (C : Int → Int → Bool) (p : wlk) (j c : Int) : Prop := orb C p (c, j, 1) ∨ orb C p (c, j + 1, 3)
noncomputable def cvn (s : sh) (M : mm_M) (p : wlk) (j x c : Int) : Int := @ite _ (vcol (Cg s M) p j c ∧ gx M c ≤ x) (Classical.propDecidable _) 1 0
theorem sumU_N {f : Int → Int} : ∀ n : Nat, sumU (fun u => f (u : Int)) n = sumN f n := by
  intro n
  induction n with
  | zero => rfl
  | succ n ih =>
    rw [sumU_1, ih]
    rfl
theorem sumN_par {f g : Int → Int} {n : Nat} (h : ∀ k, 0 ≤ k → k < (n : Int) → (f k - g k) % 2 = 0) : (sumN f n - sumN g n) % 2 = 0 := by
  induction n with
  | zero => rfl
  | succ n ih =>
    have a := ih (fun k a b => h k a (by omega))
    have b := h n (by omega) (by omega)
    show (sumN f n + f (n : Int) - (sumN g n + g (n : Int))) % 2 = 0
    omega
section
variable {s : sh} {M : mm_M}
noncomputable def ecol (s : sh) (M : mm_M) (j : Int) (c : Int) : Int := Classical.epsilon (fun e => EDG s M c j e)
theorem vcol_VS (h : wf s) (g : GL s M) {p : wlk} (hp : isS (Cg s M) p) {j c : Int} (v : vcol (Cg s M) p j c) : ∃ e q, VS s M e q ∧ orb (Cg s M) p q ∧ EDG s M c j e ∧ 0 ≤ c ∧ c ≤ gw M ∧ 0 ≤ j ∧ j < gh M := by
  rcases v with v | v
  · have hq := orb_isS hp v
    obtain ⟨e, ve⟩ := VS_of h g hq (Or.inl rfl)
    refine ⟨e, _, ve, v, ?_⟩
    obtain ⟨i, j', i0, i1, j0, j1, ed, hq'⟩ := ve
    rcases hq' with ⟨_, z⟩ | ⟨_, z⟩
    · have : (1 : Int) = 3 := congrArg (fun z : wlk => z.2.2) z
      omega
    · have z1 : c = i := congrArg (fun z : wlk => z.1) z
      have z2 : j = j' := congrArg (fun z : wlk => z.2.1) z
      rw [z1, z2]
      exact ⟨ed, i0, i1, j0, j1⟩
  · have hq := orb_isS hp v
    obtain ⟨e, ve⟩ := VS_of h g hq (Or.inr rfl)
    refine ⟨e, _, ve, v, ?_⟩
    obtain ⟨i, j', i0, i1, j0, j1, ed, hq'⟩ := ve
    rcases hq' with ⟨_, z⟩ | ⟨_, z⟩
    · have z1 : c = i := congrArg (fun z : wlk => z.1) z
      have z2 : j + 1 = j' + 1 := congrArg (fun z : wlk => z.2.1) z
      have z3 : j = j' := by omega
      rw [z1, z3]
      exact ⟨ed, i0, i1, j0, j1⟩
    · have : (3 : Int) = 1 := congrArg (fun z : wlk => z.2.2) z
      omega
theorem EDG_pos {c j e : Int} (ed : EDG s M c j e) : gx M c = epos s e := by
  obtain ⟨b, k, r, a, hk⟩ := ed
  unfold epos
  rcases hk with ⟨e1, e2⟩ | ⟨e1, e2⟩
  · rw [if_pos (by omega), e2, show e / 2 = k by omega]
  · rw [if_neg (by omega), e2, show e / 2 = k by omega]
/-- the columns of a row are the edges of its band -/
theorem row_eq (h : wf s) (g : GL s M) {p : wlk} (hp : isS (Cg s M) p) {b j : Int} (b0 : 0 ≤ b) (b1 : b < sn s) (j0 : 0 ≤ j) (j1 : j < gh M) (r : RBd s M b j) (x : Int) :
    sumN (cvn s M p j x) (gw M + 1).toNat = sumN (fun e => @ite _ ((∃ q, VS s M e q ∧ orb (Cg s M) p q) ∧ inP s b (e / 2) ∧ epos s e ≤ x) (Classical.propDecidable _) 1 0) (2 * nS_ s).toNat := by
  have W0 : 0 ≤ gw M := g.1
  have nS0 : 0 ≤ nS_ s := by
    have := sst_mono h (Int.le_refl 0) h.1 (Int.le_refl _)
    rw [h.2.1] at this
    exact this
  have eE : ∀ u : Nat, vcol (Cg s M) p j u → EDG s M u j (ecol s M j u) := fun u v => by
    obtain ⟨e, q, _, _, ed, _⟩ := vcol_VS h g hp v
    exact Classical.epsilon_spec (p := fun e => EDG s M u j e) ⟨e, ed⟩
  have x1 := sum_imgP (P := fun u => vcol (Cg s M) p j (u : Int)) (g := fun u => ecol s M j (u : Int)) (w := fun e => if epos s e ≤ x then 1 else 0) (N := (2 * nS_ s).toNat) (gw M + 1).toNat (fun u u1 pu => by
    have rg := EDG_rg h (eE u pu)
    exact ⟨rg.1, by omega⟩) (fun u v uv vm pu pv e => by
    have a := eE u pu
    have b' := eE v pv
    have e' : ecol s M j (u : Int) = ecol s M j (v : Int) := e
    rw [e'] at a
    have := EDG_lt h g (show (0 : Int) ≤ u by omega) (show (u : Int) ≤ gw M by omega) j0 j1 (show (0 : Int) ≤ v by omega) (show (v : Int) ≤ gw M by omega) j0 j1 a b' (Or.inr ⟨rfl, by omega⟩)
    omega)
  have x2 : sumN (cvn s M p j x) (gw M + 1).toNat = sumU (fun u => @ite _ (vcol (Cg s M) p j (u : Int)) (Classical.propDecidable _) (if epos s (ecol s M j (u : Int)) ≤ x then 1 else 0) 0) (gw M + 1).toNat := by
    rw [← sumU_N]
    have key : ∀ n : Nat, sumU (fun u => cvn s M p j x (u : Int)) n = sumU (fun u => @ite _ (vcol (Cg s M) p j (u : Int)) (Classical.propDecidable _) (if epos s (ecol s M j (u : Int)) ≤ x then 1 else 0) 0) n := by
      intro n
      induction n with
      | zero => rfl
      | succ n ih =>
        rw [sumU_1, sumU_1, ih]
        have e : cvn s M p j x (n : Int) = @ite _ (vcol (Cg s M) p j (n : Int)) (Classical.propDecidable _) (if epos s (ecol s M j (n : Int)) ≤ x then 1 else 0) 0 := by
          unfold cvn
          by_cases z : vcol (Cg s M) p j (n : Int)
          · have q := EDG_pos (eE n z)
            rw [if_pos z]
            by_cases y : gx M (n : Int) ≤ x
            · rw [if_pos ⟨z, y⟩, if_pos (by rw [← q]; exact y)]
            · rw [if_neg (fun u => y u.2), if_neg (by rw [← q]; exact y)]
          · rw [if_neg z, if_neg (fun u => z u.1)]
        rw [e]
    exact key _
  rw [x2, x1]
  refine (sumN_eq (fun k k0 k1 => ?_)).symm
  show @ite _ ((∃ q, VS s M k q ∧ orb (Cg s M) p q) ∧ inP s b (k / 2) ∧ epos s k ≤ x) (Classical.propDecidable _) 1 0 = @ite _ (∃ v : Nat, v < (gw M + 1).toNat ∧ vcol (Cg s M) p j (v : Int) ∧ ecol s M j (v : Int) = k) (Classical.propDecidable _) (if epos s k ≤ x then 1 else 0) 0
  have iff : (∃ v : Nat, v < (gw M + 1).toNat ∧ vcol (Cg s M) p j (v : Int) ∧ ecol s M j (v : Int) = k) ↔ ((∃ q, VS s M k q ∧ orb (Cg s M) p q) ∧ inP s b (k / 2)) := by
    constructor
    · rintro ⟨v, v1, v2, v3⟩
      have ed := eE v v2
      obtain ⟨e, q, ve, oq, ed2, _⟩ := vcol_VS h g hp v2
      have ee := EDG_one h ed ed2
      rw [v3] at ee ed
      rw [← ee] at ve
      refine ⟨⟨q, ve, oq⟩, ?_⟩
      obtain ⟨b', k', r', a', hk⟩ := ed
      have eb := RBd_one h b0 b1 a'.1 a'.2.1 r r'
      rw [eb, show k / 2 = k' by omega]
      exact a'
    · rintro ⟨⟨q, ve, oq⟩, ip⟩
      obtain ⟨i, j', i0, i1, j0', j1', ed, hq⟩ := ve
      obtain ⟨b', k', r', a', hk⟩ := id ed
      have ek : k / 2 = k' := by omega
      rw [ek] at ip
      have eb := inP_one h ip a'
      have ej : j' = j := (asc_inj g.2.2.2.2.2.1 j0' (by omega) j0 (by omega)).2.mp (by rw [r'.1, r.1, eb])
      rw [ej] at ed hq
      have ei : ((i.toNat : Nat) : Int) = i := by omega
      refine ⟨i.toNat, by omega, ?_, ?_⟩
      · rw [ei]
        rcases hq with ⟨_, z⟩ | ⟨_, z⟩
        · rw [z] at oq; exact Or.inr oq
        · rw [z] at oq; exact Or.inl oq
      · rw [ei]
        have vc : vcol (Cg s M) p j ((i.toNat : Nat) : Int) := by
          rw [ei]
          rcases hq with ⟨_, z⟩ | ⟨_, z⟩
          · rw [z] at oq; exact Or.inr oq
          · rw [z] at oq; exact Or.inl oq
        have ed2 := eE i.toNat vc
        rw [ei] at ed2
        exact EDG_one h ed2 ed
  by_cases z : (∃ q, VS s M k q ∧ orb (Cg s M) p q) ∧ inP s b (k / 2)
  · rw [if_pos (iff.mpr z)]
    by_cases y : epos s k ≤ x
    · rw [if_pos ⟨z.1, z.2, y⟩, if_pos y]
    · rw [if_neg (fun u => y u.2.2), if_neg y]
  · rw [if_neg (fun u => z (iff.mp u)), if_neg (fun u => z ⟨u.1, u.2.1⟩)]
/-- as often down as up -/
theorem row_even (h : wf s) (g : GL s M) {p : wlk} (hp : isS (Cg s M) p) {m : Nat} (m0 : 0 < m) (hm : sti (Cg s M) m p = p) (nr : ∀ u, 0 < u → u < m → sti (Cg s M) u p ≠ p) {b j : Int} (b0 : 0 ≤ b) (b1 : b < sn s) (j0 : 0 ≤ j) (j1 : j < gh M) (r : RBd s M b j) :
    sumN (fun e => @ite _ (∃ q, VS s M e q ∧ orb (Cg s M) p q) (Classical.propDecidable _) (@ite _ (inP s b (e / 2)) (Classical.propDecidable _) (if e % 2 = 0 then -1 else 1) 0) 0) (2 * nS_ s).toNat = 0 := by
  have x := loop_sum h g hp m0 hm nr (fun e => @ite _ (inP s b (e / 2)) (Classical.propDecidable _) (if e % 2 = 0 then -1 else 1) 0) (H := fun u => (if j < (sti (Cg s M) (u + 1) p).2.1 then 1 else 0) - (if j < (sti (Cg s M) u p).2.1 then 1 else 0)) (fun u u1 => ⟨fun w e v => ?_, fun w => ?_⟩)
  · rw [← x]
    have key : ∀ n : Nat, sumU (fun u => (if j < (sti (Cg s M) (u + 1) p).2.1 then (1 : Int) else 0) - (if j < (sti (Cg s M) u p).2.1 then 1 else 0)) n = (if j < (sti (Cg s M) n p).2.1 then 1 else 0) - (if j < p.2.1 then 1 else 0) := by
      intro n
      induction n with
      | zero =>
        show (0 : Int) = (if j < p.2.1 then 1 else 0) - (if j < p.2.1 then 1 else 0)
        omega
      | succ n ih =>
        rw [sumU_1, ih]
        omega
    rw [key, hm]
    omega
  · show (if j < (sti (Cg s M) (u + 1) p).2.1 then (1 : Int) else 0) - (if j < (sti (Cg s M) u p).2.1 then 1 else 0) = @ite _ (inP s b (e / 2)) (Classical.propDecidable _) (if e % 2 = 0 then -1 else 1) 0
    rw [sti_last]
    generalize sti (Cg s M) u p = q at *
    obtain ⟨i, j', i0, i1, j0', j1', ⟨b', k', r', a', hk⟩, hq⟩ := v
    have ek : e / 2 = k' := by omega
    have same : inP s b (e / 2) ↔ j' = j := by
      rw [ek]
      constructor
      · intro z
        have eb := inP_one h z a'
        exact (asc_inj g.2.2.2.2.2.1 j0' (by omega) j0 (by omega)).2.mp (by rw [r'.1, r.1, eb])
      · intro z
        rw [z] at r'
        rw [RBd_one h b0 b1 a'.1 a'.2.1 r r']
        exact a'
    rcases hq with ⟨par, rfl⟩ | ⟨par, rfl⟩
    · have y1 : (stp (Cg s M) (i, j' + 1, 3)).2.1 = j' := by show j' + 1 - 1 = j'; omega
      rw [y1]
      show (if j < j' then (1 : Int) else 0) - (if j < j' + 1 then 1 else 0) = _
      by_cases z : inP s b (e / 2)
      · have := same.mp z
        rw [if_pos z, if_pos par, if_neg (by omega), if_pos (by omega)]
        rfl
      · have : j' ≠ j := fun y => z (same.mpr y)
        rw [if_neg z]
        by_cases y : j < j'
        · rw [if_pos y, if_pos (by omega)]; rfl
        · rw [if_neg y, if_neg (by omega)]; rfl
    · have y1 : (stp (Cg s M) (i, j', 1)).2.1 = j' + 1 := rfl
      rw [y1]
      show (if j < j' + 1 then (1 : Int) else 0) - (if j < j' then 1 else 0) = _
      by_cases z : inP s b (e / 2)
      · have := same.mp z
        rw [if_pos z, if_neg (show ¬ e % 2 = 0 by omega), if_pos (by omega), if_neg (by omega)]
        rfl
      · have : j' ≠ j := fun y => z (same.mpr y)
        rw [if_neg z]
        by_cases y : j < j'
        · rw [if_pos y, if_pos (by omega)]; rfl
        · rw [if_neg y, if_neg (by omega)]; rfl
  · show (if j < (sti (Cg s M) (u + 1) p).2.1 then (1 : Int) else 0) - (if j < (sti (Cg s M) u p).2.1 then 1 else 0) = 0
    rw [sti_last]
    have w4 := (sti_isS hp u).1
    have e : (stp (Cg s M) (sti (Cg s M) u p)).2.1 = (sti (Cg s M) u p).2.1 := by
      show goY (sti (Cg s M) u p) = _
      unfold goY
      rw [if_neg (fun z => w (Or.inl z)), if_neg (fun z => w (Or.inr z))]
    rw [e]
    omega
/-- in a row of the grid there is an even number of them -/
theorem row_tot (h : wf s) (g : GL s M) {p : wlk} (hp : isS (Cg s M) p) {m : Nat} (m0 : 0 < m) (hm : sti (Cg s M) m p = p) (nr : ∀ u, 0 < u → u < m → sti (Cg s M) u p ≠ p) {j : Int} (j0 : 0 ≤ j) (j1 : j < gh M) : sumN (cvn s M p j 1000) (gw M + 1).toNat % 2 = 0 := by
  have B := GL_GB h g (isS_sn hp g)
  have W0 : 0 ≤ gw M := g.1
  by_cases z : ∃ i, cel s M i j
  · obtain ⟨i, c⟩ := z
    obtain ⟨b, k, r, a, _, _⟩ := cel_at h g c
    rw [row_eq h g hp a.1 a.2.1 j0 j1 r 1000]
    have ev := row_even h g hp m0 hm nr a.1 a.2.1 j0 j1 r
    have x := sumN_par (f := fun e => @ite _ ((∃ q, VS s M e q ∧ orb (Cg s M) p q) ∧ inP s b (e / 2) ∧ epos s e ≤ 1000) (Classical.propDecidable _) 1 0) (g := fun e => @ite _ (∃ q, VS s M e q ∧ orb (Cg s M) p q) (Classical.propDecidable _) (@ite _ (inP s b (e / 2)) (Classical.propDecidable _) (if e % 2 = 0 then -1 else 1) 0) 0) (n := (2 * nS_ s).toNat) (fun e e0 e1 => by
      show (@ite _ ((∃ q, VS s M e q ∧ orb (Cg s M) p q) ∧ inP s b (e / 2) ∧ epos s e ≤ 1000) (Classical.propDecidable _) (1 : Int) 0 - @ite _ (∃ q, VS s M e q ∧ orb (Cg s M) p q) (Classical.propDecidable _) (@ite _ (inP s b (e / 2)) (Classical.propDecidable _) (if e % 2 = 0 then -1 else 1) 0) 0) % 2 = 0
      by_cases q1 : ∃ q, VS s M e q ∧ orb (Cg s M) p q
      · by_cases q2 : inP s b (e / 2)
        · have bk := h.2.2.1 b q2.1 q2.2.1
          have y := bk.2.2.2.2.2 _ q2.2.2.1 q2.2.2.2
          have y2 := bk.2.2.2.2.1.1 _ q2.2.2.1 q2.2.2.2
          have ep : epos s e ≤ 1000 := by
            unfold epos
            split <;> omega
          rw [if_pos ⟨q1, q2, ep⟩, if_pos q1, if_pos q2]
          split <;> rfl
        · rw [if_neg (fun u => q2 u.2.1), if_pos q1, if_neg q2]
          rfl
      · rw [if_neg (fun u => q1 u.1), if_neg q1]
        rfl)
    rw [ev] at x
    omega
  · have zz : sumN (cvn s M p j 1000) (gw M + 1).toNat = 0 := sumN_z (fun c c0 c1 => if_neg (fun u => by
      obtain ⟨e, q, _, _, ed, i0, i1, _, _⟩ := vcol_VS h g hp u.1
      obtain ⟨b, k, r, a, hk⟩ := ed
      apply z
      rcases hk with ⟨_, y⟩ | ⟨_, y⟩
      · exact ⟨_, (EDG_dn h g i0 i1 j0 j1 r a y).1⟩
      · exact ⟨_, (EDG_up h g i0 i1 j0 j1 r a y).1⟩))
    rw [zz]
    rfl
end
