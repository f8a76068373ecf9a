/-! ===== the sides of all loops together ===== -/
theorem sumU_add {f g : Nat → Int} : ∀ n : Nat, sumU (fun u => f u + g u) n = sumU f n + sumU g n := by
  intro n
  induction n with
  | zero => rfl
  | succ n ih =>
    rw [sumU_1, sumU_1, sumU_1, ih]
    omega
theorem sumN_const {c : Int} : ∀ n : Nat, sumN (fun _ => c) n = (n : Int) * c := by
  intro n
  induction n with
  | zero =>
    show (0 : Int) = ((0 : Nat) : Int) * c
    rw [show ((0 : Nat) : Int) = 0 from rfl, Int.zero_mul]
  | succ n ih =>
    show sumN (fun _ => c) n + c = _
    rw [ih, show ((n + 1 : Nat) : Int) = (n : Int) + 1 by omega, Int.add_mul, Int.one_mul]
section
variable {s : sh} {M : mm_M}
theorem sum_bands (h : wf s) (f : Int → Int) : sumN f (nS_ s).toNat = sumN (fun b => sumN (fun k => f (sst s b + k)) (sst s (b + 1) - sst s b).toNat) (sn s).toNat := by
  have key : ∀ n : Nat, (n : Int) ≤ sn s → sumN f (sst s n).toNat = sumN (fun b => sumN (fun k => f (sst s b + k)) (sst s (b + 1) - sst s b).toNat) n := by
    intro n
    induction n with
    | zero =>
      intro _
      have e : sst s ((0 : Nat) : Int) = 0 := h.2.1
      rw [e]
      rfl
    | succ n ih =>
      intro hn
      have bk := (h.2.2.1 n (by omega) (by omega)).1
      have z0 := sst_mono h (Int.le_refl 0) (show (0 : Int) ≤ n by omega) (show (n : Int) ≤ sn s by omega)
      rw [h.2.1] at z0
      rw [show ((n + 1 : Nat) : Int) = (n : Int) + 1 by omega, show (sst s ((n : Int) + 1)).toNat = (sst s (n : Int)).toNat + (sst s ((n : Int) + 1) - sst s (n : Int)).toNat by omega, sumN_split, ih (by omega)]
      show _ = sumN (fun b => sumN (fun k => f (sst s b + k)) (sst s (b + 1) - sst s b).toNat) n + sumN (fun k => f (sst s (n : Int) + k)) (sst s ((n : Int) + 1) - sst s (n : Int)).toNat
      rw [show (((sst s (n : Int)).toNat : Nat) : Int) = sst s (n : Int) by omega]
  have n0 := h.1
  have x := key (sn s).toNat (by omega)
  rw [show (((sn s).toNat : Nat) : Int) = sn s by omega] at x
  exact x
/-- the height of an edge -/
noncomputable def vE (s : sh) (e : Int) : Int := shi s (bnd s (e / 2)) - slo s (bnd s (e / 2))
theorem sum_vE (h : wf s) : sumN (vE s) (2 * nS_ s).toNat = sumN (fun b => 2 * (sst s (b + 1) - sst s b) * (shi s b - slo s b)) (sn s).toNat := by
  have nS0 := nS0_ h
  rw [show (2 * nS_ s).toNat = 2 * (nS_ s).toNat by omega, sum_pair, sum_bands h]
  refine sumN_eq (fun b b0 b1 => ?_)
  have bk := (h.2.2.1 b b0 (by omega)).1
  have e : sumN (fun k => vE s (2 * (sst s b + k)) + vE s (2 * (sst s b + k) + 1)) (sst s (b + 1) - sst s b).toNat = sumN (fun _ => 2 * (shi s b - slo s b)) (sst s (b + 1) - sst s b).toNat := sumN_eq (fun k k0 k1 => by
    unfold vE
    rw [show 2 * (sst s b + k) / 2 = sst s b + k by omega, show (2 * (sst s b + k) + 1) / 2 = sst s b + k by omega, bnd_eq h (b := b) ⟨b0, by omega, by omega, by omega⟩]
    omega)
  rw [e, sumN_const, show (((sst s (b + 1) - sst s b).toNat : Nat) : Int) = sst s (b + 1) - sst s b by omega]
  rw [Int.mul_comm 2 (sst s (b + 1) - sst s b), Int.mul_assoc]
/-- flat sides by number -/
def hk (W : Int) (q : wlk) : Int := if q.2.2 = 0 then 2 * (q.2.1 * (W + 1) + q.1) else 2 * (q.2.1 * (W + 1) + (q.1 - 1)) + 1
def hsd (W K : Int) : wlk := if K % 2 = 0 then ((K / 2) % (W + 1), (K / 2) / (W + 1), 0) else ((K / 2) % (W + 1) + 1, (K / 2) / (W + 1), 2)
def dxK (M : mm_M) (K : Int) : Int := gx M ((K / 2) % (gw M + 1) + 1) - gx M ((K / 2) % (gw M + 1))
theorem hk_hsd {W : Int} (K : Int) : hk W (hsd W K) = K ∧ ((hsd W K).2.2 = 0 ∨ (hsd W K).2.2 = 2) := by
  have e := Int.mul_ediv_add_emod (K / 2) (W + 1)
  rw [Int.mul_comm] at e
  unfold hsd
  by_cases z : K % 2 = 0
  · rw [if_pos z]
    refine ⟨?_, Or.inl rfl⟩
    show 2 * (K / 2 / (W + 1) * (W + 1) + K / 2 % (W + 1)) = K
    omega
  · rw [if_neg z]
    refine ⟨?_, Or.inr rfl⟩
    show 2 * (K / 2 / (W + 1) * (W + 1) + (K / 2 % (W + 1) + 1 - 1)) + 1 = K
    omega
theorem hsd_hk {q : wlk} (hq : isS (Cg s M) q) (w : q.2.2 = 0 ∨ q.2.2 = 2) : hsd (gw M) (hk (gw M) q) = q ∧ 0 ≤ hk (gw M) q ∧ hk (gw M) q < 2 * ((gw M + 1) * (gh M + 1)) := by
  have r := isS_rg hq
  obtain ⟨i, j, v⟩ := q
  have w' : v = 0 ∨ v = 2 := w
  have r1 : 0 ≤ i := r.1
  have r2 : i ≤ gw M := r.2.1
  have r3 : 0 ≤ j := r.2.2.1
  have r4 : j ≤ gh M := r.2.2.2.1
  have a : 0 ≤ j * (gw M + 1) := Int.mul_nonneg r3 (by omega)
  have b : j * (gw M + 1) ≤ gh M * (gw M + 1) := Int.mul_le_mul_of_nonneg_right r4 (by omega)
  have c : (gw M + 1) * (gh M + 1) = gh M * (gw M + 1) + (gw M + 1) := by
    rw [Int.mul_add, Int.mul_one, Int.mul_comm]
  rcases w' with rfl | rfl
  · have e : hk (gw M) (i, j, 0) = 2 * (j * (gw M + 1) + i) := rfl
    have d := dec_ix (w := gw M + 1) (j := j) r1 (by omega)
    rw [e]
    refine ⟨?_, by omega, by omega⟩
    unfold hsd
    rw [if_pos (by omega), show 2 * (j * (gw M + 1) + i) / 2 = j * (gw M + 1) + i by omega, d.1, d.2]
  · have r6 := r.2.2.2.2.2.2.1 rfl
    have r7 : 0 < i := r6.1
    have e : hk (gw M) (i, j, 2) = 2 * (j * (gw M + 1) + (i - 1)) + 1 := rfl
    have d := dec_ix (w := gw M + 1) (j := j) (c := i - 1) (by omega) (by omega)
    rw [e]
    refine ⟨?_, by omega, by omega⟩
    unfold hsd
    rw [if_neg (by omega), show (2 * (j * (gw M + 1) + (i - 1)) + 1) / 2 = j * (gw M + 1) + (i - 1) by omega, d.1, d.2, show i - 1 + 1 = i by omega]
/-- the flat sides of a loop -/
theorem loop_flat (g : GL s M) {p : wlk} (hp : isS (Cg s M) p) {m : Nat} (m0 : 0 < m) (hm : sti (Cg s M) m p = p) (nr : ∀ u, 0 < u → u < m → sti (Cg s M) u p ≠ p) :
    sumU (fun u => @ite _ ((sti (Cg s M) u p).2.2 = 0 ∨ (sti (Cg s M) u p).2.2 = 2) (Classical.propDecidable _) (slen (Cg s M) M p u) 0) m = sumN (fun K => @ite _ (orb (Cg s M) p (hsd (gw M) K)) (Classical.propDecidable _) (dxK M K) 0) (2 * ((gw M + 1) * (gh M + 1))).toNat := by
  have x := sum_imgP (P := fun u => (sti (Cg s M) u p).2.2 = 0 ∨ (sti (Cg s M) u p).2.2 = 2) (g := fun u => hk (gw M) (sti (Cg s M) u p)) (w := dxK M) (N := (2 * ((gw M + 1) * (gh M + 1))).toNat) m (fun u u1 pu => by
    have y := hsd_hk (sti_isS hp u) pu
    exact ⟨y.2.1, by have := y.2.2; omega⟩) (fun u v uv vm pu pv e => by
    have y := hsd_hk (sti_isS hp u) pu
    have z := hsd_hk (sti_isS hp v) pv
    have e' : hk (gw M) (sti (Cg s M) u p) = hk (gw M) (sti (Cg s M) v p) := e
    rw [e', z.1] at y
    exact loop_inj hp hm nr u v uv vm y.1.symm)
  have y : sumU (fun u => @ite _ ((sti (Cg s M) u p).2.2 = 0 ∨ (sti (Cg s M) u p).2.2 = 2) (Classical.propDecidable _) (slen (Cg s M) M p u) 0) m = sumU (fun u => @ite _ ((sti (Cg s M) u p).2.2 = 0 ∨ (sti (Cg s M) u p).2.2 = 2) (Classical.propDecidable _) (dxK M (hk (gw M) (sti (Cg s M) u p))) 0) m := by
    have key : ∀ n : Nat, sumU (fun u => @ite _ ((sti (Cg s M) u p).2.2 = 0 ∨ (sti (Cg s M) u p).2.2 = 2) (Classical.propDecidable _) (slen (Cg s M) M p u) 0) n = sumU (fun u => @ite _ ((sti (Cg s M) u p).2.2 = 0 ∨ (sti (Cg s M) u p).2.2 = 2) (Classical.propDecidable _) (dxK M (hk (gw M) (sti (Cg s M) u p))) 0) n := by
      intro n
      induction n with
      | zero => rfl
      | succ n ih =>
        rw [sumU_1, sumU_1, ih]
        by_cases z : (sti (Cg s M) n p).2.2 = 0 ∨ (sti (Cg s M) n p).2.2 = 2
        · rw [if_pos z, if_pos z]
          have e : slen (Cg s M) M p n = dxK M (hk (gw M) (sti (Cg s M) n p)) := by
            unfold slen
            rw [sti_last]
            have iq := sti_isS hp n
            have r := isS_rg iq
            generalize sti (Cg s M) n p = q at *
            obtain ⟨i, j, v⟩ := q
            have z' : v = 0 ∨ v = 2 := z
            have r1 : 0 ≤ i := r.1
            have r2 : i ≤ gw M := r.2.1
            rcases z' with rfl | rfl
            · have d := dec_ix (w := gw M + 1) (j := j) r1 (by omega)
              have e : hk (gw M) (i, j, 0) = 2 * (j * (gw M + 1) + i) := rfl
              unfold dxK
              rw [e, show 2 * (j * (gw M + 1) + i) / 2 = j * (gw M + 1) + i by omega, d.1]
              show (gx M (i + 1) - gx M i) * 1 = _
              omega
            · have r6 := r.2.2.2.2.2.2.1 rfl
              have r7 : 0 < i := r6.1
              have d := dec_ix (w := gw M + 1) (j := j) (c := i - 1) (by omega) (by omega)
              have e : hk (gw M) (i, j, 2) = 2 * (j * (gw M + 1) + (i - 1)) + 1 := rfl
              unfold dxK
              rw [e, show (2 * (j * (gw M + 1) + (i - 1)) + 1) / 2 = j * (gw M + 1) + (i - 1) by omega, d.1, show i - 1 + 1 = i by omega]
              show (gx M (i - 1) - gx M i) * -1 = _
              omega
          rw [e]
        · rw [if_neg z, if_neg z]
    exact key m
  rw [y, x]
  refine (sumN_eq (fun K k0 k1 => ?_)).symm
  show @ite _ (orb (Cg s M) p (hsd (gw M) K)) (Classical.propDecidable _) (dxK M K) 0 = @ite _ (∃ v, v < m ∧ ((sti (Cg s M) v p).2.2 = 0 ∨ (sti (Cg s M) v p).2.2 = 2) ∧ hk (gw M) (sti (Cg s M) v p) = K) (Classical.propDecidable _) (dxK M K) 0
  by_cases z : orb (Cg s M) p (hsd (gw M) K)
  · have ex : ∃ v, v < m ∧ ((sti (Cg s M) v p).2.2 = 0 ∨ (sti (Cg s M) v p).2.2 = 2) ∧ hk (gw M) (sti (Cg s M) v p) = K := by
      obtain ⟨v, e⟩ := z
      refine ⟨v % m, Nat.mod_lt _ m0, ?_⟩
      rw [← sti_mod hm, e]
      exact ⟨(hk_hsd K).2, (hk_hsd K).1⟩
    rw [if_pos z, if_pos ex]
  · have nex : ¬ ∃ v, v < m ∧ ((sti (Cg s M) v p).2.2 = 0 ∨ (sti (Cg s M) v p).2.2 = 2) ∧ hk (gw M) (sti (Cg s M) v p) = K := fun ⟨v, v1, v2, v3⟩ => z ⟨v, by rw [← v3, (hsd_hk (sti_isS hp v) v2).1]⟩
    rw [if_neg z, if_neg nex]
/-- one loop -/
theorem clen_two {Mc : mm_M} {l : Int} {p : wlk} {m : Nat} (h : CLP s M Mc l p m) (mk : ∀ e q, VS s M e q → (Mc.1 18 e = l ↔ orb (Cg s M) p q)) : clenF Mc l = sumN (fun e => if Mc.1 18 e = l then vE s e else 0) (2 * nS_ s).toNat + sumN (fun K => @ite _ (orb (Cg s M) p (hsd (gw M) K)) (Classical.propDecidable _) (dxK M K) 0) (2 * ((gw M + 1) * (gh M + 1))).toNat := by
  rw [← (clen_eq h).1]
  obtain ⟨w, g, l0, l1, b0, b1, hp, tl, L⟩ := h
  rw [← loop_flat g hp L.1 L.2.1 L.2.2.1, ← orb_marks w g mk (vE s), ← loop_sum w g hp L.1 L.2.1 L.2.2.1 (vE s) (H := fun u => @ite _ ((sti (Cg s M) u p).2.2 = 0 ∨ (sti (Cg s M) u p).2.2 = 2) (Classical.propDecidable _) 0 (slen (Cg s M) M p u)) (fun u u1 => ⟨fun w' e v => ?_, fun w' => ?_⟩), ← sumU_add]
  · refine sumU_cong _ (fun u _ => ?_)
    by_cases z : (sti (Cg s M) u p).2.2 = 0 ∨ (sti (Cg s M) u p).2.2 = 2
    · rw [if_pos z, if_pos z]
      omega
    · rw [if_neg z, if_neg z]
      omega
  · show @ite _ ((sti (Cg s M) u p).2.2 = 0 ∨ (sti (Cg s M) u p).2.2 = 2) (Classical.propDecidable _) 0 (slen (Cg s M) M p u) = vE s e
    rw [if_neg (by omega)]
    unfold slen
    rw [sti_last]
    generalize sti (Cg s M) u p = q at *
    obtain ⟨i, j, i0, i1, j0, j1, ⟨b, k, r, a, hkk⟩, hq⟩ := v
    unfold vE
    rw [show e / 2 = k by omega, bnd_eq w a, ← r.1, ← r.2]
    rcases hq with ⟨par, rfl⟩ | ⟨par, rfl⟩
    · show (gy M (j + 1 - 1) - gy M (j + 1)) * -1 = _
      rw [show j + 1 - 1 = j by omega]
      omega
    · show (gy M (j + 1) - gy M j) * 1 = _
      omega
  · show @ite _ ((sti (Cg s M) u p).2.2 = 0 ∨ (sti (Cg s M) u p).2.2 = 2) (Classical.propDecidable _) 0 (slen (Cg s M) M p u) = 0
    have w4 := (sti_isS hp u).1
    rw [if_pos (by omega)]
/-- all loops -/
theorem clen_all {Mc : mm_M} (w : wf s) (F : FLS s M) (T : MTC s M Mc) : sumN (fun l => clenF Mc l) (Mc.1 17 0).toNat = sumN (vE s) (2 * nS_ s).toNat + sumN (fun K => @ite _ (isS (Cg s M) (hsd (gw M) K)) (Classical.propDecidable _) (dxK M K) 0) (2 * ((gw M + 1) * (gh M + 1))).toNat := by
  have g := F.1.1
  obtain ⟨t1, t2, t3, t4, t5, t6, t7, t8⟩ := T
  have nS0 := nS0_ w
  have e1 : sumN (fun l => clenF Mc l) (Mc.1 17 0).toNat = sumN (fun l => sumN (fun e => if Mc.1 18 e = l then vE s e else 0) (2 * nS_ s).toNat + sumN (fun K => @ite _ (orb (Cg s M) (st3 M l) (hsd (gw M) K)) (Classical.propDecidable _) (dxK M K) 0) (2 * ((gw M + 1) * (gh M + 1))).toNat) (Mc.1 17 0).toNat := sumN_eq (fun l l0 l1 => by
    obtain ⟨m, C⟩ := t7 l l0 (by omega)
    exact clen_two C (fun e q v => (t8 e q v).2.2 l l0 (by omega)))
  rw [e1, sumN_add, sum_marks (mk := fun e => Mc.1 18 e) (fun e e0 e1 => by
    obtain ⟨q, v⟩ := VS_ex w g e0 (show e < 2 * nS_ s by omega)
    have := t8 e q v
    exact ⟨this.1, by have := this.2.1; omega⟩), sumN_swap]
  have e2 : sumN (fun K => sumN (fun l => @ite _ (orb (Cg s M) (st3 M l) (hsd (gw M) K)) (Classical.propDecidable _) (dxK M K) 0) (Mc.1 17 0).toNat) (2 * ((gw M + 1) * (gh M + 1))).toNat = sumN (fun K => @ite _ (isS (Cg s M) (hsd (gw M) K)) (Classical.propDecidable _) (dxK M K) 0) (2 * ((gw M + 1) * (gh M + 1))).toNat := sumN_eq (fun K k0 k1 => by
    generalize hsd (gw M) K = q
    generalize dxK M K = d
    obtain ⟨_, f1, f2, f3, f4, f5⟩ := F
    by_cases z : isS (Cg s M) q
    · rw [if_pos z]
      obtain ⟨l, l0, l1, o⟩ := f5 q z
      have u := sumN_upd (f := fun _ => 0) (g := fun l => @ite _ (orb (Cg s M) (st3 M l) q) (Classical.propDecidable _) d 0) (n := (Mc.1 17 0).toNat) l0 (by omega) (fun l' k0 k1 ne => if_neg (fun o' => ne (by
        obtain ⟨a1, a2, ⟨m, m0, hm⟩, a4⟩ := f3 l l0 l1
        obtain ⟨b1, b2, ⟨m', m0', hm'⟩, b4⟩ := f3 l' k0 (by omega)
        have x := a4 _ (orb_tr o (orb_sym m0' hm' o'))
        have y := b4 _ (orb_tr o' (orb_sym m0 hm o))
        by_cases z1 : l < l'
        · have := f4 l l' l0 z1 (by omega)
          omega
        · by_cases z2 : l' < l
          · have := f4 l' l k0 z2 l1
            omega
          · omega)))
      have zz : sumN (fun _ => 0) (Mc.1 17 0).toNat = 0 := sumN_z (fun _ _ _ => rfl)
      have y1 : @ite _ (orb (Cg s M) (st3 M l) q) (Classical.propDecidable _) d 0 = d := if_pos o
      rw [zz, y1] at u
      rw [u]
      omega
    · rw [if_neg z]
      exact sumN_z (fun l l0 l1 => if_neg (fun o => z (orb_isS (f3 l l0 (by omega)).1 o))))
  rw [e2]
end
