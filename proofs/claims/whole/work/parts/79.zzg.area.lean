/-! ===== what a loop goes round, by its edges ===== -/
theorem sum_imgP {P : Nat → Prop} {g : Nat → Int} {w : Int → Int} {N : Nat} : ∀ m : Nat, (∀ u, u < m → P u → 0 ≤ g u ∧ g u < (N : Int)) → (∀ u v, u < v → v < m → P u → P v → g u ≠ g v) → sumU (fun u => @ite _ (P u) (Classical.propDecidable _) (w (g u)) 0) m = sumN (fun K => @ite _ (∃ v, v < m ∧ P v ∧ g v = K) (Classical.propDecidable _) (w K) 0) N := by
  intro m
  induction m with
  | zero =>
    intro _ _
    have z : ∀ n : Nat, sumN (fun K => @ite _ (∃ v, v < 0 ∧ P v ∧ g v = K) (Classical.propDecidable _) (w K) 0) n = 0 := by
      intro n
      induction n with
      | zero => rfl
      | succ n ih =>
        show sumN _ n + @ite _ (∃ v, v < 0 ∧ P v ∧ g v = (n : Int)) (Classical.propDecidable _) (w n) 0 = 0
        rw [ih, if_neg (fun ⟨v, a, _⟩ => absurd a (by omega))]
        rfl
    rw [z]
    rfl
  | succ m ih =>
    intro r inj
    have a := ih (fun u h => r u (by omega)) (fun u v h1 h2 => inj u v h1 (by omega))
    rw [sumU_1, a]
    by_cases pm : P m
    · have b := r m (by omega) pm
      have up := sumN_upd (f := fun K => @ite _ (∃ v, v < m ∧ P v ∧ g v = K) (Classical.propDecidable _) (w K) 0) (g := fun K => @ite _ (∃ v, v < m + 1 ∧ P v ∧ g v = K) (Classical.propDecidable _) (w K) 0) (n := N) (j := g m) b.1 b.2 (fun k k0 k1 z => by
        show @ite _ (∃ v, v < m + 1 ∧ P v ∧ g v = k) (Classical.propDecidable _) (w k) 0 = @ite _ (∃ v, v < m ∧ P v ∧ g v = k) (Classical.propDecidable _) (w k) 0
        by_cases y : ∃ v, v < m ∧ P v ∧ g v = k
        · have y2 : ∃ v, v < m + 1 ∧ P v ∧ g v = k := by
            obtain ⟨v, v1, v2⟩ := y
            exact ⟨v, by omega, v2⟩
          rw [if_pos y, if_pos y2]
        · have y2 : ¬ ∃ v, v < m + 1 ∧ P v ∧ g v = k := fun ⟨v, v1, v0, v2⟩ => by
            by_cases e : v = m
            · rw [e] at v2; exact z v2.symm
            · exact y ⟨v, by omega, v0, v2⟩
          rw [if_neg y, if_neg y2])
      have e1 : @ite _ (∃ v, v < m ∧ P v ∧ g v = g m) (Classical.propDecidable _) (w (g m)) 0 = 0 := if_neg (fun ⟨v, v1, v0, v2⟩ => inj v m v1 (by omega) v0 pm v2)
      have e2 : @ite _ (∃ v, v < m + 1 ∧ P v ∧ g v = g m) (Classical.propDecidable _) (w (g m)) 0 = w (g m) := if_pos ⟨m, by omega, pm, rfl⟩
      rw [e1, e2] at up
      rw [up, if_pos pm]
      omega
    · rw [if_neg pm]
      have e : sumN (fun K => @ite _ (∃ v, v < m + 1 ∧ P v ∧ g v = K) (Classical.propDecidable _) (w K) 0) N = sumN (fun K => @ite _ (∃ v, v < m ∧ P v ∧ g v = K) (Classical.propDecidable _) (w K) 0) N := sumN_eq (fun k k0 k1 => by
        show @ite _ (∃ v, v < m + 1 ∧ P v ∧ g v = k) (Classical.propDecidable _) (w k) 0 = @ite _ (∃ v, v < m ∧ P v ∧ g v = k) (Classical.propDecidable _) (w k) 0
        by_cases y : ∃ v, v < m ∧ P v ∧ g v = k
        · have y2 : ∃ v, v < m + 1 ∧ P v ∧ g v = k := by
            obtain ⟨v, v1, v2⟩ := y
            exact ⟨v, by omega, v2⟩
          rw [if_pos y, if_pos y2]
        · have y2 : ¬ ∃ v, v < m + 1 ∧ P v ∧ g v = k := fun ⟨v, v1, v0, v2⟩ => by
            by_cases e : v = m
            · rw [e] at v0; exact pm v0
            · exact y ⟨v, by omega, v0, v2⟩
          rw [if_neg y, if_neg y2])
      rw [e]
      omega
def xdy (C : Int → Int → Bool) (M : mm_M) (p : wlk) (u : Nat) : Int := px M (sti C u p) * (py M (sti C (u + 1) p) - py M (sti C u p))
/-- the band of a stretch -/
noncomputable def bnd (s : sh) (k : Int) : Int := @ite _ (∃ b, inP s b k) (Classical.propDecidable _) (Classical.epsilon (fun b => inP s b k)) 0
/-- what an edge adds -/
noncomputable def eF (s : sh) (e : Int) : Int := if e % 2 = 0 then slf s (e / 2) * (slo s (bnd s (e / 2)) - shi s (bnd s (e / 2))) else srt s (e / 2) * (shi s (bnd s (e / 2)) - slo s (bnd s (e / 2)))
theorem inP_one {s : sh} (w : wf s) {b b' k : Int} (a : inP s b k) (a' : inP s b' k) : b = b' := by
  have m1 := a.2.2.1
  have m2 := a.2.2.2
  have m3 := a'.2.2.1
  have m4 := a'.2.2.2
  by_cases q : b' < b
  · have := sst_mono w (show 0 ≤ b' + 1 by have := a'.1; omega) (show b' + 1 ≤ b by omega) (show b ≤ sn s by have := a.2.1; omega)
    omega
  · by_cases q2 : b < b'
    · have := sst_mono w (show 0 ≤ b + 1 by have := a.1; omega) (show b + 1 ≤ b' by omega) (show b' ≤ sn s by have := a'.2.1; omega)
      omega
    · omega
theorem bnd_eq {s : sh} (w : wf s) {b k : Int} (a : inP s b k) : bnd s k = b := by
  unfold bnd
  rw [if_pos ⟨b, a⟩]
  have q : inP s (Classical.epsilon (fun b => inP s b k)) k := Classical.epsilon_spec (p := fun b => inP s b k) ⟨b, a⟩
  exact inP_one w q a
section
variable {s : sh} {M : mm_M}
theorem rnd2 (g : GL s M) {p : wlk} (hp : isS (Cg s M) p) {m : Nat} (hm : sti (Cg s M) m p = p) : sumU (srnd (Cg s M) M p) m = 2 * sumU (xdy (Cg s M) M p) m := by
  have key : ∀ n : Nat, sumU (srnd (Cg s M) M p) n + (px M (sti (Cg s M) n p) * py M (sti (Cg s M) n p) - px M p * py M p) = 2 * sumU (xdy (Cg s M) M p) n := by
    intro n
    induction n with
    | zero =>
      show (0 : Int) + (px M p * py M p - px M p * py M p) = 2 * 0
      omega
    | succ n ih =>
      rw [sumU_1, sumU_1]
      have S := way_step g (sti_isS hp n)
      have w4 := (sti_isS hp n).1
      generalize sumU (srnd (Cg s M) M p) n = A at *
      generalize sumU (xdy (Cg s M) M p) n = B at *
      unfold srnd xdy
      rw [sti_last]
      generalize px M (sti (Cg s M) n p) = a at *
      generalize py M (sti (Cg s M) n p) = b at *
      generalize px M (stp (Cg s M) (sti (Cg s M) n p)) = a1 at *
      generalize py M (stp (Cg s M) (sti (Cg s M) n p)) = b1 at *
      rw [Int.mul_sub]
      rcases w4 with w | w | w | w
      · rw [(S.1 w).1]; omega
      · rw [(S.2.1 w).1]; omega
      · rw [(S.2.2.1 w).1]; omega
      · rw [(S.2.2.2 w).1]; omega
  have x := key m
  rw [hm] at x
  omega
/-- an upright side and its edge -/
theorem VS_eF (h : wf s) (g : GL s M) {e : Int} {p : wlk} (v : VS s M e p) : px M p * (py M (stp (Cg s M) p) - py M p) = eF s e := by
  obtain ⟨i, j, i0, i1, j0, j1, ⟨b, k, r, a, hk⟩, hp⟩ := v
  rcases hp with ⟨par, rfl⟩ | ⟨par, rfl⟩
  · have hk' : e = 2 * k ∧ gx M i = slf s k := by
      rcases hk with z | z
      · exact z
      · omega
    unfold eF
    rw [if_pos par, show e / 2 = k by omega, bnd_eq h a, ← r.1, ← r.2, ← hk'.2]
    show gx M i * (gy M (j + 1 - 1) - gy M (j + 1)) = _
    rw [show j + 1 - 1 = j by omega]
  · have hk' : e = 2 * k + 1 ∧ gx M i = srt s k := by
      rcases hk with z | z
      · omega
      · exact z
    unfold eF
    rw [if_neg (by omega), show e / 2 = k by omega, bnd_eq h a, ← r.1, ← r.2, ← hk'.2]
    rfl
noncomputable def ekey (s : sh) (M : mm_M) (p : wlk) : Int := Classical.epsilon (fun e => VS s M e p)
theorem ekey_VS (h : wf s) (g : GL s M) {p : wlk} (hp : isS (Cg s M) p) (w : p.2.2 = 1 ∨ p.2.2 = 3) : VS s M (ekey s M p) p := Classical.epsilon_spec (VS_of h g hp w)
/-- the sum over a loop is the sum over its edges -/
theorem loop_sum (h : wf s) (g : GL s M) {p : wlk} (hp : isS (Cg s M) p) {m : Nat} (m0 : 0 < m) (hm : sti (Cg s M) m p = p) (nr : ∀ u, 0 < u → u < m → sti (Cg s M) u p ≠ p) (F : Int → Int) {H : Nat → Int} (hH : ∀ u, u < m → (((sti (Cg s M) u p).2.2 = 1 ∨ (sti (Cg s M) u p).2.2 = 3) → ∀ e, VS s M e (sti (Cg s M) u p) → H u = F e) ∧ (¬ ((sti (Cg s M) u p).2.2 = 1 ∨ (sti (Cg s M) u p).2.2 = 3) → H u = 0)) :
    sumU H m = sumN (fun e => @ite _ (∃ q, VS s M e q ∧ orb (Cg s M) p q) (Classical.propDecidable _) (F e) 0) (2 * nS_ s).toNat := by
  have nS0 : 0 ≤ nS_ s := by
    have := sst_mono h (Int.le_refl 0) h.1 (Int.le_refl _)
    rw [h.2.1] at this
    exact this
  have x := sum_imgP (P := fun u => (sti (Cg s M) u p).2.2 = 1 ∨ (sti (Cg s M) u p).2.2 = 3) (g := fun u => ekey s M (sti (Cg s M) u p)) (w := F) (N := (2 * nS_ s).toNat) m (fun u u1 pu => by
    have v := ekey_VS h g (sti_isS hp u) pu
    have r := VS_isS h g v
    exact ⟨r.2.2.1, by have := r.2.2.2; omega⟩) (fun u v uv vm pu pv e => by
    have a := ekey_VS h g (sti_isS hp u) pu
    have b := ekey_VS h g (sti_isS hp v) pv
    have e' : ekey s M (sti (Cg s M) u p) = ekey s M (sti (Cg s M) v p) := e
    rw [e'] at a
    exact loop_inj hp hm nr u v uv vm (VS_fun h g a b))
  have y : sumU H m = sumU (fun u => @ite _ ((sti (Cg s M) u p).2.2 = 1 ∨ (sti (Cg s M) u p).2.2 = 3) (Classical.propDecidable _) (F (ekey s M (sti (Cg s M) u p))) 0) m := by
    have key : ∀ n : Nat, n ≤ m → sumU H n = sumU (fun u => @ite _ ((sti (Cg s M) u p).2.2 = 1 ∨ (sti (Cg s M) u p).2.2 = 3) (Classical.propDecidable _) (F (ekey s M (sti (Cg s M) u p))) 0) n := by
      intro n
      induction n with
      | zero => intro _; rfl
      | succ n ih =>
        intro hn
        rw [sumU_1, sumU_1, ih (by omega)]
        have q := hH n (by omega)
        by_cases z : (sti (Cg s M) n p).2.2 = 1 ∨ (sti (Cg s M) n p).2.2 = 3
        · rw [if_pos z, q.1 z _ (ekey_VS h g (sti_isS hp n) z)]
        · rw [if_neg z, q.2 z]
    exact key m (Nat.le_refl _)
  rw [y, x]
  refine sumN_eq (fun k k0 k1 => ?_)
  have iff : (∃ q, VS s M k q ∧ orb (Cg s M) p q) ↔ ∃ v, v < m ∧ ((sti (Cg s M) v p).2.2 = 1 ∨ (sti (Cg s M) v p).2.2 = 3) ∧ ekey s M (sti (Cg s M) v p) = k := by
    constructor
    · rintro ⟨q, vq, u, e⟩
      have r := VS_isS h g vq
      refine ⟨u % m, Nat.mod_lt u m0, ?_⟩
      rw [← sti_mod hm, e]
      exact ⟨r.2.1, VS_one h (ekey_VS h g r.1 r.2.1) vq⟩
    · rintro ⟨v, vm, pv, e⟩
      refine ⟨_, ?_, ⟨v, rfl⟩⟩
      rw [← e]
      exact ekey_VS h g (sti_isS hp v) pv
  show @ite _ (∃ v, v < m ∧ ((sti (Cg s M) v p).2.2 = 1 ∨ (sti (Cg s M) v p).2.2 = 3) ∧ ekey s M (sti (Cg s M) v p) = k) (Classical.propDecidable _) (F k) 0 = @ite _ (∃ q, VS s M k q ∧ orb (Cg s M) p q) (Classical.propDecidable _) (F k) 0
  by_cases z : ∃ q, VS s M k q ∧ orb (Cg s M) p q
  · rw [if_pos z, if_pos (iff.mp z)]
  · rw [if_neg z, if_neg (fun y => z (iff.mpr y))]
theorem loop_area (h : wf s) (g : GL s M) {p : wlk} (hp : isS (Cg s M) p) {m : Nat} (m0 : 0 < m) (hm : sti (Cg s M) m p = p) (nr : ∀ u, 0 < u → u < m → sti (Cg s M) u p ≠ p) :
    sumU (srnd (Cg s M) M p) m = 2 * sumN (fun e => @ite _ (∃ q, VS s M e q ∧ orb (Cg s M) p q) (Classical.propDecidable _) (eF s e) 0) (2 * nS_ s).toNat := by
  rw [rnd2 g hp hm, loop_sum h g hp m0 hm nr (eF s) (fun u u1 => ⟨fun w e v => ?_, fun w => ?_⟩)]
  · unfold xdy
    rw [sti_last]
    exact VS_eF h g v
  · have S := way_step g (sti_isS hp u)
    have w4 := (sti_isS hp u).1
    have e : py M (stp (Cg s M) (sti (Cg s M) u p)) = py M (sti (Cg s M) u p) := by
      rcases w4 with z | z | z | z
      · exact (S.1 z).1
      · exact absurd (Or.inl z) w
      · exact (S.2.2.1 z).1
      · exact absurd (Or.inr z) w
    unfold xdy
    rw [sti_last, e, Int.sub_self, Int.mul_zero]
theorem eF_rg (h : wf s) {e : Int} (e0 : 0 ≤ e) (e1 : e < 2 * nS_ s) : -2000000 ≤ eF s e ∧ eF s e ≤ 2000000 := by
  obtain ⟨b, b0, b1, b2, b3⟩ := k_band h (k := e / 2) (by omega) (show e / 2 < sst s (sn s) by have : e < 2 * sst s (sn s) := e1; omega)
  have a : inP s b (e / 2) := ⟨b0, b1, b2, b3⟩
  have bk := h.2.2.1 b b0 b1
  have x := bk.2.2.2.2.2 _ b2 b3
  have y := bk.2.2.2.2.1.1 _ b2 b3
  have z1 := bk.2.1
  have z2 := bk.2.2.1
  have z3 := bk.2.2.2.1
  unfold eF
  rw [bnd_eq h a, Int.mul_sub, Int.mul_sub]
  have p1 := mul_rg (a := slf s (e / 2)) (b := slo s b) (by omega) (by omega) (by omega) (by omega)
  have p2 := mul_rg (a := slf s (e / 2)) (b := shi s b) (by omega) (by omega) (by omega) (by omega)
  have p3 := mul_rg (a := srt s (e / 2)) (b := slo s b) (by omega) (by omega) (by omega) (by omega)
  have p4 := mul_rg (a := srt s (e / 2)) (b := shi s b) (by omega) (by omega) (by omega) (by omega)
  split <;> omega
theorem sumN_rg {f : Int → Int} {B : Int} {n : Nat} (h : ∀ k, 0 ≤ k → k < (n : Int) → -B ≤ f k ∧ f k ≤ B) : -(B * n) ≤ sumN f n ∧ sumN f n ≤ B * n := by
  induction n with
  | zero =>
    have : B * ((0 : Nat) : Int) = 0 := Int.mul_zero _
    rw [this]
    exact ⟨Int.le_refl _, Int.le_refl _⟩
  | succ n ih =>
    have a := h n (by omega) (by omega)
    have b := ih (fun k k0 k1 => h k k0 (by omega))
    have e : B * ((n + 1 : Nat) : Int) = B * n + B := by
      have : ((n + 1 : Nat) : Int) = (n : Int) + 1 := by omega
      rw [this, Int.mul_add, Int.mul_one]
    rw [e]
    show -(B * n + B) ≤ sumN f n + f (n : Int) ∧ sumN f n + f (n : Int) ≤ B * n + B
    omega
end
theorem ldiv2 {z : Int} (h1 : -4000000000 ≤ z) (h2 : z ≤ 4000000000) : mr_ldiv (2 * z) 2 = z := by
  unfold mr_ldiv
  have e1 : (mm_J (2 * z)).toInt = 2 * z := Int64.toInt_ofInt_of_le (by omega) (by omega)
  have e2 : (mm_J 2).toInt = 2 := by decide
  rw [Int64.toInt_div, e1, e2, Int.mul_tdiv_cancel_left z (by decide : (2 : Int) ≠ 0)]
  exact Int.bmod_eq_of_le (by omega) (by omega)
/-- the number of cells that loop l goes round, edges counted by their marks -/
noncomputable def arF (s : sh) (M : mm_M) (l : Int) : Int := sumN (fun e => if M.1 18 e = l then eF s e else 0) (2 * nS_ s).toNat
theorem arF_rg {s : sh} (h : wf s) (n : nS_ s ≤ 400) (M : mm_M) (l : Int) : -1600000000 ≤ arF s M l ∧ arF s M l ≤ 1600000000 := by
  have nS0 : 0 ≤ nS_ s := by
    have := sst_mono h (Int.le_refl 0) h.1 (Int.le_refl _)
    rw [h.2.1] at this
    exact this
  have x := sumN_rg (f := fun e => if M.1 18 e = l then eF s e else 0) (B := 2000000) (n := (2 * nS_ s).toNat) (fun k k0 k1 => by
    have a := eF_rg h k0 (by omega)
    show -2000000 ≤ (if M.1 18 k = l then eF s k else 0) ∧ (if M.1 18 k = l then eF s k else 0) ≤ 2000000
    split
    · exact a
    · exact ⟨by decide, by decide⟩)
  unfold arF
  omega
theorem crnd_ar {s : sh} {Mg M : mm_M} {l : Int} {p : wlk} {m : Nat} (h : CLP s Mg M l p m) (mk : ∀ e q, VS s Mg e q → (M.1 18 e = l ↔ orb (Cg s Mg) p q)) : crndF M l = 2 * arF s M l := by
  rw [← (clen_eq h).2.1]
  obtain ⟨w, g, l0, l1, b0, b1, hp, tl, L⟩ := h
  rw [loop_area w g hp L.1 L.2.1 L.2.2.1]
  unfold arF
  have e : sumN (fun e => @ite _ (∃ q, VS s Mg e q ∧ orb (Cg s Mg) p q) (Classical.propDecidable _) (eF s e) 0) (2 * nS_ s).toNat = sumN (fun e => if M.1 18 e = l then eF s e else 0) (2 * nS_ s).toNat := sumN_eq (fun k k0 k1 => by
    obtain ⟨q, v⟩ := VS_ex w g k0 (show k < 2 * nS_ s by omega)
    have x := mk k q v
    by_cases z : M.1 18 k = l
    · rw [if_pos z, if_pos ⟨q, v, x.mp z⟩]
    · rw [if_neg z, if_neg (fun ⟨q', v', o⟩ => z ((mk k q' v').mpr o))])
  rw [e]
