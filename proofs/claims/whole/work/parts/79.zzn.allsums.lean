/-! ===== sums over all loops ===== -/
theorem sumU_cong {f g : Nat → Int} : ∀ n : Nat, (∀ u, u < n → f u = g u) → sumU f n = sumU g n := by
  intro n
  induction n with
  | zero => intro _; rfl
  | succ n ih =>
    intro h
    rw [sumU_1, sumU_1, ih (fun u hu => h u (by omega)), h n (by omega)]
theorem sumN_add {f g : Int → Int} : ∀ n : Nat, sumN (fun k => f k + g k) n = sumN f n + sumN g n := by
  intro n
  induction n with
  | zero => rfl
  | succ n ih =>
    show sumN (fun k => f k + g k) n + (f n + g n) = (sumN f n + f n) + (sumN g n + g n)
    rw [ih]
    omega
theorem sumN_swap {f : Int → Int → Int} (N : Nat) : ∀ n : Nat, sumN (fun l => sumN (fun e => f l e) N) n = sumN (fun e => sumN (fun l => f l e) n) N := by
  intro n
  induction n with
  | zero =>
    have z : sumN (fun e => sumN (fun l => f l e) 0) N = 0 := sumN_z (fun _ _ _ => rfl)
    rw [z]
    rfl
  | succ n ih =>
    show sumN (fun l => sumN (fun e => f l e) N) n + sumN (fun e => f n e) N = _
    rw [ih, ← sumN_add]
    rfl
theorem sumN_one {w j : Int} {n : Nat} (j0 : 0 ≤ j) (j1 : j < (n : Int)) : sumN (fun l => if j = l then w else 0) n = w := by
  have x := sumN_upd (f := fun _ => 0) (g := fun l => if j = l then w else 0) (n := n) j0 j1 (fun k _ _ z => if_neg (fun y => z y.symm))
  have z : sumN (fun _ => 0) n = 0 := sumN_z (fun _ _ _ => rfl)
  have y : (if j = j then w else 0) = w := if_pos rfl
  rw [z, y] at x
  omega
theorem sum_marks {mk w : Int → Int} {N n : Nat} (h : ∀ e, 0 ≤ e → e < (N : Int) → 0 ≤ mk e ∧ mk e < (n : Int)) : sumN (fun l => sumN (fun e => if mk e = l then w e else 0) N) n = sumN w N := by
  rw [sumN_swap]
  exact sumN_eq (fun e e0 e1 => (sumN_one (h e e0 e1).1 (h e e0 e1).2).symm ▸ rfl)
theorem sum_pair {f : Int → Int} : ∀ n : Nat, sumN f (2 * n) = sumN (fun k => f (2 * k) + f (2 * k + 1)) n := by
  intro n
  induction n with
  | zero => rfl
  | succ n ih =>
    have e : 2 * (n + 1) = 2 * n + 1 + 1 := by omega
    rw [e]
    show sumN f (2 * n) + f ((2 * n : Nat) : Int) + f ((2 * n + 1 : Nat) : Int) = sumN (fun k => f (2 * k) + f (2 * k + 1)) n + (f (2 * (n : Int)) + f (2 * (n : Int) + 1))
    rw [ih, show ((2 * n : Nat) : Int) = 2 * (n : Int) by omega, show ((2 * n + 1 : Nat) : Int) = 2 * (n : Int) + 1 by omega]
    omega
section
variable {s : sh} {Mg M : mm_M}
/-- from corner to corner, anything that adds up -/
theorem corner_sum {l : Int} {p : wlk} {m : Nat} (h : CLP s Mg M l p m) {D : Int → Int} {H : Nat → Int}
    (hs : ∀ (c : Int) (t t' : Nat), t < t' → (∀ u, t ≤ u → u < t' → (sti (Cg s Mg) u p).2.2 = (sti (Cg s Mg) t p).2.2) → cX M c = px Mg (sti (Cg s Mg) t p) → cY M c = py Mg (sti (Cg s Mg) t p) → cX M (nxt M l c) = px Mg (sti (Cg s Mg) t' p) → cY M (nxt M l c) = py Mg (sti (Cg s Mg) t' p) → sumU H t' = sumU H t + D c) :
    sumU (fun k => D (M.1 19 l + k)) (M.1 19 (l + 1) - M.1 19 l).toNat = sumU H m := by
  have tcm := (clen_eq h).2.2
  obtain ⟨w, g, l0, l1, b0, b1, hp, tl, L⟩ := h
  have L' := L
  obtain ⟨m0, hm, nr, eb, h5, h6⟩ := L'
  have tg := tcn_ge (C := Cg s Mg) (p := p) m
  have key : ∀ k : Nat, (k : Int) ≤ M.1 19 (l + 1) - M.1 19 l → ∃ t, t ≤ m ∧ tcn (Cg s Mg) p t = k ∧ (t = 0 ∨ trn (Cg s Mg) p (t - 1)) ∧ ((k : Int) < M.1 19 (l + 1) - M.1 19 l → M.1 20 (M.1 19 l + k) = pq Mg (sti (Cg s Mg) t p)) ∧ ((k : Int) = M.1 19 (l + 1) - M.1 19 l → t = m) ∧ sumU (fun k => D (M.1 19 l + k)) k = sumU H t := by
    intro k
    induction k with
    | zero =>
      intro _
      refine ⟨0, Nat.zero_le _, rfl, Or.inl rfl, fun _ => ?_, fun z => ?_, rfl⟩
      · have e : M.1 19 l + ((0 : Nat) : Int) = M.1 19 l := by omega
        rw [e]; exact h5
      · exfalso
        have a1 := tcn_1 tl
        rw [show m - 1 + 1 = m by omega] at a1
        have := tcn_ge (C := Cg s Mg) (p := p) (m - 1)
        omega
    | succ k ih =>
      intro hk
      obtain ⟨t, t1, t2, t3, t4, t5, t6⟩ := ih (by omega)
      have ek := t4 (by omega)
      obtain ⟨t', a1, a2, a3, a4, a5, a6, a7⟩ := nextc g hp L tl (c := M.1 19 l + k) (by omega) (by omega) t1 (by omega) t3
      have D1 := cor_xy (M := M) w g hp ek
      have a6' : M.1 20 (nxt M l (M.1 19 l + k)) = pq Mg (sti (Cg s Mg) t' p) := a6
      have D2 := cor_xy (M := M) w g hp a6'
      have S := hs (M.1 19 l + k) t t' a1 a7 D1.2.1 D1.2.2 D2.2.1 D2.2.2
      refine ⟨t', a2, by omega, Or.inr a4, fun z => ?_, fun z => a5 (by omega), ?_⟩
      · have e : M.1 19 l + ((k + 1 : Nat) : Int) = nxt M l (M.1 19 l + k) := by
          unfold nxt
          rw [if_neg (by omega)]
          omega
        rw [e]; exact a6'
      · rw [sumU_1, t6, S]
  have ec : (((M.1 19 (l + 1) - M.1 19 l).toNat : Nat) : Int) = M.1 19 (l + 1) - M.1 19 l := by omega
  obtain ⟨t, t1, t2, t3, t4, t5, t6⟩ := key (M.1 19 (l + 1) - M.1 19 l).toNat (by omega)
  rw [t5 ec] at t6
  exact t6
/-- one for a corner with an upright line at the height y, at x or left of it -/
def fl (M : mm_M) (l y x c : Int) : Int := if cX M c = cX M (nxt M l c) ∧ min (cY M c) (cY M (nxt M l c)) ≤ y ∧ y < max (cY M c) (cY M (nxt M l c)) ∧ cX M c ≤ x then 1 else 0
def flF (M : mm_M) (l y x : Int) : Int := sumU (fun k => fl M l y x (M.1 19 l + k)) (M.1 19 (l + 1) - M.1 19 l).toNat
def sf1 (M : mm_M) (p q : wlk) (y x : Int) : Int := if min (py M p) (py M q) ≤ y ∧ y < max (py M p) (py M q) ∧ px M p ≤ x then 1 else 0
def sfl (C : Int → Int → Bool) (M : mm_M) (p : wlk) (y x : Int) (u : Nat) : Int := sf1 M (sti C u p) (sti C (u + 1) p) y x
theorem str_fl (g : GL s Mg) {p : wlk} (hp : isS (Cg s Mg) p) (y x : Int) (t : Nat) : ∀ d : Nat, (∀ u, u < d → (sti (Cg s Mg) (t + u) p).2.2 = (sti (Cg s Mg) t p).2.2) →
    sumU (sfl (Cg s Mg) Mg p y x) (t + d) = sumU (sfl (Cg s Mg) Mg p y x) t + (if px Mg (sti (Cg s Mg) t p) = px Mg (sti (Cg s Mg) (t + d) p) ∧ min (py Mg (sti (Cg s Mg) t p)) (py Mg (sti (Cg s Mg) (t + d) p)) ≤ y ∧ y < max (py Mg (sti (Cg s Mg) t p)) (py Mg (sti (Cg s Mg) (t + d) p)) ∧ px Mg (sti (Cg s Mg) t p) ≤ x then 1 else 0) := by
  intro d
  induction d with
  | zero =>
    intro _
    have e : t + 0 = t := rfl
    rw [e, if_neg (by omega)]
    omega
  | succ d ih =>
    intro h
    have i1 := ih (fun u hu => h u (by omega))
    have i3 := (straight g hp t d (fun u hu => h u (by omega))).2.2
    have wd := h d (by omega)
    have isd := sti_isS hp (t + d)
    have S := way_step g isd
    have e : sti (Cg s Mg) (t + (d + 1)) p = stp (Cg s Mg) (sti (Cg s Mg) (t + d) p) := sti_last (t + d) p
    have l1 : sumU (sfl (Cg s Mg) Mg p y x) (t + (d + 1)) = sumU (sfl (Cg s Mg) Mg p y x) (t + d) + sfl (Cg s Mg) Mg p y x (t + d) := rfl
    have l2 : sfl (Cg s Mg) Mg p y x (t + d) = sf1 Mg (sti (Cg s Mg) (t + d) p) (stp (Cg s Mg) (sti (Cg s Mg) (t + d) p)) y x := by
      unfold sfl
      rw [show t + d + 1 = t + (d + 1) from rfl, e]
    rw [l1, e, l2, i1]
    rw [wd] at S
    have w4 : (sti (Cg s Mg) t p).2.2 = 0 ∨ (sti (Cg s Mg) t p).2.2 = 1 ∨ (sti (Cg s Mg) t p).2.2 = 2 ∨ (sti (Cg s Mg) t p).2.2 = 3 := (sti_isS hp t).1
    unfold sf1
    clear i1 l1 l2 e wd h ih isd
    generalize sumU (sfl (Cg s Mg) Mg p y x) t = A at *
    generalize px Mg (sti (Cg s Mg) t p) = a at *
    generalize py Mg (sti (Cg s Mg) t p) = b at *
    generalize px Mg (sti (Cg s Mg) (t + d) p) = a1 at *
    generalize py Mg (sti (Cg s Mg) (t + d) p) = b1 at *
    generalize px Mg (stp (Cg s Mg) (sti (Cg s Mg) (t + d) p)) = a2 at *
    generalize py Mg (stp (Cg s Mg) (sti (Cg s Mg) (t + d) p)) = b2 at *
    rcases w4 with w | w | w | w
    · have s1 := S.1 w
      have s2 := i3.1 w
      rw [if_neg (by omega), if_neg (by omega), if_neg (by omega)]
      omega
    · obtain ⟨s1, s3⟩ := S.2.1 w
      obtain ⟨s2, s4⟩ := i3.2.1 w
      rw [s1, s2]
      by_cases z : a ≤ x ∧ b ≤ y ∧ y < b2
      · rw [if_pos (show a = a ∧ min b b2 ≤ y ∧ y < max b b2 ∧ a ≤ x by omega)]
        by_cases z2 : y < b1
        · rw [if_pos (show a = a ∧ min b b1 ≤ y ∧ y < max b b1 ∧ a ≤ x by omega), if_neg (by omega)]
          omega
        · rw [if_neg (by omega), if_pos (by omega)]
          omega
      · rw [if_neg (by omega), if_neg (by omega), if_neg (by omega)]
        omega
    · have s1 := S.2.2.1 w
      have s2 := i3.2.2.1 w
      rw [if_neg (by omega), if_neg (by omega), if_neg (by omega)]
      omega
    · obtain ⟨s1, s3⟩ := S.2.2.2 w
      obtain ⟨s2, s4⟩ := i3.2.2.2 w
      rw [s1, s2]
      by_cases z : a ≤ x ∧ b2 ≤ y ∧ y < b
      · rw [if_pos (show a = a ∧ min b b2 ≤ y ∧ y < max b b2 ∧ a ≤ x by omega)]
        by_cases z2 : b1 ≤ y
        · rw [if_pos (show a = a ∧ min b b1 ≤ y ∧ y < max b b1 ∧ a ≤ x by omega), if_neg (by omega)]
          omega
        · rw [if_neg (by omega), if_pos (by omega)]
          omega
      · rw [if_neg (by omega), if_neg (by omega), if_neg (by omega)]
        omega
/-- the same for an edge -/
noncomputable def eY (s : sh) (y x e : Int) : Int := if slo s (bnd s (e / 2)) ≤ y ∧ y < shi s (bnd s (e / 2)) ∧ epos s e ≤ x then 1 else 0
theorem VS_eY (h : wf s) (g : GL s Mg) {e : Int} {p : wlk} (v : VS s Mg e p) (y x : Int) : sf1 Mg p (stp (Cg s Mg) p) y x = eY s y x e := by
  have ay := g.2.2.2.2.2.1
  obtain ⟨i, j, i0, i1, j0, j1, ed, hp⟩ := v
  have ep := EDG_pos ed
  obtain ⟨b, k, r, a, hk⟩ := ed
  have lt := ay j (j + 1) j0 (by omega) (by omega)
  have ek : e / 2 = k := by omega
  unfold eY sf1
  rw [ek, bnd_eq h a, ← r.1, ← r.2, ← ep]
  rcases hp with ⟨par, rfl⟩ | ⟨par, rfl⟩
  · have e1 : py Mg (i, j + 1, 3) = gy Mg (j + 1) := rfl
    have e2 : py Mg (stp (Cg s Mg) (i, j + 1, 3)) = gy Mg j := by
      show gy Mg (j + 1 - 1) = gy Mg j
      rw [show j + 1 - 1 = j by omega]
    have e3 : px Mg (i, j + 1, 3) = gx Mg i := rfl
    rw [e1, e2, e3]
    by_cases z : gy Mg j ≤ y ∧ y < gy Mg (j + 1) ∧ gx Mg i ≤ x
    · rw [if_pos z, if_pos (by omega)]
    · rw [if_neg z, if_neg (by omega)]
  · have e1 : py Mg (i, j, 1) = gy Mg j := rfl
    have e2 : py Mg (stp (Cg s Mg) (i, j, 1)) = gy Mg (j + 1) := rfl
    have e3 : px Mg (i, j, 1) = gx Mg i := rfl
    rw [e1, e2, e3]
    by_cases z : gy Mg j ≤ y ∧ y < gy Mg (j + 1) ∧ gx Mg i ≤ x
    · rw [if_pos z, if_pos (by omega)]
    · rw [if_neg z, if_neg (by omega)]
/-- any weight of the edges of one loop, by their marks -/
theorem orb_marks (w : wf s) (g : GL s Mg) {l : Int} {p : wlk} (mk : ∀ e q, VS s Mg e q → (M.1 18 e = l ↔ orb (Cg s Mg) p q)) (F : Int → Int) : sumN (fun e => @ite _ (∃ q, VS s Mg e q ∧ orb (Cg s Mg) p q) (Classical.propDecidable _) (F e) 0) (2 * nS_ s).toNat = sumN (fun e => if M.1 18 e = l then F e else 0) (2 * nS_ s).toNat := (sumN_eq (fun k k0 k1 => by
    obtain ⟨q, v⟩ := VS_ex w g k0 (show k < 2 * nS_ s by omega)
    have x := mk k q v
    by_cases z : M.1 18 k = l
    · rw [if_pos z, if_pos ⟨q, v, x.mp z⟩]
    · rw [if_neg z, if_neg (fun ⟨q', v', o⟩ => z ((mk k q' v').mpr o))]))
theorem fl_marks {l : Int} {p : wlk} {m : Nat} (h : CLP s Mg M l p m) (mk : ∀ e q, VS s Mg e q → (M.1 18 e = l ↔ orb (Cg s Mg) p q)) (y x : Int) : flF M l y x = sumN (fun e => if M.1 18 e = l then eY s y x e else 0) (2 * nS_ s).toNat := by
  unfold flF
  have hs := corner_sum h (D := fl M l y x) (H := sfl (Cg s Mg) Mg p y x) (fun c t t' lt st x1 y1 x2 y2 => by
    have z := str_fl h.2.1 h.2.2.2.2.2.2.1 y x t (t' - t) (fun u hu => st (t + u) (by omega) (by omega))
    rw [show t + (t' - t) = t' by omega] at z
    rw [z]
    unfold fl
    rw [x1, y1, x2, y2])
  rw [hs]
  obtain ⟨w, g, l0, l1, b0, b1, hp, tl, L⟩ := h
  rw [loop_sum w g hp L.1 L.2.1 L.2.2.1 (eY s y x) (fun u u1 => ⟨fun w' e v => ?_, fun w' => ?_⟩)]
  · exact orb_marks w g mk (eY s y x)
  · unfold sfl
    rw [sti_last]
    exact VS_eY w g v y x
  · have S := way_step g (sti_isS hp u)
    have w4 := (sti_isS hp u).1
    have e : py Mg (stp (Cg s Mg) (sti (Cg s Mg) u p)) = py Mg (sti (Cg s Mg) u p) := by
      rcases w4 with z | z | z | z
      · exact (S.1 z).1
      · exact absurd (Or.inl z) w'
      · exact (S.2.2.1 z).1
      · exact absurd (Or.inr z) w'
    unfold sfl sf1
    rw [sti_last, e, if_neg (by omega)]
end
section
variable {s : sh} {M : mm_M}
theorem LL_clp {s : sh} {Mc : mm_M} (w : wf s) (h : LL s Mc) : 0 ≤ Mc.1 17 0 ∧ Mc.1 17 0 ≤ 400 ∧ Mc.1 17 1 = Mc.1 19 (Mc.1 17 0) ∧ Mc.1 19 0 = 0 ∧ Mc.1 17 1 ≤ 1600 ∧ ∀ l, 0 ≤ l → l < Mc.1 17 0 → ∃ Mg p m, CLP s Mg Mc l p m ∧ ∀ e q, VS s Mg e q → (Mc.1 18 e = l ↔ orb (Cg s Mg) p q) := by
  obtain ⟨Mg, g, st, h1, h2, h3, h4, h5, h6, h7, h8⟩ := h
  have up : ∀ l, 0 ≤ l → l < Mc.1 17 0 → Mc.1 19 l ≤ Mc.1 19 (l + 1) := fun l l0 l1 => by
    obtain ⟨m, _, _, _, q, _⟩ := h7 l l0 l1
    have := tcn_ge (C := Cg s Mg) (p := st l) m
    omega
  refine ⟨h1, h2, h3, h4, h5, fun l l0 l1 => ?_⟩
  obtain ⟨m, L⟩ := h7 l l0 l1
  obtain ⟨a, b, c⟩ := h6.1 l l0 l1
  have lo := stair up (Int.le_refl 0) l0 (by omega)
  have hi := stair up (show 0 ≤ l + 1 by omega) (show l + 1 ≤ Mc.1 17 0 by omega) (Int.le_refl _)
  have tl := last_turn a b c L.1 L.2.1
  exact ⟨Mg, st l, m, ⟨w, g, l0, by omega, by omega, by omega, a, tl, L⟩, fun e q v => (h8 e q v).2.2 l l0 l1⟩
theorem nS0_ (h : wf s) : 0 ≤ nS_ s := by
  have := sst_mono h (Int.le_refl 0) h.1 (Int.le_refl _)
  rw [h.2.1] at this
  exact this
theorem ks_band (h : wf s) {k : Int} (k0 : 0 ≤ k) (k1 : k < nS_ s) : inP s (bnd s k) k := by
  obtain ⟨b, b0, b1, b2, b3⟩ := k_band h k0 k1
  have a : inP s b k := ⟨b0, b1, b2, b3⟩
  rw [bnd_eq h a]
  exact a
/-- the cells of one stretch -/
def inK (s : sh) (y x b k : Int) : Prop := slo s b ≤ y ∧ y < shi s b ∧ slf s k ≤ x ∧ x < srt s k
theorem inK_one (h : wf s) {y x k k' : Int} (k0 : 0 ≤ k) (k1 : k < nS_ s) (l0 : 0 ≤ k') (l1 : k' < nS_ s) (a : inK s y x (bnd s k) k) (a' : inK s y x (bnd s k') k') : k = k' := by
  have p := ks_band h k0 k1
  have p' := ks_band h l0 l1
  have eb : bnd s k = bnd s k' := Classical.byContradiction (fun z => by
    obtain ⟨a1, a2, _, _⟩ := a
    obtain ⟨b1, b2, _, _⟩ := a'
    by_cases q : bnd s k < bnd s k'
    · have := wf_hl h p.1 q p'.2.1
      omega
    · have := wf_hl h p'.1 (show bnd s k' < bnd s k by omega) p.2.1
      omega)
  rw [← eb] at p' a'
  have D := (h.2.2.1 _ p.1 p.2.1).2.2.2.2.1
  have a3 := a.2.2.1
  have a4 := a.2.2.2
  have b3 := a'.2.2.1
  have b4 := a'.2.2.2
  by_cases q : k < k'
  · have := ds_mono D p.2.2.1 q p'.2.2.2
    omega
  · by_cases q2 : k' < k
    · have := ds_mono D p'.2.2.1 q2 p.2.2.2
      omega
    · omega
theorem has_K (h : wf s) {x y : Int} : has s x y ↔ ∃ k, 0 ≤ k ∧ k < nS_ s ∧ inK s y x (bnd s k) k := by
  constructor
  · rintro ⟨i, i0, i1, y0, y1, k, k0, k1, x0, x1⟩
    have z0 := sst_mono h (Int.le_refl 0) i0 (show i ≤ sn s by omega)
    have z1 := sst_mono h (show 0 ≤ i + 1 by omega) (show i + 1 ≤ sn s by omega) (Int.le_refl _)
    rw [h.2.1] at z0
    refine ⟨k, by omega, show k < sst s (sn s) by omega, ?_⟩
    rw [bnd_eq h (b := i) ⟨i0, i1, k0, k1⟩]
    exact ⟨y0, y1, x0, x1⟩
  · rintro ⟨k, k0, k1, y0, y1, x0, x1⟩
    have p := ks_band h k0 k1
    exact ⟨bnd s k, p.1, p.2.1, y0, y1, k, p.2.2.1, p.2.2.2, x0, x1⟩
/-- an odd number of edges to the left: a cell of the area -/
theorem odd_has (h : wf s) (x y : Int) : sumN (eY s y x) (2 * nS_ s).toNat % 2 = 1 ↔ has s x y := by
  have nS0 := nS0_ h
  rw [show (2 * nS_ s).toNat = 2 * (nS_ s).toNat by omega, sum_pair]
  have par := sumN_par (f := fun k => eY s y x (2 * k) + eY s y x (2 * k + 1)) (g := fun k => @ite _ (inK s y x (bnd s k) k) (Classical.propDecidable _) 1 0) (n := (nS_ s).toNat) (fun k k0 k1 => by
    have p := ks_band h k0 (show k < nS_ s by omega)
    have lr := (h.2.2.1 _ p.1 p.2.1).2.2.2.2.1.1 k p.2.2.1 p.2.2.2
    have e1 : eY s y x (2 * k) = if slo s (bnd s k) ≤ y ∧ y < shi s (bnd s k) ∧ slf s k ≤ x then 1 else 0 := by
      unfold eY epos
      rw [if_pos (show 2 * k % 2 = 0 by omega), show 2 * k / 2 = k by omega]
    have e2 : eY s y x (2 * k + 1) = if slo s (bnd s k) ≤ y ∧ y < shi s (bnd s k) ∧ srt s k ≤ x then 1 else 0 := by
      unfold eY epos
      rw [if_neg (show ¬ (2 * k + 1) % 2 = 0 by omega), show (2 * k + 1) / 2 = k by omega]
    show (eY s y x (2 * k) + eY s y x (2 * k + 1) - @ite _ (inK s y x (bnd s k) k) (Classical.propDecidable _) 1 0) % 2 = 0
    rw [e1, e2]
    by_cases z : slo s (bnd s k) ≤ y ∧ y < shi s (bnd s k)
    · by_cases z1 : slf s k ≤ x
      · by_cases z2 : srt s k ≤ x
        · rw [if_pos ⟨z.1, z.2, z1⟩, if_pos ⟨z.1, z.2, z2⟩, if_neg (fun u => by have := u.2.2.2; omega)]
          rfl
        · rw [if_pos ⟨z.1, z.2, z1⟩, if_neg (fun u => z2 u.2.2), if_pos ⟨z.1, z.2, z1, by omega⟩]
          rfl
      · rw [if_neg (fun u => z1 u.2.2), if_neg (fun u => by omega), if_neg (fun u => z1 u.2.2.1)]
        rfl
    · rw [if_neg (fun u => z ⟨u.1, u.2.1⟩), if_neg (fun u => z ⟨u.1, u.2.1⟩), if_neg (fun u => z ⟨u.1, u.2.1⟩)]
      rfl)
  generalize sumN (fun k => eY s y x (2 * k) + eY s y x (2 * k + 1)) (nS_ s).toNat = A at par ⊢
  by_cases z : has s x y
  · obtain ⟨k, k0, k1, a⟩ := (has_K h).mp z
    have u := sumN_upd (f := fun _ => 0) (g := fun k => @ite _ (inK s y x (bnd s k) k) (Classical.propDecidable _) 1 0) (n := (nS_ s).toNat) k0 (by omega) (fun k' l0 l1 ne => if_neg (fun a' => ne (inK_one h l0 (by omega) k0 k1 a' a)))
    have zz : sumN (fun _ => 0) (nS_ s).toNat = 0 := sumN_z (fun _ _ _ => rfl)
    have y1 : @ite _ (inK s y x (bnd s k) k) (Classical.propDecidable _) (1 : Int) 0 = 1 := if_pos a
    rw [zz, y1] at u
    rw [u] at par
    exact ⟨fun _ => z, fun _ => by omega⟩
  · have u : sumN (fun k => @ite _ (inK s y x (bnd s k) k) (Classical.propDecidable _) 1 0) (nS_ s).toNat = 0 := sumN_z (fun k k0 k1 => if_neg (fun a => z ((has_K h).mpr ⟨k, k0, by omega, a⟩)))
    rw [u] at par
    exact ⟨fun y => by omega, fun y => absurd y z⟩
theorem LL_mk (h : wf s) (l : LL s M) : ∀ e, 0 ≤ e → e < 2 * nS_ s → 0 ≤ M.1 18 e ∧ M.1 18 e < M.1 17 0 := fun e e0 e1 => by
  obtain ⟨Mg, g, st, h1, h2, h3, h4, h5, h6, h7, h8⟩ := l
  obtain ⟨q, v⟩ := VS_ex h g e0 e1
  have x := h8 e q v
  exact ⟨x.1, x.2.1⟩
/-- the number of cells, by edges -/
theorem cells_eF (h : wf s) : sumN (eF s) (2 * nS_ s).toNat = cells s := by
  have nS0 := nS0_ h
  rw [show (2 * nS_ s).toNat = 2 * (nS_ s).toNat by omega, sum_pair]
  have e : ∀ k, 0 ≤ k → k < nS_ s → eF s (2 * k) + eF s (2 * k + 1) = (shi s (bnd s k) - slo s (bnd s k)) * (srt s k - slf s k) := fun k k0 k1 => by
    unfold eF
    rw [if_pos (show 2 * k % 2 = 0 by omega), if_neg (show ¬ (2 * k + 1) % 2 = 0 by omega), show 2 * k / 2 = k by omega, show (2 * k + 1) / 2 = k by omega]
    generalize slo s (bnd s k) = a
    generalize shi s (bnd s k) = b
    generalize slf s k = c
    generalize srt s k = d
    rw [Int.mul_sub, Int.mul_sub, Int.sub_mul, Int.mul_sub, Int.mul_sub, Int.mul_comm c a, Int.mul_comm c b, Int.mul_comm d a, Int.mul_comm d b]
    omega
  rw [sumN_eq (f := fun k => (shi s (bnd s k) - slo s (bnd s k)) * (srt s k - slf s k)) (fun k k0 k1 => e k k0 (by omega))]
  clear e
  have inner : ∀ b, 0 ≤ b → b < sn s → ∀ m : Nat, (m : Int) ≤ sst s (b + 1) - sst s b → sumN (fun k => (shi s (bnd s k) - slo s (bnd s k)) * (srt s k - slf s k)) (sst s b + m).toNat = sumN (fun k => (shi s (bnd s k) - slo s (bnd s k)) * (srt s k - slf s k)) (sst s b).toNat + cS s b m := fun b b0 b1 m => by
    have z0 := sst_mono h (Int.le_refl 0) b0 (show b ≤ sn s by omega)
    rw [h.2.1] at z0
    induction m with
    | zero =>
      intro _
      rw [show sst s b + ((0 : Nat) : Int) = sst s b by omega]
      show _ = _ + (0 : Int)
      omega
    | succ m ih =>
      intro hm
      have ih' := ih (by omega)
      rw [show (sst s b + ((m + 1 : Nat) : Int)).toNat = (sst s b + (m : Int)).toNat + 1 by omega]
      show sumN (fun k => (shi s (bnd s k) - slo s (bnd s k)) * (srt s k - slf s k)) (sst s b + (m : Int)).toNat + (shi s (bnd s (((sst s b + (m : Int)).toNat : Nat) : Int)) - slo s (bnd s (((sst s b + (m : Int)).toNat : Nat) : Int))) * (srt s (((sst s b + (m : Int)).toNat : Nat) : Int) - slf s (((sst s b + (m : Int)).toNat : Nat) : Int)) = _ + (cS s b m + (shi s b - slo s b) * (srt s (sst s b + m) - slf s (sst s b + m)))
      rw [ih', show ((((sst s b + (m : Int)).toNat : Nat)) : Int) = sst s b + m by omega, bnd_eq h (b := b) ⟨b0, b1, by omega, by omega⟩]
      omega
  have outer : ∀ n : Nat, (n : Int) ≤ sn s → sumN (fun k => (shi s (bnd s k) - slo s (bnd s k)) * (srt s k - slf s k)) (sst s n).toNat = cB s n := by
    intro n
    induction n with
    | zero =>
      intro _
      have e : sst s ((0 : Nat) : Int) = 0 := h.2.1
      rw [e]
      rfl
    | succ n ih =>
      intro hn
      have bk := (h.2.2.1 n (by omega) (by omega)).1
      have z0 := sst_mono h (Int.le_refl 0) (show (0 : Int) ≤ n by omega) (show (n : Int) ≤ sn s by omega)
      rw [h.2.1] at z0
      have x := inner n (by omega) (by omega) (sst s (n + 1) - sst s n).toNat (by omega)
      rw [show sst s (n : Int) + (((sst s ((n : Int) + 1) - sst s (n : Int)).toNat : Nat) : Int) = sst s ((n : Int) + 1) by omega] at x
      have ec : ((n + 1 : Nat) : Int) = (n : Int) + 1 := by omega
      rw [ec, x, ih (by omega)]
      rfl
  have n0 := h.1
  have x := outer (sn s).toNat (by omega)
  rw [show (((sn s).toNat : Nat) : Int) = sn s by omega] at x
  exact x
/-- all loops together go round the cells of the area -/
theorem all_round (h : wf s) (l : LL s M) : sumN (fun l => arF s M l) (M.1 17 0).toNat = cells s := by
  have mk := LL_mk h l
  rw [← cells_eF h]
  exact sum_marks (mk := fun e => M.1 18 e) (fun e e0 e1 => by
    have := mk e e0 (by omega)
    exact ⟨this.1, by omega⟩)
/-- all upright lines at a height -/
def FT (M : mm_M) (y x : Int) : Int := sumN (fun l => flF M l y x) (M.1 17 0).toNat
theorem FT_has (h : wf s) (l : LL s M) (y x : Int) : FT M y x % 2 = 1 ↔ has s x y := by
  rw [← odd_has h]
  have mk := LL_mk h l
  obtain ⟨n0, n1, n2, n3, n4, cl⟩ := LL_clp h l
  have e : FT M y x = sumN (eY s y x) (2 * nS_ s).toNat := by
    unfold FT
    rw [← sum_marks (mk := fun e => M.1 18 e) (w := eY s y x) (N := (2 * nS_ s).toNat) (n := (M.1 17 0).toNat) (fun e e0 e1 => by
      have := mk e e0 (by omega)
      exact ⟨this.1, by omega⟩)]
    refine sumN_eq (fun l l0 l1 => ?_)
    obtain ⟨Mg, p, m, C, mk'⟩ := cl l l0 (by omega)
    exact fl_marks C mk' y x
  rw [e]
end
