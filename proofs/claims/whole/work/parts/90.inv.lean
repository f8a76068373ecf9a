/-! ===== what holds between two calls of the law ===== -/
/-- the loops that are kept are those of the area that the class thinks of; L tells what that means -/
def LCm (L : sh → mm_M → Prop) (M : mm_M) : Prop := M.1 19 0 = 0 ∧ (M.1 0 6 = -1 ∨ (isA (M.1 0 6) ∧ L (rdA M (ar M (M.1 0 6))) M))
abbrev Lst (L : sh → mm_M → Prop) : Prop := ∀ (s : sh) (M M1 : mm_M), (∀ a k, 17 ≤ a → a ≤ 20 → M1.1 a k = M.1 a k) → L s M → L s M1
def INV (L : sh → mm_M → Prop) (M : mm_M) (n : Nat) : Prop := OW M ∧ (∀ j, 0 ≤ j → j < 8 → RWk M j ∧ eqv (rdA M (ar M j)) (rdB M j)) ∧ LCm L M ∧ M.2.2 ≤ n
/-- what readers may write -/
def zS : Nat → Int → Prop := fun a k => a = 10 ∨ a = 12 ∨ a = 14 ∨ a = 16 ∨ a = 21 ∨ a = 22 ∨ a = 23 ∨ a = 98 ∨ vT a k
def zfr (M M1 : mm_M) : Prop := M1.2.1 = M.2.1 ∧ ∀ a k, ¬ zS a k → M1.1 a k = M.1 a k
theorem zfr_fr {S : Nat → Int → Prop} {M M1 : mm_M} (h : fr S M M1) (hs : ∀ a k, S a k → zS a k) : zfr M M1 := ⟨by rw [h.1], fun a k q => h.2 a k (fun z => q (hs a k z))⟩
theorem zfr_trans {M M1 M2 : mm_M} (h : zfr M M1) (g : zfr M1 M2) : zfr M M2 := ⟨g.1.trans h.1, fun a k q => (g.2 a k q).trans (h.2 a k q)⟩
theorem zfr_put {M : mm_M} {x : Int} : zfr M (mm_putN M 98 0 x) := zfr_fr (fr_put (S := fun a k => a = 98 ∧ k = 0) ⟨rfl, rfl⟩) (fun a k z => by unfold zS; omega)
theorem zfr_thr {M : mm_M} {n : Nat} : zfr M (M.1, M.2.1, n) := ⟨rfl, fun _ _ _ => rfl⟩
theorem vT_zfr {M M1 : mm_M} (h : fr vT M M1) : zfr M M1 := zfr_fr h (fun a k z => Or.inr (Or.inr (Or.inr (Or.inr (Or.inr (Or.inr (Or.inr (Or.inr z))))))))
theorem thS_zfr {M M1 : mm_M} (h : fr thS M M1) : zfr M M1 := vT_zfr (fr_mono h thS_vT)
section
variable {L : sh → mm_M → Prop}
theorem INV_z (hL : Lst L) {M M1 : mm_M} {n n' : Nat} (h : INV L M n) (z : zfr M M1) (hn : M1.2.2 ≤ n') : INV L M1 n' := by
  obtain ⟨hO, hE, hC, _⟩ := h
  have f : fr zS M (M1.1, M1.2.1, M.2.2) := ⟨by show (M1.2.1, M.2.2) = M.2; rw [z.1], z.2⟩
  have hA := hO.2.2.2.1
  have o := OW_fr hO f (fun a ha hb b k h0 h1 y => by
    unfold zS vT vR at y
    unfold mr_A at ha
    omega) (fun y => by
    unfold zS vT vR at y
    unfold mr_A at hA
    omega)
  have O1 : OW M1 := o.1
  have a1 : ∀ j, ar M1 j = ar M j := o.2.1
  have e1 : ∀ j, 0 ≤ j → j < 8 → rdA M1 (ar M j) = rdA M (ar M j) := o.2.2.2
  refine ⟨O1, fun j j0 j1 => ?_, ?_, hn⟩
  · obtain ⟨w, e⟩ := hE j j0 j1
    have k := rdB_same w (M1 := M1) (fun a k y => z.2 _ _ (fun u => by
      unfold hS at y
      unfold zS vT vR at u
      omega))
    rw [a1, e1 j j0 j1]
    exact ⟨k.2, eqv_trans (hO.1 j j0 j1).2.1.2.1 e k.1⟩
  · have e06 : M1.1 0 6 = M.1 0 6 := z.2 _ _ (by unfold zS vT vR; omega)
    unfold LCm at hC ⊢
    rw [e06]
    obtain ⟨h19, hC⟩ := hC
    refine ⟨(z.2 19 0 (by unfold zS vT vR; omega)).trans h19, ?_⟩
    rcases hC with c | ⟨c, d⟩
    · exact Or.inl c
    · refine Or.inr ⟨c, ?_⟩
      rw [a1, e1 _ c.1 c.2]
      exact hL _ M M1 (fun a k h0 h1 => z.2 _ _ (by unfold zS vT vR; omega)) d
/-- both sides built the same -/
theorem INV_b (hL : Lst L) {M M1 M2 : mm_M} {n : Nat} {t r r' : Int} {T T' : Int → Int → Prop} (h : INV L M n) (ht : isA t) {x0 : Int} (c : CB M M1 t T r) (b : RB (mm_putN M1 98 0 x0) M2 t T' r') (e : ∀ x y, T x y ↔ T' x y) : r = r' ∧ mr_rg r' ∧ M2.1 98 0 = x0 ∧ M2.1 72 0 = 0 ∧ INV L M2 (n + 1) := by
  obtain ⟨hO, hE, hC, hn⟩ := h
  obtain ⟨c1, c2, c3, c4, c5⟩ := c
  obtain ⟨b1, b2, b3, b4, b5⟩ := b
  have m1 : ∀ a k, (a < 72) → M2.1 a k = M1.1 a k := fun a k q => by
    rw [b1.2 a k (Or.inl q)]
    exact put_a (by omega)
  have r2 : M2.2 = M1.2 := b1.1
  have aA : ∀ A, mr_A A → rdA M2 A = rdA M1 A := fun A hA => by
    unfold mr_A at hA
    have q : ∀ i, i ≤ 5 → M2.1 (A + i) = M1.1 (A + i) := fun i hi => by funext k; exact m1 _ _ (by omega)
    unfold rdA
    have q0 := q 0 (by omega)
    rw [Nat.add_zero] at q0
    rw [q0, q 1 (by omega), q 2 (by omega), q 3 (by omega), q 4 (by omega), q 5 (by omega)]
  have ar2 : ∀ j, ar M2 j = ar M1 j := fun j => by unfold ar; rw [r2]
  have br2 : br M2 = br M1 := by unfold br; rw [r2]
  have O2 : OW M2 := by
    have f : fr (fun a _ => 72 ≤ a) M1 M2 := ⟨r2, fun a k q => m1 a k (by omega)⟩
    exact (OW_fr c2 f (fun a ha _ b k h0 h1 y => by unfold mr_A at ha; omega) (fun y => by have := c2.2.2.2.1; unfold mr_A at this; omega)).1
  -- the reference's areas as the class call leaves them
  have w1 : ∀ j, 0 ≤ j → j < 8 → eqv (rdB M j) (rdB (mm_putN M1 98 0 x0) j) := fun j j0 j1 => (rdB_same (hE j j0 j1).1 (fun a k y => by
    have : 72 ≤ a ∧ a ≠ 98 := by unfold hS at y; omega
    rw [put_a this.2]
    exact c3 a k (Or.inr this.1))).1
  have others : ∀ j, 0 ≤ j → j < 8 → j ≠ t → eqv (rdA M2 (ar M2 j)) (rdB M2 j) := fun j j0 j1 jt => by
    have x := hE j j0 j1
    rw [ar2, aA _ (c2.1 j j0 j1).2.1.1, c4 j j0 j1 jt]
    have wA := (hO.1 j j0 j1).2.1.2.1
    exact eqv_trans wA (eqv_trans wA x.2 (w1 j j0 j1)) (b4 j j0 j1 jt)
  have at2 : rdA M2 (ar M2 t) = rdA M1 (ar M1 t) := by rw [ar2, aA _ (c2.1 t ht.1 ht.2).2.1.1]
  have LC2 : (M1.1 0 6 = M.1 0 6 ∧ rdA M1 (ar M1 t) = rdA M (ar M t)) ∨ M1.1 0 6 = (if M.1 0 6 = t then -1 else M.1 0 6) → LCm L M2 := by
    intro q
    have e06 : M2.1 0 6 = M1.1 0 6 := m1 _ _ (by decide)
    unfold LCm at hC ⊢
    rw [e06]
    have st : ∀ s, L s M → L s M2 := fun s z => hL s M M2 (fun a k h0 h1 => by rw [m1 a k (by omega)]; exact c3 a k (Or.inl ⟨h0, h1⟩)) z
    obtain ⟨h19, hC⟩ := hC
    refine ⟨by rw [m1 19 0 (by decide), c3 19 0 (Or.inl ⟨by decide, by decide⟩)]; exact h19, ?_⟩
    rcases hC with d | ⟨d, d2⟩
    · rcases q with ⟨q, _⟩ | q
      · exact Or.inl (q.trans d)
      · rw [q]
        by_cases u : M.1 0 6 = t
        · rw [if_pos u]; exact Or.inl rfl
        · rw [if_neg u]; exact Or.inl d
    · by_cases u : M.1 0 6 = t
      · rcases q with ⟨q, q2⟩ | q
        · refine Or.inr ⟨by rw [q]; exact d, ?_⟩
          rw [q, ar2, aA _ (c2.1 _ d.1 d.2).2.1.1]
          rw [u] at d2 ⊢
          rw [q2]
          exact st _ d2
        · rw [q, if_pos u]; exact Or.inl rfl
      · have q' : M1.1 0 6 = M.1 0 6 := by
          rcases q with ⟨q, _⟩ | q
          · exact q
          · rw [q, if_neg u]
        refine Or.inr ⟨by rw [q']; exact d, ?_⟩
        rw [q', ar2, aA _ (c2.1 _ d.1 d.2).2.1.1, c4 _ d.1 d.2 u]
        exact st _ d2
  have th : M2.2.2 ≤ n + 1 := by
    rw [r2, c1]
    omega
  have e98 : M2.1 98 0 = x0 := by rw [b1.2 98 0 (Or.inr rfl)]; exact put_eq
  rcases c5 with ⟨o1, o2, o3, o4⟩ | ⟨o1, o2, o3⟩
  · rcases b5 with ⟨u1, u2, u3⟩ | ⟨u1, u2⟩
    · refine ⟨by rw [o2, u2], by rw [u2]; exact ⟨by decide, by decide⟩, e98, b2, O2, fun j j0 j1 => ⟨b3 j j0 j1, ?_⟩, LC2 (Or.inl ⟨o4, o3⟩), th⟩
      by_cases jt : j = t
      · rw [jt, at2, o3]
        have wA := (hO.1 t ht.1 ht.2).2.1.2.1
        exact eqv_trans wA (eqv_trans wA (hE t ht.1 ht.2).2 (w1 t ht.1 ht.2)) u3
      · exact others j j0 j1 jt
    · exact (not_both u1 (over_iff o1 e)).elim
  · rcases b5 with ⟨u1, u2, u3⟩ | ⟨u1, u2⟩
    · exact (not_both o1 (over_iff u1 (fun x y => (e x y).symm))).elim
    · have E := fits_eqv o1 u1 e
      have hr : r = r' := by rw [o2, u2]; exact E.1
      have n1 := u1.2.1
      have n0 := u1.1.1
      refine ⟨hr, ⟨by omega, by omega⟩, e98, b2, O2, fun j j0 j1 => ⟨b3 j j0 j1, ?_⟩, LC2 (Or.inr o3), th⟩
      by_cases jt : j = t
      · rw [jt, at2]
        exact E
      · exact others j j0 j1 jt
/-- what the law wants of a call on both sides -/
def PR (L : sh → mm_M → Prop) (sc : Nat × (Int → Int)) (w : Nat) (aw : List mm_V) (r : Nat) (ar' : List mm_V) : Prop := ∀ (M : mm_M) (n : Nat), mr_ok M → INV L M n → en_CI sc w aw M (fun x M1 => mr_ok M1 → en_CI sc r ar' M1 (fun v M2 => mr_ok M2 → M2.1 72 0 = x ∧ (0 ≤ x ∧ x ≤ 2) ∧ (x = 0 → mr_rg v ∧ M2.1 98 0 = v) ∧ INV L M2 (n + 1)) (fun _ _ => False)) (fun _ _ => False)
/-- a call that was refused on both sides -/
theorem INV_t (hL : Lst L) {M M2 : mm_M} {n : Nat} (h : INV L M n) (f : fr thS (M.1, M.2.1, M.2.2 + 1) M2) : INV L M2 (n + 1) := by
  refine INV_z hL h (zfr_trans zfr_thr (thS_zfr f)) ?_
  have := h.2.2.2
  rw [f.1]
  show M.2.2 + 1 ≤ n + 1
  omega
theorem INV_W {M : mm_M} {n : Nat} (h : INV L M n) {m : Nat} : ∀ j, 0 ≤ j → j < 8 → RWk (M.1, M.2.1, m) j := fun j j0 j1 => (h.2.1 j j0 j1).1
theorem CB_W {M M1 : mm_M} {n : Nat} {t r : Int} {T : Int → Int → Prop} (h : INV L M n) (c : CB M M1 t T r) (x : Int) : ∀ j, 0 ≤ j → j < 8 → eqv (rdB M j) (rdB (mm_putN M1 98 0 x) j) ∧ RWk (mm_putN M1 98 0 x) j := fun j j0 j1 => rdB_same (h.2.1 j j0 j1).1 (fun a k y => by
  have : 72 ≤ a ∧ a ≠ 98 := by unfold hS at y; omega
  rw [put_a this.2]
  exact c.2.2.1 a k (Or.inr this.1))
theorem INV_e {M M1 : mm_M} {n : Nat} {t r a : Int} {T : Int → Int → Prop} (h : INV L M n) (c : CB M M1 t T r) (ga : isA a) (x : Int) : wf (rdA M (ar M a)) ∧ eqv (rdA M (ar M a)) (rdB (mm_putN M1 98 0 x) a) := by
  have w := (h.1.1 a ga.1 ga.2).2.1.2.1
  exact ⟨w, eqv_trans w (h.2.1 a ga.1 ga.2).2 (CB_W h c x a ga.1 ga.2).1⟩
theorem CB_rg {M M1 : mm_M} {t r : Int} {T : Int → Int → Prop} (c : CB M M1 t T r) : mr_rg r := by
  obtain ⟨_, _, _, _, c5⟩ := c
  rcases c5 with ⟨_, o2, _⟩ | ⟨o1, o2, _⟩
  · rw [o2]; exact ⟨by decide, by decide⟩
  · have := o1.2.1
    have := o1.1.1
    rw [o2]
    exact ⟨by omega, by omega⟩
end
theorem rj_of {x : Int} (h : mr_rg x) : mr_rj x := by
  unfold mr_rg at h
  unfold mr_rj
  omega
