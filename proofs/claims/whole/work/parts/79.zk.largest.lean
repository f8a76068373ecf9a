/-! ===== largest: the choice; the class's side ===== -/
def run (R : Int → Prop) (l r : Int) : Prop := l < r ∧ (∀ x, l ≤ x → x < r → R x) ∧ ¬ R (l - 1) ∧ ¬ R r
/-- bands i to k one upon the other, and l to r a run of what all of them have -/
def CNI (s : sh) (i k l r : Int) : Prop := 0 ≤ i ∧ i ≤ k ∧ k < sn s ∧ (∀ j, i < j → j ≤ k → shi s (j - 1) = slo s j) ∧ run (fun x => ∀ j, i ≤ j → j ≤ k → inb s j x) l r
def bet (c lo l r C O L R : Int) : Prop := C < c ∨ (c = C ∧ (lo < O ∨ (lo = O ∧ (l < L ∨ (l = L ∧ r < R)))))
/-- the best of the boxes that P tells of -/
def BO (P : Int → Int → Int → Int → Prop) (L O R H C : Int) : Prop := (C = 0 ∧ ∀ l lo r hi, ¬ P l lo r hi) ∨ (P L O R H ∧ C = (R - L) * (H - O) ∧ ∀ l lo r hi, P l lo r hi → ¬ bet ((r - l) * (hi - lo)) lo l r C O L R)
abbrev Pok (P : Int → Int → Int → Int → Prop) : Prop := ∀ l lo r hi, P l lo r hi → -1000 ≤ l ∧ l < r ∧ r ≤ 1000 ∧ -1000 ≤ lo ∧ lo < hi ∧ hi ≤ 1000
theorem cells_pos {l lo r hi : Int} (h : -1000 ≤ l ∧ l < r ∧ r ≤ 1000 ∧ -1000 ≤ lo ∧ lo < hi ∧ hi ≤ 1000) : 0 < (r - l) * (hi - lo) ∧ (r - l) * (hi - lo) ≤ 4000000 := by
  have a : 0 < (r - l) * (hi - lo) := Int.mul_pos (by omega) (by omega)
  have b : (r - l) * (hi - lo) ≤ 2000 * (hi - lo) := Int.mul_le_mul_of_nonneg_right (by omega) (by omega)
  omega
theorem BO_iff {P P' : Int → Int → Int → Int → Prop} {L O R H C : Int} (h : BO P L O R H C) (e : ∀ l lo r hi, P l lo r hi ↔ P' l lo r hi) : BO P' L O R H C := by
  rcases h with ⟨a, b⟩ | ⟨a, b, c⟩
  · exact Or.inl ⟨a, fun l lo r hi z => b l lo r hi ((e _ _ _ _).mpr z)⟩
  · exact Or.inr ⟨(e _ _ _ _).mp a, b, fun l lo r hi z => c l lo r hi ((e _ _ _ _).mpr z)⟩
theorem BO_keep {P P' : Int → Int → Int → Int → Prop} {L O R H C l lo r hi : Int} (h : BO P L O R H C) (hp : -1000 ≤ l ∧ l < r ∧ r ≤ 1000 ∧ -1000 ≤ lo ∧ lo < hi ∧ hi ≤ 1000) (e : ∀ a b c d, P' a b c d ↔ P a b c d ∨ (a = l ∧ b = lo ∧ c = r ∧ d = hi)) (n : ¬ bet ((r - l) * (hi - lo)) lo l r C O L R) : BO P' L O R H C := by
  have cp := cells_pos hp
  rcases h with ⟨a, b⟩ | ⟨a, b, c⟩
  · exact absurd (Or.inl (by omega)) n
  · refine Or.inr ⟨(e _ _ _ _).mpr (Or.inl a), b, fun l' lo' r' hi' z => ?_⟩
    rcases (e _ _ _ _).mp z with z | ⟨z1, z2, z3, z4⟩
    · exact c l' lo' r' hi' z
    · rw [z1, z2, z3, z4]
      exact n
theorem BO_new {P P' : Int → Int → Int → Int → Prop} {L O R H C l lo r hi : Int} (h : BO P L O R H C) (e : ∀ a b c d, P' a b c d ↔ P a b c d ∨ (a = l ∧ b = lo ∧ c = r ∧ d = hi)) (n : bet ((r - l) * (hi - lo)) lo l r C O L R) : BO P' l lo r hi ((r - l) * (hi - lo)) := by
  refine Or.inr ⟨(e _ _ _ _).mpr (Or.inr ⟨rfl, rfl, rfl, rfl⟩), rfl, fun l' lo' r' hi' z => ?_⟩
  rcases (e _ _ _ _).mp z with z | ⟨z1, z2, z3, z4⟩
  · rcases h with ⟨a, b⟩ | ⟨a, b, c⟩
    · exact absurd z (b _ _ _ _)
    · have := c l' lo' r' hi' z
      generalize (r' - l') * (hi' - lo') = c' at this
      generalize (r - l) * (hi - lo) = c0 at n ⊢
      unfold bet at n this ⊢
      omega
  · rw [z1, z2, z3, z4]
    unfold bet
    omega
theorem BO_unique {P : Int → Int → Int → Int → Prop} (hp : Pok P) {L O R H C L' O' R' H' C' : Int} (h : BO P L O R H C) (h' : BO P L' O' R' H' C') (ne : ∃ l lo r hi, P l lo r hi) : L = L' ∧ O = O' ∧ R = R' ∧ H = H' ∧ C = C' := by
  obtain ⟨l, lo, r, hi, p⟩ := ne
  rcases h with ⟨_, b⟩ | ⟨a, b, c⟩
  · exact absurd p (b _ _ _ _)
  rcases h' with ⟨_, b'⟩ | ⟨a', b', c'⟩
  · exact absurd p (b' _ _ _ _)
  have x := c L' O' R' H' a'
  have y := c' L O R H a
  rw [← b'] at x
  rw [← b] at y
  unfold bet at x y
  have e1 : C = C' := by omega
  have e2 : O = O' := by omega
  have e3 : L = L' := by omega
  have e4 : R = R' := by omega
  refine ⟨e3, e2, e4, ?_, e1⟩
  have q := hp L O R H a
  rw [b, b', ← e2, ← e3, ← e4] at e1
  have := Int.eq_of_mul_eq_mul_left (show R - L ≠ 0 by omega) e1
  omega
abbrev bS23 : Nat → Int → Prop := fun a _ => a = 23
abbrev BOm (P : Int → Int → Int → Int → Prop) (M : mm_M) : Prop := BO P (M.1 23 0) (M.1 23 1) (M.1 23 2) (M.1 23 3) (M.1 23 4)
section
variable {sc : Nat × (Int → Int)} {M : mm_M} {X : Nat → mm_M → Prop}
/-- CellAreas.BestBox.offer -/
theorem c175 {K : mm_M → Prop} {P P' : Int → Int → Int → Int → Prop} {l lo r hi : Int} (ho : mr_ok M) (h : BOm P M) (hp : -1000 ≤ l ∧ l < r ∧ r ≤ 1000 ∧ -1000 ≤ lo ∧ lo < hi ∧ hi ≤ 1000) (e : ∀ a b c d, P' a b c d ↔ P a b c d ∨ (a = l ∧ b = lo ∧ c = r ∧ d = hi))
    (k : ∀ M1, fr bS23 M M1 → BOm P' M1 → K M1) : en_CV sc 175 [mm_r 23, mm_i l, mm_i lo, mm_i r, mm_i hi, mm_u] M K X := by
  have cp := cells_pos hp
  have new : bet ((r - l) * (hi - lo)) lo l r (M.1 23 4) (M.1 23 1) (M.1 23 0) (M.1 23 2) → en_R sc 175 38 [mm_r 23, mm_i l, mm_i lo, mm_i r, mm_i hi, mm_i ((r - l) * (hi - lo))] [] M (QV K X) := by
    intro b
    refine vc175_38 ho ⟨by omega, by omega⟩ ⟨by omega, by omega⟩ ⟨by omega, by omega⟩ ⟨by omega, by omega⟩ ⟨by omega, by omega⟩ (Or.inl ⟨rfl, k _ ?_ ?_⟩)
    · exact fr_trans (fr_put rfl) (fr_trans (fr_put rfl) (fr_trans (fr_put rfl) (fr_trans (fr_put rfl) (fr_put rfl))))
    · have n := BO_new h e b
      unfold BOm
      rw [put_k (by decide), put_k (by decide), put_k (by decide), put_k (by decide), put_eq, put_k (by decide), put_k (by decide), put_k (by decide), put_eq, put_k (by decide), put_k (by decide), put_eq, put_k (by decide), put_eq, put_eq]
      exact n
  have old : ¬ bet ((r - l) * (hi - lo)) lo l r (M.1 23 4) (M.1 23 1) (M.1 23 0) (M.1 23 2) → K M := fun n => k M fr_refl (BO_keep h hp e n)
  refine vc175_0 ho ⟨⟨by omega, by omega⟩, fun q => new (Or.inl q), fun q => ⟨fun q2 => Or.inl ⟨rfl, old (fun z => by unfold bet at z; omega)⟩, fun q2 => ?_⟩⟩
  have e4 : (r - l) * (hi - lo) = M.1 23 4 := Classical.byContradiction q2
  generalize (r - l) * (hi - lo) = c0 at *
  have bad : ¬ (lo < M.1 23 1 ∨ (lo = M.1 23 1 ∧ (l < M.1 23 0 ∨ (l = M.1 23 0 ∧ r < M.1 23 2)))) → mr_ok M → mr_rg 0 ∧ (((0 : Int) = 0 → QV K X (.inl none) M) ∧ (¬ (0 : Int) = 0 → en_R sc 175 38 [mm_r 23, mm_i l, mm_i lo, mm_i r, mm_i hi, mm_i c0] [] M (QV K X))) := fun n _ => ⟨⟨by decide, by decide⟩, fun _ => Or.inl ⟨rfl, old (fun z => by unfold bet at z; omega)⟩, fun z => absurd rfl z⟩
  have good : (lo < M.1 23 1 ∨ (lo = M.1 23 1 ∧ (l < M.1 23 0 ∨ (l = M.1 23 0 ∧ r < M.1 23 2)))) → mr_ok M → mr_rg 1 ∧ (((1 : Int) = 0 → QV K X (.inl none) M) ∧ (¬ (1 : Int) = 0 → en_R sc 175 38 [mm_r 23, mm_i l, mm_i lo, mm_i r, mm_i hi, mm_i c0] [] M (QV K X))) := fun g _ => ⟨⟨by decide, by decide⟩, fun z => absurd z (by decide), fun _ => new (Or.inr ⟨e4, g⟩)⟩
  refine vc174_0 ho ⟨by omega, by omega⟩ ⟨by omega, by omega⟩ ⟨by omega, by omega⟩ ⟨fun q3 => ⟨fun q5 => ⟨fun q6 => Or.inl ⟨_, rfl, bad (by omega)⟩, fun q6 => Or.inl ⟨_, rfl, good (by omega)⟩⟩, fun q5 => ⟨fun q6 => Or.inl ⟨_, rfl, bad (by omega)⟩, fun q6 => Or.inl ⟨_, rfl, good (by omega)⟩⟩⟩, fun q3 => ⟨fun q6 => Or.inl ⟨_, rfl, bad (by omega)⟩, fun q6 => Or.inl ⟨_, rfl, good (by omega)⟩⟩⟩
/-- CellAreas.offerBoxes -/
theorem c176 {K : mm_M → Prop} {P P' : Int → Int → Int → Int → Prop} {R : Int → Prop} {lo hi : Int} (ho : mr_ok M) (h : BOm P M) (hR : ∀ x, ri M 11 x ↔ R x) (hR1 : ∀ x, R x → -1000 ≤ x ∧ x < 1000) (hp : -1000 ≤ lo ∧ lo < hi ∧ hi ≤ 1000) (e : ∀ a b c d, P' a b c d ↔ P a b c d ∨ (run R a c ∧ b = lo ∧ d = hi))
    (k : ∀ M1, fr bS23 M M1 → BOm P' M1 → K M1) : en_CV sc 176 [mm_r 0, mm_i lo, mm_i hi, mm_u, mm_u] M K X := by
  have loop : ∀ (c : Nat) (left : Int) (l3 : mm_V) (M' : mm_M), (1000 - left).toNat ≤ c → -1000 ≤ left → left ≤ 1000 → (left < 1000 → R left ∧ ¬ R (left - 1)) → mr_ok M' → fr bS23 M M' → BOm (fun a b c d => P a b c d ∨ (run R a c ∧ a < left ∧ b = lo ∧ d = hi)) M' → en_R sc 176 12 [mm_r 0, mm_i lo, mm_i hi, l3, mm_i left] [] M' (QV K X) := by
    have fin : ∀ (left : Int) (M' : mm_M), 1000 ≤ left → fr bS23 M M' → BOm (fun a b c d => P a b c d ∨ (run R a c ∧ a < left ∧ b = lo ∧ d = hi)) M' → K M' := by
      intro left M' hl hf hB
      refine k M' hf (BO_iff hB (fun a b c d => ?_))
      rw [e]
      constructor
      · rintro (z | z)
        · exact Or.inl z
        · exact Or.inr ⟨z.1, z.2.2⟩
      · rintro (z | z)
        · exact Or.inl z
        · have := hR1 a (z.1.2.1 a (Int.le_refl _) z.1.1)
          exact Or.inr ⟨z.1, by omega, z.2⟩
    intro c
    induction c with
    | zero =>
      intro left l3 M' hc l0 l1 hl ho' hf hB
      exact vc176_12 ho' ⟨by omega, by omega⟩ ⟨fun q => Or.inl ⟨rfl, fin left M' q hf hB⟩, fun q => absurd (by omega) q⟩
    | succ c ih =>
      intro left l3 M' hc l0 l1 hl ho' hf hB
      have r11 : ∀ M1, fr bS23 M M1 → ∀ x, ri M1 11 x ↔ R x := fun M1 f x => (ri_fr f (fun k z => by have z' : 11 + 1 = 23 := z; omega) x).trans (hR x)
      refine vc176_12 ho' ⟨by omega, by omega⟩ ⟨fun q => Or.inl ⟨rfl, fin left M' q hf hB⟩, fun q => ?_⟩
      obtain ⟨hl1, hl2⟩ := hl (by omega)
      refine c25 ho' w11 ⟨by omega, by omega⟩ (by omega) (fun r r0 r1 r2 r3 _ => ⟨⟨by omega, by omega⟩, ⟨by omega, by omega⟩, ?_⟩)
      have lr : left < r := by
        by_cases z : r < 1000
        · have y := r3 z
          by_cases u : r = left
          · rw [u] at y
            exact absurd ((r11 M' hf left).mpr hl1) y.2
          · omega
        · omega
      have em : max (left + 1) r = r := by omega
      rw [em]
      have nr : ¬ R r := fun z => by
        have := hR1 r z
        exact (r3 this.2).2 ((r11 M' hf r).mpr z)
      have rn : run R left r := ⟨lr, fun x x0 x1 => (r11 M' hf x).mp (r2 x (by omega) x0 x1), hl2, nr⟩
      refine c175 (P' := fun a b c d => (P a b c d ∨ (run R a c ∧ a < left ∧ b = lo ∧ d = hi)) ∨ (a = left ∧ b = lo ∧ c = r ∧ d = hi)) ho' hB ⟨l0, lr, r1, hp.1, hp.2.1, hp.2.2⟩ (fun a b c d => Iff.rfl) (fun Mb fb Bb hob => ?_)
      have fB : fr bS23 M Mb := fr_trans hf fb
      refine c22 hob w11 ⟨by omega, by omega⟩ (by omega) (fun v v0 v1 v2 v3 _ => ⟨⟨by omega, by omega⟩, ⟨by omega, by omega⟩, ?_⟩)
      have vr : r ≤ v := by
        by_cases z : v < 1000
        · exact (v3 z).1
        · omega
      have em2 : max r v = v := by omega
      rw [em2]
      refine ih v _ Mb (by omega) (by omega) v1 (fun z => ?_) hob fB (BO_iff Bb (fun a b c d => ?_))
      · have y := v3 z
        have yR := (r11 Mb fB v).mp y.2
        have ne : v ≠ r := fun u => nr (by rw [← u]; exact yR)
        exact ⟨yR, fun u => v2 (v - 1) (by omega) (by omega) ((r11 Mb fB _).mpr u)⟩
      · constructor
        · rintro ((z | z) | ⟨z1, z2, z3, z4⟩)
          · exact Or.inl z
          · exact Or.inr ⟨z.1, by omega, z.2.2⟩
          · rw [z1, z3]
            exact Or.inr ⟨rn, by omega, z2, z4⟩
        · rintro (z | ⟨z1, z2, z3, z4⟩)
          · exact Or.inl (Or.inl z)
          · by_cases u : a < left
            · exact Or.inl (Or.inr ⟨z1, u, z3, z4⟩)
            · have ua : a = left := by
                by_cases u2 : a = left
                · exact u2
                · exfalso
                  have Ra := z1.2.1 a (Int.le_refl _) z1.1
                  by_cases u3 : a < r
                  · exact z1.2.2.1 (rn.2.1 (a - 1) (by omega) (by omega))
                  · exact v2 a (by omega) z2 ((r11 Mb fB a).mpr Ra)
              refine Or.inr ⟨ua, z3, ?_, z4⟩
              rw [ua] at z1
              by_cases u4 : c < r
              · exact absurd (rn.2.1 c (by have := z1.1; omega) u4) z1.2.2.2
              · by_cases u5 : r < c
                · exact absurd (z1.2.1 r (by omega) u5) nr
                · omega
  refine vc176_0 ho (c22 ho w11 ⟨by decide, by decide⟩ (by decide) (fun v v0 v1 v2 v3 _ => ?_))
  refine loop _ v _ M (Nat.le_refl _) v0 v1 (fun z => ?_) ho fr_refl (BO_iff h (fun a b c d => ⟨Or.inl, fun z => z.elim id (fun z => ?_)⟩))
  · have y := v3 z
    refine ⟨(hR v).mp y.2, fun u => ?_⟩
    have := hR1 _ u
    exact v2 (v - 1) (by omega) (by omega) ((hR _).mpr u)
  · exfalso
    have Ra := z.1.2.1 a (Int.le_refl _) z.1.1
    have := hR1 a Ra
    exact v2 a (by omega) z.2.1 ((hR a).mpr Ra)
/-- the boxes that begin with a band before i -/
def CN (s : sh) (i k : Int) : Int → Int → Int → Int → Prop := fun l lo r hi => ∃ i' k', CNI s i' k' l r ∧ lo = slo s i' ∧ hi = shi s k' ∧ (i' < i ∨ (i' = i ∧ k' < k))
/-- CellAreas.findLargest -/
theorem c177 {K : mm_M → Prop} {A : Nat} (ho : mr_ok M) (hA : AW M A) (k : ∀ M1, fr (fun a _ => a = 12 ∨ a = 14 ∨ a = 23) M M1 → BOm (CN (rdA M A) (sn (rdA M A)) 0) M1 → K M1) : en_CV sc 177 [mm_r 0, mm_r A, mm_u, mm_u] M K X := by
  have w := hA.2.1
  have n0 := w.1
  have n1 : sn (rdA M A) ≤ 100 := hA.2.2.1
  have keep : ∀ M' : mm_M, fr (fun a _ => a = 12 ∨ a = 14 ∨ a = 23) M M' → AW M' A ∧ rdA M' A = rdA M A := fun M' f => ⟨AW_fr f (fun b k h0 h1 z => by have := hA.1; unfold mr_A at this; omega) hA, rdA_fr f (fun b k h0 h1 z => by have := hA.1; unfold mr_A at this; omega)⟩
  have f23 : ∀ M1 M2 : mm_M, fr bS23 M1 M2 → fr (fun a _ => a = 12 ∨ a = 14 ∨ a = 23) M1 M2 := fun M1 M2 f => fr_mono f (fun a k z => Or.inr (Or.inr z))
  have f11 : ∀ M1 M2 : mm_M, fr (rS 11) M1 M2 → fr (fun a _ => a = 12 ∨ a = 14 ∨ a = 23) M1 M2 := fun M1 M2 f => fr_mono f (fun a k z => Or.inl z)
  have f13 : ∀ M1 M2 : mm_M, fr (rS 13) M1 M2 → fr (fun a _ => a = 12 ∨ a = 14 ∨ a = 23) M1 M2 := fun M1 M2 f => fr_mono f (fun a k z => Or.inr (Or.inl z))
  have B23 : ∀ (P : Int → Int → Int → Int → Prop) (M1 M2 : mm_M), fr (fun a _ => a = 12 ∨ a = 14) M1 M2 → BOm P M1 → BOm P M2 := fun P M1 M2 f h => by
    have e : ∀ j, M2.1 23 j = M1.1 23 j := fun j => f.2 _ _ (by omega)
    unfold BOm at h ⊢
    rw [e, e, e, e, e]
    exact h
  have inner : ∀ (c : Nat) (i kk : Int) (M' : mm_M), c = (sn (rdA M A) - kk).toNat → 0 ≤ i → i < kk → kk ≤ sn (rdA M A) → mr_ok M' → fr (fun a _ => a = 12 ∨ a = 14 ∨ a = 23) M M' → (∀ x, ri M' 11 x ↔ ∀ j, i ≤ j → j < kk → inb (rdA M A) j x) → (∀ j, i < j → j < kk → shi (rdA M A) (j - 1) = slo (rdA M A) j) → BOm (CN (rdA M A) i kk) M' →
      (∀ (l3 : Int) (M1 : mm_M), mr_ok M1 → fr (fun a _ => a = 12 ∨ a = 14 ∨ a = 23) M M1 → BOm (CN (rdA M A) (i + 1) 0) M1 → en_R sc 177 9 [mm_r 0, mm_r A, mm_i (i + 1), mm_i l3] [] M1 (QV K X)) →
      en_R sc 177 55 [mm_r 0, mm_r A, mm_i i, mm_i kk] [] M' (QV K X) := by
    intro c
    induction c with
    | zero =>
      intro i kk M' hc i0 i1 k1 ho' hf hr ht hB g
      obtain ⟨A', s'⟩ := keep M' hf
      have rr := rdA_row s' 0 (Int.le_refl 0)
      refine vc177_55 ho' hA.1 ⟨by omega, by omega⟩ ?_
      rw [rr.2.2.2.2.2.2.1]
      refine ⟨fun _ => g kk M' ho' hf (BO_iff hB (fun l lo r hi => ?_)), fun q => absurd (by omega) q⟩
      constructor
      · rintro ⟨i', k', z, z1, z2, z3⟩
        exact ⟨i', k', z, z1, z2, by omega⟩
      · rintro ⟨i', k', z, z1, z2, z3⟩
        have := z.1
        have := z.2.1
        have := z.2.2.1
        exact ⟨i', k', z, z1, z2, by omega⟩
    | succ c ih =>
      intro i kk M' hc i0 i1 k1 ho' hf hr ht hB g
      obtain ⟨A', s'⟩ := keep M' hf
      have rr := rdA_row s' 0 (Int.le_refl 0)
      have stop : (∀ k' l r, kk ≤ k' → ¬ CNI (rdA M A) i k' l r) → ∀ M1, mr_ok M1 → M1 = M' → en_R sc 177 9 [mm_r 0, mm_r A, mm_i (i + 1), mm_i kk] [] M1 (QV K X) := by
        intro nn M1 o1 e1
        rw [e1]
        refine g kk M' ho' hf (BO_iff hB (fun l lo r hi => ?_))
        constructor
        · rintro ⟨i', k', z, z1, z2, z3⟩
          exact ⟨i', k', z, z1, z2, by omega⟩
        · rintro ⟨i', k', z, z1, z2, z3⟩
          have z4 := z.1
          have z5 := z.2.1
          refine ⟨i', k', z, z1, z2, ?_⟩
          by_cases u : i' < i
          · exact Or.inl u
          · have ui : i' = i := by omega
            refine Or.inr ⟨ui, ?_⟩
            by_cases u2 : k' < kk
            · exact u2
            · rw [ui] at z
              exact absurd z (nn k' l r (by omega))
      refine vc177_55 ho' hA.1 ⟨by omega, by omega⟩ ?_
      rw [rr.2.2.2.2.2.2.1]
      refine ⟨fun q => absurd q (by omega), fun _ => c96 ho' hA.1 ⟨by omega, by omega⟩ (by omega) (fun no _ => ⟨⟨by decide, by decide⟩, fun _ => stop (fun k' l r kk' z => ?_) M' ho' rfl, fun z => absurd rfl z⟩) (fun y0 y1 _ => ⟨⟨by omega, by omega⟩, fun z => absurd z (by omega), fun _ => c23 ho' w11 (fun em _ => ⟨⟨by decide, by decide⟩, fun _ => stop (fun k' l r kk' z => ?_) M' ho' rfl, fun z => absurd (by decide) z⟩) (fun _ _ => ⟨⟨by decide, by decide⟩, fun z => absurd rfl z, fun _ => c12 ho' w13 (fun Ma fa ra hoa => ?_)⟩)⟩)⟩
      · rw [rr.2.2.2.2.1, rr.2.2.2.2.2.1] at no
        exact no ⟨by omega, z.2.2.2.1 kk (by omega) kk'⟩
      · have Rl := z.2.2.2.2.2.1 l (Int.le_refl _) z.2.2.2.2.1
        have i1' : i < sn (rdA M A) := by omega
        have hb := inb_rg (w.2.2.1 i i0 i1') (Rl i (Int.le_refl _) (by omega))
        exact em l hb.2 ((hr l).mpr (fun j a b => Rl j a (by omega)))
      · rw [rr.2.2.2.2.1, rr.2.2.2.2.2.1] at y1
        have fA := fr_trans hf (f13 _ _ fa)
        obtain ⟨Aa, sa⟩ := keep Ma fA
        refine c52x hoa Aa (by omega) (by rw [sa]; omega) w13 (fun Mb fb rb' hob => ?_)
        rw [sa] at rb'
        refine c55x hob w11 w13 (by decide) ⟨by decide, by decide⟩ (fun Mc fc rc hoc => ?_)
        have fC := fr_trans fA (fr_trans (f13 _ _ fb) (f11 _ _ fc))
        obtain ⟨Ac, sc'⟩ := keep Mc fC
        have r2 := rdA_row sc' 0 (Int.le_refl 0)
        have Rc : ∀ x, ri Mc 11 x ↔ ∀ j, i ≤ j → j ≤ kk → inb (rdA M A) j x := by
          intro x
          rw [rc, mp1, rb', ri_fr fb (fun k z => by have z' : 11 + 1 = 13 + 1 := z; omega), ri_fr fa (fun k z => by have z' : 11 + 1 = 13 + 1 := z; omega), hr]
          constructor
          · rintro ⟨z1, z2⟩ j j0 j1
            by_cases u : j = kk
            · rw [u]
              exact z2.elim (fun z => absurd z (ra x)) id
            · exact z1 j j0 (by omega)
          · intro z
            exact ⟨fun j j0 j1 => z j j0 (by omega), Or.inr (z kk (by omega) (Int.le_refl _))⟩
        have ht' : ∀ j, i < j → j ≤ kk → shi (rdA M A) (j - 1) = slo (rdA M A) j := fun j j0 j1 => by
          by_cases u : j = kk
          · rw [u]; exact y1
          · exact ht j j0 (by omega)
        have bi := w.2.2.1 i i0 (by omega)
        have bk := w.2.2.1 kk (by omega) (by omega)
        have lh := wf_hl w i0 i1 (show kk < sn (rdA M A) by omega)
        have d1 := bi.2.1
        have d2 := bi.2.2.1
        have d3 := bk.2.2.1
        have d4 := bk.2.2.2.1
        refine ⟨i0, by omega, by omega, by omega, ?_⟩
        rw [r2.2.2.2.2.1, r2.2.2.2.2.2.1]
        have frow : fr (fun a _ => a = 12 ∨ a = 14) M' Mc := fr_trans (fr_mono fa (fun a k z => Or.inr z)) (fr_trans (fr_mono fb (fun a k z => Or.inr z)) (fr_mono fc (fun a k z => Or.inl z)))
        refine c176 (P' := CN (rdA M A) i (kk + 1)) hoc (B23 _ _ _ frow hB) Rc (fun x z => inb_rg bi (z i (Int.le_refl _) (by omega))) ⟨by omega, by omega, by omega⟩ (fun l lo r hi => ?_) (fun Md fd Bd hod => ?_)
        · constructor
          · rintro ⟨i', k', z, z1, z2, z3⟩
            by_cases u : i' < i ∨ i' = i ∧ k' < kk
            · exact Or.inl ⟨i', k', z, z1, z2, u⟩
            · have u1 : i' = i := by omega
              have u2 : k' = kk := by omega
              rw [u1, u2] at z
              rw [u1] at z1
              rw [u2] at z2
              exact Or.inr ⟨z.2.2.2.2, z1, z2⟩
          · rintro (⟨i', k', z, z1, z2, z3⟩ | ⟨z, z1, z2⟩)
            · exact ⟨i', k', z, z1, z2, by omega⟩
            · exact ⟨i, kk, ⟨i0, by omega, by omega, ht', z⟩, z1, z2, by omega⟩
        · have fD := fr_trans fC (f23 _ _ fd)
          refine ih i (kk + 1) Md (by omega) i0 (by omega) (by omega) hod fD (fun x => ?_) (fun j j0 j1 => ht' j j0 (by omega)) Bd g
          rw [ri_fr fd (fun k z => by have z' : 11 + 1 = 23 := z; omega), Rc]
          exact ⟨fun z j j0 j1 => z j j0 (by omega), fun z j j0 j1 => z j j0 (by omega)⟩
  have outer : ∀ (c : Nat) (i : Int) (l3 : mm_V) (M' : mm_M), c = (sn (rdA M A) - i).toNat → 0 ≤ i → i ≤ sn (rdA M A) → mr_ok M' → fr (fun a _ => a = 12 ∨ a = 14 ∨ a = 23) M M' → BOm (CN (rdA M A) i 0) M' → en_R sc 177 9 [mm_r 0, mm_r A, mm_i i, l3] [] M' (QV K X) := by
    intro c
    induction c with
    | zero =>
      intro i l3 M' hc i0 i1 ho' hf hB
      obtain ⟨A', s'⟩ := keep M' hf
      have rr := rdA_row s' 0 (Int.le_refl 0)
      have ei : i = sn (rdA M A) := by omega
      refine vc177_9 ho' hA.1 ⟨by omega, by omega⟩ ?_
      rw [rr.2.2.2.2.2.2.1]
      rw [ei] at hB
      exact ⟨fun _ => Or.inl ⟨rfl, k M' hf hB⟩, fun q => absurd (by omega) q⟩
    | succ c ih =>
      intro i l3 M' hc i0 i1 ho' hf hB
      obtain ⟨A', s'⟩ := keep M' hf
      have rr := rdA_row s' 0 (Int.le_refl 0)
      refine vc177_9 ho' hA.1 ⟨by omega, by omega⟩ ?_
      rw [rr.2.2.2.2.2.2.1]
      refine ⟨fun q => absurd q (by omega), fun _ => c12 ho' w11 (fun Ma fa ra hoa => ?_)⟩
      have fA := fr_trans hf (f11 _ _ fa)
      obtain ⟨Aa, sa⟩ := keep Ma fA
      refine c52x hoa Aa i0 (by rw [sa]; omega) w11 (fun Mb fb rb' hob => ?_)
      rw [sa] at rb'
      have fB := fr_trans fA (f11 _ _ fb)
      obtain ⟨Ab, sb⟩ := keep Mb fB
      have r2 := rdA_row sb 0 (Int.le_refl 0)
      have bi := w.2.2.1 i i0 (by omega)
      have Rb : ∀ x, ri Mb 11 x ↔ inb (rdA M A) i x := fun x => (rb' x).trans ⟨fun z => z.elim (fun z => absurd z (ra x)) id, Or.inr⟩
      refine ⟨i0, by omega, i0, by omega, ?_⟩
      rw [r2.2.2.2.2.1, r2.2.2.2.2.2.1]
      have frow : fr (fun a _ => a = 12 ∨ a = 14) M' Mb := fr_trans (fr_mono fa (fun a k z => Or.inl z)) (fr_mono fb (fun a k z => Or.inl z))
      refine c176 (P' := CN (rdA M A) i (i + 1)) hob (B23 _ _ _ frow hB) Rb (fun x z => inb_rg bi z) ⟨bi.2.1, bi.2.2.1, bi.2.2.2.1⟩ (fun l lo r hi => ?_) (fun Md fd Bd hod => ?_)
      · constructor
        · rintro ⟨i', k', z, z1, z2, z3⟩
          have y1 := z.1
          have y2 := z.2.1
          by_cases u : i' < i
          · exact Or.inl ⟨i', k', z, z1, z2, Or.inl u⟩
          · have u1 : i' = i := by omega
            have u2 : k' = i := by omega
            rw [u1, u2] at z
            rw [u1] at z1
            rw [u2] at z2
            obtain ⟨v1, v2, v3, v4⟩ := z.2.2.2.2
            refine Or.inr ⟨⟨v1, fun x x0 x1 => v2 x x0 x1 i (Int.le_refl _) (Int.le_refl _), fun y => v3 (fun j j0 j1 => ?_), fun y => v4 (fun j j0 j1 => ?_)⟩, z1, z2⟩
            · have : j = i := by omega
              rw [this]; exact y
            · have : j = i := by omega
              rw [this]; exact y
        · rintro (⟨i', k', z, z1, z2, z3⟩ | ⟨z, z1, z2⟩)
          · have y1 := z.1
            have y2 := z.2.1
            exact ⟨i', k', z, z1, z2, by omega⟩
          · obtain ⟨v1, v2, v3, v4⟩ := z
            refine ⟨i, i, ⟨i0, Int.le_refl _, by omega, fun j j0 j1 => absurd j0 (by omega), v1, fun x x0 x1 j j0 j1 => ?_, fun y => v3 (y i (Int.le_refl _) (Int.le_refl _)), fun y => v4 (y i (Int.le_refl _) (Int.le_refl _))⟩, z1, z2, by omega⟩
            have : j = i := by omega
            rw [this]; exact v2 x x0 x1
      · have fD := fr_trans fB (f23 _ _ fd)
        refine inner _ i (i + 1) Md rfl i0 (by omega) (by omega) hod fD (fun x => ?_) (fun j j0 j1 => absurd j1 (by omega)) Bd (fun l3 M1 o1 f1 B1 => ih (i + 1) _ M1 (by omega) (by omega) (by omega) o1 f1 B1)
        rw [ri_fr fd (fun k z => by have z' : 11 + 1 = 23 := z; omega), Rb]
        constructor
        · intro z j j0 j1
          have : j = i := by omega
          rw [this]; exact z
        · exact fun z => z i (Int.le_refl _) (by omega)
  refine vc177_0 ho (vc173_0 ho (Or.inl ⟨rfl, fun ho1 => ?_⟩))
  refine outer _ 0 _ _ rfl (Int.le_refl _) n0 ho1 (fr_put (Or.inr (Or.inr rfl))) (Or.inl ⟨put_eq, fun l lo r hi => ?_⟩)
  rintro ⟨i', k', z, z1, z2, z3⟩
  have y1 := z.1
  have y2 := z.2.1
  omega
end
