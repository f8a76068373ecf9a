/-! ===== CellAreasModel.goRound ===== -/
def orb (C : Int → Int → Bool) (p q : wlk) : Prop := ∃ m, sti C m p = q
section
variable {C : Int → Int → Bool}
theorem sti_per {p : wlk} {m : Nat} (h : sti C m p = p) : ∀ a, sti C (a * m) p = p := by
  intro a
  induction a with
  | zero =>
    have e : 0 * m = 0 := by omega
    rw [e]; rfl
  | succ a ih =>
    have e : (a + 1) * m = a * m + m := Nat.succ_mul a m
    rw [e, sti_add, ih, h]
theorem sti_mod {p : wlk} {m : Nat} (h : sti C m p = p) (k : Nat) : sti C k p = sti C (k % m) p := by
  have e : k = k / m * m + k % m := by
    have := Nat.div_add_mod k m
    rw [Nat.mul_comm] at this
    omega
  have g := sti_add (C := C) (k / m * m) (k % m) p
  rw [← e, sti_per h] at g
  exact g
theorem orb_clo {p : wlk} {m : Nat} (hp : isS C p) (m0 : 0 < m) (h : sti C m p = p) {q : wlk} (hq : isS C q) : orb C p (stp C q) ↔ orb C p q := by
  constructor
  · rintro ⟨k, e⟩
    cases k with
    | zero =>
      refine ⟨m - 1, ?_⟩
      have e1 : m = (m - 1) + 1 := by omega
      rw [e1, sti_last] at h
      have e' : p = stp C q := e
      exact stp_inj (sti_isS hp _) hq (h.trans e')
    | succ k =>
      rw [sti_last] at e
      exact ⟨k, stp_inj (sti_isS hp _) hq e⟩
  · rintro ⟨k, e⟩
    refine ⟨k + 1, ?_⟩
    rw [sti_last, e]
theorem clo_sti {G : wlk → Prop} (h : clo C G) {p : wlk} (hp : isS C p) : ∀ n, G (sti C n p) ↔ G p := by
  intro n
  induction n with
  | zero => exact Iff.rfl
  | succ n ih => rw [sti_last, h _ (sti_isS hp n), ih]
/-- a walk that comes to a place where it has been has come back to where it began -/
theorem back {G : wlk → Prop} (hc : clo C G) {p : wlk} (hp : isS C p) (hn : ¬ G p) {n : Nat} (h : G (sti C n p) ∨ ∃ u, u < n ∧ sti C u p = sti C n p) : ∃ m, 0 < m ∧ m ≤ n ∧ sti C m p = p := by
  rcases h with h | ⟨u, un, e⟩
  · exact absurd ((clo_sti hc hp n).mp h) hn
  · refine ⟨n - u, by omega, by omega, ?_⟩
    have e1 : n = (n - u) + u := by omega
    rw [e1, sti_add] at e
    exact (sti_inj hp (sti_isS hp _) u e).symm
end
theorem sum01 {f : Int → Int} {n : Nat} (h : ∀ k, 0 ≤ k → k < (n : Int) → f k = 0 ∨ f k = 1) : sumN f n ≤ n := by
  induction n with
  | zero => exact Int.le_refl _
  | succ n ih =>
    have a := ih (fun k a b => h k a (by omega))
    have b := h (n : Int) (by omega) (by omega)
    show sumN f n + f (n : Int) ≤ ((n + 1 : Nat) : Int)
    omega
def st3 (M : mm_M) (l : Int) : wlk := (M.1 91 l, M.1 92 l, M.1 93 l)
abbrev gfS : Nat → Int → Prop := fun a k => a = 91 ∨ a = 92 ∨ a = 93 ∨ a = 94 ∨ (a = 72 ∧ (k = 29 ∨ k = 31 ∨ k = 32 ∨ k = 33))
/-- gone -/
abbrev Gn (M : mm_M) (p : wlk) : Prop := M.1 94 (sx (gw M) p) ≠ 0
abbrev nT (M : mm_M) : Int := 4 * (gw M + 1) * (gh M + 1)
abbrev v01 (M : mm_M) : Prop := ∀ x, 0 ≤ x → x < nT M → M.1 94 x = 0 ∨ M.1 94 x = 1
theorem gfS_keep {M M1 : mm_M} (f : fr gfS M M1) : gKeep M M1 := gKeep_fr f (fun a k z => by
  have z' : a = 91 ∨ a = 92 ∨ a = 93 ∨ a = 94 ∨ (a = 72 ∧ (k = 29 ∨ k = 31 ∨ k = 32 ∨ k = 33)) := z
  omega)
section
variable {sc : Nat × (Int → Int)} {M : mm_M} {X : Nat → mm_M → Prop} {s : sh}
theorem side_rg (g : GRD s M) {p : wlk} (hp : isS (Cg s M) p) : 0 ≤ sx (gw M) p ∧ sx (gw M) p < nT M ∧ nT M ≤ 640000 := by
  have r := isS_rg hp
  exact sx_rg g.1.2.1 g.1.2.2.2.1 r.1 r.2.1 r.2.2.1 r.2.2.2.1 hp.1
theorem side_inj {p q : wlk} (hp : isS (Cg s M) p) (hq : isS (Cg s M) q) (e : sx (gw M) p = sx (gw M) q) : p = q := by
  have r := isS_rg hp
  have r' := isS_rg hq
  exact sx_inj r.1 r.2.1 r'.1 r'.2.1 hp.1 hq.1 e
theorem c152 {K : mm_M → Prop} {p : wlk} {n : Int} (ho : mr_ok M) (g : GRD s M) (hp : isS (Cg s M) p) (hn : ¬ Gn M p) (hc : clo (Cg s M) (Gn M)) (hv : v01 M) (hl : M.1 72 29 = n) (n0 : 0 ≤ n) (n1 : n < 900)
    (k : ∀ M1, fr gfS M M1 → M1.1 72 29 = n + 1 → st3 M1 n = p → (∀ l, l ≠ n → st3 M1 l = st3 M l) → (∃ m, 0 < m ∧ sti (Cg s M) m p = p) → (∀ q, isS (Cg s M) q → (Gn M1 q ↔ Gn M q ∨ orb (Cg s M) p q)) → v01 M1 → K M1) : en_CV sc 152 [mm_r 72, mm_i p.1, mm_i p.2.1, mm_i p.2.2] M K X := by
  have pr := isS_rg hp
  have pw := hp.1
  have h1 := g.1.2.1
  have h2 := g.1.2.2.2.1
  -- the walk
  have loop : ∀ (c t : Nat) (Ms M' : mm_M), (nT M - sumN (M'.1 94) (nT M).toNat).toNat ≤ c → fr gfS M Ms → Ms.1 72 29 = n + 1 → st3 Ms n = p → (∀ l, l ≠ n → st3 Ms l = st3 M l) → mr_ok M' → fr (fun a k => a = 94 ∨ stS a k) Ms M' → at3 M' = sti (Cg s M) t p → (∀ q, isS (Cg s M) q → (Gn M' q ↔ Gn M q ∨ ∃ u, u < t ∧ sti (Cg s M) u p = q)) → v01 M' → en_R sc 152 55 [mm_r 72, mm_i p.1, mm_i p.2.1, mm_i p.2.2] [] M' (QV K X) := by
    intro c
    induction c with
    | zero =>
      intro t Ms M' hm fs s1 s2 s3 ho' hf ha hg hv'
      have fm : fr gfS M M' := fr_trans fs (fr_mono hf (fun a k z => by have z' : a = 94 ∨ (a = 72 ∧ 31 ≤ k ∧ k ≤ 33) := z; show a = 91 ∨ a = 92 ∨ a = 93 ∨ a = 94 ∨ (a = 72 ∧ (k = 29 ∨ k = 31 ∨ k = 32 ∨ k = 33)); omega))
      have kp := gfS_keep fm
      have isT := sti_isS hp t
      have sr := side_rg g isT
      have ew : gw M' = gw M := kp.1
      have eT : nT M' = nT M := by show 4 * (gw M' + 1) * (gh M' + 1) = _; rw [kp.1, kp.2.1]
      refine vc152_55 ho' (c150 (p := at3 M') ho' (fun _ => ?_))
      rw [ha, ew]
      refine ⟨sr.1, by omega, fun z => ?_, fun z => ?_⟩
      · have gz : Gn M' (sti (Cg s M) t p) := by show M'.1 94 (sx (gw M') _) ≠ 0; rw [ew]; exact z
        obtain ⟨m, m0, m1, m2⟩ := back hc hp hn ((hg _ isT).mp gz)
        have f29 : M'.1 72 29 = n + 1 := by rw [hf.2 72 29 (by omega)]; exact s1
        have fs3 : ∀ l, st3 M' l = st3 Ms l := fun l => by unfold st3; rw [hf.2 91 l (by omega), hf.2 92 l (by omega), hf.2 93 l (by omega)]
        refine Or.inl ⟨rfl, k M' fm f29 (by rw [fs3]; exact s2) (fun l z => by rw [fs3]; exact s3 l z) ⟨m, m0, m2⟩ (fun q hq => ?_) hv'⟩
        rw [hg q hq]
        constructor
        · rintro (y | ⟨u, _, y⟩)
          · exact Or.inl y
          · exact Or.inr ⟨u, y⟩
        · rintro (y | ⟨u, y⟩)
          · exact Or.inl y
          · refine Or.inr ⟨u % m, ?_, ?_⟩
            · have := Nat.mod_lt u m0
              omega
            · rw [← sti_mod m2 u]; exact y
      · exfalso
        have z' : M'.1 94 (sx (gw M) (sti (Cg s M) t p)) = 0 := Classical.byContradiction z
        have tn : ((nT M).toNat : Int) = nT M := by omega
        have up := sum01 (f := fun x => if x = sx (gw M) (sti (Cg s M) t p) then 1 else M'.1 94 x) (n := (nT M).toNat) (fun k k0 k1 => by
          show (if k = _ then (1 : Int) else _) = 0 ∨ _
          split
          · exact Or.inr rfl
          · exact hv' k k0 (by rw [eT]; omega))
        have lt := sumN_lt (f := M'.1 94) (g := fun x => if x = sx (gw M) (sti (Cg s M) t p) then 1 else M'.1 94 x) (n := (nT M).toNat) (fun k k0 k1 => by
          show _ ≤ (if k = _ then (1 : Int) else _)
          split
          · rename_i y
            rw [y, z']; decide
          · exact Int.le_refl _) sr.1 (by omega) (by
          show _ < (if _ = _ then (1 : Int) else _)
          rw [if_pos rfl, z']; decide)
        omega
    | succ c ih =>
      intro t Ms M' hm fs s1 s2 s3 ho' hf ha hg hv'
      have fm : fr gfS M M' := fr_trans fs (fr_mono hf (fun a k z => by have z' : a = 94 ∨ (a = 72 ∧ 31 ≤ k ∧ k ≤ 33) := z; show a = 91 ∨ a = 92 ∨ a = 93 ∨ a = 94 ∨ (a = 72 ∧ (k = 29 ∨ k = 31 ∨ k = 32 ∨ k = 33)); omega))
      have kp := gfS_keep fm
      have isT := sti_isS hp t
      have sr := side_rg g isT
      have ew : gw M' = gw M := kp.1
      have eT : nT M' = nT M := by show 4 * (gw M' + 1) * (gh M' + 1) = _; rw [kp.1, kp.2.1]
      refine vc152_55 ho' (c150 (p := at3 M') ho' (fun _ => ?_))
      rw [ha, ew]
      refine ⟨sr.1, by omega, fun z => ?_, fun z => c150 (p := at3 M') ho' (fun _ => ?_)⟩
      · have gz : Gn M' (sti (Cg s M) t p) := by show M'.1 94 (sx (gw M') _) ≠ 0; rw [ew]; exact z
        obtain ⟨m, m0, m1, m2⟩ := back hc hp hn ((hg _ isT).mp gz)
        have f29 : M'.1 72 29 = n + 1 := by rw [hf.2 72 29 (by omega)]; exact s1
        have fs3 : ∀ l, st3 M' l = st3 Ms l := fun l => by unfold st3; rw [hf.2 91 l (by omega), hf.2 92 l (by omega), hf.2 93 l (by omega)]
        refine Or.inl ⟨rfl, k M' fm f29 (by rw [fs3]; exact s2) (fun l z => by rw [fs3]; exact s3 l z) ⟨m, m0, m2⟩ (fun q hq => ?_) hv'⟩
        rw [hg q hq]
        constructor
        · rintro (y | ⟨u, _, y⟩)
          · exact Or.inl y
          · exact Or.inr ⟨u, y⟩
        · rintro (y | ⟨u, y⟩)
          · exact Or.inl y
          · refine Or.inr ⟨u % m, ?_, ?_⟩
            · have := Nat.mod_lt u m0
              omega
            · rw [← sti_mod m2 u]; exact y
      · rw [ha, ew]
        have z' : M'.1 94 (sx (gw M) (sti (Cg s M) t p)) = 0 := Classical.byContradiction z
        refine ⟨sr.1, by omega, ?_⟩
        have hoa : mr_ok (mm_putN M' 94 (sx (gw M) (sti (Cg s M) t p)) 1) := mr_ok_putI ho' ⟨by decide, by decide⟩
        have fa : fr (fun a _ => a = 94) M' (mm_putN M' 94 (sx (gw M) (sti (Cg s M) t p)) 1) := fr_put rfl
        have a1 : (mm_putN M' 94 (sx (gw M) (sti (Cg s M) t p)) 1).1 94 (sx (gw M) (sti (Cg s M) t p)) = 1 := put_eq
        have a2 : ∀ x, x ≠ sx (gw M) (sti (Cg s M) t p) → (mm_putN M' 94 (sx (gw M) (sti (Cg s M) t p)) 1).1 94 x = M'.1 94 x := fun x y => put_k y
        generalize mm_putN M' 94 (sx (gw M) (sti (Cg s M) t p)) 1 = Ma at hoa fa a1 a2
        have ka : gKeep M Ma := gKeep_trans kp (gKeep_fr fa (fun a k z => by omega))
        have at3a : at3 Ma = sti (Cg s M) t p := by
          rw [← ha]
          unfold at3
          rw [fa.2 72 31 (by omega), fa.2 72 32 (by omega), fa.2 72 33 (by omega)]
        have Ga := gKeep_GRD ka g
        have Ca : Cg s Ma = Cg s M := Cg_keep ka
        refine c151 hoa Ga (by rw [at3a, Ca]; exact isT) (fun Mb fb eb hob => ?_)
        rw [at3a, Ca, ← sti_last] at eb
        have b94 : ∀ x, Mb.1 94 x = Ma.1 94 x := fun x => fb.2 94 x (by omega)
        have kb : gKeep M Mb := gKeep_trans ka (stS_keep fb)
        have ewb : gw Mb = gw M := kb.1
        have eTb : nT Mb = nT M := by show 4 * (gw Mb + 1) * (gh Mb + 1) = _; rw [kb.1, kb.2.1]
        have tn : ((nT M).toNat : Int) = nT M := by omega
        have vb : v01 Mb := fun x x0 x1 => by
          rw [b94]
          by_cases y : x = sx (gw M) (sti (Cg s M) t p)
          · rw [y, a1]; exact Or.inr rfl
          · rw [a2 x y]; exact hv' x x0 (by rw [eT]; rw [eTb] at x1; exact x1)
        have up := sum01 (f := Mb.1 94) (n := (nT M).toNat) (fun k k0 k1 => vb k k0 (by rw [eTb]; omega))
        have lt := sumN_lt (f := M'.1 94) (g := Mb.1 94) (n := (nT M).toNat) (fun k k0 k1 => by
          rw [b94]
          by_cases y : k = sx (gw M) (sti (Cg s M) t p)
          · rw [y, a1, z']; decide
          · rw [a2 k y]; exact Int.le_refl _) sr.1 (by omega) (by rw [b94, a1, z']; decide)
        refine ih (t + 1) Ms Mb (by omega) fs s1 s2 s3 hob (fr_trans hf (fr_trans (fr_mono fa (fun a k z => Or.inl z)) (fr_mono fb (fun a k z => Or.inr z)))) eb (fun q hq => ?_) vb
        have e1 : Gn Mb q ↔ (q = sti (Cg s M) t p ∨ Gn M' q) := by
          show Mb.1 94 (sx (gw Mb) q) ≠ 0 ↔ _
          rw [ewb, b94]
          by_cases y : sx (gw M) q = sx (gw M) (sti (Cg s M) t p)
          · rw [y, a1]
            exact ⟨fun _ => Or.inl (side_inj hq isT y), fun _ => by decide⟩
          · rw [a2 _ y]
            constructor
            · intro y2
              exact Or.inr (by show M'.1 94 (sx (gw M') q) ≠ 0; rw [ew]; exact y2)
            · rintro (y2 | y2)
              · rw [y2] at y; exact absurd rfl y
              · have y3 : M'.1 94 (sx (gw M') q) ≠ 0 := y2
                rw [ew] at y3; exact y3
        rw [e1, hg q hq]
        constructor
        · rintro (y | y | ⟨u, u1, y⟩)
          · exact Or.inr ⟨t, by omega, y.symm⟩
          · exact Or.inl y
          · exact Or.inr ⟨u, by omega, y⟩
        · rintro (y | ⟨u, u1, y⟩)
          · exact Or.inr (Or.inl y)
          · by_cases ut : u = t
            · rw [ut] at y
              exact Or.inl y.symm
            · exact Or.inr (Or.inr ⟨u, by omega, y⟩)
  refine vc152_0 ho ⟨by omega, by omega⟩ ⟨by omega, by omega⟩ ⟨by omega, by omega⟩ ?_
  rw [hl]
  have q1 : (mm_putN M 91 n p.1).1 72 29 = n := by rw [put_a (by decide)]; exact hl
  rw [q1]
  have q2 : (mm_putN (mm_putN M 91 n p.1) 92 n p.2.1).1 72 29 = n := by rw [put_a (by decide)]; exact q1
  rw [q2]
  have q3 : (mm_putN (mm_putN (mm_putN M 91 n p.1) 92 n p.2.1) 93 n p.2.2).1 72 29 = n := by rw [put_a (by decide)]; exact q2
  rw [q3]
  refine ⟨n0, n1, n0, n1, n0, n1, ⟨by omega, by omega⟩, ?_⟩
  have hos : mr_ok (mm_putN (mm_putN (mm_putN (mm_putN (mm_putN (mm_putN (mm_putN M 91 n p.1) 92 n p.2.1) 93 n p.2.2) 72 29 (n + 1)) 72 31 p.1) 72 32 p.2.1) 72 33 p.2.2) := mr_ok_putI (mr_ok_putI (mr_ok_putI (mr_ok_putI (mr_ok_putI (mr_ok_putI (mr_ok_putI ho ⟨by omega, by omega⟩) ⟨by omega, by omega⟩) ⟨by omega, by omega⟩) ⟨by omega, by omega⟩) ⟨by omega, by omega⟩) ⟨by omega, by omega⟩) ⟨by omega, by omega⟩
  have fs : fr gfS M (mm_putN (mm_putN (mm_putN (mm_putN (mm_putN (mm_putN (mm_putN M 91 n p.1) 92 n p.2.1) 93 n p.2.2) 72 29 (n + 1)) 72 31 p.1) 72 32 p.2.1) 72 33 p.2.2) := fr_trans (fr_put (by omega)) (fr_trans (fr_put (by omega)) (fr_trans (fr_put (by omega)) (fr_trans (fr_put (by omega)) (fr_trans (fr_put (by omega)) (fr_trans (fr_put (by omega)) (fr_put (by omega)))))))
  have s1 : (mm_putN (mm_putN (mm_putN (mm_putN (mm_putN (mm_putN (mm_putN M 91 n p.1) 92 n p.2.1) 93 n p.2.2) 72 29 (n + 1)) 72 31 p.1) 72 32 p.2.1) 72 33 p.2.2).1 72 29 = n + 1 := by rw [put_k (by decide), put_k (by decide), put_k (by decide), put_eq]
  have s2 : st3 (mm_putN (mm_putN (mm_putN (mm_putN (mm_putN (mm_putN (mm_putN M 91 n p.1) 92 n p.2.1) 93 n p.2.2) 72 29 (n + 1)) 72 31 p.1) 72 32 p.2.1) 72 33 p.2.2) n = p := by
    unfold st3
    rw [put_a (by decide), put_a (by decide), put_a (by decide), put_a (by decide), put_a (by decide), put_a (by decide), put_eq, put_a (by decide), put_a (by decide), put_a (by decide), put_a (by decide), put_a (by decide), put_eq, put_a (by decide), put_a (by decide), put_a (by decide), put_a (by decide), put_eq]
  have s3 : ∀ l, l ≠ n → st3 (mm_putN (mm_putN (mm_putN (mm_putN (mm_putN (mm_putN (mm_putN M 91 n p.1) 92 n p.2.1) 93 n p.2.2) 72 29 (n + 1)) 72 31 p.1) 72 32 p.2.1) 72 33 p.2.2) l = st3 M l := by
    intro l z
    unfold st3
    rw [put_a (by decide), put_a (by decide), put_a (by decide), put_a (by decide), put_a (by decide), put_a (by decide), put_k z, put_a (by decide), put_a (by decide), put_a (by decide), put_a (by decide), put_a (by decide), put_k z, put_a (by decide), put_a (by decide), put_a (by decide), put_a (by decide), put_a (by decide), put_k z, put_a (by decide), put_a (by decide)]
  have s4 : at3 (mm_putN (mm_putN (mm_putN (mm_putN (mm_putN (mm_putN (mm_putN M 91 n p.1) 92 n p.2.1) 93 n p.2.2) 72 29 (n + 1)) 72 31 p.1) 72 32 p.2.1) 72 33 p.2.2) = p := by
    unfold at3
    rw [put_k (by decide), put_k (by decide), put_eq, put_k (by decide), put_eq, put_eq]
  have s5 : ∀ x, (mm_putN (mm_putN (mm_putN (mm_putN (mm_putN (mm_putN (mm_putN M 91 n p.1) 92 n p.2.1) 93 n p.2.2) 72 29 (n + 1)) 72 31 p.1) 72 32 p.2.1) 72 33 p.2.2).1 94 x = M.1 94 x := by
    intro x
    rw [put_a (by decide), put_a (by decide), put_a (by decide), put_a (by decide), put_a (by decide), put_a (by decide), put_a (by decide)]
  generalize mm_putN (mm_putN (mm_putN (mm_putN (mm_putN (mm_putN (mm_putN M 91 n p.1) 92 n p.2.1) 93 n p.2.2) 72 29 (n + 1)) 72 31 p.1) 72 32 p.2.1) 72 33 p.2.2 = Ms at hos fs s1 s2 s3 s4 s5
  have kp := gfS_keep fs
  have gs : ∀ q, Gn Ms q ↔ Gn M q := fun q => by
    show Ms.1 94 (sx (gw Ms) q) ≠ 0 ↔ _
    rw [kp.1, s5]
  refine loop _ 0 Ms Ms (Nat.le_refl _) fs s1 s2 s3 hos fr_refl s4 (fun q _ => ?_) (fun x x0 x1 => ?_)
  · rw [gs]
    exact ⟨Or.inl, fun z => z.elim id (fun ⟨u, u1, _⟩ => absurd u1 (by omega))⟩
  · rw [s5]
    refine hv x x0 ?_
    have x1' : x < 4 * (gw Ms + 1) * (gh Ms + 1) := x1
    rw [kp.1, kp.2.1] at x1'
    exact x1'
end
