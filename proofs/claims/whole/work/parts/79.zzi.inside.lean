/-! ===== CellAreas.Loops.layInside ===== -/
/-- where an edge stands -/
def epos (s : sh) (e : Int) : Int := if e % 2 = 0 then slf s (e / 2) else srt s (e / 2)
/-- edge e is one of loop l, in band b, at x or left of it -/
def evn (s : sh) (M : mm_M) (l b x e : Int) : Int := if M.1 18 e = l ∧ sst s b ≤ e / 2 ∧ e / 2 < sst s (b + 1) ∧ epos s e ≤ x then 1 else 0
/-- an odd number of them -/
def onb (s : sh) (M : mm_M) (l b x : Int) : Prop := sumN (evn s M l b x) (2 * nS_ s).toNat % 2 = 1
theorem sumN_ext {f : Int → Int} {n : Nat} : ∀ d : Nat, (∀ k : Int, (n : Int) ≤ k → k < (n : Int) + d → f k = 0) → sumN f (n + d) = sumN f n := by
  intro d
  induction d with
  | zero => intro _; rfl
  | succ d ih =>
    intro h
    show sumN f (n + d) + f ((n + d : Nat) : Int) = sumN f n
    rw [ih (fun k a b => h k a (by omega)), h ((n + d : Nat) : Int) (by omega) (by omega)]
    omega
theorem sumN_z {f : Int → Int} {n : Nat} (h : ∀ k : Int, 0 ≤ k → k < (n : Int) → f k = 0) : sumN f n = 0 := by
  have x := sumN_ext (f := f) (n := 0) n (fun k a b => h k a (by omega))
  rw [Nat.zero_add] at x
  rw [x]
  rfl
theorem evn_01 (s : sh) (M : mm_M) (l b x e : Int) : evn s M l b x e = 0 ∨ evn s M l b x e = 1 := by
  unfold evn
  split
  · exact Or.inr rfl
  · exact Or.inl rfl
section
variable {sc : Nat × (Int → Int)} {M : mm_M} {X : Nat → mm_M → Prop}
theorem c163 {K : mm_M → Prop} {A : Nat} {s : sh} {l b : Int} (ho : mr_ok M) (h : AW M A) (hs : rdA M A = s) (b0 : 0 ≤ b) (b1 : b < sn s) (hl : mr_rg l) (he : ∀ x, ¬ ri M 11 x) (k : ∀ M1, fr (rS 11) M M1 → (∀ x, ri M1 11 x ↔ (-1000 ≤ x ∧ x < 1000 ∧ onb s M l b x)) → K M1) : en_CV sc 163 [mm_r 17, mm_r A, mm_i l, mm_i b, mm_r 11, mm_u] M K X := by
  have w : wf s := by rw [← hs]; exact h.2.1
  have n1 : sn s ≤ 100 := by rw [← hs]; exact h.2.2.1
  have nS' : nS_ s ≤ 400 := by rw [← hs]; exact h.2.2.2
  have z0 := sst_mono w (Int.le_refl 0) b0 (show b ≤ sn s by omega)
  have z1 : sst s (b + 1) ≤ nS_ s := sst_mono w (show 0 ≤ b + 1 by omega) (show b + 1 ≤ sn s by omega) (Int.le_refl _)
  rw [w.2.1] at z0
  have bk := w.2.2.1 b b0 b1
  have eS : sst (rdA M A) b = sst s b := by rw [hs]
  have keepA : ∀ M', fr (rS 11) M M' → AW M' A ∧ rdA M' A = s := fun M' f => by
    have na : ∀ c (k : Int), A ≤ c → c ≤ A + 5 → ¬ rS 11 c k := fun c k a d z => by
      have z' : c = 11 + 1 := z
      have hA := h.1
      unfold mr_A at hA
      omega
    exact ⟨AW_fr f na h, (rdA_fr f na).trans hs⟩
  have flip : ∀ (M' M1 : mm_M) (a : Int) (v : Int → Int) (d : Int → Int), (∀ x, ri M' 11 x ↔ (-1000 ≤ x ∧ x < 1000 ∧ v x % 2 = 1)) → (∀ x, ri M1 11 x ↔ ¬ (ri M' 11 x ↔ (-1000 ≤ x ∧ x < 1000 ∧ a ≤ x ∧ x < 1000))) → (∀ x, d x = if a ≤ x then 1 else 0) → ∀ x, ri M1 11 x ↔ (-1000 ≤ x ∧ x < 1000 ∧ (v x + d x) % 2 = 1) := fun M' M1 a v d r1 r2 hd x => by
    rw [r2, r1, hd]
    by_cases q : -1000 ≤ x ∧ x < 1000
    · obtain ⟨q1, q2⟩ := q
      by_cases y : a ≤ x
      · rw [if_pos y]
        constructor
        · intro z
          refine ⟨q1, q2, ?_⟩
          by_cases t : v x % 2 = 1
          · exact absurd ⟨fun _ => ⟨q1, q2, y, q2⟩, fun _ => ⟨q1, q2, t⟩⟩ z
          · omega
        · rintro ⟨_, _, t⟩ z
          have := (z.mpr ⟨q1, q2, y, q2⟩).2.2
          omega
      · rw [if_neg y, Int.add_zero]
        constructor
        · intro z
          refine ⟨q1, q2, ?_⟩
          by_cases t : v x % 2 = 1
          · exact t
          · exact absurd ⟨fun u => absurd u.2.2 t, fun u => absurd u.2.2.1 y⟩ z
        · rintro ⟨_, _, t⟩ z
          exact y (z.mp ⟨q1, q2, t⟩).2.2.1
    · constructor
      · intro z
        exact absurd ⟨fun u => absurd ⟨u.1, u.2.1⟩ q, fun u => absurd ⟨u.1, u.2.1⟩ q⟩ z
      · rintro ⟨u1, u2, _⟩
        exact absurd ⟨u1, u2⟩ q
  have loop : ∀ (c : Nat) (j : Int) (M' : mm_M), (sst s (b + 1) - j).toNat ≤ c → sst s b ≤ j → j ≤ sst s (b + 1) → mr_ok M' → fr (rS 11) M M' → (∀ x, ri M' 11 x ↔ (-1000 ≤ x ∧ x < 1000 ∧ sumN (evn s M l b x) (2 * j).toNat % 2 = 1)) → en_R sc 163 7 [mm_r 17, mm_r A, mm_i l, mm_i b, mm_r 11, mm_i j] [] M' (QV K X) := by
    intro c
    induction c with
    | zero =>
      intro j M' hc j0 j1 ho' hf hr
      obtain ⟨A', s'⟩ := keepA M' hf
      have e3 : M'.1 (A + 3) (b + 1) = sst s (b + 1) := by rw [← s']; rfl
      have ej : j = sst s (b + 1) := by omega
      refine vc163_7 ho' h.1 ⟨by omega, by omega⟩ hl w11 (c51 ho' h.1 (by omega) (by omega) (fun _ => ?_))
      have e51 : bEn M' A b = sst s (b + 1) := by
        unfold bEn
        rw [if_neg (by omega), e3]
      rw [e51]
      refine ⟨⟨by omega, by omega⟩, fun _ => Or.inl ⟨rfl, k M' hf (fun x => ?_)⟩, fun q => absurd (by omega) q⟩
      rw [hr]
      unfold onb
      have e : (2 * nS_ s).toNat = (2 * j).toNat + (2 * nS_ s - 2 * j).toNat := by omega
      rw [e, sumN_ext (n := (2 * j).toNat) (2 * nS_ s - 2 * j).toNat (fun k k0 k1 => by
        unfold evn
        exact if_neg (fun z => by omega))]
    | succ c ih =>
      intro j M' hc j0 j1 ho' hf hr
      obtain ⟨A', s'⟩ := keepA M' hf
      have e3 : M'.1 (A + 3) (b + 1) = sst s (b + 1) := by rw [← s']; rfl
      have e4 : ∀ i, M'.1 (A + 4) i = slf s i := fun i => by rw [← s']; rfl
      have e51 : bEn M' A b = sst s (b + 1) := by
        unfold bEn
        rw [if_neg (by omega), e3]
      have e18 : ∀ M'', fr (rS 11) M M'' → ∀ i, M''.1 18 i = M.1 18 i := fun M'' f i => f.2 18 i (fun z => by have z' : 18 = 11 + 1 := z; omega)
      refine vc163_7 ho' h.1 ⟨by omega, by omega⟩ hl w11 (c51 ho' h.1 (by omega) (by omega) (fun _ => ?_))
      rw [e51]
      refine ⟨⟨by omega, by omega⟩, fun _ => Or.inl ⟨rfl, k M' hf (fun x => ?_)⟩, fun q => ?_⟩
      · rw [hr]
        unfold onb
        have e : (2 * nS_ s).toNat = (2 * j).toNat + (2 * nS_ s - 2 * j).toNat := by omega
        rw [e, sumN_ext (n := (2 * j).toNat) (2 * nS_ s - 2 * j).toNat (fun k k0 k1 => by
          unfold evn
          exact if_neg (fun z => by omega))]
      · have bb := bk.2.2.2.2.2 j j0 (by omega)
        have bd := bk.2.2.2.2.1.1 j j0 (by omega)
        have t1 : (2 * j + 1).toNat = (2 * j).toNat + 1 := by omega
        have t2 : (2 * (j + 1)).toNat = (2 * j + 1).toNat + 1 := by omega
        have c1 : (((2 * j).toNat : Nat) : Int) = 2 * j := by omega
        have c2 : (((2 * j + 1).toNat : Nat) : Int) = 2 * j + 1 := by omega
        have s1 : ∀ x, sumN (evn s M l b x) (2 * j + 1).toNat = sumN (evn s M l b x) (2 * j).toNat + evn s M l b x (2 * j) := fun x => by
          rw [t1]
          show sumN _ _ + evn s M l b x (((2 * j).toNat : Nat) : Int) = _
          rw [c1]
        have s2 : ∀ x, sumN (evn s M l b x) (2 * (j + 1)).toNat = sumN (evn s M l b x) (2 * j + 1).toNat + evn s M l b x (2 * j + 1) := fun x => by
          rw [t2]
          show sumN _ _ + evn s M l b x (((2 * j + 1).toNat : Nat) : Int) = _
          rw [c2]
        have p1 : epos s (2 * j) = slf s j := by
          unfold epos
          rw [if_pos (by omega), show 2 * j / 2 = j by omega]
        have p2 : epos s (2 * j + 1) = srt s j := by
          unfold epos
          rw [if_neg (by omega), show (2 * j + 1) / 2 = j by omega]
        -- the right end
        have second : ∀ M'', mr_ok M'' → fr (rS 11) M M'' → (∀ x, ri M'' 11 x ↔ (-1000 ≤ x ∧ x < 1000 ∧ sumN (evn s M l b x) (2 * j + 1).toNat % 2 = 1)) → en_R sc 163 45 [mm_r 17, mm_r A, mm_i l, mm_i b, mm_r 11, mm_i j] [] M'' (QV K X) := by
          intro M'' ho'' hf'' hr''
          obtain ⟨A'', s''⟩ := keepA M'' hf''
          have e5 : ∀ i, M''.1 (A + 5) i = srt s i := fun i => by rw [← s'']; rfl
          refine vc163_45 ho'' hl h.1 w11 ?_
          rw [e18 M'' hf'', e5]
          refine ⟨by omega, by omega, fun z => ?_, fun z => ⟨by omega, by omega, c67 ho'' w11 ⟨by omega, by omega⟩ ⟨by decide, by decide⟩ (by omega) (fun Mb fb rb' hob => ?_)⟩⟩
          · refine ih (j + 1) M'' (by omega) (by omega) (by omega) ho'' hf'' (fun x => ?_)
            have e : evn s M l b x (2 * j + 1) = 0 := if_neg (fun y => z y.1)
            rw [hr'', s2, e, Int.add_zero]
          · refine ih (j + 1) Mb (by omega) (by omega) (by omega) hob (fr_trans hf'' fb) (fun x => ?_)
            rw [s2]
            refine flip M'' Mb (srt s j) _ (fun x => evn s M l b x (2 * j + 1)) hr'' rb' (fun x => ?_) x
            have z' : M.1 18 (2 * j + 1) = l := Classical.byContradiction z
            show evn s M l b x (2 * j + 1) = _
            unfold evn
            rw [p2]
            by_cases y : srt s j ≤ x
            · rw [if_pos y, if_pos ⟨z', by omega, by omega, y⟩]
            · rw [if_neg y, if_neg (fun u => y u.2.2.2)]
        rw [e18 M' hf, e4]
        refine ⟨by omega, by omega, fun z => ?_, fun z => ⟨by omega, by omega, c67 ho' w11 ⟨by omega, by omega⟩ ⟨by decide, by decide⟩ (by omega) (fun Mb fb rb' hob => ?_)⟩⟩
        · refine second M' ho' hf (fun x => ?_)
          have e : evn s M l b x (2 * j) = 0 := if_neg (fun y => z y.1)
          rw [hr, s1, e, Int.add_zero]
        · refine second Mb hob (fr_trans hf fb) (fun x => ?_)
          rw [s1]
          refine flip M' Mb (slf s j) _ (fun x => evn s M l b x (2 * j)) hr rb' (fun x => ?_) x
          have z' : M.1 18 (2 * j) = l := Classical.byContradiction z
          show evn s M l b x (2 * j) = _
          unfold evn
          rw [p1]
          by_cases y : slf s j ≤ x
          · rw [if_pos y, if_pos ⟨z', by omega, by omega, y⟩]
          · rw [if_neg y, if_neg (fun u => y u.2.2.2)]
  refine vc163_0 ho h.1 (c50 ho h.1 (by omega) (by omega) (fun _ => ?_))
  have e50 : bSt M A b = sst s b := by
    unfold bSt
    rw [if_neg (by omega), ← hs]
    rfl
  rw [e50]
  refine loop _ (sst s b) M (Nat.le_refl _) (Int.le_refl _) (by have := bk.1; omega) ho ⟨rfl, fun _ _ _ => rfl⟩ (fun x => ⟨fun z => absurd z (he x), fun z => ?_⟩)
  exfalso
  have e : sumN (evn s M l b x) (2 * sst s b).toNat = 0 := sumN_z (fun k k0 k1 => if_neg (fun y => by omega))
  rw [e] at z
  omega
end
