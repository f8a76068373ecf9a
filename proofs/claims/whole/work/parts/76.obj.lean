/-! ===== what a call that builds leaves behind ===== -/
def over (T : Int → Int → Prop) : Prop := ∃ s, wf s ∧ (∀ x y, has s x y ↔ T x y) ∧ (100 < sn s ∨ 400 < sst s (sn s))
def fits (s : sh) (T : Int → Int → Prop) : Prop := wf s ∧ sn s ≤ 100 ∧ sst s (sn s) ≤ 400 ∧ ∀ x y, has s x y ↔ T x y
theorem not_both {s : sh} {T : Int → Int → Prop} (h : fits s T) (g : over T) : False := by
  obtain ⟨t, t1, t2, t3⟩ := g
  have e := uniq h.1 t1 (fun x y => (h.2.2.2 x y).trans (t2 x y).symm)
  have e2 := e.2.2.1 (sn s) h.1.1 (Int.le_refl _)
  have h2 := h.2.1
  have h3 := h.2.2.1
  rw [e.1] at h2 h3 e2
  rcases t3 with t3 | t3
  · omega
  · rw [e2] at h3
    omega
theorem fits_eqv {s t : sh} {T U : Int → Int → Prop} (h : fits s T) (g : fits t U) (e : ∀ x y, T x y ↔ U x y) : eqv s t := uniq h.1 g.1 (fun x y => (h.2.2.2 x y).trans ((e x y).trans (g.2.2.2 x y).symm))
theorem BS_or {M : mm_M} {b : Nat} {T : Int → Int → Prop} (h : BS M b T) : (M.1 2 2 = 0 ∧ AW M b ∧ fits (rdA M b) T) ∨ (M.1 2 2 = 1 ∧ over T) := by
  obtain ⟨_, hA, h⟩ := h
  rcases h with ⟨a, b, c, d, g, _⟩ | ⟨a, g⟩
  · exact Or.inl ⟨a, ⟨hA, b, c, d⟩, b, c, d, g⟩
  · exact Or.inr ⟨a, g⟩
/-- changes that leave the eight areas alone -/
theorem OW_fr {M M1 : mm_M} {S : Nat → Int → Prop} (hO : OW M) (h : fr S M M1) (hs : ∀ a, mr_A a → a ≠ br M → ∀ b k, a ≤ b → b ≤ a + 5 → ¬ S b k) (h3 : ¬ S (br M + 3) 0) :
    OW M1 ∧ (∀ j, ar M1 j = ar M j) ∧ br M1 = br M ∧ ∀ j, 0 ≤ j → j < 8 → rdA M1 (ar M j) = rdA M (ar M j) := by
  obtain ⟨o1, o2, o3, o4, o5⟩ := hO
  have ea : ∀ j, ar M1 j = ar M j := fun j => by unfold ar; rw [h.1]
  have eb : br M1 = br M := by unfold br; rw [h.1]
  refine ⟨⟨fun j j0 j1 => ?_, fun i j i0 i1 j0 j1 e => ?_, by rw [h.1, eb]; exact o3, by rw [eb]; exact o4, fun a ha => ?_⟩, ea, eb, fun j j0 j1 => ?_⟩
  · rw [ea, eb, h.1]
    have x := o1 j j0 j1
    exact ⟨x.1, AW_fr h (hs _ x.2.1.1 x.2.2) x.2.1, x.2.2⟩
  · rw [ea, ea] at e
    exact o2 i j i0 i1 j0 j1 e
  · by_cases z : a = br M
    · rw [z, h.2 _ _ h3, ← z]
      exact o5 a ha
    · rw [h.2 _ _ (hs a ha z _ _ (by omega) (by omega))]
      exact o5 a ha
  · have x := o1 j j0 j1
    exact rdA_fr h (hs _ x.2.1.1 x.2.2)
theorem rS_O {M : mm_M} {w : Nat} (hw : mr_Rw w) : (∀ a, mr_A a → a ≠ br M → ∀ b (k : Int), a ≤ b → b ≤ a + 5 → ¬ rS w b k) := fun a ha _ b k h0 h1 => rS_A hw ha b k h0 h1
theorem bS_O {M : mm_M} (hb : mr_A (br M)) : ∀ a, mr_A a → a ≠ br M → ∀ b (k : Int), a ≤ b → b ≤ a + 5 → ¬ bS (br M) b k := by
  intro a ha hn b k h0 h1 h2
  have := A_apart ha hb hn
  unfold bS at h2
  unfold mr_A at ha
  omega
section
variable {sc : Nat × (Int → Int)} {M : mm_M} {X : Nat → mm_M → Prop}
/-- keep behind a building -/
theorem c30x {K : Int → mm_M → Prop} {t : Int} {T : Int → Int → Prop} (ho : mr_ok M) (hO : OW M) (hB : BS M (br M) T) (h0 : 0 ≤ t) (h1 : t < 8) (kf : over T → K (-2) M)
    (k : ∀ M1, M1.2.2 = M.2.2 → OW M1 → fits (rdA M1 (ar M1 t)) T → (∀ j, 0 ≤ j → j < 8 → j ≠ t → rdA M1 (ar M1 j) = rdA M (ar M j)) → M1.1 0 6 = (if M.1 0 6 = t then -1 else M.1 0 6) → (∀ a k, a ≠ 0 → M1.1 a k = M.1 a k) → K (sn (rdA M1 (ar M1 t))) M1) : en_CI sc 30 [mm_r 0, mm_i t, mm_u] M K X := by
  rcases BS_or hB with ⟨a, b, c⟩ | ⟨a, b⟩
  · refine c30 ho hO h0 h1 (fun _ => b) (fun q => absurd a q) (fun _ M1 e1 e2 e3 e4 e5 => ?_)
    have et := e3 t h0 h1
    rw [if_pos rfl] at et
    have := k M1 e1 e2 (by rw [et]; exact c) (fun j j0 j1 z => by rw [e3 j j0 j1, if_neg z]) e4 e5
    rw [et] at this
    exact this
  · exact c30 ho hO h0 h1 (fun q => absurd (q.symm.trans a) (by decide)) (fun _ => kf b) (fun q => absurd (q.symm.trans a) (by decide))
end
/-- a box is no trouble -/
theorem box_fits {l lo r hi : Int} (h : -1000 ≤ l ∧ l < r ∧ r ≤ 1000 ∧ -1000 ≤ lo ∧ lo < hi ∧ hi ≤ 1000) : fits ((1, fun _ => lo, fun _ => hi, fun i => i, fun _ => l, fun _ => r) : sh) (fun x y => lo ≤ y ∧ y < hi ∧ l ≤ x ∧ x < r) := by
  refine ⟨⟨(by decide : (0 : Int) ≤ 1), rfl, fun i i0 i1 => ?_, fun i i0 i1 => ?_⟩, (by decide : (1 : Int) ≤ 100), (by decide : (1 : Int) ≤ 400), fun x y => ?_⟩
  · have e : i = 0 := by
      have : i < 1 := i1
      omega
    subst e
    refine ⟨by show (0 : Int) < 0 + 1; decide, h.2.2.2.1, h.2.2.2.2.1, h.2.2.2.2.2, ⟨fun _ _ _ => h.2.1, fun k k0 k1 => ?_⟩, fun _ _ _ => ⟨h.1, h.2.2.1⟩⟩
    have a : (0 : Int) ≤ k := k0
    have b : k + 1 < 0 + 1 := k1
    omega
  · have : i + 1 < 1 := i1
    omega
  · constructor
    · rintro ⟨i, i0, i1, i2, i3, k, k0, k1, k2, k3⟩
      exact ⟨i2, i3, k2, k3⟩
    · rintro ⟨a, b, c, d⟩
      exact ⟨0, by decide, (by decide : (0 : Int) < 1), a, b, 0, by show (0 : Int) ≤ 0; decide, by show (0 : Int) < 0 + 1; decide, c, d⟩
