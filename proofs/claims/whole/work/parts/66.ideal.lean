/-! ===== forms grow by a row ===== -/
def fu (f : Int → Int) (i v : Int) : Int → Int := fun j => if j = i then v else f j
theorem fu_eq {f : Int → Int} {i v : Int} : fu f i v i = v := if_pos rfl
theorem fu_ne {f : Int → Int} {i v j : Int} (h : j ≠ i) : fu f i v j = f j := if_neg h
theorem eqv_inb {s t : sh} (h : wf s) (e : eqv s t) {i : Int} (h0 : 0 ≤ i) (h1 : i < sn s) (x : Int) : inb s i x ↔ inb t i x := by
  have a := e.2.2.1 i h0 (by omega)
  have b := e.2.2.1 (i + 1) (by omega) (by omega)
  have c := sst_mono h (Int.le_refl 0) h0 (by omega)
  have d := sst_mono h (by omega : 0 ≤ i + 1) (by omega) (Int.le_refl _)
  have z := h.2.1
  unfold inb din
  rw [← a, ← b]
  constructor
  · rintro ⟨k, g0, g1, g2, g3⟩
    have := e.2.2.2 k (by omega) (by omega)
    exact ⟨k, g0, g1, by omega, by omega⟩
  · rintro ⟨k, g0, g1, g2, g3⟩
    have := e.2.2.2 k (by omega) (by omega)
    exact ⟨k, g0, g1, by omega, by omega⟩
theorem eqv_has {s t : sh} (h : wf s) (e : eqv s t) (x y : Int) : has s x y ↔ has t x y := by
  unfold has
  rw [← e.1]
  constructor
  · rintro ⟨i, a, b, c, d, g⟩
    have := e.2.1 i a b
    exact ⟨i, a, b, by omega, by omega, (eqv_inb h e a b x).mp g⟩
  · rintro ⟨i, a, b, c, d, g⟩
    have := e.2.1 i a b
    exact ⟨i, a, b, by omega, by omega, (eqv_inb h e a b x).mpr g⟩
theorem eqv_wf {s t : sh} (h : wf s) (e : eqv s t) : wf t := by
  have hn := e.1
  refine ⟨by rw [← hn]; exact h.1, ?_, fun i h0 h1 => ?_, fun i h0 h1 => ?_⟩
  · rw [← e.2.2.1 0 (Int.le_refl 0) h.1]
    exact h.2.1
  · rw [← hn] at h1
    have b := h.2.2.1 i h0 h1
    have e1 := e.2.2.1 i h0 (by omega)
    have e2 := e.2.2.1 (i + 1) (by omega) (by omega)
    have c := sst_mono h (Int.le_refl 0) h0 (by omega)
    have d := sst_mono h (by omega : 0 ≤ i + 1) (by omega) (Int.le_refl _)
    have z := h.2.1
    have l := e.2.1 i h0 h1
    have key : ∀ k, sst s i ≤ k → k < sst s (i + 1) → slf s k = slf t k ∧ srt s k = srt t k := fun k k0 k1 => e.2.2.2 k (by omega) (by omega)
    obtain ⟨b1, b2, b3, b4, b5, b6⟩ := b
    refine ⟨by omega, by omega, by omega, by omega, ⟨fun k k0 k1 => ?_, fun k k0 k1 => ?_⟩, fun k k0 k1 => ?_⟩
    · have x1 := key k (by omega) (by omega)
      have x2 := b5.1 k (by omega) (by omega)
      omega
    · have x1 := key k (by omega) (by omega)
      have x3 := key (k + 1) (by omega) (by omega)
      have x2 := b5.2 k (by omega) (by omega)
      omega
    · have x1 := key k (by omega) (by omega)
      have x2 := b6 k (by omega) (by omega)
      omega
  · rw [← hn] at h1
    have a := h.2.2.2 i h0 h1
    have l1 := e.2.1 i h0 (by omega)
    have l2 := e.2.1 (i + 1) (by omega) h1
    refine ⟨by omega, fun g => ?_⟩
    obtain ⟨x, hx⟩ := a.2 (by omega)
    refine ⟨x, ?_⟩
    rw [← eqv_inb h e h0 (by omega), ← eqv_inb h e (by omega : 0 ≤ i + 1) h1]
    exact hx
theorem run_ex {R : Int → Prop} (hR : ∀ x, R x → x < 1000) {f : Int} (hf : R f) : ∃ g, f < g ∧ g ≤ 1000 ∧ ¬ R g ∧ ∀ x, f ≤ x → x < g → R x := by
  have key : ∀ n : Nat, ∀ f, n = (1000 - f).toNat → R f → ∃ g, f < g ∧ g ≤ 1000 ∧ ¬ R g ∧ ∀ x, f ≤ x → x < g → R x := by
    intro n
    induction n with
    | zero => intro f e hf; have := hR f hf; omega
    | succ n ih =>
      intro f e hf
      have := hR f hf
      by_cases g : R (f + 1)
      · obtain ⟨z, a, b, c, d⟩ := ih (f + 1) (by omega) g
        refine ⟨z, by omega, b, c, fun x x0 x1 => ?_⟩
        by_cases q : x = f
        · rw [q]; exact hf
        · exact d x (by omega) x1
      · refine ⟨f + 1, by omega, by omega, g, fun x x0 x1 => ?_⟩
        have q : x = f := by omega
        rw [q]; exact hf
  exact key _ f rfl hf
/-- what is laid of a row up to f can be gone on with -/
theorem dec_ext {R : Int → Prop} (hR : ∀ x, R x → -1000 ≤ x ∧ x < 1000) {p m f : Int} {lf rt : Int → Int} (hp : p ≤ m) (hd : ds p m lf rt) (hb : ∀ k, p ≤ k → k < m → -1000 ≤ lf k ∧ rt k ≤ 1000 ∧ rt k ≤ f ∧ (rt k = f → ¬ R f)) (hx : ∀ x, x < f → (R x ↔ din p m lf rt x)) :
    ∃ m' lf' rt', m ≤ m' ∧ ds p m' lf' rt' ∧ (∀ k, k < m → lf' k = lf k ∧ rt' k = rt k) ∧ (∀ k, p ≤ k → k < m' → -1000 ≤ lf' k ∧ rt' k ≤ 1000) ∧ (∀ x, R x ↔ din p m' lf' rt' x) ∧ ((∃ x, f ≤ x ∧ R x) → m < m') := by
  have key : ∀ n : Nat, ∀ (m f : Int) (lf rt : Int → Int), (1000 - f).toNat < n → p ≤ m → ds p m lf rt → (∀ k, p ≤ k → k < m → -1000 ≤ lf k ∧ rt k ≤ 1000 ∧ rt k ≤ f ∧ (rt k = f → ¬ R f)) → (∀ x, x < f → (R x ↔ din p m lf rt x)) →
      ∃ m' lf' rt', m ≤ m' ∧ ds p m' lf' rt' ∧ (∀ k, k < m → lf' k = lf k ∧ rt' k = rt k) ∧ (∀ k, p ≤ k → k < m' → -1000 ≤ lf' k ∧ rt' k ≤ 1000) ∧ (∀ x, R x ↔ din p m' lf' rt' x) ∧ ((∃ x, f ≤ x ∧ R x) → m < m') := by
    intro n
    induction n with
    | zero => intro m f lf rt e; omega
    | succ n ih =>
      intro m f lf rt e hp hd hb hx
      by_cases h1 : 1000 ≤ f
      · refine ⟨m, lf, rt, Int.le_refl _, hd, fun k _ => ⟨rfl, rfl⟩, fun k a b => ⟨(hb k a b).1, (hb k a b).2.1⟩, fun x => ?_, ?_⟩
        · by_cases g : x < f
          · exact hx x g
          · constructor
            · intro q
              have := hR x q
              omega
            · rintro ⟨k, a, b, c, d⟩
              have := (hb k a b).2.1
              omega
        · rintro ⟨x, a, b⟩
          have := hR x b
          omega
      · by_cases hf : R f
        · obtain ⟨g, g0, g1, g2, g3⟩ := run_ex (fun x q => (hR x q).2) hf
          have hf0 := (hR f hf).1
          have last : ∀ k, p ≤ k → k < m → rt k < f := by
            intro k a b
            have := hb k a b
            by_cases q : rt k = f
            · exact absurd hf (this.2.2.2 q)
            · omega
          have U : ∀ k, k ≠ m → fu lf m f k = lf k ∧ fu rt m g k = rt k := fun k q => ⟨fu_ne q, fu_ne q⟩
          have Um : fu lf m f m = f ∧ fu rt m g m = g := ⟨fu_eq, fu_eq⟩
          have y1 : ds p (m + 1) (fu lf m f) (fu rt m g) := by
            refine ⟨fun k k0 k1 => ?_, fun k k0 k1 => ?_⟩
            · by_cases q : k = m
              · subst q
                rw [Um.1, Um.2]
                exact g0
              · rw [(U k q).1, (U k q).2]
                exact hd.1 k k0 (by omega)
            · rw [(U k (by omega)).2]
              by_cases q : k + 1 = m
              · rw [q, Um.1]
                exact last k k0 (by omega)
              · rw [(U (k + 1) q).1]
                exact hd.2 k k0 (by omega)
          have y2 : ∀ k, p ≤ k → k < m + 1 → -1000 ≤ fu lf m f k ∧ fu rt m g k ≤ 1000 ∧ fu rt m g k ≤ g ∧ (fu rt m g k = g → ¬ R g) := by
            intro k k0 k1
            by_cases q : k = m
            · subst q
              rw [Um.1, Um.2]
              exact ⟨hf0, g1, Int.le_refl _, fun _ => g2⟩
            · rw [(U k q).1, (U k q).2]
              have x1 := hb k k0 (by omega)
              have x2 := last k k0 (by omega)
              exact ⟨x1.1, x1.2.1, by omega, fun z => by omega⟩
          have y3 : ∀ x, x < g → (R x ↔ din p (m + 1) (fu lf m f) (fu rt m g) x) := by
            intro x xg
            constructor
            · intro q
              by_cases c : x < f
              · obtain ⟨k, k0, k1, k2, k3⟩ := (hx x c).mp q
                refine ⟨k, k0, by omega, ?_, ?_⟩
                · rw [(U k (by omega)).1]; exact k2
                · rw [(U k (by omega)).2]; exact k3
              · refine ⟨m, hp, by omega, ?_, ?_⟩
                · rw [Um.1]; omega
                · rw [Um.2]; omega
            · rintro ⟨k, k0, k1, k2, k3⟩
              by_cases q : k = m
              · subst q
                rw [Um.1] at k2
                exact g3 x k2 xg
              · rw [(U k q).1] at k2
                rw [(U k q).2] at k3
                have := last k k0 (by omega)
                exact (hx x (by omega)).mpr ⟨k, k0, by omega, k2, k3⟩
          obtain ⟨m', lf', rt', a1, a2, a3, a4, a5, _⟩ := ih (m + 1) g (fu lf m f) (fu rt m g) (by omega) (by omega) y1 y2 y3
          refine ⟨m', lf', rt', by omega, a2, fun k hk => ?_, a4, a5, fun _ => by omega⟩
          have x1 := a3 k (by omega)
          have x2 := U k (by omega)
          exact ⟨x1.1.trans x2.1, x1.2.trans x2.2⟩
        · obtain ⟨m', lf', rt', a1, a2, a3, a4, a5, a6⟩ := ih m (f + 1) lf rt (by omega) hp hd (fun k k0 k1 => by
            have := hb k k0 k1
            exact ⟨this.1, this.2.1, by omega, fun z => by omega⟩) (fun x xg => by
            by_cases q : x = f
            · subst q
              refine ⟨fun z => absurd z hf, ?_⟩
              rintro ⟨k, k0, k1, k2, k3⟩
              have := hb k k0 k1
              omega
            · exact hx x (by omega))
          refine ⟨m', lf', rt', a1, a2, a3, a4, a5, ?_⟩
          rintro ⟨x, x0, x1⟩
          refine a6 ⟨x, ?_, x1⟩
          by_cases q : x = f
          · subst q
            exact absurd x1 hf
          · omega
  exact key _ m f lf rt (Nat.lt_succ_self _) hp hd hb hx
