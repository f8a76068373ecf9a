/-! ===== the class's Builder ===== -/
def rdA (M : mm_M) (a : Nat) : sh := (M.1 a 0, M.1 (a + 1), M.1 (a + 2), M.1 (a + 3), M.1 (a + 4), M.1 (a + 5))
theorem AR_ne {a w : Nat} (ha : mr_A a) (hw : mr_Rw w) : w + 1 ≠ a ∧ w + 1 ≠ a + 1 ∧ w + 1 ≠ a + 2 ∧ w + 1 ≠ a + 3 ∧ w + 1 ≠ a + 4 ∧ w + 1 ≠ a + 5 ∧ w + 1 ≠ 2 ∧ w + 1 ≠ 0 ∧ a ≠ 2 ∧ a ≠ 0 ∧ a ≠ 1 := by
  unfold mr_A at ha
  unfold mr_Rw at hw
  omega
section
variable {sc : Nat × (Int → Int)} {M : mm_M} {X : Nat → mm_M → Prop}
def aS (b : Nat) (n p : Int) : Nat → Int → Prop := fun a k => ((a = b + 4 ∨ a = b + 5) ∧ p ≤ k) ∨ (a = b + 3 ∧ k = n + 1) ∨ (a = 2 ∧ k = 2)
/-- Builder.addStretches -/
theorem c26 {K : mm_M → Prop} {b w : Nat} {n p : Int} (ho : mr_ok M) (hb : M.2.1 2 0 = some b) (hA : mr_A b) (hw : mr_Rw w) (hz : rz M w) (hn0 : 0 ≤ n) (hn1 : n < 100) (hp : M.1 (b + 3) n = p) (hp0 : 0 ≤ p) (hp1 : p ≤ 400)
    (k : ∀ M1 s, fr (aS b n p) M M1 → M1.1 (b + 3) (n + 1) = s →
      ((M1.1 2 2 = 0 ∧ p ≤ s ∧ s ≤ 400 ∧ ds p s (M1.1 (b + 4)) (M1.1 (b + 5)) ∧ (∀ k, p ≤ k → k < s → -1000 ≤ M1.1 (b + 4) k ∧ M1.1 (b + 5) k ≤ 1000) ∧ ∀ x, ri M w x ↔ din p s (M1.1 (b + 4)) (M1.1 (b + 5)) x) ∨
       (M1.1 2 2 = 1 ∧ ∃ m lf rt, 400 < m ∧ ds p m lf rt ∧ (∀ k, k < p → lf k = M.1 (b + 4) k ∧ rt k = M.1 (b + 5) k) ∧ (∀ k, p ≤ k → k < m → -1000 ≤ lf k ∧ rt k ≤ 1000) ∧ ∀ x, ri M w x ↔ din p m lf rt x)) → K M1) :
    en_CV sc 26 [mm_r 2, mm_i n, mm_r w, mm_u, mm_u] M K X := by
  have ne := AR_ne hA hw
  have hR : ∀ x, ri M w x → -1000 ≤ x ∧ x < 1000 := fun x g => ⟨g.1, hz x g⟩
  have loop : ∀ (c : Nat) (s f : Int) (M' : mm_M), c = (400 - s).toNat → p ≤ s → s ≤ 400 → -1000 ≤ f → f ≤ 1000 → (f < 1000 → ri M w f) → mr_ok M' → fr (fun a k => (a = b + 4 ∨ a = b + 5) ∧ p ≤ k) M M' →
      ds p s (M'.1 (b + 4)) (M'.1 (b + 5)) → (∀ k, p ≤ k → k < s → -1000 ≤ M'.1 (b + 4) k ∧ M'.1 (b + 5) k ≤ 1000 ∧ M'.1 (b + 5) k ≤ f ∧ (M'.1 (b + 5) k = f → ¬ ri M w f)) → (∀ x, x < f → (ri M w x ↔ din p s (M'.1 (b + 4)) (M'.1 (b + 5)) x)) →
      en_R sc 26 19 [mm_r 2, mm_i n, mm_r w, mm_i s, mm_i f] [] M' (fun r M1 => (r = .inl none ∧ K M1) ∨ ∃ e, r = .inr e ∧ e < 100 ∧ X e M1) := by
    have fin : ∀ (s f : Int) (M' : mm_M), (400 ≤ s ∨ 1000 ≤ f) → p ≤ s → s ≤ 400 → -1000 ≤ f → f ≤ 1000 → (f < 1000 → ri M w f) → mr_ok M' → fr (fun a k => (a = b + 4 ∨ a = b + 5) ∧ p ≤ k) M M' →
      ds p s (M'.1 (b + 4)) (M'.1 (b + 5)) → (∀ k, p ≤ k → k < s → -1000 ≤ M'.1 (b + 4) k ∧ M'.1 (b + 5) k ≤ 1000 ∧ M'.1 (b + 5) k ≤ f ∧ (M'.1 (b + 5) k = f → ¬ ri M w f)) → (∀ x, x < f → (ri M w x ↔ din p s (M'.1 (b + 4)) (M'.1 (b + 5)) x)) →
      en_R sc 26 81 [mm_r 2, mm_i n, mm_r w, mm_i s, mm_i f] [] M' (fun r M1 => (r = .inl none ∧ K M1) ∨ ∃ e, r = .inr e ∧ e < 100 ∧ X e M1) := by
      intro s f M' hc h0 h1 f0 f1 f2 ho' hf hd hbd hx
      have hb' : M'.2.1 2 0 = some b := by rw [hf.1]; exact hb
      have frm : ∀ v, fr (aS b n p) M (mm_putN (mm_putN M' (b + 3) (n + 1) s) 2 2 v) := fun v =>
        fr_trans (fr_mono hf (fun a k q => Or.inl q)) (fr_trans (fr_put (Or.inr (Or.inl ⟨rfl, rfl⟩))) (fr_put (Or.inr (Or.inr ⟨rfl, rfl⟩))))
      have e3 : ∀ v, (mm_putN (mm_putN M' (b + 3) (n + 1) s) 2 2 v).1 (b + 3) (n + 1) = s := fun v => by
        rw [put_a (by omega), put_eq]
      have e4 : ∀ v, (mm_putN (mm_putN M' (b + 3) (n + 1) s) 2 2 v).1 (b + 4) = M'.1 (b + 4) := fun v => by
        funext j
        rw [put_a (by omega), put_a (by omega)]
      have e5 : ∀ v, (mm_putN (mm_putN M' (b + 3) (n + 1) s) 2 2 v).1 (b + 5) = M'.1 (b + 5) := fun v => by
        funext j
        rw [put_a (by omega), put_a (by omega)]
      refine vc26_81 ho' ⟨by omega, by omega⟩ ⟨by omega, by omega⟩ ⟨b, hb', hA, by omega, by omega, fun q => ?_, fun q => ?_⟩
      · refine Or.inl ⟨rfl, k _ s (frm 0) (e3 0) (Or.inl ⟨put_eq, h0, h1, ?_, ?_, ?_⟩)⟩
        · rw [e4, e5]; exact hd
        · rw [e4, e5]; exact fun k a b => ⟨(hbd k a b).1, (hbd k a b).2.1⟩
        · rw [e4, e5]
          intro x
          by_cases g : x < f
          · exact hx x g
          · constructor
            · intro z
              have := hz x z
              omega
            · rintro ⟨k, k0, k1, k2, k3⟩
              have := (hbd k k0 k1).2.1
              omega
      · obtain ⟨m, lf, rt, a1, a2, a3, a4, a5, a6⟩ := dec_ext hR h0 hd hbd hx
        refine Or.inl ⟨rfl, k _ s (frm 1) (e3 1) (Or.inr ⟨put_eq, m, lf, rt, ?_, a2, fun k q => ?_, a4, a5⟩)⟩
        · have := a6 ⟨f, Int.le_refl _, f2 (by omega)⟩
          omega
        · have x1 := a3 k (by omega)
          rw [x1.1, x1.2, hf.2 _ _ (fun z => by omega), hf.2 _ _ (fun z => by omega)]
          exact ⟨rfl, rfl⟩
    intro c
    induction c with
    | zero =>
      intro s f M' hc h0 h1 f0 f1 f2 ho' hf hd hbd hx
      have done := fin s f M' (by omega) h0 h1 f0 f1 f2 ho' hf hd hbd hx
      exact vc26_19 ho' ⟨by omega, by omega⟩ ⟨by omega, by omega⟩ hw ⟨fun q => done, fun q => ⟨fun q2 => done, fun q2 => absurd q2 (by omega)⟩⟩
    | succ c ih =>
      intro s f M' hc h0 h1 f0 f1 f2 ho' hf hd hbd hx
      refine vc26_19 ho' ⟨by omega, by omega⟩ ⟨by omega, by omega⟩ hw ⟨fun q => fin s f M' (by omega) h0 h1 f0 f1 f2 ho' hf hd hbd hx, fun q => ⟨fun q2 => absurd q2 (by omega), fun q2 => ?_⟩⟩
      have hb' : M'.2.1 2 0 = some b := by rw [hf.1]; exact hb
      have hf1 : fr (fun a k => (a = b + 4 ∨ a = b + 5) ∧ p ≤ k) M (mm_putN M' (b + 4) s f) := fr_trans hf (fr_put ⟨Or.inl rfl, h0⟩)
      have ho1 : mr_ok (mm_putN M' (b + 4) s f) := mr_ok_putI ho' ⟨by omega, by omega⟩
      have r1 : ∀ x, ri (mm_putN M' (b + 4) s f) w x ↔ ri M w x := fun x => ri_fr hf1 (fun k z => by omega) x
      have rf := f2 (by omega)
      refine ⟨b, hb', hA, by omega, by omega, b, hb', hA, ?_⟩
      refine c25 ho1 hw ⟨by omega, by omega⟩ (by omega) (fun r r0 r1000 rin rout _ => ?_)
      have fr' : f < r := by
        by_cases z : r < 1000
        · have a := rout z
          by_cases z2 : r = f
          · rw [z2] at a
            exact absurd ((r1 f).mpr rf) a.2
          · omega
        · omega
      have hf2 : fr (fun a k => (a = b + 4 ∨ a = b + 5) ∧ p ≤ k) M (mm_putN (mm_putN M' (b + 4) s f) (b + 5) s r) := fr_trans hf1 (fr_put ⟨Or.inr rfl, h0⟩)
      have ho2 : mr_ok (mm_putN (mm_putN M' (b + 4) s f) (b + 5) s r) := mr_ok_putI ho1 ⟨by omega, by omega⟩
      have r2 : ∀ x, ri (mm_putN (mm_putN M' (b + 4) s f) (b + 5) s r) w x ↔ ri M w x := fun x => ri_fr hf2 (fun k z => by omega) x
      have nr : ¬ ri M w r := by
        intro z
        have := hz r z
        exact (rout this).2 ((r1 r).mpr z)
      refine ⟨by omega, by omega, ⟨by omega, by omega⟩, b, hb', hA, by omega, by omega, ?_⟩
      rw [put_eq]
      refine c22 ho2 hw ⟨by omega, by omega⟩ (by omega) (fun g g0 g1000 gout gin _ => ?_)
      have rg : r ≤ g := by
        by_cases z : g < 1000
        · exact (gin z).1
        · omega
      have L : ∀ j, j ≠ s → (mm_putN (mm_putN M' (b + 4) s f) (b + 5) s r).1 (b + 4) j = M'.1 (b + 4) j ∧ (mm_putN (mm_putN M' (b + 4) s f) (b + 5) s r).1 (b + 5) j = M'.1 (b + 5) j := by
        intro j z
        exact ⟨by rw [put_a (by omega), put_k z], by rw [put_k z, put_a (by omega)]⟩
      have Ls : (mm_putN (mm_putN M' (b + 4) s f) (b + 5) s r).1 (b + 4) s = f ∧ (mm_putN (mm_putN M' (b + 4) s f) (b + 5) s r).1 (b + 5) s = r := ⟨by rw [put_a (by omega), put_eq], put_eq⟩
      refine ih (s + 1) g _ (by omega) (by omega) (by omega) g0 g1000 (fun z => (r2 g).mp (gin z).2) ho2 hf2 ⟨fun k k0 k1 => ?_, fun k k0 k1 => ?_⟩ (fun k k0 k1 => ?_) (fun x xg => ?_)
      · by_cases z : k = s
        · rw [z, Ls.1, Ls.2]; exact fr'
        · rw [(L k z).1, (L k z).2]; exact hd.1 k k0 (by omega)
      · rw [(L k (by omega)).2]
        by_cases z : k + 1 = s
        · rw [z, Ls.1]
          have a := hbd k k0 (by omega)
          by_cases z2 : M'.1 (b + 5) k = f
          · exact absurd rf (a.2.2.2 z2)
          · omega
        · rw [(L (k + 1) z).1]
          exact hd.2 k k0 (by omega)
      · by_cases z : k = s
        · rw [z, Ls.1, Ls.2]
          exact ⟨f0, r1000, rg, fun e => by rw [← e]; exact nr⟩
        · rw [(L k z).1, (L k z).2]
          have a := hbd k k0 (by omega)
          exact ⟨a.1, a.2.1, by omega, fun e => absurd e (by omega)⟩
      · constructor
        · intro z
          by_cases c1 : x < f
          · obtain ⟨k, k0, k1, k2, k3⟩ := (hx x c1).mp z
            refine ⟨k, k0, by omega, ?_, ?_⟩
            · rw [(L k (by omega)).1]; exact k2
            · rw [(L k (by omega)).2]; exact k3
          · by_cases c2 : x < r
            · exact ⟨s, h0, by omega, by rw [Ls.1]; omega, by rw [Ls.2]; exact c2⟩
            · exact absurd ((r2 x).mpr z) (gout x (by omega) xg)
        · rintro ⟨k, k0, k1, k2, k3⟩
          by_cases z : k = s
          · rw [z, Ls.1] at k2
            rw [z, Ls.2] at k3
            exact (r1 x).mp (rin x (by omega) k2 k3)
          · rw [(L k z).1] at k2
            rw [(L k z).2] at k3
            have a := hbd k k0 (by omega)
            exact (hx x (by omega)).mpr ⟨k, k0, by omega, k2, k3⟩
  refine vc26_0 ho hw ⟨b, hb, hA, by omega, by omega, ?_⟩
  refine c22 ho hw ⟨by decide, by decide⟩ (by decide) (fun g g0 g1000 gout gin _ => ?_)
  rw [hp]
  refine loop _ p g M rfl (Int.le_refl _) hp1 g0 g1000 (fun z => (gin z).2) ho fr_refl ⟨fun k a b => absurd b (by omega), fun k a b => absurd b (by omega)⟩ (fun k a b => absurd b (by omega)) (fun x xg => ⟨fun z => ?_, fun ⟨k, a, b, _⟩ => absurd b (by omega)⟩)
  exact absurd z (gout x z.1 xg)
end
