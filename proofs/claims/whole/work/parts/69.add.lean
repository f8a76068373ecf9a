/-! ===== Builder.start, Builder.add ===== -/
def BS (M : mm_M) (b : Nat) (T : Int → Int → Prop) : Prop := M.2.1 2 0 = some b ∧ mr_A b ∧
  ((M.1 2 2 = 0 ∧ wf (rdA M b) ∧ sn (rdA M b) ≤ 100 ∧ sst (rdA M b) (sn (rdA M b)) ≤ 400 ∧ (∀ x y, has (rdA M b) x y ↔ T x y) ∧ (0 < sn (rdA M b) → ∀ x, ri M 9 x ↔ inb (rdA M b) (sn (rdA M b) - 1) x)) ∨
   (M.1 2 2 = 1 ∧ ∃ s, wf s ∧ (∀ x y, has s x y ↔ T x y) ∧ (100 < sn s ∨ 400 < sst s (sn s))))
def bS (b : Nat) : Nat → Int → Prop := fun a k => (b ≤ a ∧ a ≤ b + 5 ∧ ¬ (a = b + 3 ∧ k ≤ 0)) ∨ (a = 2 ∧ k = 2) ∨ a = 10
theorem BS_iff {M : mm_M} {b : Nat} {T U : Int → Int → Prop} (h : BS M b T) (e : ∀ x y, T x y ↔ U x y) : BS M b U := by
  obtain ⟨h1, h2, h3⟩ := h
  refine ⟨h1, h2, ?_⟩
  rcases h3 with ⟨a, b, c, d, g, i⟩ | ⟨a, s, b, c, d⟩
  · exact Or.inl ⟨a, b, c, d, fun x y => (g x y).trans (e x y), i⟩
  · exact Or.inr ⟨a, s, b, fun x y => (c x y).trans (e x y), d⟩
theorem new_inb {s : sh} (h : wf s) {low high m : Int} {lf rt : Int → Int} (x : Int) : inb (sNew s low high m lf rt) (sn s) x ↔ din (sst s (sn s)) m lf rt x := by
  have es : sst (sNew s low high m lf rt) (sn s) = sst s (sn s) := fu_ne (by omega)
  have es2 : sst (sNew s low high m lf rt) (sn s + 1) = m := fu_eq
  unfold inb
  rw [es, es2]
  exact Iff.rfl
section
variable {sc : Nat × (Int → Int)} {M : mm_M} {X : Nat → mm_M → Prop}
/-- Builder.start -/
theorem c18 {K : mm_M → Prop} {b : Nat} (ho : mr_ok M) (hb : M.2.1 2 0 = some b) (hA : mr_A b) (hs : M.1 (b + 3) 0 = 0) (k : ∀ M1, fr (bS b) M M1 → BS M1 b (fun _ _ => False) → K M1) : en_CV sc 18 [mm_r 2] M K X := by
  have b2 : b ≠ 2 := by unfold mr_A at hA; omega
  refine vc18_0 ho ⟨b, hb, hA, Or.inl ⟨rfl, k _ (fr_trans (fr_put (Or.inl ⟨Nat.le_refl _, by omega, by omega⟩)) (fr_put (Or.inr (Or.inl ⟨rfl, rfl⟩)))) ⟨hb, hA, Or.inl ⟨put_eq, ?_⟩⟩⟩⟩
  have n0 : sn (rdA (mm_putN (mm_putN M b 0 0) 2 2 0) b) = 0 := by
    show (mm_putN (mm_putN M b 0 0) 2 2 0).1 b 0 = 0
    rw [put_a b2, put_eq]
  have s0 : sst (rdA (mm_putN (mm_putN M b 0 0) 2 2 0) b) 0 = 0 := by
    show (mm_putN (mm_putN M b 0 0) 2 2 0).1 (b + 3) 0 = 0
    rw [put_a (by unfold mr_A at hA; omega), put_a (by omega)]
    exact hs
  generalize rdA (mm_putN (mm_putN M b 0 0) 2 2 0) b = s at n0 s0
  refine ⟨⟨by omega, s0, fun i a b => absurd b (by omega), fun i a b => absurd b (by omega)⟩, by omega, by rw [n0, s0]; decide, fun x y => ⟨?_, fun z => z.elim⟩, fun z => absurd z (by omega)⟩
  rintro ⟨i, a, b, _⟩
  omega
/-- Builder.add -/
theorem c29 {K : mm_M → Prop} {b w : Nat} {T : Int → Int → Prop} {low high : Int} (ho : mr_ok M) (hB : BS M b T) (hw : mr_Rw w) (hw9 : w ≠ 9) (hz : rz M w) (hl : mr_rg low) (hh : mr_rg high) (h0 : low < high → -1000 ≤ low ∧ high ≤ 1000) (hT : low < high → ∀ x y, T x y → y < low)
    (k : ∀ M1, fr (bS b) M M1 → BS M1 b (fun x y => T x y ∨ (low ≤ y ∧ y < high ∧ ri M w x)) → K M1) : en_CV sc 29 [mm_r 2, mm_i low, mm_i high, mm_r w, mm_u] M K X := by
  have hb := hB.1
  have hA := hB.2.1
  have ne := AR_ne hA hw
  have ne9 := AR_ne hA (Or.inl rfl : mr_Rw 9)
  have hR : ∀ x, ri M w x → -1000 ≤ x ∧ x < 1000 := fun x g => ⟨g.1, hz x g⟩
  have same : (high ≤ low ∨ ∀ x, ¬ ri M w x) → ∀ x y, T x y ↔ (T x y ∨ (low ≤ y ∧ y < high ∧ ri M w x)) := by
    intro q x y
    constructor
    · exact Or.inl
    · rintro (g | ⟨g0, g1, g2⟩)
      · exact g
      · rcases q with q | q
        · omega
        · exact absurd g2 (q x)
  refine vc29_0 ho hl hh hw ⟨fun q => ?_, fun q => ⟨fun q2 => ?_, fun q2 => ?_⟩⟩
  · refine Or.inl ⟨rfl, k M fr_refl ?_⟩
    by_cases c : low < high ∧ ∃ x, ri M w x
    · refine ⟨hb, hA, ?_⟩
      rcases hB.2.2 with g | ⟨a, s, g1, g2, g3⟩
      · exact absurd g.1 q
      · obtain ⟨t, t1, t2, t3, t4⟩ := ext g1 (h0 c.1).1 c.1 (h0 c.1).2 hR c.2 (fun x y z => hT c.1 x y ((g2 x y).mp z))
        refine Or.inr ⟨a, t, t1, fun x y => ?_, by omega⟩
        rw [t2, g2]
    · refine BS_iff hB (same ?_)
      by_cases z : low < high
      · exact Or.inr (fun x g => c ⟨z, x, g⟩)
      · exact Or.inl (by omega)
  · exact Or.inl ⟨rfl, k M fr_refl (BS_iff hB (same (Or.inl q2)))⟩
  · have q' : M.1 2 2 = 0 := Classical.byContradiction q
    have lh : low < high := by omega
    obtain ⟨l0, l1⟩ := h0 lh
    have hS : wf (rdA M b) ∧ sn (rdA M b) ≤ 100 ∧ sst (rdA M b) (sn (rdA M b)) ≤ 400 ∧ (∀ x y, has (rdA M b) x y ↔ T x y) ∧ (0 < sn (rdA M b) → ∀ x, ri M 9 x ↔ inb (rdA M b) (sn (rdA M b) - 1) x) := by
      rcases hB.2.2 with g | g
      · exact g.2
      · omega
    obtain ⟨w1, w2, w3, w4, w5⟩ := hS
    have below : ∀ x y, has (rdA M b) x y → y < low := fun x y z => hT lh x y ((w4 x y).mp z)
    have n0 := w1.1
    refine c23 ho hw (fun em _ => ?_) (fun nem _ => ?_)
    · exact ⟨⟨by decide, by decide⟩, fun z => absurd z (by decide), fun _ => Or.inl ⟨rfl, k M fr_refl (BS_iff hB (same (Or.inr (fun x g => em x (hz x g) g))))⟩⟩
    · have nem' : ∃ x, ri M w x := by
        obtain ⟨x, _, g⟩ := nem
        exact ⟨x, g⟩
      refine ⟨⟨by decide, by decide⟩, fun _ => ⟨b, hb, hA, ?_⟩, fun z => absurd rfl z⟩
      have go : (0 < sn (rdA M b) → shi (rdA M b) (sn (rdA M b) - 1) = low → ∃ x, ¬ (inb (rdA M b) (sn (rdA M b) - 1) x ↔ ri M w x)) → en_R sc 29 75 [mm_r 2, mm_i low, mm_i high, mm_r w, mm_i (M.1 b 0)] [] M (fun r M1 => (r = .inl none ∧ K M1) ∨ ∃ e, r = .inr e ∧ e < 100 ∧ X e M1) := by
        intro hM
        have n0' : 0 ≤ M.1 b 0 := n0
        have n1' : M.1 b 0 ≤ 100 := w2
        refine vc29_75 ho ⟨by omega, by omega⟩ hl hh ⟨fun z => ?_, fun z => ?_⟩
        · have ho1 : mr_ok (mm_putN M (b + 1) (M.1 b 0) low) := mr_ok_putI ho hl
          have ho2 : mr_ok (mm_putN (mm_putN M (b + 1) (M.1 b 0) low) (b + 2) (M.1 b 0) high) := mr_ok_putI ho1 hh
          have f2 : fr (bS b) M (mm_putN (mm_putN M (b + 1) (M.1 b 0) low) (b + 2) (M.1 b 0) high) := fr_trans (fr_put (Or.inl ⟨by omega, by omega, by omega⟩)) (fr_put (Or.inl ⟨by omega, by omega, by omega⟩))
          have r2 : ∀ x, ri (mm_putN (mm_putN M (b + 1) (M.1 b 0) low) (b + 2) (M.1 b 0) high) w x ↔ ri M w x := ri_fr f2 (fun k z => by unfold bS at z; unfold mr_A at hA; unfold mr_Rw at hw; omega)
          have hz2 : rz (mm_putN (mm_putN M (b + 1) (M.1 b 0) low) (b + 2) (M.1 b 0) high) w := fun x g => hz x ((r2 x).mp g)
          have st : sst (rdA M b) (sn (rdA M b)) = M.1 (b + 3) (M.1 b 0) := rfl
          have s0 := sst_mono w1 (Int.le_refl 0) n0 (Int.le_refl _)
          rw [w1.2.1] at s0
          refine ⟨b, hb, hA, n0', by omega, b, hb, hA, n0', by omega, ?_⟩
          refine c26 (p := M.1 (b + 3) (M.1 b 0)) ho2 hb hA hw hz2 n0' (by omega) (by rw [put_a (by omega), put_a (by omega)]) s0 w3 (fun M1 s f3 es post ho3 => ?_)
          have hb3 : M1.2.1 2 0 = some b := by rw [f3.1]; exact hb
          refine ⟨b, hb3, hA, ⟨by omega, by omega⟩, ?_⟩
          have ho4 : mr_ok (mm_putN M1 b 0 (M.1 b 0 + 1)) := mr_ok_putI ho3 ⟨by omega, by omega⟩
          refine c28 ho4 (Or.inl rfl) hw (fun M5 f5 r5 _ => Or.inl ⟨rfl, k M5 ?_ ?_⟩)
          · refine fr_trans f2 (fr_trans (fr_mono f3 (fun a k q => ?_)) (fr_trans (fr_put (Or.inl ⟨by omega, by omega, by omega⟩)) (fr_mono f5 (fun a k q => Or.inr (Or.inr q)))))
            unfold aS at q
            unfold bS
            omega
          · -- what is read behind it all
            have rd : ∀ a j, a ≠ 10 → ¬ (a = b ∧ j = 0) → M5.1 a j = M1.1 a j := fun a j g1 g2 => by
              rw [f5.2 a j g1, put_ne g2]
            have e0 : M5.1 b 0 = M.1 b 0 + 1 := by
              rw [f5.2 b 0 (by show ¬ b = 9 + 1; omega), put_eq]
            have e1 : M5.1 (b + 1) = fu (M.1 (b + 1)) (M.1 b 0) low := by
              funext j
              rw [rd _ _ (by omega) (by omega), f3.2 _ _ (by unfold aS; omega), put_a (by omega)]
              unfold fu
              by_cases g : j = M.1 b 0
              · rw [if_pos g, g, put_eq]
              · rw [if_neg g, put_k g]
            have e2 : M5.1 (b + 2) = fu (M.1 (b + 2)) (M.1 b 0) high := by
              funext j
              rw [rd _ _ (by omega) (by omega), f3.2 _ _ (by unfold aS; omega)]
              unfold fu
              by_cases g : j = M.1 b 0
              · rw [if_pos g, g, put_eq]
              · rw [if_neg g, put_k g, put_a (by omega)]
            have e3 : M5.1 (b + 3) = fu (M.1 (b + 3)) (M.1 b 0 + 1) s := by
              funext j
              rw [rd _ _ (by omega) (by omega)]
              unfold fu
              by_cases g : j = M.1 b 0 + 1
              · rw [if_pos g, g, es]
              · rw [if_neg g, f3.2 _ _ (by unfold aS; omega), put_a (by omega), put_a (by omega)]
            have e4 : M5.1 (b + 4) = M1.1 (b + 4) := by
              funext j
              rw [rd _ _ (by omega) (by omega)]
            have e5 : M5.1 (b + 5) = M1.1 (b + 5) := by
              funext j
              rw [rd _ _ (by omega) (by omega)]
            have e22 : M5.1 2 2 = M1.1 2 2 := rd _ _ (by decide) (by omega)
            have eS : rdA M5 b = sNew (rdA M b) low high s (M1.1 (b + 4)) (M1.1 (b + 5)) := by
              unfold rdA sNew
              rw [e0, e1, e2, e3, e4, e5]
            have old : ∀ k, k < M.1 (b + 3) (M.1 b 0) → M1.1 (b + 4) k = M.1 (b + 4) k ∧ M1.1 (b + 5) k = M.1 (b + 5) k := by
              intro k g
              rw [f3.2 _ _ (by unfold aS; omega), f3.2 _ _ (by unfold aS; omega), put_a (by omega), put_a (by omega), put_a (by omega), put_a (by omega)]
              exact ⟨rfl, rfl⟩
            have hb5 : M5.2.1 2 0 = some b := by
              rw [f5.1]
              exact hb3
            refine ⟨hb5, hA, ?_⟩
            rcases post with ⟨p1, p2, p3, p4, p5, p6⟩ | ⟨p1, m, lf, rt, p2, p3, p4, p5, p6⟩
            · have hm : M.1 (b + 3) (M.1 b 0) < s := by
                obtain ⟨x, hx⟩ := nem'
                obtain ⟨k, k0, k1, _⟩ := (p6 x).mp ((r2 x).mpr hx)
                omega
              have R := new_ok (R := ri M w) w1 l0 lh l1 hm p4 (fun k _ g => old k g) p5 (fun x => (r2 x).symm.trans (p6 x)) (below_hi w1 below) hM
              refine Or.inl ⟨by rw [e22]; exact p1, ?_⟩
              rw [eS]
              have n5 : sn (sNew (rdA M b) low high s (M1.1 (b + 4)) (M1.1 (b + 5))) = M.1 b 0 + 1 := rfl
              have t5 : sst (sNew (rdA M b) low high s (M1.1 (b + 4)) (M1.1 (b + 5))) (M.1 b 0 + 1) = s := fu_eq
              rw [n5, t5]
              refine ⟨R.1, by omega, p3, fun x y => ?_, fun _ x => ?_⟩
              · rw [R.2, w4]
              · have en : M.1 b 0 + 1 - 1 = sn (rdA M b) := by show _ = M.1 b 0; omega
                rw [en, new_inb w1, r5]
                have : ri (mm_putN M1 b 0 (M.1 b 0 + 1)) w x ↔ ri (mm_putN (mm_putN M (b + 1) (M.1 b 0) low) (b + 2) (M.1 b 0) high) w x := by
                  refine (ri_fr (S := fun a _ => a = b) (fr_put rfl) (fun k q => by have : w + 1 = b := q; omega) x).trans (ri_fr f3 (fun k q => ?_) x)
                  unfold aS at q
                  omega
                rw [this]
                exact p6 x
            · have hm : M.1 (b + 3) (M.1 b 0) < m := by
                have : M.1 (b + 3) (M.1 b 0) ≤ 400 := w3
                omega
              have R := new_ok (R := ri M w) w1 l0 lh l1 hm p3 (fun k _ g => ?_) p5 (fun x => (r2 x).symm.trans (p6 x)) (below_hi w1 below) hM
              · refine Or.inr ⟨by rw [e22]; exact p1, _, R.1, fun x y => ?_, Or.inr ?_⟩
                · rw [R.2, w4]
                · have t5 : sst (sNew (rdA M b) low high m lf rt) (sn (sNew (rdA M b) low high m lf rt)) = m := fu_eq
                  rw [t5]
                  exact p2
              · have := p4 k g
                rw [put_a (by omega), put_a (by omega), put_a (by omega), put_a (by omega)] at this
                exact this
        · have z' : M.1 b 0 = 100 := Classical.byContradiction z
          obtain ⟨t, t1, t2, t3, t4⟩ := ext_new w1 l0 lh l1 hR nem' below hM
          refine Or.inl ⟨rfl, k _ (fr_put (Or.inr (Or.inl ⟨rfl, rfl⟩))) ⟨hb, hA, Or.inr ⟨put_eq, t, t1, fun x y => ?_, Or.inl ?_⟩⟩⟩
          · rw [t2, w4]
          · rw [t3]
            show 100 < M.1 b 0 + 1
            omega
      refine ⟨fun z => go (fun g _ => ?_), fun z => ⟨b, hb, hA, by omega, by have : M.1 b 0 ≤ 100 := w2; omega, fun z2 => go (fun _ g => absurd g z2), fun z2 => ?_⟩⟩
      · have : 0 < M.1 b 0 := g
        omega
      · have z2' : shi (rdA M b) (sn (rdA M b) - 1) = low := Classical.byContradiction z2
        have pos : 0 < sn (rdA M b) := by show 0 < M.1 b 0; omega
        have last := w5 pos
        have n1' : M.1 b 0 ≤ 100 := w2
        refine c24 ho (Or.inl rfl) hw (fun eq _ => ⟨⟨by decide, by decide⟩, fun g => absurd g (by decide), fun _ => ⟨b, hb, hA, by omega, by omega, ?_⟩⟩) (fun neq _ => ⟨⟨by decide, by decide⟩, fun _ => go (fun _ _ => ?_), fun g => absurd rfl g⟩)
        · have R := merge_ok (R := ri M w) w1 pos z2' lh l1 (fun x => (last x).symm.trans (eq x))
          refine Or.inl ⟨rfl, k _ (fr_put (Or.inl ⟨by omega, by omega, by omega⟩)) ⟨hb, hA, Or.inl ?_⟩⟩
          have eS : rdA (mm_putN M (b + 2) (M.1 b 0 - 1) high) b = sMerge (rdA M b) high := by
            have e0 : (mm_putN M (b + 2) (M.1 b 0 - 1) high).1 b 0 = M.1 b 0 := put_a (by omega)
            have e1 : (mm_putN M (b + 2) (M.1 b 0 - 1) high).1 (b + 1) = M.1 (b + 1) := by funext j; exact put_a (by omega)
            have e2 : (mm_putN M (b + 2) (M.1 b 0 - 1) high).1 (b + 2) = fu (M.1 (b + 2)) (M.1 b 0 - 1) high := by
              funext j
              unfold fu
              by_cases g : j = M.1 b 0 - 1
              · rw [if_pos g, g, put_eq]
              · rw [if_neg g, put_k g]
            have e3 : (mm_putN M (b + 2) (M.1 b 0 - 1) high).1 (b + 3) = M.1 (b + 3) := by funext j; exact put_a (by omega)
            have e4 : (mm_putN M (b + 2) (M.1 b 0 - 1) high).1 (b + 4) = M.1 (b + 4) := by funext j; exact put_a (by omega)
            have e5 : (mm_putN M (b + 2) (M.1 b 0 - 1) high).1 (b + 5) = M.1 (b + 5) := by funext j; exact put_a (by omega)
            unfold rdA sMerge
            rw [e0, e1, e2, e3, e4, e5]
          rw [eS]
          refine ⟨by rw [put_a (by omega)]; exact q', R.1, w2, w3, fun x y => ?_, fun _ x => ?_⟩
          · rw [R.2, w4]
          · refine (ri_fr (S := fun a _ => a = b + 2) (fr_put rfl) (fun k q => by have : 9 + 1 = b + 2 := q; omega) x).trans ?_
            exact last x
        · obtain ⟨x, hx⟩ := neq
          refine ⟨x, fun g => hx ((last x).trans g)⟩
end
