section
variable {sc : Nat × (Int → Int)} {y pc : Nat} {ls st : List mm_V} {M : mm_M} {Q : mm_R → mm_M → Prop} {i : Instr} {me : mm_E}
theorem en_callC {z idx w : Nat} {mz : mm_E} {as rr lz : List mm_V} (hm : mt_mt[y]? = some me) (hc : mr_C y pc = some (i, 3)) (hl : mm_lok i 3 = true) (hiv : mm_iv i = some (w, idx)) (hlm : mm_lm (mt_P sc) me.1 idx = some z) (hz : mt_mt[z]? = some mz) (hk : mz.2.1 = w) (hw : w < 2) (has : mm_args (mz.2.2.1 + (if w = 0 then 0 else 1)) st = some (as, rr)) (hok : mm_cok (mt_P sc) w me mz as rr 99 = true) (hent : mm_ent mz.2.2.2.1 as = lz)
    (k : en_R sc z 0 lz [] M (fun r M1 => (∃ v, r = .inl v ∧ en_R sc y (pc + 3) ls (v.toList ++ rr) M1 Q) ∨ ∃ x, r = .inr x ∧ x < 100 ∧ ((mm_hd (mt_P sc) y pc x = none ∧ Q (.inr x) M1) ∨ ∃ p2 l2, mm_hd (mt_P sc) y pc x ≠ none ∧ mm_cat9 (mt_P sc) y pc x ls 99 M1 = some (p2, l2, [], 99, M1) ∧ en_R sc y p2 l2 [] M1 Q))) : en_R sc y pc ls st M Q := by
  obtain ⟨f, r, M1, h, hq⟩ := k
  subst hent
  rcases hq with ⟨v, rfl, f2, r2, M2, h2, q2⟩ | ⟨x, rfl, hx, ⟨hn, q2⟩ | ⟨p2, l2, hn, hcat, f2, r2, M2, h2, q2⟩⟩
  · refine ⟨max f f2 + 1, r2, M2, ?_, q2⟩
    have h' := mm_ev_le (mt_P sc) h (Nat.le_max_left f f2)
    have h2' := mm_ev_le (mt_P sc) h2 (Nat.le_max_right f f2)
    rw [mm_ev]
    simp only [show mm_mt (mt_P sc) y = some me from hm, show mm_co (mt_P sc) y pc = some (i, 3) from hc, hl, if_true, hiv, hlm, show mm_mt (mt_P sc) z = some mz from hz]
    rw [if_neg (by omega), if_pos ⟨hk, fun q => by omega⟩]
    simp only [has, hok, if_true, h', h2']
  · refine ⟨f + 1, .inr x, M1, ?_, q2⟩
    rw [mm_ev]
    simp only [show mm_mt (mt_P sc) y = some me from hm, show mm_co (mt_P sc) y pc = some (i, 3) from hc, hl, if_true, hiv, hlm, show mm_mt (mt_P sc) z = some mz from hz]
    rw [if_neg (by omega), if_pos ⟨hk, fun q => by omega⟩]
    simp only [has, hok, if_true, h, hn]
    rw [if_neg (by omega)]
  · refine ⟨max f f2 + 1, r2, M2, ?_, q2⟩
    have h' := mm_ev_le (mt_P sc) h (Nat.le_max_left f f2)
    have h2' := mm_ev_le (mt_P sc) h2 (Nat.le_max_right f f2)
    rw [mm_ev]
    simp only [show mm_mt (mt_P sc) y = some me from hm, show mm_co (mt_P sc) y pc = some (i, 3) from hc, hl, if_true, hiv, hlm, show mm_mt (mt_P sc) z = some mz from hz]
    rw [if_neg (by omega), if_pos ⟨hk, fun q => by omega⟩]
    simp only [has, hok, if_true, h']
    rw [if_neg (by omega)]
    cases hq9 : mm_hd (mt_P sc) y pc x with
    | none => exact absurd hq9 hn
    | some _ => simp only [hcat, h2']
theorem en_callCI {z idx w : Nat} {mz : mm_E} {as rr lz : List mm_V} {X : Nat → mm_M → Prop} (hm : mt_mt[y]? = some me) (hc : mr_C y pc = some (i, 3)) (hl : mm_lok i 3 = true) (hiv : mm_iv i = some (w, idx)) (hlm : mm_lm (mt_P sc) me.1 idx = some z) (hz : mt_mt[z]? = some mz) (hk : mz.2.1 = w) (hw : w < 2) (has : mm_args (mz.2.2.1 + (if w = 0 then 0 else 1)) st = some (as, rr)) (hok : mm_cok (mt_P sc) w me mz as rr 99 = true) (hent : mm_ent mz.2.2.2.1 as = lz) (ho : mr_ok M)
    (hx : ∀ e M1, X e M1 → mr_ok M1 → (mm_hd (mt_P sc) y pc e = none ∧ Q (.inr e) M1) ∨ ∃ p2 l2, mm_hd (mt_P sc) y pc e ≠ none ∧ mm_cat9 (mt_P sc) y pc e ls 99 M1 = some (p2, l2, [], 99, M1) ∧ en_R sc y p2 l2 [] M1 Q)
    (k : en_CI sc z lz M (fun x M1 => mr_ok M1 → en_R sc y (pc + 3) ls (mm_i x :: rr) M1 Q) X) : en_R sc y pc ls st M Q := by
  refine en_callC hm hc hl hiv hlm hz hk hw has hok hent (en_mono (en_ok hz (by omega) ho k) ?_)
  rintro r M1 ⟨g1, ⟨x, rfl, g2⟩ | ⟨e, rfl, g2, g3⟩⟩
  · exact Or.inl ⟨_, rfl, g2 g1⟩
  · exact Or.inr ⟨e, rfl, g2, hx e M1 g3 g1⟩
theorem en_callCV {z idx w : Nat} {mz : mm_E} {as rr lz : List mm_V} {X : Nat → mm_M → Prop} (hm : mt_mt[y]? = some me) (hc : mr_C y pc = some (i, 3)) (hl : mm_lok i 3 = true) (hiv : mm_iv i = some (w, idx)) (hlm : mm_lm (mt_P sc) me.1 idx = some z) (hz : mt_mt[z]? = some mz) (hk : mz.2.1 = w) (hw : w < 2) (has : mm_args (mz.2.2.1 + (if w = 0 then 0 else 1)) st = some (as, rr)) (hok : mm_cok (mt_P sc) w me mz as rr 99 = true) (hent : mm_ent mz.2.2.2.1 as = lz) (ho : mr_ok M)
    (hx : ∀ e M1, X e M1 → mr_ok M1 → (mm_hd (mt_P sc) y pc e = none ∧ Q (.inr e) M1) ∨ ∃ p2 l2, mm_hd (mt_P sc) y pc e ≠ none ∧ mm_cat9 (mt_P sc) y pc e ls 99 M1 = some (p2, l2, [], 99, M1) ∧ en_R sc y p2 l2 [] M1 Q)
    (k : en_CV sc z lz M (fun M1 => mr_ok M1 → en_R sc y (pc + 3) ls rr M1 Q) X) : en_R sc y pc ls st M Q := by
  refine en_callC hm hc hl hiv hlm hz hk hw has hok hent (en_mono (en_ok hz (by omega) ho k) ?_)
  rintro r M1 ⟨g1, ⟨rfl, g2⟩ | ⟨e, rfl, g2, g3⟩⟩
  · exact Or.inl ⟨_, rfl, g2 g1⟩
  · exact Or.inr ⟨e, rfl, g2, hx e M1 g3 g1⟩
end
