/-! ===== alongBottom, afterUp, afterDown ===== -/
section
variable {sc : Nat × (Int → Int)} {M : mm_M} {X : Nat → mm_M → Prop}
theorem c121 {K : Int → mm_M → Prop} {A : Nat} {k i b x y c : Int} (ho : mr_ok M) (h : AW M A) (hk : inP (rdA M A) i k) (hb : bIs M A b) (hx : -1000 ≤ x ∧ x ≤ 1000) (hy : -1000 ≤ y ∧ y ≤ 1000) (hc : M.1 17 1 = c) (c0 : 0 ≤ c) (c1 : c + 1 < 1601)
    (kk : ∀ e x2 M1, mr_ok M1 → AB (rdA M A) k b x e x2 → EMI M M1 c (some (x, x2, y)) → K e M1) : en_CI sc 121 [mm_r 17, mm_r A, mm_i k, mm_i b, mm_i x, mm_i y, mm_u] M K X := by
  have w := h.2.1
  have kr := inP_rg0 w hk
  have nS' : nS_ (rdA M A) ≤ 400 := h.2.2.2
  have bk := w.2.2.1 i hk.1 hk.2.1
  have kb := bk.2.2.2.2.2 k hk.2.2.1 hk.2.2.2
  have kd := bk.2.2.2.2.1.1 k hk.2.2.1 hk.2.2.2
  refine vc121_0 ho h.1 (c118 ho hc c0 (by omega) hx hy (fun Ma fa a1 a2 a3 hoa => ?_))
  have Aa := AW_fr fa (tS_A h.1) h
  have sa : rdA Ma A = rdA M A := rdA_fr fa (tS_A h.1)
  have hb' : bIs Ma A b := by
    unfold bIs at hb ⊢
    rw [show Ma.1 A 0 = M.1 A 0 from congrArg (fun s : sh => sn s) sa]
    exact hb
  obtain ⟨d0, d1, d2, dd⟩ := bIs_ds Aa hb'
  have e4 : Ma.1 (A + 4) = slf (rdA M A) := congrArg (fun s : sh => slf s) sa
  have e5 : Ma.1 (A + 5) = srt (rdA M A) := congrArg (fun s : sh => srt s) sa
  have eS : bSt Ma A b = bst (rdA M A) b := by rw [← sa]; rfl
  have eE : bEn Ma A b = ben (rdA M A) b := by rw [← sa]; rfl
  rw [eS, eE, e4, e5] at dd
  rw [eS] at d0 d1
  rw [eE] at d1 d2
  have br' : -1 ≤ b ∧ b < 100 := by
    have n1 := h.2.2.1
    unfold bIs at hb
    omega
  have done : ∀ (q : Int), ((∀ u, bst (rdA M A) b ≤ u → u < ben (rdA M A) b → x < srt (rdA M A) u → srt (rdA M A) k ≤ slf (rdA M A) u)) → en_R sc 121 61 [mm_r 17, mm_r A, mm_i k, mm_i b, mm_i x, mm_i y, mm_i q] [] Ma (QI K X) := by
    intro q hq
    refine vc121_61 hoa h.1 ⟨by omega, by omega, ?_⟩
    rw [e5]
    exact c118 hoa a1 (by omega) (by omega) ⟨by omega, kb.2⟩ hy (fun Mb fb b1 b2 b3 hob => Or.inl ⟨_, rfl, kk _ (srt (rdA M A) k) Mb hob (Or.inr ⟨hq, rfl, rfl⟩) (EMI_two fa a1 a2 a3 fb b1 b2 b3)⟩)
  refine c81 hoa Aa hb' ⟨by omega, by omega⟩ (fun q q0 q1 q2 q3 _ => c51 hoa h.1 br'.1 (by omega) (fun _ => ?_))
  rw [eS, eE] at *
  rw [e4, e5] at *
  refine ⟨⟨by omega, by omega⟩, ⟨by omega, by omega⟩, fun z => done _ (fun u u0 u1 u2 => ?_), fun z => ⟨by omega, by omega, by omega, by omega, fun z2 => done _ (fun u u0 u1 u2 => ?_), fun z2 => ⟨by omega, by omega, ?_⟩⟩⟩
  · have := q2 u u0 (by omega)
    omega
  · by_cases v : u = q
    · rw [v]; exact z2
    · by_cases v2 : q < u
      · have := ds_mono dd q0 v2 u1
        have := dd.1 q q0 (by omega)
        omega
      · have := q2 u u0 (by omega)
        omega
  · have lq : -1000 ≤ slf (rdA M A) q := by
      rcases hb with e | ⟨b0, b1⟩
      · have : ben (rdA M A) b = 0 := by rw [e]; exact if_pos rfl
        have : bst (rdA M A) b = 0 := by rw [e]; exact if_pos rfl
        omega
      · have ebst : bst (rdA M A) b = sst (rdA M A) b := if_neg (by omega)
        have eben : ben (rdA M A) b = sst (rdA M A) (b + 1) := if_neg (by omega)
        exact ((w.2.2.1 b b0 b1).2.2.2.2.2 q (by omega) (by omega)).1
    exact c118 hoa a1 (by omega) (by omega) ⟨lq, by omega⟩ hy (fun Mb fb b1 b2 b3 hob => Or.inl ⟨_, rfl, kk _ (slf (rdA M A) q) Mb hob (Or.inl ⟨q, by omega, by omega, q3 q (Int.le_refl _) (by omega), fun u' z3 z4 => q2 u' z3 z4, by omega, rfl, rfl⟩) (EMI_two fa a1 a2 a3 fb b1 b2 b3)⟩)
theorem inP_of {s : sh} (h : wf s) {b o : Int} (hb : b = -1 ∨ (0 ≤ b ∧ b < sn s)) (o0 : bst s b ≤ o) (o1 : o < ben s b) : inP s b o := by
  unfold bst at o0
  unfold ben at o1
  rcases hb with e | e
  · rw [if_pos e] at o0 o1
    omega
  · rw [if_neg (by omega)] at o0 o1
    exact ⟨e.1, e.2, o0, o1⟩
/-- CellAreas.Loops.afterUp -/
theorem c122 {K : Int → mm_M → Prop} {A : Nat} {k c : Int} (ho : mr_ok M) (h : AW M A) (k0 : 0 ≤ k) (k1 : k < nS_ (rdA M A)) (hc : M.1 17 1 = c) (c0 : 0 ≤ c) (c1 : c + 1 < 1601)
    (kk : ∀ i e em M1, mr_ok M1 → inP (rdA M A) i k → NXU (rdA M A) k i e em → EMI M M1 c em → K e M1) : en_CI sc 122 [mm_r 17, mm_r A, mm_i k, mm_u, mm_u, mm_u] M K X := by
  have w := h.2.1
  have nS' : nS_ (rdA M A) ≤ 400 := h.2.2.2
  have n1 : sn (rdA M A) ≤ 100 := h.2.2.1
  refine vc122_0 ho h.1 (c117 ho h k0 k1 (fun i hi _ => ⟨k0, by omega, ?_⟩))
  have i0 := hi.1
  have i1 := hi.2.1
  have bk := w.2.2.1 i i0 i1
  have kb := bk.2.2.2.2.2 k hi.2.2.1 hi.2.2.2
  have kd := bk.2.2.2.2.1.1 k hi.2.2.1 hi.2.2.2
  have b2 := bk.2.1
  have b3 := bk.2.2.1
  have b4 := bk.2.2.2.1
  have e5 : M.1 (A + 5) k = srt (rdA M A) k := rfl
  have ehi : M.1 (A + 2) i = shi (rdA M A) i := rfl
  have cA : ∀ {K' : Int → mm_M → Prop} {Y : Nat → mm_M → Prop}, (K' (abv (rdA M A) i) M) → en_CI sc 119 [mm_r A, mm_i i] M K' Y := fun {K' Y} hk => by
    refine c119 ho h i0 (by omega) (fun no => ?_) (fun y0 y1 => ?_)
    · have e : abv (rdA M A) i = -1 := if_neg no
      rw [e] at hk; exact hk
    · have e : abv (rdA M A) i = i + 1 := if_pos ⟨y0, y1⟩
      rw [e] at hk; exact hk
  have hb : bIs M A (abv (rdA M A) i) := by
    rcases abv_or (rdA M A) i with e | e
    · exact Or.inl e.1
    · exact Or.inr ⟨by omega, by show abv (rdA M A) i < sn (rdA M A); omega⟩
  have hb2 : abv (rdA M A) i = -1 ∨ (0 ≤ abv (rdA M A) i ∧ abv (rdA M A) i < sn (rdA M A)) := hb
  rw [e5]
  refine cA (fun _ => c82 ho h hb ⟨by omega, by omega⟩ (fun no _ => ⟨⟨by decide, by decide⟩, fun z => absurd rfl z, fun _ => cA (fun _ => ⟨i0, by omega, ?_⟩)⟩) (fun o o0 o1 o2 o3 _ => ?_))
  · rw [ehi]
    exact c120 ho h hi hb ⟨by omega, by omega⟩ ⟨by omega, by omega⟩ hc c0 c1 (fun e x2 M1 o1 at' em o1' => Or.inl ⟨_, rfl, kk i e _ M1 o1 hi (Or.inl ⟨no, x2, at', rfl⟩) em⟩)
  · have ho' := inP_of w hb2 o0 o1
    have orr := inP_rg0 w ho'
    have e5o : M.1 (A + 5) o = srt (rdA M A) o := rfl
    rw [e5o, ehi]
    refine ⟨⟨by omega, by omega⟩, fun _ => ⟨by omega, by omega, fun z => ⟨i0, by omega, ?_⟩, fun z => ?_⟩, fun z => absurd (by omega) z⟩
    · exact c121 ho h ho' (Or.inr ⟨i0, i1⟩) ⟨by omega, by omega⟩ ⟨by omega, by omega⟩ hc c0 c1 (fun e x2 M1 oo ab em _ => Or.inl ⟨_, rfl, kk i e _ M1 oo hi (Or.inr ⟨o, o0, o1, o2, o3, Or.inr ⟨z, x2, ab, rfl⟩⟩) em⟩)
    · exact Or.inl ⟨_, rfl, kk i _ none M ho hi (Or.inr ⟨o, o0, o1, o2, o3, Or.inl ⟨Classical.byContradiction z, rfl, rfl⟩⟩) (Or.inl ⟨rfl, rfl⟩)⟩
/-- CellAreas.Loops.afterDown -/
theorem c123 {K : Int → mm_M → Prop} {A : Nat} {k c : Int} (ho : mr_ok M) (h : AW M A) (k0 : 0 ≤ k) (k1 : k < nS_ (rdA M A)) (hc : M.1 17 1 = c) (c0 : 0 ≤ c) (c1 : c + 1 < 1601)
    (kk : ∀ i e em M1, mr_ok M1 → inP (rdA M A) i k → NXD (rdA M A) k i e em → EMI M M1 c em → K e M1) : en_CI sc 123 [mm_r 17, mm_r A, mm_i k, mm_u, mm_u, mm_u] M K X := by
  have w := h.2.1
  have nS' : nS_ (rdA M A) ≤ 400 := h.2.2.2
  have n1 : sn (rdA M A) ≤ 100 := h.2.2.1
  refine vc123_0 ho h.1 (c117 ho h k0 k1 (fun i hi _ => ⟨k0, by omega, ?_⟩))
  have i0 := hi.1
  have i1 := hi.2.1
  have bk := w.2.2.1 i i0 i1
  have kb := bk.2.2.2.2.2 k hi.2.2.1 hi.2.2.2
  have kd := bk.2.2.2.2.1.1 k hi.2.2.1 hi.2.2.2
  have b2 := bk.2.1
  have b3 := bk.2.2.1
  have b4 := bk.2.2.2.1
  have e4 : M.1 (A + 4) k = slf (rdA M A) k := rfl
  have elo : M.1 (A + 1) i = slo (rdA M A) i := rfl
  have cA : ∀ {K' : Int → mm_M → Prop} {Y : Nat → mm_M → Prop}, (K' (blw (rdA M A) i) M) → en_CI sc 96 [mm_r A, mm_i i] M K' Y := fun {K' Y} hk => by
    refine c96 ho h.1 ⟨by omega, by omega⟩ (by omega) (fun no => ?_) (fun y0 y1 => ?_)
    · have e : blw (rdA M A) i = -1 := if_neg no
      rw [e] at hk; exact hk
    · have e : blw (rdA M A) i = i - 1 := if_pos ⟨y0, y1⟩
      rw [e] at hk; exact hk
  have hb : bIs M A (blw (rdA M A) i) := by
    rcases blw_or (rdA M A) i with e | e
    · exact Or.inl e.1
    · exact Or.inr ⟨by omega, by show blw (rdA M A) i < sn (rdA M A); omega⟩
  have hb2 : blw (rdA M A) i = -1 ∨ (0 ≤ blw (rdA M A) i ∧ blw (rdA M A) i < sn (rdA M A)) := hb
  rw [e4]
  refine cA (fun _ => c82 ho h hb ⟨by omega, by omega⟩ (fun no _ => ⟨⟨by decide, by decide⟩, fun z => absurd rfl z, fun _ => cA (fun _ => ⟨i0, by omega, ?_⟩)⟩) (fun o o0 o1 o2 o3 _ => ?_))
  · rw [elo]
    exact c121 ho h hi hb ⟨by omega, by omega⟩ ⟨by omega, by omega⟩ hc c0 c1 (fun e x2 M1 o1 ab em _ => Or.inl ⟨_, rfl, kk i e _ M1 o1 hi (Or.inl ⟨no, x2, ab, rfl⟩) em⟩)
  · have ho' := inP_of w hb2 o0 o1
    have orr := inP_rg0 w ho'
    have e4o : M.1 (A + 4) o = slf (rdA M A) o := rfl
    rw [e4o, elo]
    refine ⟨⟨by omega, by omega⟩, fun _ => ⟨by omega, by omega, fun z => ⟨i0, by omega, ?_⟩, fun z => ?_⟩, fun z => absurd (by omega) z⟩
    · exact c120 ho h ho' (Or.inr ⟨i0, i1⟩) ⟨by omega, by omega⟩ ⟨by omega, by omega⟩ hc c0 c1 (fun e x2 M1 oo at' em _ => Or.inl ⟨_, rfl, kk i e _ M1 oo hi (Or.inr ⟨o, o0, o1, o2, o3, Or.inr ⟨z, x2, at', rfl⟩⟩) em⟩)
    · exact Or.inl ⟨_, rfl, kk i _ none M ho hi (Or.inr ⟨o, o0, o1, o2, o3, Or.inl ⟨Classical.byContradiction z, rfl, rfl⟩⟩) (Or.inl ⟨rfl, rfl⟩)⟩
end
