/-! ===== loop and corner: both sides answer alike ===== -/
section
variable {sc : Nat × (Int → Int)} {n : Nat}
theorem INV_t2 {M M2 : mm_M} (h : INV LL M n) (f : fr vT (M.1, M.2.1, M.2.2 + 1) M2) : INV LL M2 (n + 1) := by
  refine INV_z LL_st h (zfr_trans zfr_thr (vT_zfr f)) ?_
  have := h.2.2.2
  rw [f.1]
  show M.2.2 + 1 ≤ n + 1
  omega
theorem keep17 {M M1 : mm_M} (f : fr vT M M1) : ∀ a k, 17 ≤ a → a ≤ 20 → M1.1 a k = M.1 a k := fun a k a0 a1 => f.2 a k (by unfold vT vR; omega)
/-- the measures of both sides -/
theorem mtc_mea {s : sh} {Mf M2 : mm_M} {i c : Int} {m : Nat} (T : MTC s Mf Mf) (i0 : 0 ≤ i) (i1 : i < Mf.1 72 29) (m0 : 0 < m) (hm : sti (Cg s Mf) m (st3 Mf i) = st3 Mf i) (nr : ∀ u, 0 < u → u < m → sti (Cg s Mf) u (st3 Mf i) ≠ st3 Mf i) (E : MEA (Cg s Mf) Mf (st3 Mf i) m c M2) :
    M2.1 72 34 = Mf.1 19 (i + 1) - Mf.1 19 i ∧ M2.1 72 35 = clenF Mf i ∧ M2.1 72 36 = crndF Mf i ∧ (0 ≤ c → c < Mf.1 19 (i + 1) - Mf.1 19 i → M2.1 72 37 = cX Mf (Mf.1 19 i + c) ∧ M2.1 72 38 = cY Mf (Mf.1 19 i + c)) := by
  obtain ⟨t1, t2, t3, t4, t5, t6, t7, t8⟩ := T
  obtain ⟨m', C⟩ := t7 i i0 (by omega)
  have L := C.2.2.2.2.2.2.2.2
  have em : m' = m := per_one L.1 L.2.1 L.2.2.1 m0 hm nr
  rw [em] at C
  have ce := clen_eq C
  obtain ⟨e1, e2, e3, e4, e5⟩ := E
  refine ⟨by rw [e1, ce.2.2], by rw [e2, ce.1], by rw [e3, ce.2.1], fun c0 c1 => ?_⟩
  rcases cor_time C c0 c1 with ⟨z, x, y⟩ | ⟨v, v1, v2, v3, x, y⟩
  · have q := e4 (by omega)
    rw [q.1, q.2, x, y]
    exact ⟨rfl, rfl⟩
  · have q := e5 v v1 v2 v3
    rw [q.1, q.2, x, y]
    exact ⟨rfl, rfl⟩
theorem p_loop {a i what : Int} (ha : mr_rg a) (hi : mr_rg i) (hw : mr_rg what) : PR LL sc 158 [mm_r 0, mm_i a, mm_i i, mm_i what, mm_r 98, mm_u] 159 [mm_r 72, mm_i a, mm_i i, mm_i what] := by
  intro M n ho h
  refine vc158_0 ho (c157 ho h ha hi hw (fun q ho2 => Or.inl ⟨rfl, Or.inl ⟨1, rfl, fun ho3 => ?_⟩⟩) (fun g q ho2 => Or.inr ⟨rfl, Or.inl ⟨2, rfl, fun ho3 => ?_⟩⟩) (fun g gw' M1 I1 l1 q ho2 => Or.inr ⟨rfl, Or.inl ⟨2, rfl, fun ho3 => ?_⟩⟩) (fun g gw' M1 I1 l1 gi ho1 => ?_))
  · exact c159 ho3 (INV_W h) ha hi hw (fun _ M2 f e _ => ⟨e, ⟨by decide, by decide⟩, fun z => absurd z (by decide), INV_t LL_st h f⟩) (fun g => absurd g q) (fun g => absurd g q)
  · exact c159 ho3 (INV_W h) ha hi hw (fun q2 => absurd g q2) (fun _ Mf M2 _ _ _ v2 e _ => ⟨e, ⟨by decide, by decide⟩, fun z => absurd z (by decide), INV_t2 h v2⟩) (fun _ Mf M2 m _ _ _ _ _ w0 w1 => absurd ⟨w0, w1⟩ q)
  · have e1 := I1.2.1 a g.1 g.2
    have w := (I1.1.1 a g.1 g.2).2.1.2.1
    refine c159 ho3 (INV_W I1) ha hi hw (fun q2 => absurd g q2) (fun _ Mf M2 _ _ _ v2 e _ => ⟨e, ⟨by decide, by decide⟩, fun z => absurd z (by decide), INV_t2 I1 v2⟩) (fun _ Mf M2 m _ vf F i0 i1 w0 w1 => ?_)
    have kv : ∀ b k, 17 ≤ b → b ≤ 20 → Mf.1 b k = M1.1 b k := fun b k b0 b1 => keep17 vf b k b0 b1
    have T := mtc_of w e1.2 l1 kv F
    have e17 : Mf.1 17 0 = M1.1 17 0 := kv 17 0 (by decide) (by decide)
    have := T.1
    exact absurd ⟨i0, by omega⟩ q
  · have w := (I1.1.1 a g.1 g.2).2.1.2.1
    have nS' : nS_ (rdA M1 (ar M1 a)) ≤ 400 := (I1.1.1 a g.1 g.2).2.1.2.2.2
    obtain ⟨n0, n1, _, _, _, cl⟩ := LL_clp w l1
    obtain ⟨Mg, p, m, C, mk⟩ := cl i gi.1 (by omega)
    have rg : mr_rg (if what = 0 then M1.1 19 (i + 1) - M1.1 19 i else if what = 1 then clenF M1 i else mr_ldiv (crndF M1 i) 2) := by
      by_cases z : what = 0
      · rw [if_pos z]
        have b0 := C.2.2.2.2.1
        have b1 := C.2.2.2.2.2.1
        have e4 := (clen_eq C).2.2
        have tg := tcn_ge (C := Cg (rdA M1 (ar M1 a)) Mg) (p := p) m
        exact ⟨by omega, by omega⟩
      · rw [if_neg z]
        by_cases z2 : what = 1
        · rw [if_pos z2]
          exact (clen_rg C).1
        · rw [if_neg z2, crnd_ar C mk]
          have b := arF_rg w nS' M1 i
          rw [ldiv2 (by omega) (by omega)]
          exact ⟨by omega, by omega⟩
    refine ⟨rg, rj_of rg, Or.inl ⟨0, rfl, fun ho2 => ?_⟩⟩
    have P := INV_p LL_st I1 zfr_refl rfl (if what = 0 then M1.1 19 (i + 1) - M1.1 19 i else if what = 1 then clenF M1 i else mr_ldiv (crndF M1 i) 2)
    generalize hx : (if what = 0 then M1.1 19 (i + 1) - M1.1 19 i else if what = 1 then clenF M1 i else mr_ldiv (crndF M1 i) 2) = x at *
    have k0 : ∀ Mf, fr vT (mm_putN M1 98 0 x) Mf → ∀ b k, 17 ≤ b → b ≤ 20 → Mf.1 b k = M1.1 b k := fun Mf vf b k b0 b1 => by
      rw [keep17 vf b k b0 b1]
      exact put_a (by omega)
    refine c159 ho2 P.1 ha hi hw (fun q => absurd g q) (fun _ Mf M2 vf F q v2 e _ => ?_) (fun _ Mf M2 m2 of vf F i0 i1 w0 w1 m0 hm nr v2 E e _ => ?_)
    · have T := mtc_of w (P.2 a g).2 l1 (k0 Mf vf) F
      have e17 : Mf.1 17 0 = M1.1 17 0 := k0 Mf vf 17 0 (by decide) (by decide)
      have := T.1
      exact absurd ⟨⟨gi.1, by omega⟩, gw'⟩ q
    · have T := mtc_of w (P.2 a g).2 l1 (k0 Mf vf) F
      have D := mtc_mea T i0 i1 m0 hm nr E
      have S := clen_same (k0 Mf vf) i
      have e19 : ∀ j, Mf.1 19 j = M1.1 19 j := fun j => k0 Mf vf 19 j (by decide) (by decide)
      have ee : x = (if what = 0 then M2.1 72 34 else if what = 1 then M2.1 72 35 else mr_ldiv (M2.1 72 36) 2) := by
        rw [← hx, D.1, D.2.1, D.2.2.1, S.1, S.2.1, e19, e19]
      exact p_read LL_st I1 zfr_refl rfl v2 e (by rw [← ee]; exact rg) ee
theorem p_corner {a i c what : Int} (ha : mr_rg a) (hi : mr_rg i) (hc : mr_rg c) (hw : mr_rg what) : PR LL sc 161 [mm_r 0, mm_i a, mm_i i, mm_i c, mm_i what, mm_r 98, mm_u] 162 [mm_r 72, mm_i a, mm_i i, mm_i c, mm_i what] := by
  intro M n ho h
  refine vc161_0 ho (c160 ho h ha hi hc hw (fun q ho2 => Or.inl ⟨rfl, Or.inl ⟨1, rfl, fun ho3 => ?_⟩⟩) (fun g q ho2 => Or.inr ⟨rfl, Or.inl ⟨2, rfl, fun ho3 => ?_⟩⟩) (fun g gw' M1 I1 l1 q ho2 => Or.inr ⟨rfl, Or.inl ⟨2, rfl, fun ho3 => ?_⟩⟩) (fun g gw' M1 I1 l1 gi gc ho1 => ?_))
  · exact c162 ho3 (INV_W h) ha hi hc hw (fun _ M2 f e _ => ⟨e, ⟨by decide, by decide⟩, fun z => absurd z (by decide), INV_t LL_st h f⟩) (fun g => absurd g q) (fun g => absurd g q)
  · exact c162 ho3 (INV_W h) ha hi hc hw (fun q2 => absurd g q2) (fun _ Mf M2 _ _ _ v2 e _ => ⟨e, ⟨by decide, by decide⟩, fun z => absurd z (by decide), INV_t2 h v2⟩) (fun _ Mf M2 M3 m _ _ _ _ _ _ w0 w1 => absurd ⟨w0, w1⟩ q)
  · have e1 := I1.2.1 a g.1 g.2
    have w := (I1.1.1 a g.1 g.2).2.1.2.1
    refine c162 ho3 (INV_W I1) ha hi hc hw (fun q2 => absurd g q2) (fun _ Mf M2 _ _ _ v2 e _ => ⟨e, ⟨by decide, by decide⟩, fun z => absurd z (by decide), INV_t2 I1 v2⟩) (fun _ Mf M2 M3 m _ vf F i0 i1 c0 w0 w1 m0 hm nr E v3 => ⟨fun z e _ => ⟨e, ⟨by decide, by decide⟩, fun z => absurd z (by decide), INV_t2 I1 v3⟩, fun z => ?_⟩)
    have kv : ∀ b k, 17 ≤ b → b ≤ 20 → Mf.1 b k = M1.1 b k := fun b k b0 b1 => keep17 vf b k b0 b1
    have T := mtc_of w e1.2 l1 kv F
    have e17 : Mf.1 17 0 = M1.1 17 0 := kv 17 0 (by decide) (by decide)
    have e19 : ∀ j, Mf.1 19 j = M1.1 19 j := fun j => kv 19 j (by decide) (by decide)
    have D := mtc_mea T i0 i1 m0 hm nr E
    have d1 := D.1
    rw [e19, e19] at d1
    have := T.1
    exact absurd ⟨⟨i0, by omega⟩, c0, by omega⟩ q
  · have w := (I1.1.1 a g.1 g.2).2.1.2.1
    obtain ⟨n0, n1, _, _, _, cl⟩ := LL_clp w l1
    obtain ⟨Mg, p, m, C, mk⟩ := cl i gi.1 (by omega)
    have rg : mr_rg (if what = 0 then cX M1 (M1.1 19 i + c) else cY M1 (M1.1 19 i + c)) := by
      have ec : ((c.toNat : Nat) : Int) = c := by omega
      obtain ⟨t, t1, t2, t3, t4, t5, _, _⟩ := CLP_times C c.toNat (by omega)
      rw [ec] at t4
      have D := cor_xy (M := M1) w C.2.1 C.2.2.2.2.2.2.1 (t4 (by omega))
      have R := pxy_rg w C.2.1 (sti_isS C.2.2.2.2.2.2.1 t)
      have x1 : cX M1 (M1.1 19 i + c) = px Mg (sti (Cg (rdA M1 (ar M1 a)) Mg) t p) := D.2.1
      have y1 : cY M1 (M1.1 19 i + c) = py Mg (sti (Cg (rdA M1 (ar M1 a)) Mg) t p) := D.2.2
      rw [x1, y1]
      split
      · exact ⟨by omega, by omega⟩
      · exact ⟨by omega, by omega⟩
    refine ⟨rg, rj_of rg, Or.inl ⟨0, rfl, fun ho2 => ?_⟩⟩
    have P := INV_p LL_st I1 zfr_refl rfl (if what = 0 then cX M1 (M1.1 19 i + c) else cY M1 (M1.1 19 i + c))
    generalize hx : (if what = 0 then cX M1 (M1.1 19 i + c) else cY M1 (M1.1 19 i + c)) = x at *
    have k0 : ∀ Mf, fr vT (mm_putN M1 98 0 x) Mf → ∀ b k, 17 ≤ b → b ≤ 20 → Mf.1 b k = M1.1 b k := fun Mf vf b k b0 b1 => by
      rw [keep17 vf b k b0 b1]
      exact put_a (by omega)
    refine c162 ho2 P.1 ha hi hc hw (fun q => absurd g q) (fun _ Mf M2 vf F q v2 e _ => ?_) (fun _ Mf M2 M3 m2 of vf F i0 i1 c0 w0 w1 m0 hm nr E v3 => ?_)
    · have T := mtc_of w (P.2 a g).2 l1 (k0 Mf vf) F
      have e17 : Mf.1 17 0 = M1.1 17 0 := k0 Mf vf 17 0 (by decide) (by decide)
      have := T.1
      exact absurd ⟨⟨gi.1, by omega⟩, gc.1, gw'⟩ q
    · have T := mtc_of w (P.2 a g).2 l1 (k0 Mf vf) F
      have D := mtc_mea T i0 i1 m0 hm nr E
      have S := clen_same (k0 Mf vf) i
      have e19 : ∀ j, Mf.1 19 j = M1.1 19 j := fun j => k0 Mf vf 19 j (by decide) (by decide)
      have d1 := D.1
      rw [e19, e19] at d1
      refine ⟨fun z => absurd z (by omega), fun z e _ => ?_⟩
      have d4 := D.2.2.2 c0 (by rw [e19, e19]; omega)
      rw [S.2.2.1, S.2.2.2, e19] at d4
      have ee : x = (if what = 0 then M2.1 72 37 else M2.1 72 38) := by
        rw [← hx, d4.1, d4.2]
      exact p_read LL_st I1 zfr_refl rfl v3 e (by rw [← ee]; exact rg) ee
end
