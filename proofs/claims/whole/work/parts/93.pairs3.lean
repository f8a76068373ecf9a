/-! ===== partOf, take, largest ===== -/
/-- a cell lies in one stretch alone -/
theorem at_one {s : sh} (h : wf s) {i k i' k' x y : Int} (a : inP s i k) (b : inP s i' k') (a1 : slo s i ≤ y) (a2 : y < shi s i) (a3 : slf s k ≤ x) (a4 : x < srt s k) (b1 : slo s i' ≤ y) (b2 : y < shi s i') (b3 : slf s k' ≤ x) (b4 : x < srt s k') : k = k' := by
  have e : i = i' := by
    by_cases q : i < i'
    · have := wf_hl h a.1 q b.2.1
      omega
    · by_cases q2 : i' < i
      · have := wf_hl h b.1 q2 a.2.1
        omega
      · omega
  rw [← e] at b
  have d := (h.2.2.1 i a.1 a.2.1).2.2.2.2.1
  by_cases q : k < k'
  · have := ds_mono d a.2.2.1 q b.2.2.2
    omega
  · by_cases q2 : k' < k
    · have := ds_mono d b.2.2.1 q2 a.2.2.2
      omega
    · omega
theorem inP_rg {s : sh} (h : wf s) {i k : Int} (a : inP s i k) : 0 ≤ k ∧ k < nS_ s := by
  have z0 := sst_mono h (Int.le_refl 0) a.1 (show i ≤ sn s by have := a.2.1; omega)
  have z1 := sst_mono h (show 0 ≤ i + 1 by have := a.1; omega) (show i + 1 ≤ sn s by have := a.2.1; omega) (Int.le_refl _)
  have := a.2.2.1
  have := a.2.2.2
  rw [h.2.1] at z0
  show 0 ≤ k ∧ k < sst s (sn s)
  omega
theorem PN_rg {s : sh} (h : wf s) {g : Int → Int} {c : Int} (p : PN s g c) (n1 : nS_ s ≤ 400) {k : Int} (k0 : 0 ≤ k) (k1 : k < nS_ s) : 0 ≤ g k ∧ g k ≤ 400 := by
  obtain ⟨e, e0, e1, e2, e3⟩ := has_root (s := s) k0
  rw [← p.2.1 e k e0 (by omega) k0 k1 e3, p.1 e e0 (by omega) e2]
  have := cntR_rg (root s) e.toNat
  omega
theorem pS_zfr {M M1 : mm_M} (f : fr pS M M1) : zfr M M1 ∧ M1.2.2 = M.2.2 := ⟨zfr_fr f (fun a k z => by have z' : a = 22 ∨ (a = 21 ∧ k = 0) := z; unfold zS; omega), by rw [f.1]⟩
section
variable {L : sh → mm_M → Prop} {sc : Nat × (Int → Int)}
theorem p_partOf (hL : Lst L) {a x y : Int} (ha : mr_rg a) (hx : mr_rg x) (hy : mr_rg y) : PR L sc 168 [mm_r 0, mm_i a, mm_i x, mm_i y, mm_r 98, mm_u] 169 [mm_r 72, mm_i a, mm_i x, mm_i y, mm_u, mm_u] := by
  intro M n ho h
  have rm : mr_rg (-1) := ⟨by decide, by decide⟩
  refine vc168_0 ho (c167 ho h.1 ha hx hy (fun q ho2 => Or.inl ⟨rfl, Or.inl ⟨1, rfl, fun ho3 => ?_⟩⟩) (fun g noo ho1 => ⟨rm, rj_of rm, Or.inl ⟨0, rfl, fun ho2 => ?_⟩⟩) (fun g i s M1 gg c is i1 i2 i3 i4 f1 p1 ho1 => ?_))
  · exact c169 ho3 (INV_W h) ha hx hy (fun _ M2 f e _ => ⟨e, ⟨by decide, by decide⟩, fun z => absurd z (by decide), INV_t hL h f⟩) (fun g => absurd g q) (fun g => absurd g q)
  · have P := INV_p hL h zfr_refl rfl (-1)
    refine c169 ho2 P.1 ha hx hy (fun q => absurd g q) (fun _ M2 f e no2 _ => p_read hL h zfr_refl rfl f e rm rfl) (fun _ i' s' M2 g' c' f e is' i1' i2' i3' i4' p' _ => ?_)
    have k1 := vT_keep f g.1 g.2 (P.1 a g.1 g.2)
    refine absurd ?_ noo
    rw [eqv_has (P.2 a g).1 (eqv_trans (P.2 a g).1 (P.2 a g).2 k1.1)]
    exact ⟨i', is'.1, is'.2.1, i1', i2', s', is'.2.2.1, is'.2.2.2, i3', i4'⟩
  · have A := (OW_A h.1 g).2
    have kr := inP_rg A.2.1 is
    have gr := PN_rg A.2.1 p1 A.2.2.2 kr.1 kr.2
    have rg : mr_rg (gg s) := ⟨by omega, by omega⟩
    have Z := pS_zfr f1
    have P := INV_p hL h Z.1 Z.2 (gg s)
    refine ⟨rg, rj_of rg, Or.inl ⟨0, rfl, fun ho2 => ?_⟩⟩
    have yes : has (rdA M (ar M a)) x y := ⟨i, is.1, is.2.1, i1, i2, s, is.2.2.1, is.2.2.2, i3, i4⟩
    refine c169 ho2 P.1 ha hx hy (fun q => absurd g q) (fun _ M2 f e no2 _ => ?_) (fun _ i' s' M2 g' c' f e is' i1' i2' i3' i4' p' _ => ?_)
    · have k1 := vT_keep f g.1 g.2 (P.1 a g.1 g.2)
      rw [eqv_has (P.2 a g).1 (eqv_trans (P.2 a g).1 (P.2 a g).2 k1.1)] at yes
      exact absurd yes no2
    · have k1 := vT_keep f g.1 g.2 (P.1 a g.1 g.2)
      have E := eqv_trans (P.2 a g).1 (P.2 a g).2 k1.1
      obtain ⟨j1, j2, j3, j4, j5⟩ := inP_eqv (P.2 a g).1 E is
      have es : s = s' := at_one k1.2.1 j1 is' (by rw [← j2]; exact i1) (by rw [← j3]; exact i2) (by rw [← j4]; exact i3) (by rw [← j5]; exact i4) i1' i2' i3' i4'
      have u := (PN_unique (PN_eqv (P.2 a g).1 E p1) p').2
      have kr' := inP_rg k1.2.1 is'
      have ee : gg s = g' s' := by
        rw [es]
        exact u s' kr'.1 kr'.2
      exact p_read hL h Z.1 Z.2 f e (by rw [← ee]; exact rg) ee
theorem p_take (hL : Lst L) {t a v : Int} (ht : mr_rg t) (ha : mr_rg a) (hv : mr_rg v) : PR L sc 171 [mm_r 0, mm_i t, mm_i a, mm_i v, mm_r 98, mm_u] 172 [mm_r 72, mm_i t, mm_i a, mm_i v, mm_u, mm_u] := by
  intro M n ho h
  refine vc171_0 ho (c170 ho h.1 ht ha hv (fun q ho2 => Or.inl ⟨rfl, Or.inl ⟨1, rfl, fun ho3 => ?_⟩⟩) (fun g M1 gg cc f1 p1 q ho2 => Or.inr ⟨rfl, Or.inl ⟨2, rfl, fun ho3 => ?_⟩⟩) (fun g gg cc p1 q r M1 c ho1 => ⟨CB_rg c, rj_of (CB_rg c), Or.inl ⟨0, rfl, fun ho2 => ?_⟩⟩))
  · exact c172 ho3 (INV_W h) ht ha hv (fun _ M2 f e _ => ⟨e, ⟨by decide, by decide⟩, fun z => absurd z (by decide), INV_t hL h f⟩) (fun g => absurd g q) (fun g => absurd g q)
  · have Z := pS_zfr f1
    have I1 := INV_z hL h Z.1 (n' := n) (by rw [Z.2]; exact h.2.2.2)
    have e1 := I1.2.1 a g.2.1 g.2.2
    have wA := (h.1.1 a g.2.1 g.2.2).2.1.2.1
    obtain ⟨_, o2, _, o4, _⟩ := pS_keep h.1 f1
    rw [o2, o4 a g.2.1 g.2.2] at e1
    refine c172 ho3 (INV_W I1) ht ha hv (fun q2 => absurd g q2) (fun _ M2 g' c' f e p' _ _ => ⟨e, ⟨by decide, by decide⟩, fun z => absurd z (by decide), ?_⟩) (fun _ g' c' p' q' => ?_)
    · refine INV_z hL I1 (zfr_trans zfr_thr (vT_zfr f)) ?_
      have := I1.2.2.2
      rw [f.1]
      show M1.2.2 + 1 ≤ n + 1
      omega
    · have u := (PN_unique (PN_eqv wA e1.2 p1) p').1
      rw [u] at q
      exact absurd q' q
  · have ea := INV_e h c g.2 r
    refine c172 ho2 (fun j j0 j1 => (CB_W h c r j j0 j1).2) ht ha hv (fun q => absurd g q) (fun _ M2 g' c' f e p' q' _ => ?_) (fun _ g' c' p' q' r' M2 b _ => ?_)
    · have u := (PN_unique (PN_eqv ea.1 ea.2 p1) p').1
      rw [u] at q
      exact absurd q q'
    · have u := PN_unique (PN_eqv ea.1 ea.2 p1) p'
      have nn : nS_ (rdA M (ar M a)) = nS_ (rdB (mm_putN M1 98 0 r) a) := by
        show sst _ _ = sst _ _
        rw [ea.2.2.2.1 _ ea.1.1 (Int.le_refl _), ea.2.1]
      obtain ⟨e1, e2, e3, e4, e5⟩ := INV_b hL h g.1 c b (fun x y => tkT_eqv ea.1 ea.2 (fun k k0 k1 => u.2 k k0 (by rw [← nn]; exact k1)))
      exact ⟨e4, ⟨by decide, by decide⟩, fun _ => ⟨e2, e3.trans e1⟩, e5⟩
theorem run_eqv {R S : Int → Prop} (e : ∀ x, R x ↔ S x) {l r : Int} (h : run R l r) : run S l r := (run_cong e l r).mp h
theorem CN_eqv {s t : sh} (h : wf s) (e : eqv s t) {l lo r hi : Int} (c : CN s (sn s) 0 l lo r hi) : CN t (sn t) 0 l lo r hi := by
  obtain ⟨i, k, ⟨i0, ik, k1, tt, rn⟩, e1, e2, o⟩ := c
  have x := e.2.1 i i0 (by omega)
  have y := e.2.1 k (by omega) k1
  refine ⟨i, k, ⟨i0, ik, by rw [← e.1]; exact k1, fun j j0 j1 => ?_, run_eqv (fun z => ?_) rn⟩, by rw [e1]; exact x.1, by rw [e2]; exact y.2, by rw [← e.1]; exact o⟩
  · rw [← (e.2.1 (j - 1) (by omega) (by omega)).2, ← (e.2.1 j (by omega) (by omega)).1]
    exact tt j j0 j1
  · constructor
    · exact fun q j j0 j1 => (eqv_inb h e (by omega) (by omega) z).mp (q j j0 j1)
    · exact fun q j j0 j1 => (eqv_inb h e (by omega) (by omega) z).mpr (q j j0 j1)
theorem p_largest (hL : Lst L) {a what : Int} (ha : mr_rg a) (hw : mr_rg what) : PR L sc 179 [mm_r 0, mm_i a, mm_i what, mm_r 98, mm_u] 182 [mm_r 72, mm_i a, mm_i what, mm_u] := by
  intro M n ho h
  have rm : mr_rg (-2001) := ⟨by decide, by decide⟩
  refine vc179_0 ho (c178 ho h.1 ha hw (fun q ho2 => Or.inl ⟨rfl, Or.inl ⟨1, rfl, fun ho3 => ?_⟩⟩) (fun g no ho1 => ⟨rm, rj_of rm, Or.inl ⟨0, rfl, fun ho2 => ?_⟩⟩) (fun g yes M1 f1 B1 ho1 => ?_))
  · exact c182 ho3 (INV_W h) ha hw (fun _ M2 f e _ => ⟨e, ⟨by decide, by decide⟩, fun z => absurd z (by decide), INV_t hL h f⟩) (fun g => absurd g q) (fun g => absurd g q)
  · have P := INV_p hL h zfr_refl rfl (-2001)
    have e1 := (P.2 a g).2.1
    exact c182 ho2 P.1 ha hw (fun q => absurd g q) (fun _ _ M2 f e _ => p_read hL h zfr_refl rfl (fr_mono f thS_vT) e rm rfl) (fun _ q => absurd q (by omega))
  · have Z : zfr M M1 ∧ M1.2.2 = M.2.2 := ⟨zfr_fr f1 (fun a k z => by unfold zS; omega), by rw [f1.1]⟩
    have w := (h.1.1 a g.1 g.2).2.1.2.1
    by_cases q : 0 ≤ what ∧ what ≤ 4
    · rw [if_pos q]
      have P := INV_p hL h Z.1 Z.2 (M1.1 23 what)
      have rg : mr_rg (M1.1 23 what) := by
        rcases B1 with ⟨_, b⟩ | ⟨b1, b2, _⟩
        · obtain ⟨l, lo, r, hi, z⟩ := CN_some w yes
          exact absurd z (b l lo r hi)
        · have x := CN_ok w _ _ _ _ b1
          have cp := cells_pos x
          rw [← b2] at cp
          have e : what = 0 ∨ what = 1 ∨ what = 2 ∨ what = 3 ∨ what = 4 := by omega
          rcases e with e | e | e | e | e <;> rw [e] <;> exact ⟨by omega, by omega⟩
      refine ⟨rg, rj_of rg, Or.inl ⟨0, rfl, fun ho2 => ?_⟩⟩
      have e1 := (P.2 a g).2.1
      refine c182 ho2 P.1 ha hw (fun q => absurd g q) (fun _ z => absurd ⟨by omega, q.1, q.2⟩ z) (fun _ y _ _ M2 f e B2 _ => ?_)
      have wB := eqv_wf w (P.2 a g).2
      have B1' : BOm (CN (rdB (mm_putN M1 98 0 (M1.1 23 what)) a) (sn (rdB (mm_putN M1 98 0 (M1.1 23 what)) a)) 0) M1 := BO_iff B1 (fun l lo r hi => ⟨CN_eqv w (P.2 a g).2, CN_eqv wB (eqv_symm w (P.2 a g).2)⟩)
      obtain ⟨u0, u1, u2, u3, u4⟩ := BO_unique (CN_ok wB) B1' B2 (CN_some wB y)
      have ee : M1.1 23 what = M2.1 72 (42 + what) := by
        have e : what = 0 ∨ what = 1 ∨ what = 2 ∨ what = 3 ∨ what = 4 := by omega
        rcases e with e | e | e | e | e <;> rw [e]
        · exact u0
        · exact u1
        · exact u2
        · exact u3
        · exact u4
      exact p_read hL h Z.1 Z.2 f e (by rw [← ee]; exact rg) ee
    · rw [if_neg q]
      refine ⟨rm, rj_of rm, Or.inl ⟨0, rfl, fun ho2 => ?_⟩⟩
      have P := INV_p hL h Z.1 Z.2 (-2001)
      exact c182 ho2 P.1 ha hw (fun q => absurd g q) (fun _ _ M2 f e _ => p_read hL h Z.1 Z.2 (fr_mono f thS_vT) e rm rfl) (fun _ _ y0 y1 => absurd ⟨y0, y1⟩ q)
end
