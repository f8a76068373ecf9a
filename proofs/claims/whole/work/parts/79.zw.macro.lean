/-! ===== the next edge is the next upright side ===== -/
section
variable {s : sh} {M : mm_M}
theorem row_up (h : wf s) (g : GL s M) {b j : Int} (b0 : 0 ≤ b) (b1 : b < sn s) (j0 : 0 ≤ j) (j1 : j < gh M) (r : RBd s M b j) : rwO s M (abv s b) (j + 1) := by
  have ascy := g.2.2.2.2.2.1
  rcases abv_or s b with ⟨z, n⟩ | ⟨z, n1, n2⟩
  · refine Or.inl ⟨z, fun i c => n ?_⟩
    obtain ⟨b', k', r', a', _, _⟩ := cel_at h g c
    have e1 := r.2
    have e2 := r'.1
    have bb := (h.2.2.1 b b0 b1).2.2.1
    have bb' := (h.2.2.1 b' a'.1 a'.2.1).2.2.1
    have lt : b < b' := by
      by_cases q : b < b'
      · exact q
      · by_cases q2 : b' = b
        · rw [q2] at e2; omega
        · have := wf_hl h a'.1 (show b' < b by omega) b1
          omega
    have e : b' = b + 1 := by
      by_cases q : b' = b + 1
      · exact q
      · have h1 := wf_hl h b0 (show b < b + 1 by omega) (show b + 1 < sn s by have := a'.2.1; omega)
        have h2 := wf_hl h (show 0 ≤ b + 1 by omega) (show b + 1 < b' by omega) a'.2.1
        have := (h.2.2.1 (b + 1) (by omega) (by have := a'.2.1; omega)).2.2.1
        omega
    rw [e] at e2 a'
    exact ⟨a'.2.1, by omega⟩
  · obtain ⟨j', k0, k1, k2, k3⟩ := band_row h g (show 0 ≤ b + 1 by omega) n1
    have e : j' = j + 1 := (asc_inj ascy k0 (by omega) (show 0 ≤ j + 1 by omega) (by omega)).2.mp (by rw [k2, r.2]; exact n2)
    rw [z]
    rw [e] at k1 k2 k3
    exact Or.inr ⟨by omega, n1, ⟨k2, k3⟩, by omega, k1⟩
theorem row_dn (h : wf s) (g : GL s M) {b j : Int} (b0 : 0 ≤ b) (b1 : b < sn s) (j0 : 0 ≤ j) (j1 : j < gh M) (r : RBd s M b j) : rwO s M (blw s b) (j - 1) := by
  have ascy := g.2.2.2.2.2.1
  rcases blw_or s b with ⟨z, n⟩ | ⟨z, n1, n2⟩
  · refine Or.inl ⟨z, fun i c => n ?_⟩
    obtain ⟨b', k', r', a', _, _⟩ := cel_at h g c
    have e1 := r.1
    have e2 := r'.2
    have ej : j - 1 + 1 = j := by omega
    rw [ej] at e2
    have bb := (h.2.2.1 b b0 b1).2.2.1
    have bb' := (h.2.2.1 b' a'.1 a'.2.1).2.2.1
    have lt : b' < b := by
      by_cases q : b' < b
      · exact q
      · by_cases q2 : b' = b
        · rw [q2] at e2; omega
        · have := wf_hl h b0 (show b < b' by omega) a'.2.1
          omega
    have a0 := a'.1
    have e : b' = b - 1 := by
      by_cases q : b' = b - 1
      · exact q
      · have h1 := wf_hl h (show 0 ≤ b - 1 by omega) (show b - 1 < b by omega) b1
        have h2 := wf_hl h a0 (show b' < b - 1 by omega) (show b - 1 < sn s by omega)
        have := (h.2.2.1 (b - 1) (by omega) (by omega)).2.2.1
        omega
    rw [e] at e2 a'
    exact ⟨by omega, by omega⟩
  · obtain ⟨j', k0, k1, k2, k3⟩ := band_row h g (show 0 ≤ b - 1 by omega) (show b - 1 < sn s by omega)
    have e : j' + 1 = j := (asc_inj ascy (show 0 ≤ j' + 1 by omega) (by omega) j0 (by omega)).2.mp (by rw [k3, r.1]; exact n2)
    have e' : j' = j - 1 := by omega
    rw [z]
    rw [e'] at k0 k1 k2 k3
    exact Or.inr ⟨by omega, by omega, ⟨k2, k3⟩, k0, k1⟩
theorem rwO_in (h : wf s) (g : GL s M) {b j i : Int} (ro : rwO s M b j) (c : cel s M i j) : ∃ k, bst s b ≤ k ∧ k < ben s b ∧ slf s k ≤ gx M i ∧ gx M i < srt s k ∧ inP s b k := by
  obtain ⟨b', k', r', a', q1, q2⟩ := cel_at h g c
  rcases ro with ⟨_, z⟩ | ⟨z0, z1, z2, z3, z4⟩
  · exact absurd c (z _)
  · have eb := RBd_one h a'.1 a'.2.1 z0 z1 r' z2
    have nb : ¬ b = -1 := by omega
    refine ⟨k', ?_, ?_, q1, q2, by rw [← eb]; exact a'⟩
    · unfold bst
      rw [if_neg nb, ← eb]
      exact a'.2.2.1
    · unfold ben
      rw [if_neg nb, ← eb]
      exact a'.2.2.2
theorem rwO_P {b j k : Int} (ro : rwO s M b j) (k0 : bst s b ≤ k) (k1 : k < ben s b) : inP s b k ∧ RBd s M b j ∧ 0 ≤ j ∧ j < gh M := by
  rcases ro with ⟨z, _⟩ | ⟨z0, z1, z2, z3, z4⟩
  · exfalso
    unfold bst at k0
    unfold ben at k1
    rw [if_pos z] at k0 k1
    omega
  · have nb : ¬ b = -1 := by omega
    unfold bst at k0
    unfold ben at k1
    rw [if_neg nb] at k0 k1
    exact ⟨⟨z0, z1, k0, k1⟩, z2, z3, z4⟩
/-- the macro step -/
theorem ml (h : wf s) (g : GL s M) {e e' : Int} {em : Option (Int × Int × Int)} {p : wlk} (v : VS s M e p) (n : NX s e e' em) : ∃ m p', SEG s M p m em ∧ sti (Cg s M) m p = p' ∧ VS s M e' p' ∧ 1 ≤ m := by
  obtain ⟨i, j, i0, i1, j0, j1, ed, hp⟩ := v
  obtain ⟨b, k, r, a, hk⟩ := ed
  obtain ⟨k', b', a', hn⟩ := n
  have ek : k' = k := by omega
  rw [ek] at a' hn
  clear ek k'
  have asc := g.2.2.2.2.1
  obtain ⟨_, _, hc, _⟩ := GL_pos g a.1 a.2.1
  have cmp : ∀ u v, 0 ≤ u → u ≤ gw M → 0 ≤ v → v ≤ gw M → (gx M u < gx M v ↔ u < v) := fun u v a b c d => (asc_inj asc a b c d).1
  have eb : b' = b := by
    have m1 := a.2.2.1
    have m2 := a.2.2.2
    have m3 := a'.2.2.1
    have m4 := a'.2.2.2
    by_cases q : b' < b
    · have := sst_mono h (show 0 ≤ b' + 1 by have := a'.1; omega) (show b' + 1 ≤ b by omega) (show b ≤ sn s by have := a.2.1; omega)
      omega
    · by_cases q2 : b < b'
      · have := sst_mono h (show 0 ≤ b + 1 by have := a.1; omega) (show b + 1 ≤ b' by omega) (show b' ≤ sn s by have := a'.2.1; omega)
        omega
      · omega
  rw [eb] at hn
  clear eb a' b'
  rcases hn with ⟨ee, hn⟩ | ⟨ee, hn⟩
  · -- down
    have hx : gx M i = slf s k := by
      rcases hk with z | z
      · exact z.2
      · omega
    have hp' : p = (i, j + 1, 3) := by
      rcases hp with z | z
      · exact z.2
      · omega
    have dn := EDG_dn h g i0 i1 j0 j1 r a hx
    have ro := row_dn h g a.1 a.2.1 j0 j1 r
    have kd := (h.2.2.1 b a.1 a.2.1).2.2.2.2.1.1 k a.2.2.1 a.2.2.2
    have gX : goX p = i := by rw [hp']; rfl
    have gY : goY p = j := by rw [hp']; show j + 1 - 1 = j; omega
    have pw : p.2.2 = 3 := by rw [hp']
    have hi := r.1
    unfold NXD at hn
    rw [← hx, ← hi] at hn
    rcases hn with ⟨n1, x2, t, rfl⟩ | ⟨o, o0, o1, o2, o3, ho⟩
    · have no : ¬ cel s M i (j - 1) := fun c => by
        obtain ⟨k2, b1, b2, b3, b4, _⟩ := rwO_in h g ro c
        exact n1 k2 b1 b2 ⟨b3, b4⟩
      have st : stp (Cg s M) p = (i, j, 0) := by
        rw [stp_at gX gY (Cg_t dn.1) (Cg_f dn.2) rfl (Cg_f no), pw]
        cases Cg s M (i - 1) (j - 1) <;> rfl
      exact ml_AB h g i0 i1 j0 j1 r a (by omega) (by omega) ro no st t
    · obtain ⟨ao, r2, q0, q1⟩ := rwO_P ro o0 o1
      have ii : i < gw M := by
        obtain ⟨c, c0, c1, c2⟩ := (hc _).mp (inP_cols h ao).2
        have := (cmp i c i0 i1 c0 c1).mp (by omega)
        omega
      have se : cel s M i (j - 1) := at_cel h g i0 ii q0 q1 r2 ao o2 o3
      rcases ho with ⟨p1, rfl, rfl⟩ | ⟨p1, x2, t, rfl⟩
      · have dn2 := EDG_dn h g i0 i1 q0 q1 r2 ao p1.symm
        have st : stp (Cg s M) p = (i, j, 3) := by
          rw [stp_at gX gY (Cg_t dn.1) (Cg_f dn.2) (Cg_f dn2.2) (Cg_t se), pw]
          rfl
        have ej : j - 1 + 1 = j := by omega
        exact ⟨1, _, Or.inl ⟨rfl, rfl, by rw [st, pw]⟩, st, ⟨i, j - 1, i0, i1, q0, q1, ⟨_, o, r2, ao, Or.inl ⟨rfl, p1.symm⟩⟩, Or.inl ⟨by omega, by rw [ej]⟩⟩, Nat.le_refl _⟩
      · have sw : cel s M (i - 1) (j - 1) := by
          obtain ⟨c, c0, c1, c2⟩ := (hc _).mp (inP_cols h ao).1
          have q : c < i := (cmp c i c0 c1 i0 i1).mp (by omega)
          have y : gx M c ≤ gx M (i - 1) := by
            by_cases z : c = i - 1
            · rw [z]; exact Int.le_refl _
            · have := (cmp c (i - 1) c0 c1 (by omega) (by omega)).mpr (by omega)
              omega
          have y2 := (cmp (i - 1) i (by omega) (by omega) i0 i1).mpr (by omega)
          exact at_cel h g (by omega) (by omega) q0 q1 r2 ao (by omega) (by omega)
        have st : stp (Cg s M) p = (i, j, 2) := by
          rw [stp_at gX gY (Cg_t dn.1) (Cg_f dn.2) (Cg_t sw) (Cg_t se), pw]
          rfl
        exact ml_AT h g i0 i1 q0 q1 r2 ao (by omega) (by omega) (Or.inr ⟨a.1, a.2.1, r, j0, j1⟩) dn.2 st t
  · -- up
    have hx : gx M i = srt s k := by
      rcases hk with z | z
      · omega
      · exact z.2
    have hp' : p = (i, j, 1) := by
      rcases hp with z | z
      · omega
      · exact z.2
    have up := EDG_up h g i0 i1 j0 j1 r a hx
    have ro := row_up h g a.1 a.2.1 j0 j1 r
    have kd := (h.2.2.1 b a.1 a.2.1).2.2.2.2.1.1 k a.2.2.1 a.2.2.2
    have gX : goX p = i := by rw [hp']; rfl
    have gY : goY p = j + 1 := by rw [hp']; rfl
    have pw : p.2.2 = 1 := by rw [hp']
    have ej : j + 1 - 1 = j := by omega
    have c1' : Cg s M (i - 1) (j + 1 - 1) = true := by rw [ej]; exact Cg_t up.1
    have c2' : Cg s M i (j + 1 - 1) = false := by rw [ej]; exact Cg_f up.2
    have ip : 0 < i := by have := up.1.1; omega
    have hi := r.2
    unfold NXU at hn
    rw [← hx, ← hi] at hn
    rcases hn with ⟨n1, x2, t, rfl⟩ | ⟨o, o0, o1, o2, o3, ho⟩
    · have no : ¬ cel s M (i - 1) (j + 1) := fun c => by
        obtain ⟨k2, b1, b2, b3, b4, b5⟩ := rwO_in h g ro c
        obtain ⟨c, c0, c1, c2⟩ := (hc _).mp (inP_cols h b5).2
        have q := (cmp (i - 1) c (by omega) (by omega) c0 c1).mp (by omega)
        have y : gx M i ≤ gx M c := by
          by_cases z : i = c
          · rw [z]; exact Int.le_refl _
          · have := (cmp i c i0 i1 c0 c1).mpr (by omega)
            omega
        have y2 := (cmp (i - 1) i (by omega) (by omega) i0 i1).mpr (by omega)
        exact n1 k2 b1 b2 ⟨by omega, by omega⟩
      have st : stp (Cg s M) p = (i, j + 1, 2) := by
        rw [stp_at gX gY rfl (Cg_f no) c1' c2', pw]
        cases Cg s M i (j + 1) <;> rfl
      exact ml_AT h g i0 i1 (show 0 ≤ j + 1 - 1 by omega) (show j + 1 - 1 < gh M by omega) (by rw [ej]; exact r) a (by omega) (by omega) ro no st t
    · obtain ⟨ao, r2, q0, q1⟩ := rwO_P ro o0 o1
      have nw : cel s M (i - 1) (j + 1) := by
        obtain ⟨c, c0, c1, c2⟩ := (hc _).mp (inP_cols h ao).1
        have q : c < i := (cmp c i c0 c1 i0 i1).mp (by omega)
        have y : gx M c ≤ gx M (i - 1) := by
          by_cases z : c = i - 1
          · rw [z]; exact Int.le_refl _
          · have := (cmp c (i - 1) c0 c1 (by omega) (by omega)).mpr (by omega)
            omega
        have y2 := (cmp (i - 1) i (by omega) (by omega) i0 i1).mpr (by omega)
        exact at_cel h g (by omega) (by omega) q0 q1 r2 ao (by omega) (by omega)
      rcases ho with ⟨p1, rfl, rfl⟩ | ⟨p1, x2, t, rfl⟩
      · have up2 := EDG_up h g i0 i1 q0 q1 r2 ao p1.symm
        have st : stp (Cg s M) p = (i, j + 1, 1) := by
          rw [stp_at gX gY (Cg_f up2.2) (Cg_t nw) c1' c2', pw]
          rfl
        exact ⟨1, _, Or.inl ⟨rfl, rfl, by rw [st, pw]⟩, st, ⟨i, j + 1, i0, i1, q0, q1, ⟨_, o, r2, ao, Or.inr ⟨rfl, p1.symm⟩⟩, Or.inr ⟨by omega, rfl⟩⟩, Nat.le_refl _⟩
      · have lt : gx M i < srt s o := by omega
        have ii : i < gw M := by
          obtain ⟨c, c0, c1, c2⟩ := (hc _).mp (inP_cols h ao).2
          have := (cmp i c i0 i1 c0 c1).mp (by omega)
          omega
        have ne : cel s M i (j + 1) := at_cel h g i0 ii q0 q1 r2 ao (by omega) lt
        have st : stp (Cg s M) p = (i, j + 1, 0) := by
          rw [stp_at gX gY (Cg_t ne) (Cg_t nw) c1' c2', pw]
          rfl
        exact ml_AB h g i0 i1 q0 q1 r2 ao (by omega) lt (by rw [ej]; exact Or.inr ⟨a.1, a.2.1, r, j0, j1⟩) (by rw [ej]; exact up.2) st t
theorem VS_ex (h : wf s) (g : GL s M) {e : Int} (e0 : 0 ≤ e) (e1 : e < 2 * nS_ s) : ∃ p, VS s M e p := by
  obtain ⟨i, j, i0, i1, j0, j1, ed⟩ := EDG_ex h g e0 e1
  by_cases z : e % 2 = 0
  · exact ⟨_, i, j, i0, i1, j0, j1, ed, Or.inl ⟨z, rfl⟩⟩
  · exact ⟨_, i, j, i0, i1, j0, j1, ed, Or.inr ⟨by omega, rfl⟩⟩
theorem VS_isS (h : wf s) (g : GL s M) {e : Int} {p : wlk} (v : VS s M e p) : isS (Cg s M) p ∧ (p.2.2 = 1 ∨ p.2.2 = 3) ∧ 0 ≤ e ∧ e < 2 * nS_ s := by
  obtain ⟨i, j, i0, i1, j0, j1, ed, hp⟩ := v
  have rg := EDG_rg h ed
  obtain ⟨b, k, r, a, hk⟩ := ed
  rcases hp with ⟨z, rfl⟩ | ⟨z, rfl⟩
  · have hx : gx M i = slf s k := by
      rcases hk with z | z
      · exact z.2
      · omega
    have dn := EDG_dn h g i0 i1 j0 j1 r a hx
    refine ⟨isS_mk (Or.inr (Or.inr (Or.inr rfl))) ?_, Or.inr rfl, rg⟩
    have ej : j + 1 - 1 = j := by omega
    show (Cg s M i (j + 1 - 1) && !Cg s M (i - 1) (j + 1 - 1)) = true
    rw [ej, Cg_t dn.1, Cg_f dn.2]
    rfl
  · have hx : gx M i = srt s k := by
      rcases hk with z | z
      · omega
      · exact z.2
    have up := EDG_up h g i0 i1 j0 j1 r a hx
    refine ⟨isS_mk (Or.inr (Or.inl rfl)) ?_, Or.inl rfl, rg⟩
    show (Cg s M (i - 1) j && !Cg s M i j) = true
    rw [Cg_t up.1, Cg_f up.2]
    rfl
theorem VS_of (h : wf s) (g : GL s M) {p : wlk} (hp : isS (Cg s M) p) (hw : p.2.2 = 1 ∨ p.2.2 = 3) : ∃ e, VS s M e p := by
  have rg := isS_rg hp
  obtain ⟨i, j, w⟩ := p
  have hw' : w = 1 ∨ w = 3 := hw
  rcases hw' with rfl | rfl
  · have h1 : ldc (Cg s M) i j 1 = true := hp.2
    have h2 : (Cg s M (i - 1) j && !Cg s M i j) = true := h1
    have a := Cg_iff.mp (Bool.and_eq_true_iff.mp h2).1
    have b : ¬ cel s M i j := fun z => by
      have := (Bool.and_eq_true_iff.mp h2).2
      rw [Cg_t z] at this
      exact absurd this (by decide)
    obtain ⟨bb, k, r, p', q⟩ := EDG_r h g a b
    exact ⟨2 * k + 1, i, j, rg.1, rg.2.1, a.2.2.1, a.2.2.2.1, ⟨bb, k, r, p', Or.inr ⟨rfl, q⟩⟩, Or.inr ⟨by omega, rfl⟩⟩
  · have h1 : ldc (Cg s M) i j 3 = true := hp.2
    have h2 : (Cg s M i (j - 1) && !Cg s M (i - 1) (j - 1)) = true := h1
    have a := Cg_iff.mp (Bool.and_eq_true_iff.mp h2).1
    have b : ¬ cel s M (i - 1) (j - 1) := fun z => by
      have := (Bool.and_eq_true_iff.mp h2).2
      rw [Cg_t z] at this
      exact absurd this (by decide)
    obtain ⟨bb, k, r, p', q⟩ := EDG_l h g a b
    have ej : j - 1 + 1 = j := by omega
    exact ⟨2 * k, i, j - 1, rg.1, rg.2.1, a.2.2.1, a.2.2.2.1, ⟨bb, k, r, p', Or.inl ⟨rfl, q⟩⟩, Or.inl ⟨by omega, by rw [ej]⟩⟩
theorem VS_one (h : wf s) {e e' : Int} {p : wlk} (v : VS s M e p) (v' : VS s M e' p) : e = e' := by
  obtain ⟨i, j, i0, i1, j0, j1, ed, hp⟩ := v
  obtain ⟨i', j', i0', i1', j0', j1', ed', hp'⟩ := v'
  have same : i = i' ∧ j = j' := by
    rcases hp with ⟨_, rfl⟩ | ⟨_, rfl⟩
    · rcases hp' with ⟨_, z⟩ | ⟨_, z⟩
      · have z1 : i = i' := congrArg (fun z : wlk => z.1) z
        have z2 : j + 1 = j' + 1 := congrArg (fun z : wlk => z.2.1) z
        exact ⟨z1, by omega⟩
      · have z3 : (3 : Int) = 1 := congrArg (fun z : wlk => z.2.2) z
        omega
    · rcases hp' with ⟨_, z⟩ | ⟨_, z⟩
      · have z3 : (1 : Int) = 3 := congrArg (fun z : wlk => z.2.2) z
        omega
      · have z1 : i = i' := congrArg (fun z : wlk => z.1) z
        have z2 : j = j' := congrArg (fun z : wlk => z.2.1) z
        exact ⟨z1, z2⟩
  rw [← same.1, ← same.2] at ed'
  exact EDG_one h ed ed'
theorem VS_fun (h : wf s) (g : GL s M) {e : Int} {p p' : wlk} (v : VS s M e p) (v' : VS s M e p') : p = p' := by
  obtain ⟨i, j, i0, i1, j0, j1, ed, hp⟩ := v
  obtain ⟨i', j', i0', i1', j0', j1', ed', hp'⟩ := v'
  have same : i = i' ∧ j = j' := by
    by_cases z : j < j' ∨ (j = j' ∧ i < i')
    · have := EDG_lt h g i0 i1 j0 j1 i0' i1' j0' j1' ed ed' z
      omega
    · by_cases z' : j' < j ∨ (j' = j ∧ i' < i)
      · have := EDG_lt h g i0' i1' j0' j1' i0 i1 j0 j1 ed' ed z'
        omega
      · omega
  rw [← same.1, ← same.2] at hp'
  rcases hp with ⟨q, rfl⟩ | ⟨q, rfl⟩
  · rcases hp' with ⟨_, z⟩ | ⟨z, _⟩
    · exact z.symm
    · omega
  · rcases hp' with ⟨z, _⟩ | ⟨_, z⟩
    · omega
    · exact z.symm
/-- between the edge and the next there are no upright sides -/
theorem SEG_way {p : wlk} {m : Nat} {em : Option (Int × Int × Int)} (h : SEG s M p m em) : ∀ u, 1 ≤ u → u < m → (sti (Cg s M) u p).2.2 = 0 ∨ (sti (Cg s M) u p).2.2 = 2 := by
  intro u u0 u1
  rcases h with ⟨_, e, _⟩ | ⟨x1, x2, y, w, _, _, hw, hh, _⟩
  · omega
  · rw [hh u u0 u1]; exact hw
end
