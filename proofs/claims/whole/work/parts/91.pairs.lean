/-! ===== the calls, one by one: both sides answer alike ===== -/
section
variable {L : sh → mm_M → Prop} {sc : Nat × (Int → Int)}
theorem p_combine (hL : Lst L) {t a b how : Int} (ht : mr_rg t) (ha : mr_rg a) (hb : mr_rg b) (hhow : mr_rg how) : PR L sc 57 [mm_r 0, mm_i t, mm_i a, mm_i b, mm_i how, mm_r 98, mm_u] 66 [mm_r 72, mm_i t, mm_i a, mm_i b, mm_i how, mm_u] := by
  intro M n ho h
  refine vc57_0 ho (c56 ho h.1 ht ha hb hhow (fun q ho2 => Or.inl ⟨rfl, Or.inl ⟨1, rfl, fun ho3 => ?_⟩⟩) (fun g q ho2 => Or.inr ⟨rfl, Or.inl ⟨2, rfl, fun ho3 => ?_⟩⟩) (fun g gg r M1 c ho1 => ⟨CB_rg c, rj_of (CB_rg c), Or.inl ⟨0, rfl, fun ho2 => ?_⟩⟩))
  · exact c66 ho3 (INV_W h) ht ha hb hhow (fun _ M2 f e _ => ⟨e, ⟨by decide, by decide⟩, fun z => absurd z (by decide), INV_t hL h f⟩) (fun g => absurd g q) (fun g => absurd g q)
  · exact c66 ho3 (INV_W h) ht ha hb hhow (fun q2 => absurd g q2) (fun _ _ M2 f e _ => ⟨e, ⟨by decide, by decide⟩, fun z => absurd z (by decide), INV_t hL h f⟩) (fun _ gg => absurd gg q)
  · refine c66 ho2 (fun j j0 j1 => (CB_W h c r j j0 j1).2) ht ha hb hhow (fun q => absurd g q) (fun _ q => absurd gg q) (fun _ _ v M2 b _ => ?_)
    have ea := INV_e h c g.2.1 r
    have eb := INV_e h c g.2.2 r
    obtain ⟨e1, e2, e3, e4, e5⟩ := INV_b hL h g.1 c b (fun x y => mp_iff (eqv_has ea.1 ea.2 x y) (eqv_has eb.1 eb.2 x y))
    exact ⟨e4, ⟨by decide, by decide⟩, fun _ => ⟨e2, e3.trans e1⟩, e5⟩
theorem p_invert (hL : Lst L) {t a : Int} (ht : mr_rg t) (ha : mr_rg a) : PR L sc 69 [mm_r 0, mm_i t, mm_i a, mm_r 98, mm_u] 71 [mm_r 72, mm_i t, mm_i a, mm_u] := by
  intro M n ho h
  refine vc69_0 ho (c68 ho h.1 ht ha (fun q ho2 => Or.inl ⟨rfl, Or.inl ⟨1, rfl, fun ho3 => ?_⟩⟩) (fun g r M1 c ho1 => ⟨CB_rg c, rj_of (CB_rg c), Or.inl ⟨0, rfl, fun ho2 => ?_⟩⟩))
  · exact c71 ho3 (INV_W h) ht ha (fun _ M2 f e _ => ⟨e, ⟨by decide, by decide⟩, fun z => absurd z (by decide), INV_t hL h f⟩) (fun g => absurd g q)
  · refine c71 ho2 (fun j j0 j1 => (CB_W h c r j j0 j1).2) ht ha (fun q => absurd g q) (fun _ v M2 b _ => ?_)
    have ea := INV_e h c g.2 r
    obtain ⟨e1, e2, e3, e4, e5⟩ := INV_b hL h g.1 c b (fun x y => inv_iff ea.1 ea.2 x y)
    exact ⟨e4, ⟨by decide, by decide⟩, fun _ => ⟨e2, e3.trans e1⟩, e5⟩
theorem p_move (hL : Lst L) {t a r' u : Int} (ht : mr_rg t) (ha : mr_rg a) (hr' : mr_rg r') (hu : mr_rg u) : PR L sc 73 [mm_r 0, mm_i t, mm_i a, mm_i r', mm_i u, mm_r 98, mm_u] 75 [mm_r 72, mm_i t, mm_i a, mm_i r', mm_i u, mm_u, mm_u] := by
  intro M n ho h
  refine vc73_0 ho (c72 ho h.1 ht ha hr' hu (fun q ho2 => Or.inl ⟨rfl, Or.inl ⟨1, rfl, fun ho3 => ?_⟩⟩) (fun g q ho2 => Or.inr ⟨rfl, Or.inl ⟨2, rfl, fun ho3 => ?_⟩⟩) (fun g gg r M1 c ho1 => ⟨CB_rg c, rj_of (CB_rg c), Or.inl ⟨0, rfl, fun ho2 => ?_⟩⟩))
  · exact c75 ho3 (INV_W h) ht ha hr' hu (fun _ M2 f e _ => ⟨e, ⟨by decide, by decide⟩, fun z => absurd z (by decide), INV_t hL h f⟩) (fun g => absurd g q) (fun g => absurd g q)
  · exact c75 ho3 (INV_W h) ht ha hr' hu (fun q2 => absurd g q2) (fun _ _ M2 f e _ => ⟨e, ⟨by decide, by decide⟩, fun z => absurd z (by decide), INV_t hL h f⟩) (fun _ gg => absurd gg q)
  · refine c75 ho2 (fun j j0 j1 => (CB_W h c r j j0 j1).2) ht ha hr' hu (fun q => absurd g q) (fun _ q => absurd gg q) (fun _ _ v M2 b _ => ?_)
    have ea := INV_e h c g.2 r
    obtain ⟨e1, e2, e3, e4, e5⟩ := INV_b hL h g.1 c b (fun x y => mvd_iff ea.1 ea.2 r' u x y)
    exact ⟨e4, ⟨by decide, by decide⟩, fun _ => ⟨e2, e3.trans e1⟩, e5⟩
theorem p_mirror (hL : Lst L) {t a way : Int} (ht : mr_rg t) (ha : mr_rg a) (hway : mr_rg way) : PR L sc 86 [mm_r 0, mm_i t, mm_i a, mm_i way, mm_r 98, mm_u] 89 [mm_r 72, mm_i t, mm_i a, mm_i way, mm_u, mm_u, mm_u, mm_u] := by
  intro M n ho h
  refine vc86_0 ho (c85 ho h.1 ht ha hway (fun q ho2 => Or.inl ⟨rfl, Or.inl ⟨1, rfl, fun ho3 => ?_⟩⟩) (fun g q ho2 => Or.inr ⟨rfl, Or.inl ⟨2, rfl, fun ho3 => ?_⟩⟩) (fun g gg r M1 c ho1 => ⟨CB_rg c, rj_of (CB_rg c), Or.inl ⟨0, rfl, fun ho2 => ?_⟩⟩))
  · exact c89 ho3 (INV_W h) ht ha hway (fun _ M2 f e _ => ⟨e, ⟨by decide, by decide⟩, fun z => absurd z (by decide), INV_t hL h f⟩) (fun g => absurd g q) (fun g => absurd g q)
  · exact c89 ho3 (INV_W h) ht ha hway (fun q2 => absurd g q2) (fun _ _ M2 f e _ => ⟨e, ⟨by decide, by decide⟩, fun z => absurd z (by decide), INV_t hL h f⟩) (fun _ gg => absurd gg q)
  · refine c89 ho2 (fun j j0 j1 => (CB_W h c r j j0 j1).2) ht ha hway (fun q => absurd g q) (fun _ q => absurd gg q) (fun _ _ v M2 b _ => ?_)
    have ea := INV_e h c g.2 r
    obtain ⟨e1, e2, e3, e4, e5⟩ := INV_b hL h g.1 c b (fun x y => mirT_iff ea.1 ea.2 x y)
    exact ⟨e4, ⟨by decide, by decide⟩, fun _ => ⟨e2, e3.trans e1⟩, e5⟩
theorem p_grow (hL : Lst L) {t a l r' d u : Int} (ht : mr_rg t) (ha : mr_rg a) (hl : mr_rg l) (hr' : mr_rg r') (hd : mr_rg d) (hu : mr_rg u) : PR L sc 92 [mm_r 0, mm_i t, mm_i a, mm_i l, mm_i r', mm_i d, mm_i u, mm_r 98, mm_u] 95 [mm_r 72, mm_i t, mm_i a, mm_i l, mm_i r', mm_i d, mm_i u, mm_u, mm_u, mm_u] := by
  intro M n ho h
  refine vc92_0 ho (c91 ho h.1 ht ha hl hr' hd hu (fun q ho2 => Or.inl ⟨rfl, Or.inl ⟨1, rfl, fun ho3 => ?_⟩⟩) (fun g q ho2 => Or.inr ⟨rfl, Or.inl ⟨2, rfl, fun ho3 => ?_⟩⟩) (fun g gg r M1 c ho1 => ⟨CB_rg c, rj_of (CB_rg c), Or.inl ⟨0, rfl, fun ho2 => ?_⟩⟩))
  · exact c95 ho3 (INV_W h) ht ha hl hr' hd hu (fun _ M2 f e _ => ⟨e, ⟨by decide, by decide⟩, fun z => absurd z (by decide), INV_t hL h f⟩) (fun g => absurd g q) (fun g => absurd g q)
  · exact c95 ho3 (INV_W h) ht ha hl hr' hd hu (fun q2 => absurd g q2) (fun _ _ M2 f e _ => ⟨e, ⟨by decide, by decide⟩, fun z => absurd z (by decide), INV_t hL h f⟩) (fun _ gg => absurd gg q)
  · refine c95 ho2 (fun j j0 j1 => (CB_W h c r j j0 j1).2) ht ha hl hr' hd hu (fun q => absurd g q) (fun _ q => absurd gg q) (fun _ _ v M2 b _ => ?_)
    have ea := INV_e h c g.2 r
    obtain ⟨e1, e2, e3, e4, e5⟩ := INV_b hL h g.1 c b (fun x y => grT_iff ea.1 ea.2 l r' d u x y)
    exact ⟨e4, ⟨by decide, by decide⟩, fun _ => ⟨e2, e3.trans e1⟩, e5⟩
theorem p_shrink (hL : Lst L) {t a l r' d u : Int} (ht : mr_rg t) (ha : mr_rg a) (hl : mr_rg l) (hr' : mr_rg r') (hd : mr_rg d) (hu : mr_rg u) : PR L sc 99 [mm_r 0, mm_i t, mm_i a, mm_i l, mm_i r', mm_i d, mm_i u, mm_r 98, mm_u] 101 [mm_r 72, mm_i t, mm_i a, mm_i l, mm_i r', mm_i d, mm_i u, mm_u] := by
  intro M n ho h
  refine vc99_0 ho (c98 ho h.1 ht ha hl hr' hd hu (fun q ho2 => Or.inl ⟨rfl, Or.inl ⟨1, rfl, fun ho3 => ?_⟩⟩) (fun g q ho2 => Or.inr ⟨rfl, Or.inl ⟨2, rfl, fun ho3 => ?_⟩⟩) (fun g gg r M1 c ho1 => ⟨CB_rg c, rj_of (CB_rg c), Or.inl ⟨0, rfl, fun ho2 => ?_⟩⟩))
  · exact c101 ho3 (INV_W h) ht ha hl hr' hd hu (fun _ M2 f e _ => ⟨e, ⟨by decide, by decide⟩, fun z => absurd z (by decide), INV_t hL h f⟩) (fun g => absurd g q) (fun g => absurd g q)
  · exact c101 ho3 (INV_W h) ht ha hl hr' hd hu (fun q2 => absurd g q2) (fun _ _ M2 f e _ => ⟨e, ⟨by decide, by decide⟩, fun z => absurd z (by decide), INV_t hL h f⟩) (fun _ gg => absurd gg q)
  · refine c101 ho2 (fun j j0 j1 => (CB_W h c r j j0 j1).2) ht ha hl hr' hd hu (fun q => absurd g q) (fun _ q => absurd gg q) (fun _ _ v M2 b _ => ?_)
    have ea := INV_e h c g.2 r
    obtain ⟨e1, e2, e3, e4, e5⟩ := INV_b hL h g.1 c b (fun x y => srT_iff ea.1 ea.2 l r' d u x y)
    exact ⟨e4, ⟨by decide, by decide⟩, fun _ => ⟨e2, e3.trans e1⟩, e5⟩
end
