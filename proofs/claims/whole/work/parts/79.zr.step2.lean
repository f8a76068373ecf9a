/-! ===== CellAreasModel.step ===== -/
def at3 (M : mm_M) : wlk := (M.1 72 31, M.1 72 32, M.1 72 33)
abbrev stS : Nat → Int → Prop := fun a k => a = 72 ∧ 31 ≤ k ∧ k ≤ 33
section
variable {sc : Nat × (Int → Int)} {M : mm_M} {X : Nat → mm_M → Prop} {s : sh}
theorem stS_keep {M M1 : mm_M} (f : fr stS M M1) : gKeep M M1 := gKeep_fr f (fun a k z => by
  have z' : a = 72 ∧ 31 ≤ k ∧ k ≤ 33 := z
  omega)
theorem c151 {K : mm_M → Prop} (ho : mr_ok M) (g : GRD s M) (hp : isS (Cg s M) (at3 M)) (k : ∀ M1, fr stS M M1 → at3 M1 = stp (Cg s M) (at3 M) → K M1) : en_CV sc 151 [mm_r 72, mm_u, mm_u] M K X := by
  have r := isS_rg hp
  have h1 := g.1.2.1
  have h2 := g.1.2.2.2.1
  have e1 : (at3 M).1 = M.1 72 31 := rfl
  have e2 : (at3 M).2.1 = M.1 72 32 := rfl
  have e3 : (at3 M).2.2 = M.1 72 33 := rfl
  rw [e1, e2, e3] at r
  have hw : M.1 72 33 = 0 ∨ M.1 72 33 = 1 ∨ M.1 72 33 = 2 ∨ M.1 72 33 = 3 := hp.1
  have xr : -10 ≤ goX (at3 M) ∧ goX (at3 M) ≤ 10000 := by
    unfold goX
    rw [e1, e3]
    split
    · omega
    · split <;> omega
  have yr : -10 ≤ goY (at3 M) ∧ goY (at3 M) ≤ 10000 := by
    unfold goY
    rw [e2, e3]
    split
    · omega
    · split <;> omega
  have last : ∀ s1, s1 = goY (at3 M) → en_R sc 151 80 [mm_r 72, mm_u, mm_u] [mm_i s1, mm_r 72] (mm_putN M 72 31 (goX (at3 M))) (QV K X) := by
    intro s1 hs1
    rw [hs1]
    have hob : mr_ok (mm_putN (mm_putN M 72 31 (goX (at3 M))) 72 32 (goY (at3 M))) := mr_ok_putI (mr_ok_putI ho ⟨by omega, by omega⟩) ⟨by omega, by omega⟩
    have fb : fr stS M (mm_putN (mm_putN M 72 31 (goX (at3 M))) 72 32 (goY (at3 M))) := fr_trans (fr_put (by omega)) (fr_put (by omega))
    have b1 : (mm_putN (mm_putN M 72 31 (goX (at3 M))) 72 32 (goY (at3 M))).1 72 31 = goX (at3 M) := by rw [put_k (by decide), put_eq]
    have b2 : (mm_putN (mm_putN M 72 31 (goX (at3 M))) 72 32 (goY (at3 M))).1 72 32 = goY (at3 M) := put_eq
    have b3 : (mm_putN (mm_putN M 72 31 (goX (at3 M))) 72 32 (goY (at3 M))).1 72 33 = M.1 72 33 := by rw [put_k (by decide), put_k (by decide)]
    refine vc151_80 (mr_ok_putI ho ⟨by omega, by omega⟩) ⟨by omega, by omega⟩ ?_
    generalize mm_putN (mm_putN M 72 31 (goX (at3 M))) 72 32 (goY (at3 M)) = Mb at hob fb b1 b2 b3
    rw [b1, b2, b3]
    have Gb := gKeep_GRD (stS_keep fb) g
    have Cb : Cg s Mb = Cg s M := Cg_keep (stS_keep fb)
    have fin : ∀ v : Int, v = goW (Cg s M) (at3 M) → K (mm_putN Mb 72 33 v) := by
      intro v hv
      refine k _ (fr_trans fb (fr_put (by omega))) ?_
      unfold at3 stp
      rw [put_k (by decide), put_k (by decide), put_eq, b1, b2, hv]
      rfl
    have gw' : goW (Cg s M) (at3 M) = (if ldc (Cg s M) (goX (at3 M)) (goY (at3 M)) ((M.1 72 33 + 1) % 4) = true then (M.1 72 33 + 1) % 4 else if ldc (Cg s M) (goX (at3 M)) (goY (at3 M)) (M.1 72 33) = true then M.1 72 33 else (M.1 72 33 + 3) % 4) := rfl
    refine ⟨⟨by omega, by omega⟩, by omega, ⟨by omega, by omega⟩, by omega, c149 hob Gb xr yr (by omega) (fun _ => ⟨b2i_rg _, fun z => ?_, fun z => ⟨⟨by omega, by omega⟩, Or.inl ⟨rfl, fin _ ?_⟩⟩⟩)⟩
    · rw [b1, b2, b3]
      rw [Cb, b2i_0] at z
      refine c149 hob Gb xr yr hw (fun _ => ⟨b2i_rg _, fun z2 => ⟨⟨by omega, by omega⟩, Or.inl ⟨rfl, fin _ ?_⟩⟩, fun z2 => Or.inl ⟨rfl, fin _ ?_⟩⟩)
      · rw [Cb, b2i_0] at z2
        rw [gw', if_neg (by rw [z]; decide), if_neg (by rw [z2]; decide)]
      · rw [Cb, b2i_0] at z2
        rw [gw', if_neg (by rw [z]; decide), if_pos (by cases h : ldc (Cg s M) (goX (at3 M)) (goY (at3 M)) (M.1 72 33) <;> simp_all)]
        exact b3
    · rw [Cb, b2i_0] at z
      rw [gw', if_pos (by cases h : ldc (Cg s M) (goX (at3 M)) (goY (at3 M)) ((M.1 72 33 + 1) % 4) <;> simp_all)]
  have mid : ∀ s1, s1 = goX (at3 M) → en_R sc 151 38 [mm_r 72, mm_u, mm_u] [mm_i s1, mm_r 72] M (QV K X) := by
    intro s1 hs1
    rw [hs1]
    have a3 : (mm_putN M 72 31 (goX (at3 M))).1 72 33 = M.1 72 33 := put_k (by decide)
    have a2 : (mm_putN M 72 31 (goX (at3 M))).1 72 32 = M.1 72 32 := put_k (by decide)
    have gy' : goY (at3 M) = (if M.1 72 33 = 1 then M.1 72 32 + 1 else if M.1 72 33 = 3 then M.1 72 32 - 1 else M.1 72 32) := rfl
    refine vc151_38 ho ⟨by omega, by omega⟩ ?_
    rw [a3, a2]
    refine ⟨fun z1 => ⟨fun z3 => last _ ?_, fun z3 => last _ ?_⟩, fun z1 => last _ ?_⟩
    · rw [gy', if_neg z1, if_neg z3]
    · rw [gy', if_neg z1, if_pos (Classical.byContradiction z3)]
    · rw [gy', if_pos (Classical.byContradiction z1)]
  have gx' : goX (at3 M) = (if M.1 72 33 = 0 then M.1 72 31 + 1 else if M.1 72 33 = 2 then M.1 72 31 - 1 else M.1 72 31) := rfl
  refine vc151_0 ho ⟨fun z0 => ⟨fun z2 => mid _ ?_, fun z2 => mid _ ?_⟩, fun z0 => mid _ ?_⟩
  · rw [gx', if_neg z0, if_neg z2]
  · rw [gx', if_neg z0, if_pos (Classical.byContradiction z2)]
  · rw [gx', if_pos (Classical.byContradiction z0)]
end
