/-! ===== oneBorder, twoBorder ===== -/
/-- the t-th border of the row held in p and q, its size in field f; 1001 behind the last -/
def bor (M : mm_M) (p q : Nat) (f t : Int) : Int := if 2 * M.1 72 f ≤ t then 1001 else if t % 2 = 0 then M.1 p (t / 2) else M.1 q (t / 2)
section
variable {sc : Nat × (Int → Int)} {M : mm_M} {X : Nat → mm_M → Prop}
theorem c63 {K : Int → mm_M → Prop} {t : Int} (ho : mr_ok M) (h0 : 0 ≤ M.1 72 11) (h1 : M.1 72 11 ≤ 1200) (t0 : 0 ≤ t) (t1 : t ≤ 10000) (k : K (bor M 81 82 11 t) M) : en_CI sc 63 [mm_r 72, mm_i t] M K X := by
  unfold bor at k
  refine vc63_0 ho ⟨by omega, by omega⟩ ⟨⟨by omega, by omega⟩, fun q => ⟨t0, ⟨by omega, by omega⟩, fun q2 => ⟨t0, by omega, by omega, Or.inl ⟨_, rfl, ?_⟩⟩, fun q2 => ⟨t0, by omega, by omega, Or.inl ⟨_, rfl, ?_⟩⟩⟩, fun q => Or.inl ⟨_, rfl, ?_⟩⟩
  · rwa [if_neg (by omega), if_neg q2] at k
  · rwa [if_neg (by omega), if_pos (Classical.byContradiction q2)] at k
  · rwa [if_pos (by omega)] at k
theorem c64 {K : Int → mm_M → Prop} {t : Int} (ho : mr_ok M) (h0 : 0 ≤ M.1 72 14) (h1 : M.1 72 14 ≤ 1200) (t0 : 0 ≤ t) (t1 : t ≤ 10000) (k : K (bor M 83 84 14 t) M) : en_CI sc 64 [mm_r 72, mm_i t] M K X := by
  unfold bor at k
  refine vc64_0 ho ⟨by omega, by omega⟩ ⟨⟨by omega, by omega⟩, fun q => ⟨t0, ⟨by omega, by omega⟩, fun q2 => ⟨t0, by omega, by omega, Or.inl ⟨_, rfl, ?_⟩⟩, fun q2 => ⟨t0, by omega, by omega, Or.inl ⟨_, rfl, ?_⟩⟩⟩, fun q => Or.inl ⟨_, rfl, ?_⟩⟩
  · rwa [if_neg (by omega), if_neg q2] at k
  · rwa [if_neg (by omega), if_pos (Classical.byContradiction q2)] at k
  · rwa [if_pos (by omega)] at k
end
