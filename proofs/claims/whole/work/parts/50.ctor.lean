/-! ===== the constructors and the law's beginning, printed by wip/whole/gen_ctor.py ===== -/
def ct_C0 (M : mm_M) : mm_M := (mm_fresh (mm_putR (mm_fresh (mm_putR (mm_fresh (mm_putR (mm_fresh (mm_putN (mm_fresh (mm_fresh (mm_putR (mm_fresh M 1) 0 0 (some 1)) 2) 3) 3 0 0) 4) 3 1 (some 4)) 5) 3 2 (some 5)) 6) 3 3 (some 6)) 7)
def ct_C1 (M : mm_M) : mm_M := (mm_fresh (mm_fresh (mm_putR (mm_putN (mm_putR (mm_putR (mm_fresh (mm_fresh (mm_putR (mm_putR (mm_fresh (mm_putR M 3 4 (some 7)) 8) 3 5 (some 8)) 2 0 (some 3)) 9) 10) 9 0 (some 10)) 2 1 (some 9)) 2 2 0) 0 1 (some 2)) 11) 12)
def ct_C2 (M : mm_M) : mm_M := (mm_putN (mm_fresh (mm_putR (mm_putR (mm_fresh (mm_fresh (mm_putR (mm_putR (mm_fresh (mm_fresh (mm_putR (mm_putR M 11 0 (some 12)) 0 2 (some 11)) 13) 14) 13 0 (some 14)) 0 3 (some 13)) 15) 16) 15 0 (some 16)) 0 4 (some 15)) 17) 17 0 0)
def ct_C3 (M : mm_M) : mm_M := (mm_fresh (mm_putN (mm_fresh (mm_putN (mm_putR (mm_putR (mm_fresh (mm_putR (mm_fresh (mm_putR (mm_fresh (mm_putN M 17 1 0) 18) 17 2 (some 18)) 19) 17 3 (some 19)) 20) 17 4 (some 20)) 0 5 (some 17)) 0 6 (-1)) 21) 21 0 0) 22)
def ct_C4 (M : mm_M) : mm_M := (mm_fresh (mm_putN (mm_fresh (mm_putR (mm_putN (mm_putN (mm_putN (mm_putN (mm_putN (mm_fresh (mm_putR (mm_putR M 21 1 (some 22)) 0 7 (some 21)) 23) 23 0 0) 23 1 0) 23 2 0) 23 3 0) 23 4 0) 0 8 (some 23)) 24) 24 0 0) 25)
def ct_C5 (M : mm_M) : mm_M := (mm_putN (mm_fresh (mm_putR (mm_putR (mm_fresh (mm_putR (mm_fresh (mm_putR (mm_fresh (mm_putR (mm_fresh (mm_putR M 24 1 (some 25)) 26) 24 2 (some 26)) 27) 24 3 (some 27)) 28) 24 4 (some 28)) 29) 24 5 (some 29)) 1 0 (some 24)) 30) 30 0 0)
def ct_C6 (M : mm_M) : mm_M := (mm_fresh (mm_putR (mm_putR (mm_fresh (mm_putR (mm_fresh (mm_putR (mm_fresh (mm_putR (mm_fresh (mm_putR (mm_fresh M 31) 30 1 (some 31)) 32) 30 2 (some 32)) 33) 30 3 (some 33)) 34) 30 4 (some 34)) 35) 30 5 (some 35)) 1 1 (some 30)) 36)
def ct_C7 (M : mm_M) : mm_M := (mm_putR (mm_putR (mm_fresh (mm_putR (mm_fresh (mm_putR (mm_fresh (mm_putR (mm_fresh (mm_putR (mm_fresh (mm_putN M 36 0 0) 37) 36 1 (some 37)) 38) 36 2 (some 38)) 39) 36 3 (some 39)) 40) 36 4 (some 40)) 41) 36 5 (some 41)) 1 2 (some 36))
def ct_C8 (M : mm_M) : mm_M := (mm_putR (mm_fresh (mm_putR (mm_fresh (mm_putR (mm_fresh (mm_putR (mm_fresh (mm_putR (mm_fresh (mm_putN (mm_fresh M 42) 42 0 0) 43) 42 1 (some 43)) 44) 42 2 (some 44)) 45) 42 3 (some 45)) 46) 42 4 (some 46)) 47) 42 5 (some 47))
def ct_C9 (M : mm_M) : mm_M := (mm_fresh (mm_putR (mm_fresh (mm_putR (mm_fresh (mm_putR (mm_fresh (mm_putR (mm_fresh (mm_putN (mm_fresh (mm_putR M 1 3 (some 42)) 48) 48 0 0) 49) 48 1 (some 49)) 50) 48 2 (some 50)) 51) 48 3 (some 51)) 52) 48 4 (some 52)) 53)
def ct_C10 (M : mm_M) : mm_M := (mm_putR (mm_fresh (mm_putR (mm_fresh (mm_putR (mm_fresh (mm_putR (mm_fresh (mm_putN (mm_fresh (mm_putR (mm_putR M 48 5 (some 53)) 1 4 (some 48)) 54) 54 0 0) 55) 54 1 (some 55)) 56) 54 2 (some 56)) 57) 54 3 (some 57)) 58) 54 4 (some 58))
def ct_C11 (M : mm_M) : mm_M := (mm_fresh (mm_putR (mm_fresh (mm_putR (mm_fresh (mm_putR (mm_fresh (mm_putN (mm_fresh (mm_putR (mm_putR (mm_fresh M 59) 54 5 (some 59)) 1 5 (some 54)) 60) 60 0 0) 61) 60 1 (some 61)) 62) 60 2 (some 62)) 63) 60 3 (some 63)) 64)
def ct_C12 (M : mm_M) : mm_M := (mm_putR (mm_fresh (mm_putR (mm_fresh (mm_putR (mm_fresh (mm_putN (mm_fresh (mm_putR (mm_putR (mm_fresh (mm_putR M 60 4 (some 64)) 65) 60 5 (some 65)) 1 6 (some 60)) 66) 66 0 0) 67) 66 1 (some 67)) 68) 66 2 (some 68)) 69) 66 3 (some 69))
def ct_C13 (M : mm_M) : mm_M := (mm_putR (mm_putR (mm_fresh (mm_putR (mm_fresh M 70) 66 4 (some 70)) 71) 66 5 (some 71)) 1 7 (some 66))
def ct_C (M : mm_M) : mm_M := (ct_C13 (ct_C12 (ct_C11 (ct_C10 (ct_C9 (ct_C8 (ct_C7 (ct_C6 (ct_C5 (ct_C4 (ct_C3 (ct_C2 (ct_C1 (ct_C0 M))))))))))))))
def ct_D0 (M : mm_M) : mm_M := (mm_putR (mm_fresh (mm_putR (mm_fresh (mm_putR (mm_fresh (mm_putR (mm_fresh (mm_putR (mm_fresh (mm_putR (mm_fresh M 73) 72 1 (some 73)) 74) 72 2 (some 74)) 75) 72 3 (some 75)) 76) 72 4 (some 76)) 77) 72 5 (some 77)) 78) 72 6 (some 78))
def ct_D1 (M : mm_M) : mm_M := (mm_putR (mm_fresh (mm_putR (mm_fresh (mm_putR (mm_fresh (mm_putR (mm_fresh (mm_putR (mm_fresh (mm_putR (mm_fresh M 79) 72 7 (some 79)) 80) 72 8 (some 80)) 81) 72 9 (some 81)) 82) 72 10 (some 82)) 83) 72 12 (some 83)) 84) 72 13 (some 84))
def ct_D2 (M : mm_M) : mm_M := (mm_putR (mm_fresh (mm_putR (mm_fresh (mm_putR (mm_fresh (mm_putR (mm_fresh (mm_putR (mm_fresh (mm_putR (mm_fresh M 85) 72 15 (some 85)) 86) 72 16 (some 86)) 87) 72 18 (some 87)) 88) 72 21 (some 88)) 89) 72 22 (some 89)) 90) 72 25 (some 90))
def ct_D3 (M : mm_M) : mm_M := (mm_putR (mm_fresh (mm_putR (mm_fresh (mm_putR (mm_fresh (mm_putR (mm_fresh (mm_putR (mm_fresh (mm_putR (mm_fresh M 91) 72 26 (some 91)) 92) 72 27 (some 92)) 93) 72 28 (some 93)) 94) 72 30 (some 94)) 95) 72 39 (some 95)) 96) 72 40 (some 96))
def ct_D4 (M : mm_M) : mm_M := (mm_putR (mm_fresh M 97) 72 41 (some 97))
def ct_D (M : mm_M) : mm_M := (ct_D4 (ct_D3 (ct_D2 (ct_D1 (ct_D0 M)))))
set_option maxRecDepth 100000 in
set_option maxHeartbeats 4000000 in
theorem ct_cells (sc : Nat × (Int → Int)) (M : mm_M) : mm_ev (mt_P sc) 3000 7 (0, [mm_r 0, mm_u], [], 1, M) = some (.inl none, 72, ct_C M) := by rfl
set_option maxRecDepth 100000 in
set_option maxHeartbeats 4000000 in
theorem ct_model (sc : Nat × (Int → Int)) (M : mm_M) : mm_ev (mt_P sc) 3000 8 (0, [mm_r 72], [], 73, M) = some (.inl none, 98, ct_D M) := by rfl
def ct_z (M : mm_M) : Prop := ∀ a k, ¬ (a = 0 ∧ k = 6) → M.1 a k = 0
theorem ct_zf {M : mm_M} {a : Nat} (h : ct_z M) : ct_z (mm_fresh M a) := by
  intro b k hb
  simp only [mm_fresh]
  split
  · rfl
  · exact h b k hb
theorem ct_zr {M : mm_M} {a : Nat} {k : Int} {x : Option Nat} (h : ct_z M) : ct_z (mm_putR M a k x) := h
theorem ct_z0 {M : mm_M} {a : Nat} {k : Int} (h : ct_z M) : ct_z (mm_putN M a k 0) := by
  intro b j hb
  simp only [mm_putN]
  split
  · rfl
  · exact h b j hb
theorem ct_z1 {M : mm_M} {x : Int} (h : ct_z M) : ct_z (mm_putN M 0 6 x) := by
  intro b j hb
  simp only [mm_putN]
  rw [if_neg hb]
  exact h b j hb
theorem ct_z_C0 {M : mm_M} (h : ct_z M) : ct_z (ct_C0 M) := (ct_zf (ct_zr (ct_zf (ct_zr (ct_zf (ct_zr (ct_zf (ct_z0 (ct_zf (ct_zf (ct_zr (ct_zf h))))))))))))
theorem ct_z_C1 {M : mm_M} (h : ct_z M) : ct_z (ct_C1 M) := (ct_zf (ct_zf (ct_zr (ct_z0 (ct_zr (ct_zr (ct_zf (ct_zf (ct_zr (ct_zr (ct_zf (ct_zr h))))))))))))
theorem ct_z_C2 {M : mm_M} (h : ct_z M) : ct_z (ct_C2 M) := (ct_z0 (ct_zf (ct_zr (ct_zr (ct_zf (ct_zf (ct_zr (ct_zr (ct_zf (ct_zf (ct_zr (ct_zr h))))))))))))
theorem ct_z_C3 {M : mm_M} (h : ct_z M) : ct_z (ct_C3 M) := (ct_zf (ct_z0 (ct_zf (ct_z1 (ct_zr (ct_zr (ct_zf (ct_zr (ct_zf (ct_zr (ct_zf (ct_z0 h))))))))))))
theorem ct_z_C4 {M : mm_M} (h : ct_z M) : ct_z (ct_C4 M) := (ct_zf (ct_z0 (ct_zf (ct_zr (ct_z0 (ct_z0 (ct_z0 (ct_z0 (ct_z0 (ct_zf (ct_zr (ct_zr h))))))))))))
theorem ct_z_C5 {M : mm_M} (h : ct_z M) : ct_z (ct_C5 M) := (ct_z0 (ct_zf (ct_zr (ct_zr (ct_zf (ct_zr (ct_zf (ct_zr (ct_zf (ct_zr (ct_zf (ct_zr h))))))))))))
theorem ct_z_C6 {M : mm_M} (h : ct_z M) : ct_z (ct_C6 M) := (ct_zf (ct_zr (ct_zr (ct_zf (ct_zr (ct_zf (ct_zr (ct_zf (ct_zr (ct_zf (ct_zr (ct_zf h))))))))))))
theorem ct_z_C7 {M : mm_M} (h : ct_z M) : ct_z (ct_C7 M) := (ct_zr (ct_zr (ct_zf (ct_zr (ct_zf (ct_zr (ct_zf (ct_zr (ct_zf (ct_zr (ct_zf (ct_z0 h))))))))))))
theorem ct_z_C8 {M : mm_M} (h : ct_z M) : ct_z (ct_C8 M) := (ct_zr (ct_zf (ct_zr (ct_zf (ct_zr (ct_zf (ct_zr (ct_zf (ct_zr (ct_zf (ct_z0 (ct_zf h))))))))))))
theorem ct_z_C9 {M : mm_M} (h : ct_z M) : ct_z (ct_C9 M) := (ct_zf (ct_zr (ct_zf (ct_zr (ct_zf (ct_zr (ct_zf (ct_zr (ct_zf (ct_z0 (ct_zf (ct_zr h))))))))))))
theorem ct_z_C10 {M : mm_M} (h : ct_z M) : ct_z (ct_C10 M) := (ct_zr (ct_zf (ct_zr (ct_zf (ct_zr (ct_zf (ct_zr (ct_zf (ct_z0 (ct_zf (ct_zr (ct_zr h))))))))))))
theorem ct_z_C11 {M : mm_M} (h : ct_z M) : ct_z (ct_C11 M) := (ct_zf (ct_zr (ct_zf (ct_zr (ct_zf (ct_zr (ct_zf (ct_z0 (ct_zf (ct_zr (ct_zr (ct_zf h))))))))))))
theorem ct_z_C12 {M : mm_M} (h : ct_z M) : ct_z (ct_C12 M) := (ct_zr (ct_zf (ct_zr (ct_zf (ct_zr (ct_zf (ct_z0 (ct_zf (ct_zr (ct_zr (ct_zf (ct_zr h))))))))))))
theorem ct_z_C13 {M : mm_M} (h : ct_z M) : ct_z (ct_C13 M) := (ct_zr (ct_zr (ct_zf (ct_zr (ct_zf h)))))
theorem ct_z_C {M : mm_M} (h : ct_z M) : ct_z (ct_C M) := (ct_z_C13 (ct_z_C12 (ct_z_C11 (ct_z_C10 (ct_z_C9 (ct_z_C8 (ct_z_C7 (ct_z_C6 (ct_z_C5 (ct_z_C4 (ct_z_C3 (ct_z_C2 (ct_z_C1 (ct_z_C0 h))))))))))))))
theorem ct_z_D0 {M : mm_M} (h : ct_z M) : ct_z (ct_D0 M) := (ct_zr (ct_zf (ct_zr (ct_zf (ct_zr (ct_zf (ct_zr (ct_zf (ct_zr (ct_zf (ct_zr (ct_zf h))))))))))))
theorem ct_z_D1 {M : mm_M} (h : ct_z M) : ct_z (ct_D1 M) := (ct_zr (ct_zf (ct_zr (ct_zf (ct_zr (ct_zf (ct_zr (ct_zf (ct_zr (ct_zf (ct_zr (ct_zf h))))))))))))
theorem ct_z_D2 {M : mm_M} (h : ct_z M) : ct_z (ct_D2 M) := (ct_zr (ct_zf (ct_zr (ct_zf (ct_zr (ct_zf (ct_zr (ct_zf (ct_zr (ct_zf (ct_zr (ct_zf h))))))))))))
theorem ct_z_D3 {M : mm_M} (h : ct_z M) : ct_z (ct_D3 M) := (ct_zr (ct_zf (ct_zr (ct_zf (ct_zr (ct_zf (ct_zr (ct_zf (ct_zr (ct_zf (ct_zr (ct_zf h))))))))))))
theorem ct_z_D4 {M : mm_M} (h : ct_z M) : ct_z (ct_D4 M) := (ct_zr (ct_zf h))
theorem ct_z_D {M : mm_M} (h : ct_z M) : ct_z (ct_D M) := (ct_z_D4 (ct_z_D3 (ct_z_D2 (ct_z_D1 (ct_z_D0 h)))))
def ct_M0 : mm_M := (fun _ _ => 0, fun _ _ => none, 0)
/-- the memory behind the constructors -/
def ct_M : mm_M := mm_fresh (ct_D (mm_fresh (ct_C (mm_fresh ct_M0 0)) 72)) 98
theorem ct_M_z : ct_z ct_M := ct_zf (ct_z_D (ct_zf (ct_z_C (ct_zf (fun _ _ _ => rfl)))))
theorem ct_M_06 : ct_M.1 0 6 = -1 := by decide +kernel
theorem ct_M_k : ct_M.2.2 = 0 := by decide +kernel
theorem ct_M_rf : ∀ e ∈ mr_rf, ct_M.2.1 e.1 e.2.1 = some e.2.2 := by decide +kernel
theorem ct_M_ar : ∀ k, k < 8 → ct_M.2.1 1 ((k : Nat) : Int) = some (24 + 6 * k) := by decide +kernel
theorem ct_M_b : ct_M.2.1 2 0 = some 3 := by decide +kernel
theorem ct_M_ok : mr_ok ct_M := by
  have h : ∀ a k, ct_M.1 a k = 0 ∨ ct_M.1 a k = -1 := by
    intro a k
    by_cases hq : a = 0 ∧ k = 6
    · obtain ⟨rfl, rfl⟩ := hq
      exact Or.inr ct_M_06
    · exact Or.inl (ct_M_z a k hq)
  refine ⟨fun a k => ?_, fun a k _ => ?_, ct_M_rf⟩
  · rcases h a k with q | q <;> rw [q] <;> exact ⟨by decide, by decide⟩
  · rcases h a k with q | q <;> rw [q] <;> exact ⟨by decide, by decide⟩
