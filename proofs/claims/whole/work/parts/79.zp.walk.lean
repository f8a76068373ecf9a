/-! ===== the walk along the sides of the grid ===== -/
/-- side w (0 east, 1 north, 2 west, 3 south) leads away from the place i, j, the cells on its left -/
def ldc (C : Int → Int → Bool) (i j w : Int) : Bool := if w = 0 then C i j && !C i (j - 1) else if w = 1 then C (i - 1) j && !C i j else if w = 2 then C (i - 1) (j - 1) && !C (i - 1) j else C i (j - 1) && !C (i - 1) (j - 1)
abbrev wlk : Type := Int × Int × Int
def goX (p : wlk) : Int := if p.2.2 = 0 then p.1 + 1 else if p.2.2 = 2 then p.1 - 1 else p.1
def goY (p : wlk) : Int := if p.2.2 = 1 then p.2.1 + 1 else if p.2.2 = 3 then p.2.1 - 1 else p.2.1
def goW (C : Int → Int → Bool) (p : wlk) : Int := if ldc C (goX p) (goY p) ((p.2.2 + 1) % 4) = true then (p.2.2 + 1) % 4 else if ldc C (goX p) (goY p) p.2.2 = true then p.2.2 else (p.2.2 + 3) % 4
def stp (C : Int → Int → Bool) (p : wlk) : wlk := (goX p, goY p, goW C p)
/-- p is a side of the grid -/
def isS (C : Int → Int → Bool) (p : wlk) : Prop := (p.2.2 = 0 ∨ p.2.2 = 1 ∨ p.2.2 = 2 ∨ p.2.2 = 3) ∧ ldc C p.1 p.2.1 p.2.2 = true
/-- what a way stands for at a place: by the four cells round it -/
def ld4 (ne nw sw se : Bool) (w : Int) : Bool := if w = 0 then ne && !se else if w = 1 then nw && !ne else if w = 2 then sw && !nw else se && !sw
theorem ldc_4 (C : Int → Int → Bool) (i j w : Int) : ldc C i j w = ld4 (C i j) (C (i - 1) j) (C (i - 1) (j - 1)) (C i (j - 1)) w := rfl
/-- the cells beside the side that one came along, at its end -/
def in4 (ne nw sw se : Bool) (w : Int) : Bool := if w = 0 then nw && !sw else if w = 1 then sw && !se else if w = 2 then se && !ne else ne && !nw
def ot4 (ne nw sw se : Bool) (w : Int) : Int := if ld4 ne nw sw se ((w + 1) % 4) = true then (w + 1) % 4 else if ld4 ne nw sw se w = true then w else (w + 3) % 4
theorem in4_ld {ne nw sw se : Bool} {w : Int} (hw : w = 0 ∨ w = 1 ∨ w = 2 ∨ w = 3) (h : in4 ne nw sw se w = true) : ld4 ne nw sw se (ot4 ne nw sw se w) = true := by
  rcases hw with rfl | rfl | rfl | rfl <;> cases ne <;> cases nw <;> cases sw <;> cases se <;> revert h <;> decide
theorem in4_inj {ne nw sw se : Bool} {w v : Int} (hw : w = 0 ∨ w = 1 ∨ w = 2 ∨ w = 3) (hv : v = 0 ∨ v = 1 ∨ v = 2 ∨ v = 3) (h : in4 ne nw sw se w = true) (g : in4 ne nw sw se v = true) (e : ot4 ne nw sw se w = ot4 ne nw sw se v) : w = v := by
  rcases hw with rfl | rfl | rfl | rfl <;> rcases hv with rfl | rfl | rfl | rfl <;> cases ne <;> cases nw <;> cases sw <;> cases se <;> revert h g e <;> decide
theorem ot4_rg {ne nw sw se : Bool} {w : Int} (hw : w = 0 ∨ w = 1 ∨ w = 2 ∨ w = 3) : (ot4 ne nw sw se w = 0 ∨ ot4 ne nw sw se w = 1 ∨ ot4 ne nw sw se w = 2 ∨ ot4 ne nw sw se w = 3) ∧ ot4 ne nw sw se w ≠ (w + 2) % 4 := by
  rcases hw with rfl | rfl | rfl | rfl <;> cases ne <;> cases nw <;> cases sw <;> cases se <;> decide
section
variable {C : Int → Int → Bool}
theorem goW_4 (p : wlk) : goW C p = ot4 (C (goX p) (goY p)) (C (goX p - 1) (goY p)) (C (goX p - 1) (goY p - 1)) (C (goX p) (goY p - 1)) p.2.2 := rfl
theorem isS_in {p : wlk} (h : isS C p) : in4 (C (goX p) (goY p)) (C (goX p - 1) (goY p)) (C (goX p - 1) (goY p - 1)) (C (goX p) (goY p - 1)) p.2.2 = true := by
  obtain ⟨i, j, w⟩ := p
  obtain ⟨hw, h⟩ := h
  have hw' : w = 0 ∨ w = 1 ∨ w = 2 ∨ w = 3 := hw
  have h' : ldc C i j w = true := h
  clear hw h
  show in4 (C (goX (i, j, w)) (goY (i, j, w))) (C (goX (i, j, w) - 1) (goY (i, j, w))) (C (goX (i, j, w) - 1) (goY (i, j, w) - 1)) (C (goX (i, j, w)) (goY (i, j, w) - 1)) w = true
  rcases hw' with rfl | rfl | rfl | rfl
  · have e1 : goX (i, j, 0) = i + 1 := rfl
    have e2 : goY (i, j, 0) = j := rfl
    have e3 : i + 1 - 1 = i := by omega
    rw [e1, e2, e3]
    exact h'
  · have e1 : goX (i, j, 1) = i := rfl
    have e2 : goY (i, j, 1) = j + 1 := rfl
    have e3 : j + 1 - 1 = j := by omega
    rw [e1, e2, e3]
    exact h'
  · have e1 : goX (i, j, 2) = i - 1 := rfl
    have e2 : goY (i, j, 2) = j := rfl
    rw [e1, e2]
    exact h'
  · have e1 : goX (i, j, 3) = i := rfl
    have e2 : goY (i, j, 3) = j - 1 := rfl
    rw [e1, e2]
    exact h'
/-- a side is followed by a side -/
theorem stp_isS {p : wlk} (h : isS C p) : isS C (stp C p) := by
  have r := ot4_rg (ne := C (goX p) (goY p)) (nw := C (goX p - 1) (goY p)) (sw := C (goX p - 1) (goY p - 1)) (se := C (goX p) (goY p - 1)) h.1
  refine ⟨r.1, ?_⟩
  show ldc C (goX p) (goY p) (goW C p) = true
  rw [ldc_4, goW_4]
  exact in4_ld h.1 (isS_in h)
/-- and by no two -/
theorem stp_inj {p q : wlk} (hp : isS C p) (hq : isS C q) (e : stp C p = stp C q) : p = q := by
  have ex : goX p = goX q := congrArg (fun z : wlk => z.1) e
  have ey : goY p = goY q := congrArg (fun z : wlk => z.2.1) e
  have ew : goW C p = goW C q := congrArg (fun z : wlk => z.2.2) e
  have ip := isS_in hp
  have iq := isS_in hq
  rw [goW_4, goW_4] at ew
  rw [ex, ey] at ip ew
  have w := in4_inj hp.1 hq.1 ip iq ew
  obtain ⟨i, j, v⟩ := p
  obtain ⟨i', j', v'⟩ := q
  have w' : v = v' := w
  clear w ip iq ew e
  subst w'
  have hv : v = 0 ∨ v = 1 ∨ v = 2 ∨ v = 3 := hp.1
  rcases hv with rfl | rfl | rfl | rfl
  · have a : i + 1 = i' + 1 := ex
    have b : j = j' := ey
    have c : i = i' := by omega
    rw [b, c]
  · have a : i = i' := ex
    have b : j + 1 = j' + 1 := ey
    have c : j = j' := by omega
    rw [a, c]
  · have a : i - 1 = i' - 1 := ex
    have b : j = j' := ey
    have c : i = i' := by omega
    rw [b, c]
  · have a : i = i' := ex
    have b : j - 1 = j' - 1 := ey
    have c : j = j' := by omega
    rw [a, c]
def sti (C : Int → Int → Bool) : Nat → wlk → wlk
  | 0, p => p
  | n + 1, p => sti C n (stp C p)
theorem sti_add (m n : Nat) (p : wlk) : sti C (m + n) p = sti C n (sti C m p) := by
  induction m generalizing p with
  | zero =>
    have e : 0 + n = n := by omega
    rw [e]
    rfl
  | succ m ih =>
    have e : m + 1 + n = (m + n) + 1 := by omega
    rw [e]
    exact ih (stp C p)
theorem sti_last (n : Nat) (p : wlk) : sti C (n + 1) p = stp C (sti C n p) := by
  rw [sti_add n 1 p]
  rfl
theorem sti_isS {p : wlk} (h : isS C p) : ∀ n, isS C (sti C n p) := by
  intro n
  induction n with
  | zero => exact h
  | succ n ih => rw [sti_last]; exact stp_isS ih
theorem sti_inj {p q : wlk} (hp : isS C p) (hq : isS C q) : ∀ n, sti C n p = sti C n q → p = q := by
  intro n
  induction n with
  | zero => exact id
  | succ n ih =>
    intro e
    rw [sti_last, sti_last] at e
    exact ih (stp_inj (sti_isS hp n) (sti_isS hq n) e)
/-- a set of sides that is closed both ways -/
def clo (C : Int → Int → Bool) (G : wlk → Prop) : Prop := ∀ p, isS C p → (G (stp C p) ↔ G p)
end
