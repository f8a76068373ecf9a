/-! ===== the mini machine's types ===== -/
/-- int, long (as whole numbers, told modulo 2^32, 2^64), a thing by its number, nothing -/
abbrev mm_V : Type := Int ⊕ (Int ⊕ (Nat ⊕ Unit))
abbrev mm_i (x : Int) : mm_V := Sum.inl x
abbrev mm_j (x : Int) : mm_V := Sum.inr (Sum.inl x)
abbrev mm_r (a : Nat) : mm_V := Sum.inr (Sum.inr (Sum.inl a))
abbrev mm_u : mm_V := Sum.inr (Sum.inr (Sum.inr ()))
/-- numbers and references by thing and place; how often something was thrown -/
abbrev mm_M : Type := (Nat → Int → Int) × (Nat → Int → Option Nat) × Nat
/-- a thing: an object of a class, or an array -/
abbrev mm_K : Type := Nat ⊕ (FieldType × Nat)
/-- pc, locals, stack, how many things there are, memory -/
abbrev mm_S : Type := Nat × List mm_V × List mm_V × Nat × mm_M
/-- returned, or threw (the exception's number) -/
abbrev mm_R : Type := Option mm_V ⊕ Nat
/-- a method: class, way of call, parameters, maxLocals, answer, frames, words -/
abbrev mm_E : Type := Nat × Nat × Nat × Nat × Option FieldType × Nat × Nat
