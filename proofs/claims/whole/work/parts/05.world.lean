/-! ===== the mini machine's state as the kit's world ===== -/
def mm_cv (ad : Nat → Nat) : mm_V → Value
  | .inl x => .int (mm_I x)
  | .inr (.inl x) => .long (mm_J x)
  | .inr (.inr (.inl a)) => .ref (ad a)
  | .inr (.inr (.inr _)) => .retAddr 0
theorem mm_cv_cat (ad : Nat → Nat) (v : mm_V) : (mm_cv ad v).category = mm_cat v := by
  rcases v with x | x | x | x <;> rfl
theorem mm_cv_sum (ad : Nat → Nat) (st : List mm_V) : ((st.map (mm_cv ad)).map fun v => v.category).sum = mm_wd st := by
  unfold mm_wd
  rw [List.map_map]
  congr 1
  apply List.map_congr_left
  intro v _
  exact mm_cv_cat ad v
/-- addresses that were known stay -/
def mm_ex (n : Nat) (ad ad' : Nat → Nat) : Prop := (∀ i, i < n → ad' i = ad i) ∧ ad' mm_scr = ad mm_scr
theorem mm_ex_rf {n : Nat} {ad : Nat → Nat} : mm_ex n ad ad := ⟨fun _ _ => rfl, rfl⟩
theorem mm_ex_tr {n m : Nat} {a b c : Nat → Nat} (h : mm_ex n a b) (k : mm_ex m b c) (hn : n ≤ m) : mm_ex n a c := ⟨fun i hi => (k.1 i (by omega)).trans (h.1 i hi), k.2.trans h.2⟩
theorem mm_cv_ex {n : Nat} {ad ad' : Nat → Nat} {v : mm_V} (hv : mm_vok n v) (h : mm_ex n ad ad') : mm_cv ad' v = mm_cv ad v := by
  rcases v with x | x | x | x
  · rfl
  · rfl
  · rcases hv x rfl with h1 | h1
    · simp only [mm_cv, h.1 x h1]
    · subst h1; simp only [mm_cv, h.2]
  · rfl
theorem mm_cvs_ex {n : Nat} {ad ad' : Nat → Nat} {st : List mm_V} (hv : ∀ v ∈ st, mm_vok n v) (h : mm_ex n ad ad') : st.map (mm_cv ad') = st.map (mm_cv ad) := List.map_congr_left fun v m => mm_cv_ex (hv v m) h
section
variable (P : mm_P) (DA : FieldType → ClassId) (nf : Nat → Nat)
def mm_fv (ad : Nat → Nat) (ty : Option FieldType) (x : Int) (r : Option Nat) : Value := match ty with
  | some .int => .int (mm_I x)
  | some .boolean => .int (mm_I x)
  | some .long => .long (mm_J x)
  | _ => va_rf (r.map ad)
def mm_av (ad : Nat → Nat) (ty : FieldType) (f : Int → Int) (r : Int → Option Nat) : (Nat → Int32) ⊕ (Nat → Int64) ⊕ (Nat → UInt32) ⊕ (Nat → UInt64) ⊕ (Nat → Option Nat) := match ty with
  | .int => .inl fun k : Nat => mm_I (f k)
  | .boolean => .inl fun k : Nat => mm_I (f k)
  | .long => .inr (.inl fun k : Nat => mm_J (f k))
  | _ => .inr (.inr (.inr (.inr fun k : Nat => (r k).map ad)))
def mm_en (ad : Nat → Nat) (M : mm_M) (i : Nat) : va_E := match mm_kd P i with
  | some (.inl d) => .inr (d, (List.range (nf d)).map fun k : Nat => mm_fv ad (mm_ft P d k) (M.1 i k) (M.2.1 i k))
  | some (.inr (ty, m)) => .inl (DA ty, m, mm_av ad ty (M.1 i) (M.2.1 i))
  | none => .inr (0, [])
def mm_w (ad : Nat → Nat) (n : Nat) (M : mm_M) : va_W := (List.range n).map fun i => (ad i, mm_en P DA nf ad M i)
def mm_sz (k : Option mm_K) : Nat := match k with
  | some (.inl d) => nf d
  | some (.inr (_, m)) => m
  | none => 0
def mm_sl : Nat → Nat
  | 0 => 0
  | n + 1 => mm_sl n + mm_sz nf (mm_kd P n)
variable {P DA nf}
theorem mm_w_at {ad : Nat → Nat} {n : Nat} {M : mm_M} {i : Nat} (h : i < n) : (mm_w P DA nf ad n M)[i]? = some (ad i, mm_en P DA nf ad M i) := by
  simp [mm_w, h]
theorem mm_w_set {ad : Nat → Nat} {n : Nat} {M M' : mm_M} {a : Nat} {e : va_E} (he : mm_en P DA nf ad M' a = e) (ho : ∀ i, i ≠ a → mm_en P DA nf ad M' i = mm_en P DA nf ad M i) : (mm_w P DA nf ad n M).set a (ad a, e) = mm_w P DA nf ad n M' := by
  apply List.ext_getElem?
  intro i
  rw [List.getElem?_set]
  by_cases hi : a = i
  · subst hi
    simp only [if_true, mm_w, List.length_map, List.length_range, List.getElem?_map]
    by_cases hl : a < n
    · simp [hl, he]
    · simp [hl]
  · simp only [hi, if_false, mm_w, List.getElem?_map]
    by_cases hl : i < n
    · simp [hl, ho i (fun q => hi q.symm)]
    · simp [hl]
theorem mm_en_putN {ad : Nat → Nat} {M : mm_M} {a : Nat} {k x : Int} {i : Nat} (h : i ≠ a) : mm_en P DA nf ad (mm_putN M a k x) i = mm_en P DA nf ad M i := by
  simp [mm_en, mm_putN, h]
theorem mm_en_putR {ad : Nat → Nat} {M : mm_M} {a : Nat} {k : Int} {x : Option Nat} {i : Nat} (h : i ≠ a) : mm_en P DA nf ad (mm_putR M a k x) i = mm_en P DA nf ad M i := by
  simp [mm_en, mm_putR, h]
theorem mm_en_cpy {ad : Nat → Nat} {M : mm_M} {f a : Nat} {sp dp q : Int} {i : Nat} (h : i ≠ a) : mm_en P DA nf ad (mm_cpy M f a sp dp q) i = mm_en P DA nf ad M i := by
  simp [mm_en, mm_cpy, h]
theorem mm_en_fresh {ad : Nat → Nat} {M : mm_M} {a : Nat} {i : Nat} (h : i ≠ a) : mm_en P DA nf ad (mm_fresh M a) i = mm_en P DA nf ad M i := by
  simp [mm_en, mm_fresh, h]
theorem mm_map_ex {n : Nat} {ad ad' : Nat → Nat} {o : Option Nat} (h : ∀ b, o = some b → b < n ∨ b = mm_scr) (e : mm_ex n ad ad') : o.map ad' = o.map ad := by
  cases o with
  | none => rfl
  | some b =>
    simp only [Option.map_some]
    rcases h b rfl with h1 | h1
    · rw [e.1 b h1]
    · subst h1; rw [e.2]
theorem mm_en_ex {ad ad' : Nat → Nat} {n : Nat} {M : mm_M} {i : Nat} (hm : mm_mok n M) (h : mm_ex n ad ad') : mm_en P DA nf ad' M i = mm_en P DA nf ad M i := by
  have q : ∀ a k, (M.2.1 a k).map ad' = (M.2.1 a k).map ad := fun a k => mm_map_ex (hm a k) h
  unfold mm_en
  split
  · congr 2
    apply List.map_congr_left
    intro k _
    unfold mm_fv
    split <;> first | rfl | rw [q]
  · congr 3
    unfold mm_av
    split
    · rfl
    · rfl
    · rfl
    · congr 4
      funext k
      exact q i k
  · rfl
theorem mm_w_ex {ad ad' : Nat → Nat} {n : Nat} {M : mm_M} (hm : mm_mok n M) (h : mm_ex n ad ad') : mm_w P DA nf ad' n M = mm_w P DA nf ad n M := by
  apply List.map_congr_left
  intro i hi
  rw [mm_en_ex hm h, h.1 i (List.mem_range.mp hi)]
theorem mm_w_push {ad : Nat → Nat} {n : Nat} {M : mm_M} {q : Nat} {e : va_E} (hm : mm_mok n M) (hn : n < mm_scr) (he : mm_en P DA nf ad (mm_fresh M n) n = e) : mm_w P DA nf ad n M ++ [(q, e)] = mm_w P DA nf (va_up ad n q) (n + 1) (mm_fresh M n) ∧ mm_ex n ad (va_up ad n q) := by
  have hx : mm_ex n ad (va_up ad n q) := ⟨fun i hi => by simp [va_up, Nat.ne_of_lt hi], by simp [va_up, Nat.ne_of_gt hn]⟩
  refine ⟨?_, hx⟩
  have hf : mm_mok n (mm_fresh M n) := by
    intro a' k' b' e
    simp only [mm_fresh] at e
    split at e
    · cases e
    · exact hm _ _ _ e
  unfold mm_w
  rw [List.range_succ, List.map_append]
  congr 1
  · apply List.map_congr_left
    intro i hi
    have hi := List.mem_range.mp hi
    rw [mm_en_ex hf hx, hx.1 i hi, mm_en_fresh (Nat.ne_of_lt hi)]
  · rw [List.map_cons, List.map_nil, mm_en_ex hf hx, he]
    simp [va_up]
end
/-- the real locals hold the mini machine's -/
def mm_L (ad : Nat → Nat) (ls' : Array Slot) (ls : List mm_V) : Prop := ls'.size = ls.length ∧ lv_wf ls' ∧ ∀ (i : Nat) (v : mm_V), ls[i]? = some v → v ≠ mm_u → ls'[i]? = some (Slot.val (mm_cv ad v))
def mm_ll (ad : Nat → Nat) (ls : List mm_V) : List (Nat × Value) := ls.zipIdx.filterMap fun q => if q.1 = mm_u then none else some (q.2, mm_cv ad q.1)
theorem mm_ll_mem {ad : Nat → Nat} {ls : List mm_V} {q : Nat × Value} : q ∈ mm_ll ad ls ↔ ∃ v, ls[q.1]? = some v ∧ v ≠ mm_u ∧ q.2 = mm_cv ad v := by
  constructor
  · intro h
    obtain ⟨⟨v, i⟩, h1, h2⟩ := List.mem_filterMap.mp h
    have h3 := List.mem_zipIdx_iff_getElem?.mp h1
    simp only at h2 h3
    split at h2
    · cases h2
    · rename_i hne
      cases h2
      exact ⟨v, h3, hne, rfl⟩
  · rintro ⟨v, h1, h2, h3⟩
    refine List.mem_filterMap.mpr ⟨(v, q.1), List.mem_zipIdx_iff_getElem?.mpr h1, ?_⟩
    simp [h2, h3.symm]
theorem mm_L_has {ad : Nat → Nat} {ls' : Array Slot} {ls : List mm_V} : mm_L ad ls' ls ↔ lv_has ls' ls.length (mm_ll ad ls) := by
  constructor
  · rintro ⟨h1, h2, h3⟩
    refine ⟨h1, h2, fun q hq => ?_⟩
    obtain ⟨v, a, b, c⟩ := mm_ll_mem.mp hq
    rw [c]; exact h3 q.1 v a b
  · rintro ⟨h1, h2, h3⟩
    exact ⟨h1, h2, fun i v a b => h3 (i, mm_cv ad v) (mm_ll_mem.mpr ⟨v, a, b, rfl⟩)⟩
theorem mm_L_of {ad : Nat → Nat} {ls' : Array Slot} {ls ls2 : List mm_V} {l : List (Nat × Value)} (h : lv_has ls' ls.length l) (hn : ls2.length = ls.length) (hs : ∀ (i : Nat) (v : mm_V), ls2[i]? = some v → v ≠ mm_u → (i, mm_cv ad v) ∈ l) : mm_L ad ls' ls2 :=
  ⟨h.1.trans hn.symm, h.2.1, fun i v a b => h.2.2 _ (hs i v a b)⟩
theorem mm_L_ex {n : Nat} {ad ad' : Nat → Nat} {ls' : Array Slot} {ls : List mm_V} (h : mm_L ad ls' ls) (hv : ∀ v ∈ ls, mm_vok n v) (e : mm_ex n ad ad') : mm_L ad' ls' ls :=
  ⟨h.1, h.2.1, fun i v a b => by rw [mm_cv_ex (hv v (List.mem_of_getElem? a)) e]; exact h.2.2 i v a b⟩
theorem mm_fix_get {ls : List mm_V} {i j : Nat} {v : mm_V} (h : (mm_fix ls i)[j]? = some v) (hv : v ≠ mm_u) : ls[j]? = some v ∧ ¬ (j + 1 = i ∧ mm_cat v = 2) := by
  unfold mm_fix at h
  split at h
  · exact ⟨h, fun q => by omega⟩
  · rename_i k
    split at h
    · rename_i x hx
      rw [List.getElem?_set] at h
      split at h
      · rename_i hkj
        split at h
        · cases h; exact absurd rfl hv
        · cases h
      · rename_i hkj
        exact ⟨h, fun q => hkj (by omega)⟩
    · rename_i hx
      refine ⟨h, fun q => ?_⟩
      have hj : j = k := by omega
      subst hj
      rcases v with x | x | x | x
      · exact absurd q.2 (by simp [mm_cat])
      · exact hx x h
      · exact absurd q.2 (by simp [mm_cat])
      · exact absurd q.2 (by simp [mm_cat])
theorem mm_L_st1 {ad : Nat → Nat} {ls' : Array Slot} {ls : List mm_V} {i : Nat} {v : mm_V} (h : lv_has ls' ls.length ((i, mm_cv ad v) :: (mm_ll ad ls).filter (fun q => !(q.1 == i) && !(q.1 + 1 == i && q.2.category == 2)))) : mm_L ad ls' (mm_st1 ls i v) := by
  refine mm_L_of h (mm_st1_len _ _ _) fun j w hj hw => ?_
  unfold mm_st1 at hj
  rw [List.getElem?_set] at hj
  split at hj
  · rename_i hij
    split at hj
    · cases hj; subst hij; exact List.mem_cons_self
    · cases hj
  · rename_i hij
    obtain ⟨h1, h2⟩ := mm_fix_get hj hw
    refine List.mem_cons_of_mem _ (List.mem_filter.mpr ⟨mm_ll_mem.mpr ⟨w, h1, hw, rfl⟩, ?_⟩)
    have : ¬ j = i := fun q => hij q.symm
    simp only [mm_cv_cat, Bool.and_eq_true, Bool.not_eq_true', beq_eq_false_iff_ne, ne_eq, this, not_false_eq_true, true_and, Bool.and_eq_false_iff]
    by_cases hq : j + 1 = i
    · exact Or.inr fun z => h2 ⟨hq, z⟩
    · exact Or.inl hq
theorem mm_L_st2 {ad : Nat → Nat} {ls' : Array Slot} {ls : List mm_V} {i : Nat} {v : mm_V} (h : lv_has ls' ls.length ((i, mm_cv ad v) :: (mm_ll ad ls).filter (fun q => !(q.1 == i) && (!(q.1 == i + 1) && !(q.1 + 1 == i && q.2.category == 2))))) : mm_L ad ls' (mm_st2 ls i v) := by
  refine mm_L_of h (mm_st2_len _ _ _) fun j w hj hw => ?_
  unfold mm_st2 at hj
  rw [List.getElem?_set] at hj
  split at hj
  · split at hj
    · cases hj; exact absurd rfl hw
    · cases hj
  · rename_i hij1
    rw [List.getElem?_set] at hj
    split at hj
    · rename_i hij
      split at hj
      · cases hj; subst hij; exact List.mem_cons_self
      · cases hj
    · rename_i hij
      obtain ⟨h1, h2⟩ := mm_fix_get hj hw
      refine List.mem_cons_of_mem _ (List.mem_filter.mpr ⟨mm_ll_mem.mpr ⟨w, h1, hw, rfl⟩, ?_⟩)
      have e1 : ¬ j = i := fun q => hij q.symm
      have e2 : ¬ j = i + 1 := fun q => hij1 q.symm
      simp only [mm_cv_cat, Bool.and_eq_true, Bool.not_eq_true', beq_eq_false_iff_ne, ne_eq, e1, e2, not_false_eq_true, true_and, Bool.and_eq_false_iff]
      by_cases hq : j + 1 = i
      · exact Or.inr fun z => h2 ⟨hq, z⟩
      · exact Or.inl hq
