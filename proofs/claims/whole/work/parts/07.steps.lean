/-! ===== a step of the mini machine is a step of the machine ===== -/
abbrev mm_arC : String := "CellAreas$Area"
def mm_tys (DA : FieldType → ClassId) : List (ClassId × FieldType) := [(DA .int, .int), (DA .boolean, .boolean), (DA .long, .long), (DA (.object mm_arC), .object mm_arC)]
def mm_X (P : mm_P) (DA : FieldType → ClassId) (nf : Nat → Nat) (D : va_G) (cl : List vw_C) (A : Nat → Prop) (H0 : Heap) (ad : Nat → Nat) (n : Nat) (M : mm_M) (H : Heap) (locs : List Loc) : Prop :=
  va_P D cl (mm_w P DA nf ad n M) H ∧ va_D A (mm_w P DA nf ad n M) ∧ va_S A H0 H locs
def mm_tyok (ty : FieldType) : Prop := ty = .int ∨ ty = .boolean ∨ ty = .long ∨ (∃ C, ty = .object C) ∨ ∃ t, ty = .array t
/-- the classes' rows are what the tables say -/
def mm_Gc (P : mm_P) (nf : Nat → Nat) (cl : List vw_C) (Ts : List Cond) (cn : Nat → String) : Prop := ∀ d C T N, cl[d]? = some (C, T, N) → nf d = N ∧ cn d = C ∧ (∀ w ∈ u_ws C T N, w ∈ Ts) ∧ ∃ ty : Nat → FieldType, (∀ k, k < N → parseFieldDescriptor (T k).2.2.1 = some (ty k)) ∧ (∀ a, a < N → ∀ b, b < N → a ≠ b → (T a).2.1 ≠ (T b).2.1) ∧ ∀ k, k < N → mm_ft P d k = some (ty k) ∧ (T k).2.2.2 = mm_fi P d k ∧ (T k).1 = C ∧ mm_tyok (ty k)
def mm_Gf (P : mm_P) (cl : List vw_C) (Ts : List Cond) (cn : Nat → String) : Prop := ∀ c idx d k, mm_lf P c idx = some (d, k) → ∃ C T N, cl[d]? = some (C, T, N) ∧ k < N ∧ Cond.fieldLink (cn c) idx C (T k).2.1 (T k).2.2.1 ∈ Ts
def mm_Gk (P : mm_P) (Ts : List Cond) (cn : Nat → String) : Prop := (∀ c idx v, mm_lc P c idx = some v → Cond.constant (cn c) idx (mm_I v) ∈ Ts) ∧ (∀ c idx v, mm_lj P c idx = some v → Cond.constantLong (cn c) idx (mm_J v) ∈ Ts)
def mm_Gn (P : mm_P) (cl : List vw_C) (Ts : List Cond) (cn : Nat → String) : Prop := (∀ c idx d, mm_ln P c idx = some d → ∃ C T N, cl[d]? = some (C, T, N) ∧ Cond.classLink (cn c) idx C ∈ Ts ∧ Cond.instantiable C N ∈ Ts ∧ Cond.initialized C ∈ Ts) ∧
  (∀ c idx, mm_la P c idx = some 0 → Cond.classLink (cn c) idx mm_arC ∈ Ts) ∧ Cond.arrayClass .int ∈ Ts ∧ Cond.arrayClass .boolean ∈ Ts ∧ Cond.arrayClass .long ∈ Ts ∧ (∃ T N, cl[0]? = some (mm_arC, T, N)) ∧ ∀ a C m, mm_kd P a = some (.inr (.object C, m)) → C = mm_arC
section
variable {p : Program} {l : Launch} {e : Env} {R : Room} {s : State} {m : MethodId} {args : Array Value} {below : List Frame} {meth : Method} {c : Code} {H : Heap} {locs : List Loc} {cells slots : Nat} {Q : State → Prop}
variable {cc : ByteArray} {P : mm_P} {DA : FieldType → ClassId} {nf : Nat → Nat} {D : va_G} {cl : List vw_C} {A : Nat → Prop} {Ts : List Cond} {cn : Nat → String}
variable {ad : Nat → Nat} {ls' : Array Slot} {pc : Nat} {ls st : List mm_V} {n : Nat} {M : mm_M} {ci : Nat} {ini : Bool} {τ : mm_S}
def mm_KK (p : Program) (l : Launch) (e : Env) (R : Room) (s : State) (m : MethodId) (args : Array Value) (below : List Frame) (meth : Method) (c : Code) (cells slots : Nat) (Q : State → Prop) (P : mm_P) (DA : FieldType → ClassId) (nf : Nat → Nat) (D : va_G) (cl : List vw_C) (A : Nat → Prop) (ad : Nat → Nat) (n : Nat) (τ : mm_S) : Prop :=
  ∀ (ad2 : Nat → Nat) (H2 : Heap) (locs2 : List Loc) (ls2 : Array Slot) (cells2 slots2 : Nat), cells2 + n = cells + τ.2.2.2.1 → slots2 + mm_sl P nf n = slots + mm_sl P nf τ.2.2.2.1 → mm_ex n ad ad2 → mm_L ad2 ls2 τ.2.1 → mm_X P DA nf D cl A s.heap ad2 τ.2.2.2.1 τ.2.2.2.2 H2 locs2 →
    W p l e R s m args below meth c H2 locs2 cells2 slots2 Q (F0 m τ.1 ls2 (τ.2.2.1.map (mm_cv ad2)))
/-- a step that leaves memory and locals -/
theorem mm_KK_s {pc' : Nat} {st' : List mm_V} (kk : mm_KK p l e R s m args below meth c cells slots Q P DA nf D cl A ad n (pc', ls, st', n, M)) (hL : mm_L ad ls' ls) (hX : mm_X P DA nf D cl A s.heap ad n M H locs) : W p l e R s m args below meth c H locs cells slots Q (F0 m pc' ls' (st'.map (mm_cv ad))) :=
  kk ad H locs ls' cells slots rfl rfl mm_ex_rf hL hX
theorem mm_KK_l {pc' : Nat} {st' lt : List mm_V} {lt' : Array Slot} (kk : mm_KK p l e R s m args below meth c cells slots Q P DA nf D cl A ad n (pc', lt, st', n, M)) (hL : mm_L ad lt' lt) (hX : mm_X P DA nf D cl A s.heap ad n M H locs) : W p l e R s m args below meth c H locs cells slots Q (F0 m pc' lt' (st'.map (mm_cv ad))) :=
  kk ad H locs lt' cells slots rfl rfl mm_ex_rf hL hX
theorem mm_W_i1 {f : Int → Int} (row : ∀ (x : Int) (rest : List Value), W p l e R s m args below meth c H locs cells slots Q (F0 m (pc + 1) ls' (.int (mm_I (f x)) :: rest)) → W p l e R s m args below meth c H locs cells slots Q (F0 m pc ls' (.int (mm_I x) :: rest)))
    (hL : mm_L ad ls' ls) (hX : mm_X P DA nf D cl A s.heap ad n M H locs) (h : mm_i1 pc ls st n M f = some τ) (kk : mm_KK p l e R s m args below meth c cells slots Q P DA nf D cl A ad n τ) : W p l e R s m args below meth c H locs cells slots Q (F0 m pc ls' (st.map (mm_cv ad))) := by
  unfold mm_i1 at h
  split at h
  · cases h; exact row _ _ (mm_KK_s kk hL hX)
  · cases h
theorem mm_W_i2 {f : Int → Int → Int} (row : ∀ (x y : Int) (rest : List Value), W p l e R s m args below meth c H locs cells slots Q (F0 m (pc + 1) ls' (.int (mm_I (f x y)) :: rest)) → W p l e R s m args below meth c H locs cells slots Q (F0 m pc ls' (.int (mm_I y) :: .int (mm_I x) :: rest)))
    (hL : mm_L ad ls' ls) (hX : mm_X P DA nf D cl A s.heap ad n M H locs) (h : mm_i2 pc ls st n M f = some τ) (kk : mm_KK p l e R s m args below meth c cells slots Q P DA nf D cl A ad n τ) : W p l e R s m args below meth c H locs cells slots Q (F0 m pc ls' (st.map (mm_cv ad))) := by
  unfold mm_i2 at h
  split at h
  · cases h; exact row _ _ _ (mm_KK_s kk hL hX)
  · cases h
theorem mm_W_j2 {f : Int → Int → Int} (row : ∀ (x y : Int) (rest : List Value), W p l e R s m args below meth c H locs cells slots Q (F0 m (pc + 1) ls' (.long (mm_J (f x y)) :: rest)) → W p l e R s m args below meth c H locs cells slots Q (F0 m pc ls' (.long (mm_J y) :: .long (mm_J x) :: rest)))
    (hL : mm_L ad ls' ls) (hX : mm_X P DA nf D cl A s.heap ad n M H locs) (h : mm_j2 pc ls st n M f = some τ) (kk : mm_KK p l e R s m args below meth c cells slots Q P DA nf D cl A ad n τ) : W p l e R s m args below meth c H locs cells slots Q (F0 m pc ls' (st.map (mm_cv ad))) := by
  unfold mm_j2 at h
  split at h
  · cases h; exact row _ _ _ (mm_KK_s kk hL hX)
  · cases h
theorem mm_W_js {f : Int → Int → Int} (row : ∀ (x y : Int) (rest : List Value), W p l e R s m args below meth c H locs cells slots Q (F0 m (pc + 1) ls' (.long (mm_J (f x y)) :: rest)) → W p l e R s m args below meth c H locs cells slots Q (F0 m pc ls' (.int (mm_I y) :: .long (mm_J x) :: rest)))
    (hL : mm_L ad ls' ls) (hX : mm_X P DA nf D cl A s.heap ad n M H locs) (h : mm_js pc ls st n M f = some τ) (kk : mm_KK p l e R s m args below meth c cells slots Q P DA nf D cl A ad n τ) : W p l e R s m args below meth c H locs cells slots Q (F0 m pc ls' (st.map (mm_cv ad))) := by
  unfold mm_js at h
  split at h
  · cases h; exact row _ _ _ (mm_KK_s kk hL hX)
  · cases h
theorem mm_to_spec {off : Int} {r : List mm_V} (h : mm_to pc ls n M off r = some τ) : ∃ t : Nat, (pc : Int) + off = (t : Int) ∧ τ = (t, ls, r, n, M) := by
  unfold mm_to at h
  split at h
  · cases h
    rename_i h0
    exact ⟨((pc : Int) + off).toNat, by omega, rfl⟩
  · cases h
theorem mm_W_if1 {f : Int32 → Bool} {off : Int} (row : ∀ (x : Int) (rest : List Value) (t : Nat), ((pc : Int) + off = (t : Int)) → (f (mm_I x) = true → W p l e R s m args below meth c H locs cells slots Q (F0 m t ls' rest)) → (¬ f (mm_I x) = true → W p l e R s m args below meth c H locs cells slots Q (F0 m (pc + 3) ls' rest)) → W p l e R s m args below meth c H locs cells slots Q (F0 m pc ls' (.int (mm_I x) :: rest)))
    (hL : mm_L ad ls' ls) (hX : mm_X P DA nf D cl A s.heap ad n M H locs) (h : mm_if1 pc ls st n M f off = some τ) (kk : mm_KK p l e R s m args below meth c cells slots Q P DA nf D cl A ad n τ) : W p l e R s m args below meth c H locs cells slots Q (F0 m pc ls' (st.map (mm_cv ad))) := by
  unfold mm_if1 at h
  split at h
  · split at h
    · rename_i hq
      obtain ⟨t, ht, rfl⟩ := mm_to_spec hq
      split at h
      · rename_i hf
        cases h
        exact row _ _ t ht (fun _ => mm_KK_s kk hL hX) (fun q => absurd hf q)
      · rename_i hf
        cases h
        exact row _ _ t ht (fun q => absurd q hf) (fun _ => mm_KK_s kk hL hX)
    · cases h
  · cases h
theorem mm_W_if2 {f : Int32 → Int32 → Bool} {off : Int} (row : ∀ (x y : Int) (rest : List Value) (t : Nat), ((pc : Int) + off = (t : Int)) → (f (mm_I x) (mm_I y) = true → W p l e R s m args below meth c H locs cells slots Q (F0 m t ls' rest)) → (¬ f (mm_I x) (mm_I y) = true → W p l e R s m args below meth c H locs cells slots Q (F0 m (pc + 3) ls' rest)) → W p l e R s m args below meth c H locs cells slots Q (F0 m pc ls' (.int (mm_I y) :: .int (mm_I x) :: rest)))
    (hL : mm_L ad ls' ls) (hX : mm_X P DA nf D cl A s.heap ad n M H locs) (h : mm_if2 pc ls st n M f off = some τ) (kk : mm_KK p l e R s m args below meth c cells slots Q P DA nf D cl A ad n τ) : W p l e R s m args below meth c H locs cells slots Q (F0 m pc ls' (st.map (mm_cv ad))) := by
  unfold mm_if2 at h
  split at h
  · split at h
    · rename_i hq
      obtain ⟨t, ht, rfl⟩ := mm_to_spec hq
      split at h
      · rename_i hf
        cases h
        exact row _ _ _ t ht (fun _ => mm_KK_s kk hL hX) (fun q => absurd hf q)
      · rename_i hf
        cases h
        exact row _ _ _ t ht (fun q => absurd q hf) (fun _ => mm_KK_s kk hL hX)
    · cases h
  · cases h
theorem mm_W_ld {k i w : Nat} (r0 : ∀ (x : Int) (rest : List Value), w = 0 → ls'[i]? = some (.val (.int (mm_I x))) → W p l e R s m args below meth c H locs cells slots Q (F0 m (pc + k) ls' (.int (mm_I x) :: rest)) → W p l e R s m args below meth c H locs cells slots Q (F0 m pc ls' rest))
    (r1 : ∀ (x : Int) (rest : List Value), w = 1 → ls'[i]? = some (.val (.long (mm_J x))) → W p l e R s m args below meth c H locs cells slots Q (F0 m (pc + k) ls' (.long (mm_J x) :: rest)) → W p l e R s m args below meth c H locs cells slots Q (F0 m pc ls' rest))
    (r2 : ∀ (x : Nat) (rest : List Value), w = 2 → ls'[i]? = some (.val (.ref x)) → W p l e R s m args below meth c H locs cells slots Q (F0 m (pc + k) ls' (.ref x :: rest)) → W p l e R s m args below meth c H locs cells slots Q (F0 m pc ls' rest))
    (hL : mm_L ad ls' ls) (hX : mm_X P DA nf D cl A s.heap ad n M H locs) (h : mm_ld pc ls st n M k i w = some τ) (kk : mm_KK p l e R s m args below meth c cells slots Q P DA nf D cl A ad n τ) : W p l e R s m args below meth c H locs cells slots Q (F0 m pc ls' (st.map (mm_cv ad))) := by
  unfold mm_ld at h
  split at h
  · rename_i q; cases h; exact r0 _ _ rfl (hL.2.2 _ _ q (by simp)) (mm_KK_s kk hL hX)
  · rename_i q; cases h; exact r1 _ _ rfl (hL.2.2 _ _ q (by simp)) (mm_KK_s kk hL hX)
  · rename_i q; cases h; exact r2 _ _ rfl (hL.2.2 _ _ q (by simp)) (mm_KK_s kk hL hX)
  · cases h
theorem mm_W_sto {k i w : Nat} (r0 : ∀ (x : Int) (rest : List Value), w = 0 → i < ls.length → (∀ l2 : Array Slot, lv_has l2 ls.length ((i, mm_cv ad (mm_i x)) :: (mm_ll ad ls).filter (fun q => !(q.1 == i) && !(q.1 + 1 == i && q.2.category == 2))) → W p l e R s m args below meth c H locs cells slots Q (F0 m (pc + k) l2 rest)) → W p l e R s m args below meth c H locs cells slots Q (F0 m pc ls' (.int (mm_I x) :: rest)))
    (r1 : ∀ (x : Int) (rest : List Value), w = 1 → i + 1 < ls.length → (∀ l2 : Array Slot, lv_has l2 ls.length ((i, mm_cv ad (mm_j x)) :: (mm_ll ad ls).filter (fun q => !(q.1 == i) && (!(q.1 == i + 1) && !(q.1 + 1 == i && q.2.category == 2)))) → W p l e R s m args below meth c H locs cells slots Q (F0 m (pc + k) l2 rest)) → W p l e R s m args below meth c H locs cells slots Q (F0 m pc ls' (.long (mm_J x) :: rest)))
    (r2 : ∀ (x : Nat) (rest : List Value), w = 2 → i < ls.length → (∀ l2 : Array Slot, lv_has l2 ls.length ((i, mm_cv ad (mm_r x)) :: (mm_ll ad ls).filter (fun q => !(q.1 == i) && !(q.1 + 1 == i && q.2.category == 2))) → W p l e R s m args below meth c H locs cells slots Q (F0 m (pc + k) l2 rest)) → W p l e R s m args below meth c H locs cells slots Q (F0 m pc ls' (.ref (ad x) :: rest)))
    (hX : mm_X P DA nf D cl A s.heap ad n M H locs) (h : mm_sto pc ls st n M k i w = some τ) (kk : mm_KK p l e R s m args below meth c cells slots Q P DA nf D cl A ad n τ) : W p l e R s m args below meth c H locs cells slots Q (F0 m pc ls' (st.map (mm_cv ad))) := by
  unfold mm_sto at h
  split at h
  · split at h
    · rename_i hi; cases h; exact r0 _ _ rfl hi fun l2 h2 => mm_KK_l kk (mm_L_st1 h2) hX
    · cases h
  · split at h
    · rename_i hi; cases h; exact r1 _ _ rfl hi fun l2 h2 => mm_KK_l kk (mm_L_st2 h2) hX
    · cases h
  · split at h
    · rename_i hi; cases h; exact r2 _ _ rfl hi fun l2 h2 => mm_KK_l kk (mm_L_st1 h2) hX
    · cases h
  · cases h
theorem mm_W_psh {v : mm_V} {pc' : Nat} (row : ∀ rest : List Value, W p l e R s m args below meth c H locs cells slots Q (F0 m pc' ls' (mm_cv ad v :: rest)) → W p l e R s m args below meth c H locs cells slots Q (F0 m pc ls' rest))
    (hL : mm_L ad ls' ls) (hX : mm_X P DA nf D cl A s.heap ad n M H locs) (h : some (pc', ls, v :: st, n, M) = some τ) (kk : mm_KK p l e R s m args below meth c cells slots Q P DA nf D cl A ad n τ) : W p l e R s m args below meth c H locs cells slots Q (F0 m pc ls' (st.map (mm_cv ad))) := by
  cases h; exact row _ (mm_KK_s kk hL hX)
theorem mm_W_iinc {i : Nat} {v : Int} (hx : p.tables.exec = Jvm.exec) (hb : c.code = cc) (hdg : decode cc pc = .ok (.iinc i v, 3)) {x : Int} (hi : ls[i]? = some (mm_i x))
    (hL : mm_L ad ls' ls) (hX : mm_X P DA nf D cl A s.heap ad n M H locs) (kk : mm_KK p l e R s m args below meth c cells slots Q P DA nf D cl A ad n (pc + 3, mm_st1 ls i (mm_i (x + v)), st, n, M)) : W p l e R s m args below meth c H locs cells slots Q (F0 m pc ls' (st.map (mm_cv ad))) := by
  have hl := (List.getElem?_eq_some_iff.mp hi).1
  obtain ⟨k, hk⟩ := List.getElem?_of_mem (mm_ll_mem (ad := ad) (q := (i, mm_cv ad (mm_i x))).mpr ⟨_, hi, by simp, rfl⟩)
  exact lv_iinc (v := mm_I (x + v)) hx hb hdg (mm_L_has.mp hL) hk (mm_I_add x v).symm hl rfl fun l2 h2 => mm_KK_l kk (mm_L_st1 (v := mm_i (x + v)) h2) hX
end
