/-! ===== a run of the mini machine is a run of the machine ===== -/
section
variable (P : mm_P) (DA : FieldType → ClassId) (nf : Nat → Nat) (D : va_G) (cl : List vw_C) (Ts Nw : List Cond) (Nc : List (String × String)) (xn cn : Nat → String) (nm : Nat → MethodName) (by_ : Nat → ByteArray) (hh : Nat → List (Nat × Nat × Nat × Nat)) (l : Launch)
/-- a method's own word -/
def mm_cw (y : Nat) (me : mm_E) : Cond := if hh y = [] then .code (nm y) (by_ y) me.2.2.2.1 me.2.2.2.2.1 else .codeWith (nm y) (by_ y) me.2.2.2.1 me.2.2.2.2.1 (hh y)
def mm_Gm : Prop := ∀ c0 i0 y me, mm_lm P c0 i0 = some y → mm_mt P y = some me → me.2.1 < 10 → plainName (nm y).cls = true ∧ (nm y).cls = cn me.1 ∧ mm_cw nm by_ hh y me ∈ Ts ∧ (nm y).cls ≠ "java/lang/invoke/MethodHandle" ∧ (nm y).cls ≠ "java/lang/invoke/VarHandle" ∧ (parseMethodDescriptor (nm y).desc).map (fun d => d.parameters.length) = some me.2.2.1 ∧ Cond.initialized (nm y).cls ∈ Ts ∧
  (me.2.1 = 0 → Cond.static (nm y) ∈ Ts) ∧ (me.2.1 = 1 → Cond.instanceMethod (nm y) ∈ Ts ∧ Cond.selects (cn me.1) (nm y) (nm y) ∈ Ts ∧ hh y = []) ∧ (me.2.1 = 2 → (nm y).name = "<init>" ∧ Cond.instanceMethod (nm y) ∈ Ts ∧ me.2.2.2.2.1 = none ∧ hh y = []) ∧ (me.2.1 = 1 ∨ me.2.1 = 2 → ∃ T N, cl[me.1]? = some (cn me.1, T, N))
def mm_bn (k : Nat) : MethodName := if k = 10 then Lib.objectInit else if k = 11 then Lib.Math.max.name else if k = 12 then Lib.Math.min.name else if k = 13 then Lib.Math.abs.name else arraycopyName
def mm_Gl : Prop := ∀ c idx z mz, mm_lm P c idx = some z → mm_mt P z = some mz → (mz.2.1 < 10 → Cond.methodLink (cn c) idx (nm z) ∈ Ts ∨ (mz.2.1 = 2 ∧ ∃ host, Cond.methodLinkNest (cn c) idx (nm z) host ∈ Nw)) ∧ (10 ≤ mz.2.1 → Cond.methodLink (cn c) idx (mm_bn mz.2.1) ∈ Ts)
def mm_Gb : Prop := Cond.instanceMethod Lib.objectInit ∈ Ts ∧ Cond.code Lib.objectInit ⟨#[0xb1]⟩ 1 none ∈ Ts ∧ Cond.initialized "java/lang/Math" ∈ Ts ∧ Cond.static Lib.Math.max.name ∈ Ts ∧ Cond.code Lib.Math.max.name Lib.Math.max.code 2 (some .int) ∈ Ts ∧ Cond.static Lib.Math.min.name ∈ Ts ∧ Cond.code Lib.Math.min.name Lib.Math.min.code 2 (some .int) ∈ Ts ∧ Cond.static Lib.Math.abs.name ∈ Ts ∧ Cond.code Lib.Math.abs.name Lib.Math.abs.code 1 (some .int) ∈ Ts ∧ Cond.native arraycopyName ∈ Ts ∧ Cond.static arraycopyName ∈ Ts ∧ Cond.initialized "java/lang/System" ∈ Ts
/-- caught: by that row, the ones ahead don't take it; not caught: none takes it -/
def mm_ps (c pc x : Nat) (z : ExceptionTableEntry) : Prop := covers z pc = false ∨ (z.catchType ≠ 0 ∧ ∃ nm : String, Cond.classLink (cn c) z.catchType nm ∈ Ts ∧ (xn x, nm) ∈ Nc)
def mm_Gh : Prop := ∀ y me pc x, mm_mt P y = some me → (mm_hd P y pc x = none → x < 100 → ∀ z ∈ tableOf (hh y), mm_ps Ts Nc xn cn me.1 pc x z) ∧
  ∀ h, mm_hd P y pc x = some h → ∃ pre z suf name, tableOf (hh y) = pre ++ z :: suf ∧ (∀ z ∈ pre, mm_ps Ts Nc xn cn me.1 pc x z) ∧ covers z pc = true ∧ z.catchType ≠ 0 ∧ z.handlerPc = h ∧ Cond.classLink (cn me.1) z.catchType name ∈ Ts ∧ Cond.castable (xn x) name ∈ Nw
def mm_nms : List String := ["java/lang/RuntimeException", "java/lang/Exception"]
def mm_Gx : Prop := (∀ y me idx x, mm_mt P y = some me → mm_lt P me.1 idx = some x → hh y = []) ∧ ∀ c idx ic x, mm_lt P c idx = some x → mm_lt P c ic = some (x + 100) → x < 100 ∧ Bundle.fit (xn x) = true ∧ Cond.classLink (cn c) idx (xn x) ∈ Ts ∧ Cond.initialized (xn x) ∈ Ts ∧ (∀ w ∈ vx_at0 (cn c) ic (xn x) mm_nms, w ∈ Ts ∨ w ∈ Nw) ∧ ∀ w ∈ Cond.classLink (cn c) idx (xn x) :: Cond.initialized (xn x) :: vx_at0 (cn c) ic (xn x) mm_nms, vx_ot w = true
def mm_Gt : Prop := ∀ a ty k, mm_kd P a = some (.inr (ty, k)) → ty = .int ∨ ty = .boolean ∨ ty = .long ∨ ty = .object mm_arC
def mm_Gd : Prop := ∀ y pc i len, mm_co P y pc = some (i, len) → decode (by_ y) pc = .ok (i, len)
/-- all that is asked of the tables -/
def mm_Gall : Prop := mm_Gc P nf cl Ts cn ∧ mm_Gf P cl Ts cn ∧ mm_Gk P Ts cn ∧ mm_Gn P cl Ts cn ∧ mm_GN Nw ∧ mm_Gm P cl Ts cn nm by_ hh ∧ mm_Gl P Ts Nw cn nm ∧ mm_Gb Ts ∧ mm_Gh P Ts Nw Nc xn cn hh ∧ mm_Gx P Ts Nw xn cn hh ∧ mm_Gt P ∧ mm_Gd P by_ ∧ (Ts.all goodWord = true)
def mm_C (y : Nat) (me : mm_E) (p : Program) (s : State) (m : MethodId) (args : Array Value) (meth : Method) (c : Code) : Prop :=
  p.tables.exec = Jvm.exec ∧ c.code = by_ y ∧ c.maxLocals = me.2.2.2.1 ∧ s.vm.findClass (cn me.1) = some m.cls ∧ meth.locks = false ∧ meth.sig.returnType = me.2.2.2.2.1 ∧ (me.2.1 = 2 → meth.name = "<init>") ∧ c.exceptionTable.toList = tableOf (hh y) ∧ (∀ w ∈ Ts, w.before args s = true)
/-- the counts fit -/
def mm_ct (nf : Nat → Nat) (cells slots mc ms n n' : Nat) (M M' : mm_M) : Prop := cells + n' + M'.2.2 ≤ mc + n + M.2.2 ∧ slots + mm_sl P nf n' + 6 * M'.2.2 ≤ ms + mm_sl P nf n + 6 * M.2.2
def mm_RUN (f : Nat) : Prop := ∀ (y : Nat) (me : mm_E) (pc : Nat) (ls st : List mm_V) (n : Nat) (M : mm_M) (r : mm_R) (n' : Nat) (M' : mm_M), mm_mt P y = some me → me.2.1 < 10 → mm_ev P f y (pc, ls, st, n, M) = some (r, n', M') → mm_sok (pc, ls, st, n, M) → ls.length = me.2.2.2.1 →
  ∀ (p : Program) (e : Env) (R : Room) (s : State) (m : MethodId) (args : Array Value) (below : List Frame) (meth : Method) (c : Code), mm_C Ts cn by_ hh y me p s m args meth c →
  ∀ (n0 : Nat) (ad0 : Nat → Nat) (A : Nat → Prop) (H : Heap) (locs : List Loc) (ad : Nat → Nat) (ls' : Array Slot) (cells slots mc ms : Nat), mm_L ad ls' ls → mm_X P DA nf D cl A s.heap ad n M H locs → mm_ex n0 ad0 ad → n0 ≤ n → mm_F P Nw Nc (ad mm_scr) A s s.heap → (∀ q, s.heap.size ≤ q → A q) → va_K D cl (mm_tys DA) s → mm_ct P nf cells slots mc ms n n' M M' → mc ≤ R.cells → ms ≤ R.slots → me.2.2.2.2.2.1 ≤ R.frames → me.2.2.2.2.2.2 ≤ R.locals →
  W p l e R s m args below meth c H locs cells slots (vx_MQ below (mm_Qc P DA nf D cl r n0 ad0 n' M' A) (mm_XC P DA nf D cl xn r n0 ad0 n' M' A) args s mc ms A) (F0 m pc ls' (st.map (mm_cv ad)))
end
section
variable {P : mm_P} {DA : FieldType → ClassId} {nf : Nat → Nat} {D : va_G} {cl : List vw_C} {Ts Nw : List Cond} {Nc : List (String × String)} {xn cn : Nat → String} {nm : Nat → MethodName} {by_ : Nat → ByteArray} {hh : Nat → List (Nat × Nat × Nat × Nat)} {l : Launch}
/-- the contract of a call, out of the run -/
theorem mm_met (hG : mm_Gall P nf cl Ts Nw Nc xn cn nm by_ hh) {f : Nat} (hR : mm_RUN P DA nf D cl Ts Nw Nc xn cn by_ hh l f) {z : Nat} {mz : mm_E} {as : List mm_V} {n : Nat} {M : mm_M} {r : mm_R} {n' : Nat} {M' : mm_M} {ad : Nat → Nat} {sz : Nat} {c0 i0 : Nat} (hlm : mm_lm P c0 i0 = some z) (hz : mm_mt P z = some mz) (hk : mz.2.1 < 10) (he : mm_ev P f z (0, mm_ent mz.2.2.2.1 as, [], n, M) = some (r, n', M')) (hok : ∀ v ∈ as, mm_vok n v) (hmk : mm_mok n M) (hexp : (mm_exp as).length ≤ mz.2.2.2.1) :
    vx_Met l (nm z) (mm_cw nm by_ hh z mz :: Ts) { frames := mz.2.2.2.2.2.1, cells := (n' - n) + (M'.2.2 - M.2.2), slots := (mm_sl P nf n' - mm_sl P nf n) + 6 * (M'.2.2 - M.2.2), locals := mz.2.2.2.2.2.2 } (mm_Pc P DA nf D cl Nw Nc ad n M as sz) (mm_Qc P DA nf D cl r n ad n' M' (va_A (mm_w P DA nf ad n M) sz)) (mm_XC P DA nf D cl xn r n ad n' M' (va_A (mm_w P DA nf ad n M) sz)) ((n' - n) + (M'.2.2 - M.2.2)) ((mm_sl P nf n' - mm_sl P nf n) + 6 * (M'.2.2 - M.2.2)) (va_A (mm_w P DA nf ad n M) sz) := by
  obtain ⟨hGc, hGf, hGk, hGn, hGN, hGm, hGl, hGb, hGh, hGx, hGt, hGd, hgood⟩ := hG
  obtain ⟨m1, m2, m3, m4, m5, m6, m7, m8, m9, m10, m11⟩ := hGm c0 i0 z mz hlm hz hk
  have hkp := mm_ev_kp P f z _ _ _ _ he
  have h1 : n ≤ n' := hkp.1
  have h2 : M.2.2 ≤ M'.2.2 := hkp.2.1
  have hslm : ∀ a b, a ≤ b → mm_sl P nf a ≤ mm_sl P nf b := by
    intro a b hab
    induction hab with
    | refl => exact Nat.le_refl _
    | step _ ih => exact Nat.le_trans ih (Nat.le_add_right _ _)
  have h3 := hslm n n' h1
  have go : ∀ (p : Program) (e : Env) (s : State) (m : MethodId) (args : Array Value) (below : List Frame) (meth : Method) (c : Code), mm_C Ts cn by_ hh z mz p s m args meth c → mm_Pc P DA nf D cl Nw Nc ad n M as sz args s → W p l e { frames := mz.2.2.2.2.2.1, cells := (n' - n) + (M'.2.2 - M.2.2), slots := (mm_sl P nf n' - mm_sl P nf n) + 6 * (M'.2.2 - M.2.2), locals := mz.2.2.2.2.2.2 } s m args below meth c s.heap [] 0 0 (vx_MQ below (mm_Qc P DA nf D cl r n ad n' M' (va_A (mm_w P DA nf ad n M) sz)) (mm_XC P DA nf D cl xn r n ad n' M' (va_A (mm_w P DA nf ad n M) sz)) args s ((n' - n) + (M'.2.2 - M.2.2)) ((mm_sl P nf n' - mm_sl P nf n) + 6 * (M'.2.2 - M.2.2)) (va_A (mm_w P DA nf ad n M) sz)) (entryFrame m args mz.2.2.2.1) := by
    intro p e s m args below meth c hC hv
    obtain ⟨rfl, hsz, hP, hK, hD0, hF⟩ := hv
    subst hsz
    rw [lg_entry_eq]
    exact hR z mz 0 _ [] n M r n' M' hz hk he ⟨mm_ent_ok hok, fun v hv => (by cases hv), hmk⟩ (mm_ent_len hexp) p e _ s m _ below meth c hC n ad _ s.heap [] ad _ 0 0 _ _ (mm_ent_L hexp) ⟨hP, hD0.self, va_S.rf⟩ mm_ex_rf (Nat.le_refl _) hF (fun q h => Or.inr h) hK ⟨by omega, by omega⟩ (Nat.le_refl _) (Nat.le_refl _) (Nat.le_refl _) (Nat.le_refl _)
  by_cases hhz : hh z = []
  · have hcw : mm_cw nm by_ hh z mz = .code (nm z) (by_ z) mz.2.2.2.1 mz.2.2.2.2.1 := by unfold mm_cw; rw [if_pos hhz]
    rw [hcw]
    refine vx_ofW (cc := by_ z) (maxL := mz.2.2.2.1) (ret := mz.2.2.2.2.1) m1 rfl ?_
    intro p e s m args below meth c s₁ B hml ht hv
    refine go p e s m args below meth c ⟨B.exec, B.bytes, hml, ?_, B.notSynchronized, B.returns, fun q => ?_, ?_, fun w hw => atoms_spec B.pre w (List.mem_cons_of_mem _ hw)⟩ hv
    · rw [← m2]; exact findClass_of_methodNamed B.named
    · rw [(name_of_methodNamed B.named B.method).1]; exact (m10 q).1
    · rw [hhz]
      cases hq : c.exceptionTable.toList with
      | nil => rfl
      | cons a b => exact absurd (ht a (by rw [hq]; exact List.mem_cons_self)) id
  · have hcw : mm_cw nm by_ hh z mz = .codeWith (nm z) (by_ z) mz.2.2.2.1 mz.2.2.2.2.1 (hh z) := by unfold mm_cw; rw [if_neg hhz]
    rw [hcw]
    refine vx_ofWH (cc := by_ z) (maxL := mz.2.2.2.1) (ret := mz.2.2.2.2.1) (hh := hh z) m1 rfl ?_
    intro p e s m args below meth c s₁ B hml hv
    refine go p e s m args below meth c ⟨B.exec, B.bytes, hml, ?_, B.notSynchronized, B.returns, fun q => ?_, ?_, fun w hw => atoms_spec B.pre w (List.mem_cons_of_mem _ hw)⟩ hv
    · rw [← m2]; exact findClass_of_methodNamed B.named
    · rw [(name_of_methodNamed B.named B.method).1]; exact (m10 q).1
    · exact vx_table (x := nm z) B (atoms_spec B.pre _ List.mem_cons_self)
end
