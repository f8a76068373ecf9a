/-! ===== the claim out of a run of the mini machine; the skeleton's rows (R_law .. lw_At, lw_pre_spec, lw_frame) stand as printed, lw_walk, lw_comes, lw_limb with the launch's flag ===== -/
def R_law : String := "CellAreasLaw"
def lw_P (b : Addr) (xs : List Int32) (args : Array Value) (s : State) : Prop := args = #[.ref b] ∧ s.IntsAt b xs ∧ xs.length ≤ 3584 ∧ (Jvm.Cond.and given_1 narrow_1).before args s = true
def lw_Q (_ : Array Value) (s : State) (o : Outcome) (t : State) : Prop := o = .returned (some (.int 1)) ∧ Framed s o t [] 601024 7293034
def lw_Z (below : List Frame) (a : Array Value) (s : State) : State → Prop := fun t => ∃ o, t.status = .running ∧ Ended t below o ∧ lw_Q a s o t
/-- the law's own end, with 1 on the stack, nothing written that was there before, its room as the claim has it -/
theorem lw_ret {p : Program} {l : Launch} {e : Env} {s : State} {m : MethodId} {below : List Frame} {meth : Method} {c : Code} {b : Nat} (hx : p.tables.exec = Jvm.exec) (hb : c.code = code) (hr : meth.sig.returnType = ret) (hlocks : meth.locks = false) {pc : Nat} {H : Heap} {ls : Array Slot} (hdg : decode code pc = .ok (.ireturn, 1)) : W p l e room_1 s m #[Value.ref b] below meth c H [] 601024 7293034 (lw_Z below #[Value.ref b] s) (F0 m pc ls [.int 1]) := by
  intro T hT X
  obtain ⟨fs, hret, hrun, hended, hW, hframe⟩ := X.leave (v := some (.int 1)) (hlocks := hlocks) (fun h => by rw [hr] at h; cases h)
  have hmeth' : T.vm.method? m = some meth := X.method'
  refine ⟨T.setFrames fs, ?_, .returned (some (.int 1)), hrun, hended, rfl, ⟨_, rfl⟩, hW, hframe⟩
  jvm_step X.here [X.here.top, hx, hb, hdg, hmeth', hr, ret, narrow_b1]
  (try refine ⟨rfl, ?_⟩); (try refine ⟨rfl, ?_⟩)
  first | (intro acts; rw [hret _ acts rfl rfl rfl]) | rw [hret _ _ rfl rfl rfl]
  exact Steps.refl _
/-- what holds at the law's entry: the machine, the code, the tables' words (any of lw_tbl by 'hts w (by decide +kernel)'), the script of L ints xs at the cell b, what the Statement gives of the start (any of its parts by flat_of_before) -/
def lw_At (p : Program) (s : State) (m : MethodId) (meth : Method) (c : Code) (b L : Nat) (xs : Nat → Int32) : Prop :=
  p.tables.exec = Jvm.exec ∧ c.code = code ∧ meth.sig.returnType = ret ∧ c.maxLocals = 7 ∧ s.vm.findClass R_law = some m.cls ∧ (∀ w ∈ lw_tbl, w.before #[Value.ref b] s = true) ∧ va_X b L xs s s.heap ∧ b < s.heap.size ∧ meth.locks = false ∧ (Jvm.Cond.and given_1 narrow_1).before #[Value.ref b] s = true
def gl_M0 : mm_M := (fun _ _ => 0, fun _ _ => none, 0)
/-- what is owed of the mini machine: the law's run on every script -/
def gl_runs : Prop := ∀ (L : Nat) (xs : Int → Int), L ≤ 3584 → (∀ j, mr_rg (xs j)) → ∃ (f : Nat) (M' : mm_M), mm_ev (mt_P (L, xs)) f 199 (0, [mm_r mm_scr, mm_u, mm_u, mm_u, mm_u, mm_u, mm_u], [], 0, gl_M0) = some (.inl (some (mm_i 1)), 99, M') ∧ M'.2.2 ≤ 512
theorem gl_sl (sc : Nat × (Int → Int)) : mm_sl (mt_P sc) mt_nf 99 ≤ 2000000 := by
  have h : mm_sl (mt_P (0, fun _ => 0)) mt_nf 99 ≤ 2000000 := by decide +kernel
  have e : ∀ n, mm_sl (mt_P sc) mt_nf n = mm_sl (mt_P (0, fun _ => 0)) mt_nf n := by
    intro n
    induction n with
    | zero => rfl
    | succ n ih => show mm_sl (mt_P sc) mt_nf n + _ = _; rw [ih]; rfl
  rw [e]; exact h
theorem gl_w {w : Cond} {s : State} {args : Array Value} (hts : ∀ w ∈ lw_tbl, w.before args s = true) (h : w ∈ tables_1) : w.before args s = true := hts w (List.mem_append_right _ h)
theorem gl_i0 : Cond.initialized Bundle.tN ∈ tables_1 := List.mem_of_getElem? (i := 9) (by decide +kernel)
theorem gl_i1 : Cond.laysStatic Bundle.tN "UNASSIGNED_STACK" Bundle.steD ∈ tables_1 := List.mem_of_getElem? (i := 239) (by decide +kernel)
theorem gl_i2 : Cond.laysStatic Bundle.tN "SUPPRESSED_SENTINEL" Bundle.listD ∈ tables_1 := List.mem_of_getElem? (i := 241) (by decide +kernel)
theorem gl_i3 : Cond.arrayOver (.object mm_arC) ∈ tables_1 := List.mem_of_getElem? (i := 28) (by decide +kernel)
theorem gl_over {s : State} {args : Array Value} (hts : ∀ w ∈ lw_tbl, w.before args s = true) : (Cond.arrayOver (.object mm_arC)).before args s = true := gl_w hts gl_i3
theorem gl_inst {s : State} {args : Array Value} (hts : ∀ w ∈ lw_tbl, w.before args s = true) {c : Nat} {C : String} {T : u_T} {N : Nat} (h : mt_cl[c]? = some (C, T, N)) : (Cond.instantiable C N).before args s = true := by
  match c, h with
  | 0, h => cases h; exact gl_w hts (List.mem_of_getElem? (i := 36) (by decide +kernel))
  | 1, h => cases h; exact gl_w hts (List.mem_of_getElem? (i := 145) (by decide +kernel))
  | 2, h => cases h; exact gl_w hts (List.mem_of_getElem? (i := 30) (by decide +kernel))
  | 3, h => cases h; exact gl_w hts (List.mem_of_getElem? (i := 105) (by decide +kernel))
  | 4, h => cases h; exact gl_w hts (List.mem_of_getElem? (i := 130) (by decide +kernel))
  | 5, h => cases h; exact gl_w hts (List.mem_of_getElem? (i := 80) (by decide +kernel))
  | 6, h => cases h; exact gl_w hts (List.mem_of_getElem? (i := 20) (by decide +kernel))
  | 7, h => cases h; exact gl_w hts (List.mem_of_getElem? (i := 777) (by decide +kernel))
  | c + 8, h => exact absurd h (by simp [mt_cl])
theorem gl_K {s : State} {args : Array Value} (hts : ∀ w ∈ lw_tbl, w.before args s = true) : ∃ (D : va_G) (DA : FieldType → ClassId), va_K D mt_cl (mm_tys DA) s := by
  have hT : ∀ w ∈ mt_Ts, w.before args s = true := fun w hw => hts w (List.mem_filter.mp hw).1
  have h1 : ∀ c : Nat, ∃ x : ClassId × (Nat → Nat), ∀ q : vw_C, mt_cl[c]? = some q → u_Kn s q.1 q.2.1 q.2.2 x.1 x.2 := by
    intro c
    cases hq : mt_cl[c]? with
    | none => exact ⟨(0, fun _ => 0), fun q h => by cases h⟩
    | some q =>
      obtain ⟨C, T, N⟩ := q
      obtain ⟨-, -, hin, -⟩ := mt_Gc (0, fun _ => 0) c C T N hq
      obtain ⟨cC, iS, hk⟩ := u_known hT hin (gl_inst hts hq)
      exact ⟨(cC, iS), fun q h => by cases h; exact hk⟩
  have h2 : ∀ ty : FieldType, ∃ cA : ClassId, (ty = .int ∨ ty = .boolean ∨ ty = .long ∨ ty = .object mm_arC) → ArrOfT s cA ty ∧ va_RA s cA ty := by
    intro ty
    have prim : ∀ t : FieldType, (Cond.arrayClass t).before args s = true → (∀ cA, s.vm.findClass ("[" ++ t.toString) = some cA → va_RA s cA t) → ∃ cA : ClassId, ArrOfT s cA t ∧ va_RA s cA t := by
      intro t hw hr
      obtain ⟨c, k, comp, g1, g2, g3⟩ := Cond.arrayClass_spec hw
      exact ⟨c, fun n z => ⟨fun k h => (by cases h), k, g2, comp, g3⟩, hr c g1⟩
    by_cases hi : ty = .int
    · subst hi
      obtain ⟨cA, g⟩ := prim .int (hT _ (mt_Gn (0, fun _ => 0)).2.2.1) (fun _ h => h)
      exact ⟨cA, fun _ => g⟩
    by_cases hb : ty = .boolean
    · subst hb
      obtain ⟨cA, g⟩ := prim .boolean (hT _ (mt_Gn (0, fun _ => 0)).2.2.2.1) (fun _ h => h)
      exact ⟨cA, fun _ => g⟩
    by_cases hl : ty = .long
    · subst hl
      obtain ⟨cA, g⟩ := prim .long (hT _ (mt_Gn (0, fun _ => 0)).2.2.2.2.1) (fun _ h => h)
      exact ⟨cA, fun _ => g⟩
    by_cases ho : ty = .object mm_arC
    · subst ho
      obtain ⟨comp, c, k, g1, g2, g3, g4, g5⟩ := Cond.arrayOver_spec (gl_over hts)
      exact ⟨c, fun _ => ⟨fun n z => ⟨fun k h => (by cases h), k, g3, comp, g4⟩, k, comp, g3, g4, g1, g5⟩⟩
    exact ⟨0, fun h => by rcases h with h | h | h | h <;> contradiction⟩
  refine ⟨(fun c => (Classical.choose (h1 c)).1, fun c => (Classical.choose (h1 c)).2), fun ty => Classical.choose (h2 ty), fun c q hq => Classical.choose_spec (h1 c) q hq, fun k q hk => ?_⟩
  have ok : ∀ ty, (ty = .int ∨ ty = .boolean ∨ ty = .long ∨ ty = .object mm_arC) → ArrOfT s (Classical.choose (h2 ty)) ty ∧ va_RA s (Classical.choose (h2 ty)) ty := fun ty h => Classical.choose_spec (h2 ty) h
  match k, hk with
  | 0, hk => cases hk; exact ok _ (Or.inl rfl)
  | 1, hk => cases hk; exact ok _ (Or.inr (Or.inl rfl))
  | 2, hk => cases hk; exact ok _ (Or.inr (Or.inr (Or.inl rfl)))
  | 3, hk => cases hk; exact ok _ (Or.inr (Or.inr (Or.inr rfl)))
  | k + 4, hk => exact absurd hk (by simp [mm_tys])
theorem gl_F {s : State} {b L : Nat} {xs : Nat → Int32} (hts : ∀ w ∈ lw_tbl, w.before #[Value.ref b] s = true) (hX : va_X b L xs s s.heap) (hbl : b < s.heap.size) (hgv : (Jvm.Cond.and given_1 narrow_1).before #[Value.ref b] s = true) : mm_F (mt_P (L, fun j => (xs j.toNat).toInt)) mt_Nw mt_Nc b (fun q => s.heap.size ≤ q) s s.heap := by
  have hs := flat_of_before _ hgv
  have hA : ∀ a : Nat, a < s.heap.size → ¬ s.heap.size ≤ a := fun a h q => absurd h (Nat.not_lt.mpr q)
  refine ⟨?_, hbl, hA b hbl, vx_Zqof (gl_w hts gl_i1) (gl_w hts gl_i0) (hs _ (by decide +kernel)) hA, vx_Zqof (gl_w hts gl_i2) (gl_w hts gl_i0) (hs _ (by decide +kernel)) hA, va_AO.of (gl_over hts), fun w hw => ?_, fun q hq => ?_⟩
  · have e : (fun j : Nat => mm_I (((xs (j : Int).toNat)).toInt)) = xs := by
      funext j
      rw [mm_I_t, Int.toNat_natCast]
    show va_X b L (fun j : Nat => mm_I ((xs (j : Int).toNat).toInt)) s s.heap
    rw [e]; exact hX
  · have hm := List.mem_filter.mp hw
    have hon : w.onTables = true := by
      rcases mt_GN w hw with ⟨_, _, _, _, rfl⟩ | ⟨_, _, rfl⟩ | ⟨_, rfl⟩ <;> rfl
    exact va_Nw.of hon (hts w (List.mem_append_right _ hm.1))
  · simp only [mt_Nc, List.mem_cons, List.not_mem_nil, or_false] at hq
    rcases hq with rfl | rfl
    · exact va_Nc.of (hs _ (by decide +kernel))
    · exact va_Nc.of (hs _ (by decide +kernel))
theorem gl_me : mt_mt[199]? = some (8, 0, 1, 7, some .boolean, 10, 210) := mv199
theorem gl_start (hr : gl_runs) {p : Program} {e : Env} {s : State} {m : MethodId} {below : List Frame} {meth : Method} {c : Code} (l : Launch) (hst : l.stackTraces = false) (htab : c.exceptionTable.toList = []) {b L : Nat} {xs : Nat → Int32} (hL : L ≤ 3584) (C0 : lw_At p s m meth c b L xs) : W p l e room_1 s m #[Value.ref b] below meth c s.heap [] 0 0 (lw_Z below #[Value.ref b] s) (entryFrame m ([Value.ref b] : List Value).toArray 7) := by
  obtain ⟨hx, hb, hret, hml, hown, hts, hX, hbl, hlocks, hgv⟩ := C0
  obtain ⟨D, DA, hK⟩ := gl_K hts
  have hF := gl_F hts hX hbl hgv
  obtain ⟨f, M', hev, hk'⟩ := hr L (fun j => (xs j.toNat).toInt) hL (fun j => mr_rgI _)
  have hsl := gl_sl (L, fun j => (xs j.toNat).toInt)
  have hent : (mm_exp [mm_r mm_scr]).length ≤ 7 := by decide
  have hLL := mm_ent_L (ad := fun _ => b) (m := 7) (as := [mm_r mm_scr]) hent
  have K := mm_run (DA := DA) (D := D) (l := l) (mt_G (L, fun j => (xs j.toNat).toInt)) hst f 199 _ 0 [mm_r mm_scr, mm_u, mm_u, mm_u, mm_u, mm_u, mm_u] [] 0 gl_M0 _ 99 M' gl_me (by decide) hev ⟨fun v hv => ?_, fun v hv => (by cases hv), fun a k b h => (by cases h)⟩ rfl p e room_1 s m #[Value.ref b] below meth c ⟨hx, hb, hml, hown, hlocks, hret, fun q => absurd q (by decide), htab.trans rfl, fun w hw => hts w (List.mem_filter.mp hw).1⟩ 0 (fun _ => b) (fun q => s.heap.size ≤ q) s.heap [] (fun _ => b) _ 0 0 (99 + M'.2.2) (mm_sl (mt_P (L, fun j => (xs j.toNat).toInt)) mt_nf 99 + 6 * M'.2.2) hLL ⟨fun k q h => (by cases h), ⟨fun i j p q h => (by cases h), fun k q h => (by cases h)⟩, va_S.rf⟩ mm_ex_rf (Nat.le_refl _) hF (fun q h => h) hK ⟨?_, ?_⟩ ?_ ?_ (by decide) (by decide)
  · rw [lg_entry_eq]
    intro T hT X
    obtain ⟨t, a1, o, b1, b2, b3⟩ := K T hT X
    refine ⟨t, a1, o, b1, b2, ?_⟩
    rcases b3 with ⟨⟨v, ad', q1, q2, -⟩, Lo, ⟨g1, g2, g3⟩, g4⟩ | ⟨q, rfl, E, ce, Lo, ⟨x, ad', q1, -⟩, -⟩
    · cases q1
      refine ⟨q2, g1, g2, g3.weaken (fun y hy hlt => absurd hlt (Nat.not_lt.mpr (g4 y hy))) ?_ ?_⟩
      · omega
      · omega
    · cases q1
  · intro a h
    simp only [List.mem_cons, List.not_mem_nil, or_false] at hv
    rcases hv with rfl | rfl | rfl | rfl | rfl | rfl | rfl
    · cases h; exact Or.inr rfl
    all_goals cases h
  · show 0 + 99 + M'.2.2 ≤ 99 + M'.2.2 + 0 + 0; omega
  · show 0 + _ + 6 * M'.2.2 ≤ _ + 6 * M'.2.2 + 0 + 6 * 0; omega
  · show 99 + M'.2.2 ≤ 601024; omega
  · show _ + 6 * M'.2.2 ≤ 7293034; omega
set_option maxHeartbeats 4000000 in
theorem gl_walk (hr : gl_runs) (l : Launch) (hst : l.stackTraces = false) (b : Addr) (xs : List Int32) : MetFree l x (headSpec (Jvm.Cond.code x code maxLocals ret :: tables_1) room_1) (lw_P b xs) (fun _ _ _ _ _ => True) lw_Q := by
  refine MetFree.of_bodyS (code := code) (maxLocals := maxLocals) (ret := ret) (by decide) ?_ ?_
  · intro args s m h hn
    obtain ⟨meth, c, h1, h2, h3, h4, h5, h6, -, -⟩ := Cond.code_spec hn (atoms_spec (ws := Jvm.Cond.code x code maxLocals ret :: tables_1) h _ List.mem_cons_self)
    exact ⟨meth, c, h1, h2, h3, h4, h5, h6⟩
  · intro p e s m args below meth c s₁ B hml0 hP _
    obtain ⟨rfl, hx, hbd, hgv⟩ := hP
    obtain ⟨scr, harrAt, hlist, hof, hsmall⟩ := hx
    obtain ⟨hcb, hkn, -, -⟩ := State.arrayAt?_spec harrAt
    have hown : s.vm.findClass R_law = some m.cls := findClass_of_methodNamed B.named
    have hts0 : ∀ c ∈ (Jvm.Cond.code x code maxLocals ret :: tables_1), c.before #[Value.ref b] s = true := atoms_spec (ws := Jvm.Cond.code x code maxLocals ret :: tables_1) B.pre
    have hts : ∀ w ∈ lw_tbl, w.before #[Value.ref b] s = true := k2_hts_sels lw_privs (fun w hw => hts0 w (List.mem_cons_of_mem _ hw)) lw_privs_ok
    have hml : c.maxLocals = 7 := B.maxLocals_eq (hts0 _ List.mem_cons_self)
    have htab : c.exceptionTable.toList = [] := by
      obtain ⟨meth9, c9, h1, h2, -, -, -, -, h7, -⟩ := Cond.code_spec B.named (hts0 _ List.mem_cons_self)
      cases Option.some.inj (h1.symm.trans B.method)
      cases Option.some.inj (h2.symm.trans (Stand.of_body B).code)
      rw [Array.isEmpty_iff.mp h7]
    have X₀ : Stand p l e room_1 s m #[Value.ref b] below meth c s₁ [] 0 0 := Stand.of_body B
    have hh0 : s₁.heap = s.heap := by rw [B.state]; rfl
    have hsz : scr.slots.size = xs.length := by rw [← Array.length_toList, hlist, List.length_map]
    have hval : ∀ j : Nat, j < xs.length → scr.slots[j]? = some (.int (xs.getD j 0)) := fun j hj => by
      rw [← Array.getElem?_toList, hlist]
      simp [hj]
    have hbl : b < s.heap.size := (Array.getElem?_eq_some_iff.mp hcb).1
    have hX : va_X b xs.length (fun j => xs.getD j 0) s s.heap := ⟨scr, hcb, hof, hkn, hsz, hval⟩
    have K : W p l e room_1 s m #[Value.ref b] below meth c s₁.heap [] 0 0 (lw_Z below #[Value.ref b] s) (entryFrame m ([Value.ref b] : List Value).toArray 7) := by
      rw [hh0]
      exact gl_start hr l hst htab hbd ⟨B.exec, B.bytes, B.returns, hml, hown, hts, hX, hbl, B.notSynchronized, hgv⟩
    obtain ⟨t, a1, o, b1, b2, b3⟩ := K s₁ rfl X₀
    exact ⟨t, o, a1, b1, b2, b3⟩
theorem lw_pre_spec {args : Array Value} {s : State} (h : (Jvm.Cond.and given_1 narrow_1).before args s = true) (hr : rest_1_c.before args s = true) : ∃ (b : Addr) (xs : List Int32), lw_P b xs args s := by
  have hs := flat_of_before _ h
  have hq := flat_of_before _ hr
  have hc : (Cond.count 1).before args s = true := hs _ (by decide +kernel)
  have harr : (Cond.arrayOf (.arg 0) .int).before args s = true := hs _ (by decide +kernel)
  have hle : (Cond.le (.length (.arg 0)) (.int 3584)).before args s = true := hs _ (by decide +kernel)
  have hlen : (Cond.isInt (.length (.arg 0))).before args s = true := hq _ (by decide +kernel)
  have hall : (Cond.all (.arg 0) (.isInt (.elem (.arg 0) (.index 0)))).before args s = true := hq _ (by decide +kernel)
  obtain ⟨b, xs, hb, hx⟩ := State.ints_of_pre rfl harr hlen hall
  have hsm : xs.length < 2 ^ 31 := hx.choose_spec.2.2.2
  have hev : (Term.length (.arg 0)).eval args s none [] s = some (.int xs.length.toInt32) := hx.length_eval hb
  have hv := Cond.le_ints hev (show (Term.int 3584).eval args s none [] s = some (.int 3584) from rfl)
  have hd : xs.length.toInt32 ≤ 3584 := by
    simpa [Cond.before, Cond.holds, hv] using hle
  have hN : xs.length ≤ 3584 := (Int32.ofNat_le_ofNat hsm (by decide)).mp (show Int32.ofNat xs.length ≤ Int32.ofNat 3584 from hd)
  exact ⟨b, xs, Cond.one_arg hc (show args[0]? = some (.ref b) from hb), hx, hN, h⟩
theorem gl_comes (hr : gl_runs) (l : Launch) (hst : l.stackTraces = false) : Comes l x (Jvm.Cond.code x code maxLocals ret :: tables_1) room_1 (fun tb e args s => Calls_1 tb e args s ∧ rest_1 tb e args s ∧ Pre_1 tb e args s)
    (fun _ _ args s o t => lw_Q args s o t) := by
  intro p e ha hc hk s m args below hf hfit hheap happ hpre
  obtain ⟨b, xs, hP⟩ := lw_pre_spec hpre.2.2 hpre.2.1
  obtain ⟨k, o, h1, h2, h3, hQ⟩ := gl_walk hr l hst b xs p e ha hc hk s m args below hf ((Spec.applies_iff_loose hf).mp happ).1 hP trivial
  exact ⟨k, o, h1, h2, h3, hQ⟩
theorem lw_frame {s t : State} {o : Outcome} {args : Array Value} (h : Framed s o t [] 601024 7293034) :
    Framed s o t (fieldLocs frame_1_writes args s ++ arrayLocs frame_1_arrays args s ++ staticLocs frame_1_statics s) 601024 7293034 := h
theorem gl_limb (hr : gl_runs) (L : Cond) (hL : ∀ (args : Array Value) (s t : State), L.after args s (.returned (some (.int 1))) t = true) :
    ArmFor flags0 classFile x code maxLocals ret World_1 tables_1 room_1 Calls_1 rest_1 Pre_1
      (fun tb e a s o t => postC L tb e a s o t ∧ Framed s o t (fieldLocs frame_1_writes a s ++ arrayLocs frame_1_arrays a s ++ staticLocs frame_1_statics s) 601024 7293034) := by
  intro l hfl _ _ p e ha hc hk s m args below hf hfit hheap happ hpre
  obtain ⟨k, o, h1, h2, h3, rfl, hF⟩ := gl_comes hr l (by unfold Launch.stackTraces; rw [hfl]; decide) p e ha hc hk s m args below hf hfit hheap happ hpre
  exact ⟨k, _, h1, h2, h3, hL args s _, lw_frame hF⟩
theorem gl_vc (hr : gl_runs) : Claimed_1_1 ∧ Claimed_1_2 := ⟨gl_limb hr limb_1_1 (fun args s t => by simp [limb_1_1, Cond.after, Cond.holds, Cond.value]), gl_limb hr limb_1_2 (fun args s t => Cond.after_iff.mpr (by
  first | (rw [show limb_1_2 = Cond.eq .result (.int 1) from rfl, Cond.eq_ints (x := 1) (y := 1) rfl rfl]; simp; done) | (simp [limb_1_2, Cond.value, Term.eval]; done)))⟩
