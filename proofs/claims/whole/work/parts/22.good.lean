/-! ===== what the tables say is so, printed by wip/whole/gen_good.py ===== -/
def mt_Ts : List Cond := lw_tbl.filter goodWord
theorem mt_inT {w : Cond} (h : w ∈ tables_1) (hg : goodWord w = true) : w ∈ mt_Ts := List.mem_filter.mpr ⟨List.mem_append_right _ h, hg⟩
theorem mt_in {i : Nat} {w : Cond} (h : decide (tables_1[i]? = some w) = true) (hg : goodWord w = true) : w ∈ mt_Ts := mt_inT (List.mem_of_getElem? (of_decide_eq_true h)) hg
def mt_nw (w : Cond) : Bool := match w with
  | .methodLinkNest .. => true
  | .castable .. => true
  | .declares .. => true
  | _ => false
def mt_Nw : List Cond := tables_1.filter mt_nw
theorem mt_inN {i : Nat} {w : Cond} (h : decide (tables_1[i]? = some w) = true) (hg : mt_nw w = true) : w ∈ mt_Nw := List.mem_filter.mpr ⟨List.mem_of_getElem? (of_decide_eq_true h), hg⟩
def mt_Nc : List (String × String) := [("java/lang/IllegalArgumentException", "java/lang/IndexOutOfBoundsException"), ("java/lang/IndexOutOfBoundsException", "java/lang/IllegalArgumentException")]
def mt_xn (x : Nat) : String := if x = 1 then "java/lang/IndexOutOfBoundsException" else "java/lang/IllegalArgumentException"
def mt_cnf (c : Nat) : String := mt_cn.getD c ""
def mt_nmf (y : Nat) : MethodName := mt_nm.getD y ⟨"", "", ""⟩
def mt_byf (y : Nat) : ByteArray := mt_by.getD y ⟨#[]⟩
def mt_hhf (y : Nat) : List (Nat × Nat × Nat × Nat) := mt_hh.getD y []
def mt_nf (c : Nat) : Nat := ((mt_cl[c]?).map (·.2.2)).getD 0
theorem mt_look_mem {α : Type} {c i : Nat} {v : α} : ∀ L : List (Nat × Nat × α), mt_look L c i = some v → (c, i, v) ∈ L
  | [], h => by cases h
  | (c', i', v') :: r, h => by
    unfold mt_look at h
    split at h
    · rename_i hc
      simp only [Bool.and_eq_true, beq_iff_eq] at hc
      obtain ⟨rfl, rfl⟩ := hc
      cases h
      exact List.mem_cons_self
    · exact List.mem_cons_of_mem _ (mt_look_mem r h)
theorem mt_look_all {α : Type} {c i : Nat} {v : α} {L : List (Nat × Nat × α)} {p : Nat × Nat × α → Bool} (h : L.all p = true) (hl : mt_look L c i = some v) : p (c, i, v) = true := List.all_eq_true.mp h _ (mt_look_mem L hl)
theorem mt_find_mem {q : Nat} {v : Instr × Nat} : ∀ L : List (Nat × Instr × Nat), mt_find L q = some v → (q, v) ∈ L
  | [], h => by cases h
  | (q', i', n') :: r, h => by
    unfold mt_find at h
    split at h
    · rename_i hc
      simp only [beq_iff_eq] at hc
      subst hc
      cases h
      exact List.mem_cons_self
    · exact List.mem_cons_of_mem _ (mt_find_mem r h)
def mt_tyb (ty : FieldType) : Bool := match ty with
  | .int | .boolean | .long | .object _ | .array _ => true
  | _ => false
theorem mt_tyb_ok {ty : FieldType} (h : mt_tyb ty = true) : mm_tyok ty := by
  cases ty with
  | int => exact Or.inl rfl
  | boolean => exact Or.inr (Or.inl rfl)
  | long => exact Or.inr (Or.inr (Or.inl rfl))
  | object C => exact Or.inr (Or.inr (Or.inr (Or.inl ⟨C, rfl⟩)))
  | array t => exact Or.inr (Or.inr (Or.inr (Or.inr ⟨t, rfl⟩)))
  | _ => cases h
def mt_tyf (d k : Nat) : FieldType := (((mt_ft.getD d [])[k]?).map (·.1)).getD .int
def mt_cok (d : Nat) (C : String) (T : u_T) (N : Nat) (ui : List Nat) : Bool :=
  (List.range N).all (fun k => decide (tables_1[ui.getD k 0]? = some (u_lay C T k)) && goodWord (u_lay C T k) && decide (parseFieldDescriptor (T k).2.2.1 = some (mt_tyf d k)) && decide (((mt_ft.getD d [])[k]?).map (·.1) = some (mt_tyf d k)) && decide ((T k).2.2.2 = (((mt_ft.getD d [])[k]?).map (·.2)).getD false) && decide ((T k).1 = C) && mt_tyb (mt_tyf d k))
theorem mt_cls {sc : Nat × (Int → Int)} {d : Nat} {C : String} {T : u_T} {N : Nat} {ui : List Nat} (h : mt_cok d C T N ui = true) (h1 : mt_nf d = N) (h2 : mt_cnf d = C) (hn : ∀ a, a < N → ∀ b, b < N → a ≠ b → (T a).2.1 ≠ (T b).2.1) :
    mt_nf d = N ∧ mt_cnf d = C ∧ (∀ w ∈ u_ws C T N, w ∈ mt_Ts) ∧ ∃ ty : Nat → FieldType, (∀ k, k < N → parseFieldDescriptor (T k).2.2.1 = some (ty k)) ∧ (∀ a, a < N → ∀ b, b < N → a ≠ b → (T a).2.1 ≠ (T b).2.1) ∧ ∀ k, k < N → mm_ft (mt_P sc) d k = some (ty k) ∧ (T k).2.2.2 = mm_fi (mt_P sc) d k ∧ (T k).1 = C ∧ mm_tyok (ty k) := by
  unfold mt_cok at h
  have g : ∀ k, k < N → _ := fun k hk => List.all_eq_true.mp h k (List.mem_range.mpr hk)
  simp only [Bool.and_eq_true, decide_eq_true_eq] at g
  refine ⟨h1, h2, fun w hw => ?_, mt_tyf d, fun k hk => (g k hk).1.1.1.1.2, hn, fun k hk => ⟨(g k hk).1.1.1.2, (g k hk).1.1.2, (g k hk).1.2, mt_tyb_ok (g k hk).2⟩⟩
  obtain ⟨k, hk, rfl⟩ := List.mem_map.mp hw
  have q := g k (List.mem_range.mp hk)
  exact mt_inT (List.mem_of_getElem? q.1.1.1.1.1.1) q.1.1.1.1.1.2
theorem mt_cok0 : mt_cok 0 "CellAreas$Area" mt_T0 6 [65, 67, 69, 71, 73, 75] = true := by decide +kernel
theorem mt_nd0 : ∀ a, a < 6 → ∀ b, b < 6 → a ≠ b → (mt_T0 a).2.1 ≠ (mt_T0 b).2.1 := by decide +kernel
theorem mt_cok1 : mt_cok 1 "CellAreas$BestBox" mt_T1 5 [160, 162, 164, 166, 168] = true := by decide +kernel
theorem mt_nd1 : ∀ a, a < 5 → ∀ b, b < 5 → a ≠ b → (mt_T1 a).2.1 ≠ (mt_T1 b).2.1 := by decide +kernel
theorem mt_cok2 : mt_cok 2 "CellAreas$Builder" mt_T2 3 [95, 97, 99] = true := by decide +kernel
theorem mt_nd2 : ∀ a, a < 3 → ∀ b, b < 3 → a ≠ b → (mt_T2 a).2.1 ≠ (mt_T2 b).2.1 := by decide +kernel
theorem mt_cok3 : mt_cok 3 "CellAreas$Loops" mt_T3 5 [118, 120, 122, 124, 126] = true := by decide +kernel
theorem mt_nd3 : ∀ a, a < 5 → ∀ b, b < 5 → a ≠ b → (mt_T3 a).2.1 ≠ (mt_T3 b).2.1 := by decide +kernel
theorem mt_cok4 : mt_cok 4 "CellAreas$Parts" mt_T4 2 [139, 141] = true := by decide +kernel
theorem mt_nd4 : ∀ a, a < 2 → ∀ b, b < 2 → a ≠ b → (mt_T4 a).2.1 ≠ (mt_T4 b).2.1 := by decide +kernel
theorem mt_cok5 : mt_cok 5 "CellAreas$Row" mt_T5 1 [86] = true := by decide +kernel
theorem mt_nd5 : ∀ a, a < 1 → ∀ b, b < 1 → a ≠ b → (mt_T5 a).2.1 ≠ (mt_T5 b).2.1 := by decide +kernel
theorem mt_cok6 : mt_cok 6 "CellAreas" mt_T6 9 [181, 183, 185, 187, 189, 191, 193, 195, 197] = true := by decide +kernel
theorem mt_nd6 : ∀ a, a < 9 → ∀ b, b < 9 → a ≠ b → (mt_T6 a).2.1 ≠ (mt_T6 b).2.1 := by decide +kernel
theorem mt_cok7 : mt_cok 7 "CellAreasModel" mt_T7 47 [832, 834, 836, 838, 840, 842, 844, 846, 848, 850, 852, 854, 856, 858, 860, 862, 864, 866, 868, 870, 872, 874, 876, 878, 880, 882, 884, 886, 888, 890, 892, 894, 896, 898, 900, 902, 904, 906, 908, 910, 912, 914, 916, 918, 920, 922, 924] = true := by decide +kernel
theorem mt_nd7 : ∀ a, a < 47 → ∀ b, b < 47 → a ≠ b → (mt_T7 a).2.1 ≠ (mt_T7 b).2.1 := by decide +kernel
theorem mt_Gc (sc : Nat × (Int → Int)) : mm_Gc (mt_P sc) mt_nf mt_cl mt_Ts mt_cnf := by
  intro d C T N h
  match d, h with
  | 0, h => cases h; exact mt_cls mt_cok0 (by decide +kernel) (by decide +kernel) mt_nd0
  | 1, h => cases h; exact mt_cls mt_cok1 (by decide +kernel) (by decide +kernel) mt_nd1
  | 2, h => cases h; exact mt_cls mt_cok2 (by decide +kernel) (by decide +kernel) mt_nd2
  | 3, h => cases h; exact mt_cls mt_cok3 (by decide +kernel) (by decide +kernel) mt_nd3
  | 4, h => cases h; exact mt_cls mt_cok4 (by decide +kernel) (by decide +kernel) mt_nd4
  | 5, h => cases h; exact mt_cls mt_cok5 (by decide +kernel) (by decide +kernel) mt_nd5
  | 6, h => cases h; exact mt_cls mt_cok6 (by decide +kernel) (by decide +kernel) mt_nd6
  | 7, h => cases h; exact mt_cls mt_cok7 (by decide +kernel) (by decide +kernel) mt_nd7
  | d + 8, h => exact absurd h (by simp [mt_cl])
def mt_fw (e : Nat × Nat × Nat × Nat × Nat) : Bool := match mt_cl[e.2.2.1]? with
  | some (C, T, N) => decide (e.2.2.2.1 < N) && decide (tables_1[e.2.2.2.2]? = some (Cond.fieldLink (mt_cnf e.1) e.2.1 C (T e.2.2.2.1).2.1 (T e.2.2.2.1).2.2.1))
  | none => false
theorem mt_lfok : mt_lf.all mt_fw = true := by decide +kernel
theorem mt_Gf (sc : Nat × (Int → Int)) : mm_Gf (mt_P sc) mt_cl mt_Ts mt_cnf := by
  intro c idx d k h
  obtain ⟨v, h1, h2⟩ := Option.map_eq_some_iff.mp (show (mt_look mt_lf c idx).map (fun v => (v.1, v.2.1)) = some (d, k) from h)
  cases h2
  have g := mt_look_all mt_lfok h1
  unfold mt_fw at g
  simp only at g
  split at g
  · rename_i C T N hc
    simp only [Bool.and_eq_true] at g
    exact ⟨C, T, N, hc, of_decide_eq_true g.1, mt_in g.2 rfl⟩
  · cases g
theorem mt_lcok : mt_lc.all (fun e => decide (tables_1[e.2.2.2]? = some (Cond.constant (mt_cnf e.1) e.2.1 (mm_I e.2.2.1)))) = true := by decide +kernel
theorem mt_ljok : mt_lj.all (fun e => decide (tables_1[e.2.2.2]? = some (Cond.constantLong (mt_cnf e.1) e.2.1 (mm_J e.2.2.1)))) = true := by decide +kernel
theorem mt_Gk (sc : Nat × (Int → Int)) : mm_Gk (mt_P sc) mt_Ts mt_cnf := by
  constructor
  · intro c idx v h
    obtain ⟨w, h1, h2⟩ := Option.map_eq_some_iff.mp (show (mt_look mt_lc c idx).map (·.1) = some v from h)
    cases h2
    exact mt_in (mt_look_all mt_lcok h1) rfl
  · intro c idx v h
    obtain ⟨w, h1, h2⟩ := Option.map_eq_some_iff.mp (show (mt_look mt_lj c idx).map (·.1) = some v from h)
    cases h2
    exact mt_in (mt_look_all mt_ljok h1) rfl
def mt_ii : List (Nat × Nat) := [(36, 3), (145, 7), (30, 2), (105, 5), (130, 6), (80, 4), (20, 1), (777, 8)]
def mt_nwd (e : Nat × Nat × Nat × Nat) : Bool := match mt_cl[e.2.2.1]? with
  | some (C, T, N) => decide (tables_1[e.2.2.2]? = some (Cond.classLink (mt_cnf e.1) e.2.1 C)) && decide (tables_1[(mt_ii.getD e.2.2.1 (0, 0)).1]? = some (Cond.instantiable C N)) && decide (tables_1[(mt_ii.getD e.2.2.1 (0, 0)).2]? = some (Cond.initialized C))
  | none => false
theorem mt_lnok : mt_ln.all mt_nwd = true := by decide +kernel
theorem mt_laok : mt_la.all (fun e => decide (tables_1[e.2.2.2]? = some (Cond.classLink (mt_cnf e.1) e.2.1 mm_arC))) = true := by decide +kernel
def mt_kb (k : mm_K) : Bool := match k with
  | .inl _ => true
  | .inr (t, _) => decide (t = .int) || decide (t = .boolean) || decide (t = .long) || decide (t = .object mm_arC)
theorem mt_kdok : mt_kd.all mt_kb = true := by decide +kernel
theorem mt_Gt (sc : Nat × (Int → Int)) : mm_Gt (mt_P sc) := by
  intro a ty k h
  have g := List.all_eq_true.mp mt_kdok _ (List.mem_of_getElem? (show mt_kd[a]? = some _ from h))
  simp only [mt_kb, Bool.or_eq_true, decide_eq_true_eq] at g
  rcases g with ((g | g) | g) | g
  · exact Or.inl g
  · exact Or.inr (Or.inl g)
  · exact Or.inr (Or.inr (Or.inl g))
  · exact Or.inr (Or.inr (Or.inr g))
theorem mt_Gn (sc : Nat × (Int → Int)) : mm_Gn (mt_P sc) mt_cl mt_Ts mt_cnf := by
  refine ⟨?_, ?_, mt_in (i := 78) (by decide +kernel) rfl, mt_in (i := 927) (by decide +kernel) rfl, mt_in (i := 89) (by decide +kernel) rfl, ⟨mt_T0, 6, rfl⟩, ?_⟩
  · intro c idx d h
    obtain ⟨v, h1, h2⟩ := Option.map_eq_some_iff.mp (show (mt_look mt_ln c idx).map (·.1) = some d from h)
    cases h2
    have g := mt_look_all mt_lnok h1
    unfold mt_nwd at g
    simp only at g
    split at g
    · rename_i C T N hc
      simp only [Bool.and_eq_true] at g
      exact ⟨C, T, N, hc, mt_in g.1.1 rfl, mt_in g.1.2 rfl, mt_in g.2 rfl⟩
    · cases g
  · intro c idx h
    obtain ⟨v, h1, h2⟩ := Option.map_eq_some_iff.mp (show (mt_look mt_la c idx).map (·.1) = some 0 from h)
    exact mt_in (mt_look_all mt_laok h1) rfl
  · intro a C m h
    rcases mt_Gt sc a _ _ h with g | g | g | g
    · cases g
    · cases g
    · cases g
    · cases g; rfl
theorem mt_GN : mm_GN mt_Nw := by
  intro w hw
  have g := (List.mem_filter.mp hw).2
  unfold mt_nw at g
  split at g
  · exact Or.inl ⟨_, _, _, _, rfl⟩
  · exact Or.inr (Or.inl ⟨_, _, rfl⟩)
  · exact Or.inr (Or.inr ⟨_, rfl⟩)
  · cases g
