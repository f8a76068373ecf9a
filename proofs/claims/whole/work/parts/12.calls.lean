section
variable {P : mm_P} {DA : FieldType → ClassId} {nf : Nat → Nat} {D : va_G} {cl : List vw_C} {Ts Nw : List Cond} {Nc : List (String × String)} {xn cn : Nat → String} {nm : Nat → MethodName} {by_ : Nat → ByteArray} {hh : Nat → List (Nat × Nat × Nat × Nat)} {l : Launch}
variable {p : Program} {e : Env} {R : Room} {s : State} {m : MethodId} {args : Array Value} {below : List Frame} {meth : Method} {c : Code} {H : Heap} {locs : List Loc} {cells slots : Nat}
theorem mm_sl_mono (P : mm_P) (nf : Nat → Nat) {a b : Nat} (hab : a ≤ b) : mm_sl P nf a ≤ mm_sl P nf b := by
  induction hab with
  | refl => exact Nat.le_refl _
  | step _ ih => exact Nat.le_trans ih (Nat.le_add_right _ _)
theorem mm_good_in {z : Nat} {mz : mm_E} (hgood : Ts.all goodWord = true) (hz : mm_cw nm by_ hh z mz ∈ Ts) : GoodIn Ts (mm_cw nm by_ hh z mz :: Ts) := by
  refine goodIn_sub (fun w hw => ?_) ?_
  · rcases List.mem_cons.mp hw with rfl | h
    · exact hz
    · exact h
  · rw [List.all_cons, hgood, Bool.and_true]
    exact List.all_eq_true.mp hgood _ hz
theorem mm_met_v {y : MethodName} {ws : List Cond} {rm : Room} {Pc : Array Value → State → Prop} {Qc : Array Value → State → Outcome → State → Prop} {XC : String → State → State → Prop} {mc ms : Nat} {free : Addr → Prop} (h : vx_Met l y ws rm Pc Qc XC mc ms free) (hx : ∀ E st t, ¬ XC E st t) : Met l y ws rm Pc Qc mc ms free :=
  MetFree.mono h (fun _ _ q => q) (fun _ _ _ _ _ q => q) (fun a s0 o t _ q => by
    rcases q with q | ⟨q, -, E, ce, L, h1, -⟩
    · exact q
    · exact absurd h1 (hx _ _ _))
/-- the call itself -/
theorem mm_crun (hG : mm_Gall P nf cl Ts Nw Nc xn cn nm by_ hh) {f : Nat} (hRf : mm_RUN P DA nf D cl Ts Nw Nc xn cn by_ hh l f) {y z idx w : Nat} {me mz : mm_E} {as rr ls : List mm_V} {pc n n1 : Nat} {M M1 : mm_M} {r1 : mm_R} {ad : Nat → Nat} {A : Nat → Prop} {ls' : Array Slot} {i : Instr}
    (hz : mm_mt P z = some mz) (hb10 : ¬ 10 ≤ mz.2.1) (hw : mz.2.1 = w) (hiv : mm_iv i = some (w, idx)) (hlm : mm_lm P me.1 idx = some z) (hlen : as.length = mz.2.2.1 + (if w = 0 then 0 else 1)) (hcok : mm_cok P w me mz as rr n = true) (hnt : ∀ x, r1 = .inr x → mz.2.1 ≠ 2) (he : mm_ev P f z (0, mm_ent mz.2.2.2.1 as, [], n, M) = some (r1, n1, M1))
    (hasok : ∀ v ∈ as, mm_vok n v) (hmk : mm_mok n M) (hC : mm_C Ts cn by_ hh y me p s m args meth c) (hL : mm_L ad ls' ls) (hls : ls.length = me.2.2.2.1) (hX : mm_X P DA nf D cl A s.heap ad n M H locs) (hF : mm_F P Nw Nc (ad mm_scr) A s s.heap) (hA : ∀ q, s.heap.size ≤ q → A q) (hK : va_K D cl (mm_tys DA) s)
    (hfr : me.2.2.2.2.2.1 ≤ R.frames) (hwd : me.2.2.2.2.2.2 ≤ R.locals) (hdg : decode (by_ y) pc = .ok (i, 3)) (hcc : cells + ((n1 - n) + (M1.2.2 - M.2.2)) ≤ R.cells) (hcs : slots + ((mm_sl P nf n1 - mm_sl P nf n) + 6 * (M1.2.2 - M.2.2)) ≤ R.slots) :
    vx_Run p l e R s m args below meth c H locs cells slots ((n1 - n) + (M1.2.2 - M.2.2)) ((mm_sl P nf n1 - mm_sl P nf n) + 6 * (M1.2.2 - M.2.2)) (F0 m pc ls' (as.reverse.map (mm_cv ad) ++ rr.map (mm_cv ad))) (rr.map (mm_cv ad)) (mm_Qc P DA nf D cl r1 n ad n1 M1 (va_A (mm_w P DA nf ad n M) H.size) (as.map (mm_cv ad)).toArray) (mm_XC P DA nf D cl xn r1 n ad n1 M1 (va_A (mm_w P DA nf ad n M) H.size)) (va_A (mm_w P DA nf ad n M) H.size) := by
  unfold mm_cok at hcok
  simp only [Bool.and_eq_true, decide_eq_true_eq, Bool.or_eq_true] at hcok
  obtain ⟨⟨⟨⟨c1, c2⟩, c3⟩, c4⟩, c5⟩ := hcok
  have hk : mz.2.1 < 10 := by omega
  have hM := mm_met (ad := ad) (sz := H.size) hG hRf hlm hz hk he hasok hmk c4
  obtain ⟨hGc, hGf, hGk, hGn, hGN, hGm, hGl, hGb, hGh, hGx, hGt, hGd, hgood⟩ := hG
  obtain ⟨m1, m2, m3, m4, m5, m6, m7, m8, m9, m10, m11⟩ := hGm _ _ z mz hlm hz hk
  obtain ⟨hx, hb, hml, hown, hlocks, hret, hini, htab, hts⟩ := hC
  have hgi := mm_good_in (nm := nm) (by_ := by_) (hh := hh) hgood m3
  have hlink := (hGl _ _ _ _ hlm hz).1 hk
  have hRR : mz.2.2.2.2.2.1 + 1 ≤ R.frames ∧ 8 + (mz.2.2.2.1 + 11) + mz.2.2.2.2.2.2 ≤ R.locals := ⟨by omega, by omega⟩
  have hsize : ls'.size = me.2.2.2.1 := hL.1.trans hls
  have hroom : 2 * (F0 m pc ls' (as.reverse.map (mm_cv ad) ++ rr.map (mm_cv ad))).monitorRoom + ((rr.map (mm_cv ad)).map fun v => v.category).sum ≤ 8 := lv_room (by rw [mm_cv_sum]; exact c1)
  have hBA : ∀ q, va_A (mm_w P DA nf ad n M) H.size q → A q := by
    intro q hq
    rcases hq with ⟨k, e9, hq⟩ | hq
    · exact hX.2.1.2 k _ hq
    · exact hA q (Nat.le_trans hX.2.2.1 hq)
  have hpre : ∀ U : State, U.heap = H → s.WarmedH U.vm → mm_Pc P DA nf D cl Nw Nc ad n M as H.size (as.map (mm_cv ad)).toArray U := by
    intro U hU hW
    refine ⟨rfl, by rw [hU], by rw [hU]; exact hX.1, va_K.moved hW.alike hK, hX.2.1.weaken (fun _ _ _ _ => trivial), ?_⟩
    rw [hU]
    exact mm_F_go hF hW.alike (mm_Nw_warm hGN hW hF.2.2.2.2.2.2.1) hX.2.2 hBA
  unfold mm_iv at hiv
  split at hiv
  · cases hiv
    rw [if_pos rfl] at hlen
    have hl0 : Cond.methodLink (cn me.1) idx (nm z) ∈ Ts := by
      rcases hlink with h | ⟨h, -⟩
      · exact h
      · omega
    by_cases hhz : hh z = []
    · have hcw : mm_cw nm by_ hh z mz = .code (nm z) (by_ z) mz.2.2.2.1 mz.2.2.2.2.1 := by unfold mm_cw; rw [if_pos hhz]
      rw [hcw] at hM hgi
      exact vx_runS (As := as.map (mm_cv ad)) ⟨hx, hb, hml, hown, hts⟩ hM ⟨callB_of mz.2.2.1 hts hgi rfl rfl rfl (hts _ m7) (hts _ hl0) ⟨m4, m5, m6⟩ hRR, hts _ (m8 hw)⟩ ⟨mm_Pc_blind hGN, hpre⟩ rfl (by simp [hlen]) hsize (by simp [List.map_reverse]) hroom hdg ⟨hcc, hcs⟩
    · have hcw : mm_cw nm by_ hh z mz = .codeWith (nm z) (by_ z) mz.2.2.2.1 mz.2.2.2.2.1 (hh z) := by unfold mm_cw; rw [if_neg hhz]
      rw [hcw] at hM hgi m3
      refine vx_runSX (As := as.map (mm_cv ad)) (n := mz.2.2.1) ⟨hx, hb, hml, hown, hts⟩ hM ⟨⟨rfl, rfl, hRR.1, hRR.2, pay_in hts hgi, List.mem_cons_self⟩, hts _ m3, hts _ m7, ⟨m4, m5⟩, fun sig h => ?_, hts _ hl0, hts _ (m8 hw)⟩ ⟨mm_Pc_blind hGN, hpre⟩ rfl (by simp [hlen]) hsize (by simp [List.map_reverse]) hroom hdg ⟨hcc, hcs⟩
      rw [h] at m6
      exact (Option.some.inj m6).symm
  · cases hiv
    have hrec : ∃ a as', as = mm_r a :: as' ∧ mm_kd P a = some (.inl mz.1) ∧ a < n := by
      rcases c5 with h | h
      · omega
      · split at h
        · rename_i a ha
          simp only [Bool.and_eq_true, decide_eq_true_eq] at h
          cases as with
          | nil => cases ha
          | cons x as' => cases ha; exact ⟨a, as', rfl, h⟩
        · cases h
    obtain ⟨a, as', rfl, hka, han⟩ := hrec
    have hl0 : Cond.methodLink (cn me.1) idx (nm z) ∈ Ts := by
      rcases hlink with h | ⟨h, -⟩
      · exact h
      · omega
    obtain ⟨i1, i2, hhz⟩ := m9 hw
    have hcw : mm_cw nm by_ hh z mz = .code (nm z) (by_ z) mz.2.2.2.1 mz.2.2.2.2.1 := by unfold mm_cw; rw [if_pos hhz]
    rw [hcw] at hM hgi
    obtain ⟨T, N, hcl⟩ := m11 (Or.inl hw)
    have hrc := va_recv hK hX.1 hcl (show (mm_w P DA nf ad n M)[a]? = some (ad a, .inr (mz.1, _)) by rw [mm_w_at han, mm_en_o hka])
    have hlen' : as'.length = mz.2.2.1 := by simpa using hlen
    exact vx_runV (As := as'.map (mm_cv ad)) (b := ad a) (C := cn mz.1) ⟨hx, hb, hml, hown, hts⟩ hM ⟨callB_of mz.2.2.1 hts hgi rfl rfl rfl (hts _ m7) (hts _ hl0) ⟨m4, m5, m6⟩ hRR, hts _ i1, hts _ i2⟩ ⟨mm_Pc_blind hGN, hrc, hpre⟩ rfl (by simp [hlen']) hsize (by simp [List.map_reverse, mm_cv]) hroom hdg ⟨hcc, hcs⟩
  · cases hiv
    have hrec : ∃ a as', as = mm_r a :: as' ∧ mm_kd P a = some (.inl mz.1) ∧ a < n := by
      rcases c5 with h | h
      · omega
      · split at h
        · rename_i a ha
          simp only [Bool.and_eq_true, decide_eq_true_eq] at h
          cases as with
          | nil => cases ha
          | cons x as' => cases ha; exact ⟨a, as', rfl, h⟩
        · cases h
    obtain ⟨a, as', rfl, hka, han⟩ := hrec
    obtain ⟨i1, i2, i3, hhz⟩ := m10 hw
    have hcw : mm_cw nm by_ hh z mz = .code (nm z) (by_ z) mz.2.2.2.1 none := by unfold mm_cw; rw [if_pos hhz, i3]
    rw [hcw] at hM hgi
    have hlen' : as'.length = mz.2.2.1 := by simpa using hlen
    rcases r1 with v1 | x1
    · have hMet := mm_met_v hM (fun E st t q => by obtain ⟨x, _, h, -⟩ := q; cases h)
      have hrun : va_Run p l e R s m args below meth c H locs cells slots ((n1 - n) + (M1.2.2 - M.2.2)) ((mm_sl P nf n1 - mm_sl P nf n) + 6 * (M1.2.2 - M.2.2)) (F0 m pc ls' ((mm_r a :: as').reverse.map (mm_cv ad) ++ rr.map (mm_cv ad))) (rr.map (mm_cv ad)) (mm_Qc P DA nf D cl (.inl v1) n ad n1 M1 (va_A (mm_w P DA nf ad n M) H.size) (Value.ref (ad a) :: as'.map (mm_cv ad)).toArray) (va_A (mm_w P DA nf ad n M) H.size) := by
        rcases hlink with h | ⟨-, host, h⟩
        · exact va_runI (As := as'.map (mm_cv ad)) (b := ad a) ⟨hx, hb, hml, hown, hts⟩ hMet ⟨callB_of mz.2.2.1 hts hgi rfl rfl rfl (hts _ m7) (hts _ h) ⟨m4, m5, m6⟩ hRR, i1, hts _ i2⟩ ⟨mm_Pc_blind hGN, hpre⟩ rfl (by simp [hlen']) hsize (by simp [List.map_reverse, mm_cv]) hroom hdg ⟨hcc, hcs⟩
        · exact va_runIN (As := as'.map (mm_cv ad)) (b := ad a) ⟨hx, hb, hml, hown, hts⟩ hMet ⟨va_cnB mz.2.2.1 hts hgi rfl rfl rfl (hF.2.2.2.2.2.2.1 _ h) (hts _ m7) ⟨m4, m5, m6⟩ hRR, i1, hts _ i2⟩ ⟨mm_Pc_blind hGN, hpre⟩ rfl (by simp [hlen']) hsize (by simp [List.map_reverse, mm_cv]) hroom hdg ⟨hcc, hcs⟩
      exact fun T hT X => Or.inl (hrun T hT X)
    · exact absurd hw (hnt x1 rfl)
  · cases hiv
end
