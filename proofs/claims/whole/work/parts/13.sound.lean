section
variable {P : mm_P} {DA : FieldType → ClassId} {nf : Nat → Nat} {D : va_G} {cl : List vw_C} {Ts Nw : List Cond} {Nc : List (String × String)} {xn cn : Nat → String} {nm : Nat → MethodName} {by_ : Nat → ByteArray} {hh : Nat → List (Nat × Nat × Nat × Nat)} {l : Launch}
variable {p : Program} {e : Env} {R : Room} {s : State} {m : MethodId} {args : Array Value} {below : List Frame} {meth : Method} {c : Code} {H : Heap} {locs : List Loc} {cells slots : Nat} {Q : State → Prop}
variable {cc : ByteArray} {A : Nat → Prop} {ad : Nat → Nat} {ls' : Array Slot} {pc : Nat} {ls st : List mm_V} {n : Nat} {M : mm_M} {τ : mm_S}
theorem mm_wd_tl (v : mm_V) (r : List mm_V) : mm_wd r ≤ mm_wd (v :: r) := by simp [mm_wd]
theorem mm_W_bi (hx : p.tables.exec = Jvm.exec) (hb : c.code = cc) (hts : ∀ w ∈ Ts, w.before args s = true) {own : String} (hown : s.vm.findClass own = some m.cls) (hK : va_K D cl (mm_tys DA) s) (hGb : mm_Gb Ts) {me : mm_E} {b w idx : Nat} {i : Instr} (hiv : mm_iv i = some (w, idx)) (hlink : Cond.methodLink own idx (mm_bn b) ∈ Ts) (hdg : decode cc pc = .ok (i, 3)) (hml : c.maxLocals = ls'.size) (hfr : me.2.2.2.2.2.1 ≤ R.frames) (hwd : me.2.2.2.2.2.2 ≤ R.locals) (hcc : cells ≤ R.cells) (hcs : slots ≤ R.slots)
    (hL : mm_L ad ls' ls) (hX : mm_X P DA nf D cl A s.heap ad n M H locs) (h : mm_bi P me b w pc ls st n M = some τ) (kk : mm_KK p l e R s m args below meth c cells slots Q P DA nf D cl A ad n τ) : W p l e R s m args below meth c H locs cells slots Q (F0 m pc ls' (st.map (mm_cv ad))) := by
  obtain ⟨b1, b2, b3, b4, b5, b6, b7, b8, b9, b10, b11, b12⟩ := hGb
  unfold mm_bi at h
  split at h
  · rename_i hrm
    have hf1 : 1 ≤ R.frames := by omega
    split at h
    · rename_i a r
      cases h
      unfold mm_iv at hiv
      split at hiv <;> cases hiv
      have hwr : mm_wd r + 40 ≤ me.2.2.2.2.2.2 := Nat.le_trans (Nat.add_le_add_right (mm_wd_tl _ _) 40) hrm.2
      refine W.objInit hx hb hown (hts _ hlink) (hts _ b1) (hts _ b2) rfl hml.symm rfl hdg hf1 ?_ ?_
      · show 2 * 0 + ((r.map (mm_cv ad)).map fun v => v.category).sum + 12 ≤ R.locals
        rw [mm_cv_sum]; omega
      · exact mm_KK_s kk hL hX
    · rename_i y x r
      cases h
      unfold mm_iv at hiv
      split at hiv <;> cases hiv
      have hwr : mm_wd r + 40 ≤ me.2.2.2.2.2.2 := Nat.le_trans (Nat.add_le_add_right (Nat.le_trans (mm_wd_tl _ _) (mm_wd_tl _ _)) 40) hrm.2
      refine va_mmax hx hb hml hown (hts _ hlink) (hts _ b4) (hts _ b3) (hts _ b5) hf1 (by rw [mm_cv_sum]; omega) hcc hcs hdg ?_
      have k := mm_KK_s kk hL hX
      rw [List.map_cons, mm_cv] at k
      have e1 : mm_I (if mm_I x < mm_I y then y else x) = if mm_I x < mm_I y then mm_I y else mm_I x := by split <;> rfl
      rw [e1] at k
      exact k
    · rename_i y x r
      cases h
      unfold mm_iv at hiv
      split at hiv <;> cases hiv
      have hwr : mm_wd r + 40 ≤ me.2.2.2.2.2.2 := Nat.le_trans (Nat.add_le_add_right (Nat.le_trans (mm_wd_tl _ _) (mm_wd_tl _ _)) 40) hrm.2
      refine va_mmin hx hb hml hown (hts _ hlink) (hts _ b6) (hts _ b3) (hts _ b7) hf1 (by rw [mm_cv_sum]; omega) hcc hcs hdg ?_
      have k := mm_KK_s kk hL hX
      rw [List.map_cons, mm_cv] at k
      have e1 : mm_I (if mm_I y < mm_I x then y else x) = if mm_I y < mm_I x then mm_I y else mm_I x := by split <;> rfl
      rw [e1] at k
      exact k
    · rename_i x r
      cases h
      unfold mm_iv at hiv
      split at hiv <;> cases hiv
      have hwr : mm_wd r + 40 ≤ me.2.2.2.2.2.2 := Nat.le_trans (Nat.add_le_add_right (mm_wd_tl _ _) 40) hrm.2
      refine va_mabs hx hb hml hown (hts _ hlink) (hts _ b8) (hts _ b3) (hts _ b9) hf1 (by rw [mm_cv_sum]; omega) hcc hcs hdg ?_
      have k := mm_KK_s kk hL hX
      rw [List.map_cons, mm_cv] at k
      have e1 : mm_I (if 0 ≤ mm_I x then x else 0 - x) = if 0 ≤ mm_I x then mm_I x else 0 - mm_I x := by
        split
        · rfl
        · rw [mm_I_sub]; rfl
      rw [e1] at k
      exact k
    · rename_i k0 dp t sp a r
      split at h
      · rename_i k1 k2 hka hkt
        split at h
        · rename_i hh9
          obtain ⟨g1, g2, g3, g4, g5, g6, g7, g8, g9⟩ := hh9
          cases h
          unfold mm_iv at hiv
          split at hiv <;> cases hiv
          have hwr : mm_wd r + 40 ≤ me.2.2.2.2.2.2 := Nat.le_trans (Nat.add_le_add_right (Nat.le_trans (mm_wd_tl _ _) (Nat.le_trans (mm_wd_tl _ _) (Nat.le_trans (mm_wd_tl _ _) (Nat.le_trans (mm_wd_tl _ _) (mm_wd_tl _ _))))) 40) hrm.2
          have hnw : nativeFrameWords "java/lang/System" "arraycopy" 5 ≤ 29 := by decide +kernel
          have ea : (mm_w P DA nf ad n M)[a]? = some (ad a, .inl (DA .long, k1, .inr (.inl fun k : Nat => mm_J (M.1 a k)))) := by rw [mm_w_at g1, mm_en_a hka]; rfl
          have et : (mm_w P DA nf ad n M)[t]? = some (ad t, .inl (DA .long, k2, .inr (.inl fun k : Nat => mm_J (M.1 t k)))) := by rw [mm_w_at g2, mm_en_a hkt]; rfl
          have c1 := mm_I_cl g3 (show k0 < 2147483648 by omega)
          have c2 := mm_I_cl g4 (show sp < 2147483648 by omega)
          have c3 := mm_I_cl g5 (show dp < 2147483648 by omega)
          refine va_copyl hx hb hml hown (hts _ hlink) (hts _ b10) (hts _ b11) (hts _ b12) hK hX.1 hX.2.1 hX.2.2 a t 2 2 ea et rfl rfl rfl (mm_I_lt0 g4 (by omega)) (mm_I_lt0 g5 (by omega)) (mm_I_lt0 g3 (by omega)) (by rw [c1, c2]; omega) (by rw [c1, c3]; omega) (fun _ _ => rfl) hf1 (by rw [mm_cv_sum]; omega) hdg (fun H1 locs1 q1 q2 q3 => ?_)
          have hset : (mm_w P DA nf ad n M).set t (ad t, .inl (DA .long, k2, .inr (.inl (va_cpy (fun k : Nat => mm_J (M.1 a k)) (fun k : Nat => mm_J (M.1 t k)) (mm_I sp).toNatClampNeg (mm_I dp).toNatClampNeg (mm_I k0).toNatClampNeg)))) = mm_w P DA nf ad n (mm_cpy M a t sp dp k0) := by
            refine mm_w_set ?_ (fun j hj => mm_en_cpy hj)
            rw [mm_en_a hkt, c1, c2, c3]
            have : va_cpy (fun k : Nat => mm_J (M.1 a k)) (fun k : Nat => mm_J (M.1 t k)) sp.toNat dp.toNat k0.toNat = fun j : Nat => mm_J ((mm_cpy M a t sp dp k0).1 t j) := by
              funext j
              unfold va_cpy mm_cpy
              simp only [true_and]
              by_cases hq : dp.toNat ≤ j ∧ j < dp.toNat + k0.toNat
              · rw [if_pos hq, if_pos ⟨by omega, by omega⟩]
                rw [show ((sp.toNat + (j - dp.toNat) : Nat) : Int) = sp + ((j : Int) - dp) by omega]
              · rw [if_neg hq, if_neg (fun z => hq ⟨by omega, by omega⟩)]
            rw [this]
            rfl
          rw [hset] at q1 q2
          exact kk ad H1 locs1 ls' cells slots rfl rfl mm_ex_rf hL ⟨q1, q2, q3⟩
        · cases h
      · cases h
    · cases h
  · cases h
theorem mm_B9_of {n0 n' : Nat} {ad0 : Nat → Nat} {M' : mm_M} {t : State} (hX : mm_X P DA nf D cl A s.heap ad n' M' H locs) (hex : mm_ex n0 ad0 ad) (ht : t.heap = H) : mm_B9 P DA nf D cl n0 ad0 n' M' A s t ad :=
  ⟨hex, by rw [ht]; exact hX.1, hX.2.1, hX.2.2.F ht⟩
theorem mm_W_ret (hx : p.tables.exec = Jvm.exec) (hb : c.code = cc) (hlocks : meth.locks = false) {rt : Option FieldType} (hret : meth.sig.returnType = rt) {i : Instr} {len : Nat} (hdg : decode cc pc = .ok (i, len)) (hlok : mm_lok i len = true) {v : Option mm_V} (h : mm_ret rt i st = some v) {n0 : Nat} {ad0 : Nat → Nat} {mc ms : Nat} {XC : String → State → State → Prop}
    (hX : mm_X P DA nf D cl A s.heap ad n M H locs) (hex : mm_ex n0 ad0 ad) (hcc : cells ≤ mc) (hcs : slots ≤ ms) :
    W p l e R s m args below meth c H locs cells slots (vx_MQ below (mm_Qc P DA nf D cl (.inl v) n0 ad0 n M A) XC args s mc ms A) (F0 m pc ls' (st.map (mm_cv ad))) := by
  refine W.widen hcc hcs (vx_ret ?_)
  have hq : ∀ t : State, t.heap = H → mm_Qc P DA nf D cl (.inl v) n0 ad0 n M A args s (.returned (v.map (mm_cv ad))) t := fun t ht => ⟨v, ad, rfl, rfl, mm_B9_of hX hex ht⟩
  unfold mm_ret at h
  split at h
  · cases h
    obtain rfl := mm_lok_eq (k := 1) hlok rfl rfl
    exact W.iret hx hb hret (fun t ht _ => hq t ht) hX.2.2.2.2 hdg hlocks
  · split at h
    · rename_i hx01
      cases h
      obtain rfl := mm_lok_eq (k := 1) hlok rfl rfl
      exact W.zret hx hb hret (by rcases hx01 with rfl | rfl <;> rfl) (fun t ht _ => hq t ht) hX.2.2.2.2 hdg hlocks
    · cases h
  · cases h
    obtain rfl := mm_lok_eq (k := 1) hlok rfl rfl
    exact W.lret hx hb hret (fun t ht _ => hq t ht) hX.2.2.2.2 hdg hlocks
  · cases h
    obtain rfl := mm_lok_eq (k := 1) hlok rfl rfl
    exact W.aret hx hb hret (Or.inl ⟨_, rfl⟩) (Or.inr ⟨_, rfl⟩) (fun t ht _ => hq t ht) hX.2.2.2.2 hdg hlocks
  · cases h
    obtain rfl := mm_lok_eq (k := 1) hlok rfl rfl
    exact W.vret hx hb hret (fun t ht _ => hq t ht) hX.2.2.2.2 hdg hlocks
  · cases h
theorem mm_thr_spec {y : Nat} {me : mm_E} {i : Instr} {x : Nat} (h : mm_thr P y me pc st i = some x) : ∃ idx ic, i = .new idx ∧ mm_lt P me.1 idx = some x ∧ mm_lt P me.1 ic = some (x + 100) ∧ mm_co P y (pc + 3) = some (.dup, 1) ∧ mm_co P y (pc + 4) = some (.invokespecial ic, 3) ∧ mm_co P y (pc + 7) = some (.athrow, 1) ∧ st = [] ∧ 6 ≤ me.2.2.2.2.2.1 ∧ 81 ≤ me.2.2.2.2.2.2 := by
  unfold mm_thr at h
  split at h
  · rename_i idx
    split at h
    · rename_i x' ic h1 h2 h3 h4
      split at h
      · rename_i h5
        cases h
        exact ⟨idx, ic, rfl, h1, h5.1, h2, h3, h4, h5.2.1, h5.2.2.1, h5.2.2.2⟩
      · cases h
    · cases h
  · cases h
theorem mm_bi_k {me : mm_E} {b w : Nat} (h : mm_bi P me b w pc ls st n M = some τ) : τ.2.2.2.2.2.2 = M.2.2 := by
  unfold mm_bi at h
  split at h
  · split at h
    · cases h; rfl
    · cases h; rfl
    · cases h; rfl
    · cases h; rfl
    · split at h
      · split at h
        · cases h; rfl
        · cases h
      · cases h
    · cases h
  · cases h
theorem mm_cat9_n {y x : Nat} (h : mm_cat9 P y pc x ls n M = some τ) : τ.2.2.2.1 = n ∧ τ.2.2.2.2 = M := by
  unfold mm_cat9 at h
  split at h
  · cases h
  · split at h
    · split at h
      · cases h; exact ⟨rfl, rfl⟩
      · cases h
    · split at h
      · cases h; exact ⟨rfl, rfl⟩
      · cases h
    · cases h
end
