section
variable {P : mm_P} {DA : FieldType → ClassId} {nf : Nat → Nat} {D : va_G} {cl : List vw_C} {Ts Nw : List Cond} {Nc : List (String × String)} {xn cn : Nat → String} {nm : Nat → MethodName} {by_ : Nat → ByteArray} {hh : Nat → List (Nat × Nat × Nat × Nat)} {l : Launch}
theorem mm_L_un {ad : Nat → Nat} {ls' : Array Slot} {ls : List mm_V} {i q : Nat} (h : lv_has ls' ls.length ((i, .ref q) :: (mm_ll ad ls).filter (fun q => !(q.1 == i) && !(q.1 + 1 == i && q.2.category == 2)))) : mm_L ad ls' (mm_st1 ls i mm_u) := by
  refine mm_L_of h (mm_st1_len _ _ _) fun j w hj hw => ?_
  unfold mm_st1 at hj
  rw [List.getElem?_set] at hj
  split at hj
  · split at hj
    · cases hj; exact absurd rfl hw
    · cases hj
  · rename_i hij
    obtain ⟨h1, h2⟩ := mm_fix_get hj hw
    refine List.mem_cons_of_mem _ (List.mem_filter.mpr ⟨mm_ll_mem.mpr ⟨w, h1, hw, rfl⟩, ?_⟩)
    have : ¬ j = i := fun q => hij q.symm
    simp only [mm_cv_cat, Bool.and_eq_true, Bool.not_eq_true', beq_eq_false_iff_ne, ne_eq, this, not_false_eq_true, true_and, Bool.and_eq_false_iff]
    by_cases hq : j + 1 = i
    · exact Or.inr fun z => h2 ⟨hq, z⟩
    · exact Or.inl hq
set_option maxRecDepth 4000 in
theorem mm_run (hG : mm_Gall P nf cl Ts Nw Nc xn cn nm by_ hh) (hst9 : l.stackTraces = false) : ∀ f : Nat, mm_RUN P DA nf D cl Ts Nw Nc xn cn by_ hh l f
  | 0 => by
    intro y me pc ls st n M r n' M' _ _ h
    simp [mm_ev] at h
  | f + 1 => by
    intro y me pc ls st n M r n' M' h1 hme h hok hlsl p e R s m args below meth c hC n0 ad0 A H locs ad ls' cells slots mc ms hL hX hex hn0 hF hA hK hct hmc hms hfr hwd
    have ih := mm_run hG hst9 f
    have hGG := hG
    obtain ⟨hGc, hGf, hGk, hGn, hGN, hGm, hGl, hGb, hGh, hGx, hGt, hGd, hgood⟩ := hG
    have hCC := hC
    obtain ⟨hx, hb, hml, hown, hlocks, hret, hini, htab, hts⟩ := hC
    have hkp9 := mm_ev_kp P (f + 1) y _ _ _ _ h
    have hnn : n ≤ n' := hkp9.1
    have hkk : M.2.2 ≤ M'.2.2 := hkp9.2.1
    have hsl := mm_sl_mono P nf hnn
    obtain ⟨ct1, ct2⟩ := hct
    have hsz : ls'.size = me.2.2.2.1 := hL.1.trans hlsl
    -- behind a step
    have next : ∀ τ : mm_S, mm_kp (pc, ls, st, n, M) τ → τ.2.2.2.2.2.2 = M.2.2 → mm_ev P f y τ = some (r, n', M') → mm_KK p l e R s m args below meth c cells slots (vx_MQ below (mm_Qc P DA nf D cl r n0 ad0 n' M' A) (mm_XC P DA nf D cl xn r n0 ad0 n' M' A) args s mc ms A) P DA nf D cl A ad n τ := by
      intro τ hkp hk9 hev ad2 H2 locs2 ls2 cells2 slots2 e1 e2 hex2 hL2 hX2
      obtain ⟨pc2, lt, st2, n2, M2⟩ := τ
      have hn2 : n ≤ n2 := hkp.1
      have hk2 : M2.2.2 = M.2.2 := hk9
      refine ih y me pc2 lt st2 n2 M2 r n' M' h1 hme hev (hkp.2.2.2 hok) (hkp.2.2.1.trans hlsl) p e R s m args below meth c hCC n0 ad0 A H2 locs2 ad2 ls2 cells2 slots2 mc ms hL2 hX2 (mm_ex_tr hex hex2 hn0) (Nat.le_trans hn0 hn2) (by rw [hex2.2]; exact hF) hA hK ⟨?_, ?_⟩ hmc hms hfr hwd
      · have e1' : cells2 + n = cells + n2 := e1
        omega
      · have e2' : slots2 + mm_sl P nf n = slots + mm_sl P nf n2 := e2
        omega
    have hev := h
    rw [mm_ev] at h
    simp only [h1] at h
    cases h2 : mm_co P y pc with
    | none => simp [h2] at h
    | some il =>
    obtain ⟨i, len⟩ := il
    simp only [h2] at h
    have hdg := hGd y pc i len h2
    split at h
    case isFalse => cases h
    case isTrue hlok =>
    cases h3 : mm_iv i with
    | none =>
      simp only [h3] at h
      cases h4 : mm_ret me.2.2.2.2.1 i st with
      | some v =>
        simp only [h4] at h; cases h
        exact mm_W_ret hx hb hlocks hret hdg hlok h4 hX hex (by omega) (by omega)
      | none =>
        simp only [h4] at h
        cases h5 : mm_thr P y me pc st i with
        | some x =>
          simp only [h5] at h; cases h
          obtain ⟨idx, ic, rfl, l1, l2, d3, d4, d7, rfl, r1, r2⟩ := mm_thr_spec h5
          obtain rfl := mm_lok_eq (k := 3) hlok rfl rfl
          obtain ⟨hx1, g1, g2, g3, g4, g5⟩ := hGx.2 _ _ _ _ l1 l2
          have ct1 : cells + n + (M.2.2 + 1) ≤ mc + n + M.2.2 := ct1
          have ct2 : slots + mm_sl P nf n + 6 * (M.2.2 + 1) ≤ ms + mm_sl P nf n + 6 * M.2.2 := ct2
          have hhy : hh y = [] := hGx.1 y me idx x h1 l1
          have ht : c.exceptionTable.toList = [] := by rw [htab, hhy]; rfl
          have hat : ∀ w ∈ vx_at0 (cn me.1) ic (xn x) mm_nms, w.before args s = true := by
            intro w hw
            rcases g4 w hw with q | q
            · exact hts w q
            · have hon : w.onTables = true := by
                rcases hGN w q with ⟨_, _, _, _, rfl⟩ | ⟨_, _, rfl⟩ | ⟨_, rfl⟩ <;> rfl
              exact va_Nw.use hon (hF.2.2.2.2.2.2.1 w q)
          exact vx_throw0 (own := cn me.1) (cls := xn x) (names := mm_nms) (ik := idx) (ic := ic) (A := A) (rest := []) hx hb hst9 hown g1 (by decide +kernel) (hts _ g2) (hts _ g3) hat g5 hF.2.2.2.1 hF.2.2.2.2.1 hX.2.2 (hsz.trans hml.symm) hdg (hGd y _ _ _ d3) (hGd y _ _ _ d4) (hGd y _ _ _ d7) (by rw [ht]; intro z hz; cases hz) (by show 2 + 3 < R.frames; omega) (by show 0 + (13 * (2 + 1) + 42) ≤ R.locals; omega) (by omega) (by omega) hlocks
            (fun t hvm hsz2 hkeep => ⟨x, ad, rfl, rfl, hex, fun k q hq => (hX.1 k q hq).kept (hkeep q.1 (hX.1 k q hq).lt), hX.2.1, Nat.le_trans hX.2.2.1 hsz2, fun q h1 h2 => (hkeep q (Nat.lt_of_lt_of_le h1 hX.2.2.1)).trans (hX.2.2.2.1 q h1 h2)⟩)
            hX.2.2.2.2 (by omega) (by omega)
        | none =>
          simp only [h5] at h
          cases h6 : mm_do pc ls st n M P me.1 (me.2.1 == 2) i with
          | none => simp [h6] at h
          | some τ =>
            simp only [h6] at h
            have hkp := mm_do_kp h6
            have hkp2 := mm_ev_kp P f y _ _ _ _ h
            have hk9 : τ.2.2.2.2.2.2 = M.2.2 := mm_do_k h6
            have hn2 : τ.2.2.2.1 ≤ n' := hkp2.1
            have hs2 := mm_sl_mono P nf hn2
            have hkx : τ.2.2.2.2.2.2 ≤ M'.2.2 := hkp2.2.1
            have ho1 : ∀ v ∈ ls, mm_vok n v := hok.1
            have ho2 : ∀ v ∈ st, mm_vok n v := hok.2.1
            have ho3 : mm_mok n M := hok.2.2
            exact mm_do_sound hx hb hts hown hK hA hGc hGf hGk hGn hF.2.2.2.2.2.1 (fun q => hini (by simpa using q)) hF.1 hF.2.1 hF.2.2.1 rfl (fun _ => rfl) hGt hdg hlok ho1 ho2 ho3 hL hX h6 (by omega) (by omega) (next τ hkp hk9 h)
    | some wi =>
      obtain ⟨w, idx⟩ := wi
      simp only [h3] at h
      have h3l : len = 3 := by
        unfold mm_iv at h3
        split at h3 <;> first | exact mm_lok_eq (k := 3) hlok rfl rfl | cases h3
      subst h3l
      cases h4 : mm_lm P me.1 idx with
      | none => simp [h4] at h
      | some z =>
      simp only [h4] at h
      cases h5 : mm_mt P z with
      | none => simp [h5] at h
      | some mz =>
      simp only [h5] at h
      split at h
      case isTrue hb10 =>
        cases h6 : mm_bi P me mz.2.1 w pc ls st n M with
        | none => simp [h6] at h
        | some τ =>
          simp only [h6] at h
          exact mm_W_bi hx hb hts hown hK hGb h3 ((hGl _ _ _ _ h4 h5).2 hb10) hdg (hml.trans hsz.symm) hfr hwd (by omega) (by omega) hL hX h6 (next τ (mm_bi_kp h6) (mm_bi_k h6) h)
      case isFalse hb10 =>
      split at h
      case isFalse => cases h
      case isTrue hw =>
      cases h6 : mm_args (mz.2.2.1 + (if w = 0 then 0 else 1)) st with
      | none => simp [h6] at h
      | some ar =>
      obtain ⟨as, rr⟩ := ar
      simp only [h6] at h
      obtain ⟨hst, hlen⟩ := mm_args_spec h6
      split at h
      case isFalse => cases h
      case isTrue hcok =>
      cases h7 : mm_ev P f z (0, mm_ent mz.2.2.2.1 as, [], n, M) with
      | none => simp [h7] at h
      | some q1 =>
      obtain ⟨x1, n1, M1⟩ := q1
      have h8 := mm_ev_kp P f z _ _ _ _ h7
      have hn1 : n ≤ n1 := h8.1
      have hk1 : M.2.2 ≤ M1.2.2 := h8.2.1
      have hs1 := mm_sl_mono P nf hn1
      have hrr : ∀ v ∈ rr, v ∈ st := fun v hv => by rw [hst]; exact List.mem_append_right _ hv
      have hasok : ∀ v ∈ as, mm_vok n v := fun v hv => hok.2.1 v (by show v ∈ st; rw [hst]; exact List.mem_append_left _ (List.mem_reverse.mpr hv))
      have hsk : mm_sok (0, mm_ent mz.2.2.2.1 as, [], n, M) := ⟨mm_ent_ok hasok, fun v hv => (by cases hv), hok.2.2⟩
      have hstm : st.map (mm_cv ad) = as.reverse.map (mm_cv ad) ++ rr.map (mm_cv ad) := by rw [hst, List.map_append]
      have hBA : ∀ q, va_A (mm_w P DA nf ad n M) H.size q → A q := by
        intro q hq
        rcases hq with ⟨k, e9, hq⟩ | hq
        · exact hX.2.1.2 k _ hq
        · exact hA q (Nat.le_trans hX.2.2.1 hq)
      rw [hstm]
      rcases x1 with v1 | x1
      · simp only [h7] at h
        have h9 := mm_ev_kp P f y _ _ _ _ h
        have hn2 : n1 ≤ n' := h9.1
        have hk2 : M1.2.2 ≤ M'.2.2 := h9.2.1
        have hs2 := mm_sl_mono P nf hn2
        have hrun := mm_crun (p := p) (e := e) (R := R) (below := below) (A := A) (locs := locs) (cells := cells) (slots := slots) (rr := rr) hGG ih h5 hb10 hw.1 h3 h4 hlen hcok (fun x q => by cases q) h7 hasok hok.2.2 hCC hL hlsl hX hF hA hK hfr hwd hdg (by omega) (by omega)
        intro T hT X
        rcases hrun T hT X with ⟨v, st₀, t, T', L, g0, X', gL, e1, e2, ⟨v2, ad2, q1, q2, q3⟩, stp⟩ | ⟨q, st₀, t, T', L, E, ce, g0, X', gL, e1, e2, ⟨x, ad2, q1, -⟩, -⟩
        · cases q1
          cases q2
          obtain ⟨b1, b2, b3, b4⟩ := q3
          obtain ⟨k1, k2, k3⟩ := vx_keep g0 e1 hX.2.2 (fun q _ => hBA q) hBA gL b4
          have hvs : (v1.map (mm_cv ad2)).toList ++ rr.map (mm_cv ad) = (v1.toList ++ rr).map (mm_cv ad2) := by
            rw [List.map_append, mm_cvs_ex (fun v hv => hok.2.1 v (hrr v hv)) b1]
            cases v1 <;> rfl
          have kW := ih y me (pc + 3) ls (v1.toList ++ rr) n1 M1 r n' M' h1 hme h ((mm_kp_call (pc := pc) (pc' := pc + 3) hrr hn1 hk1 fun q => ⟨(h8.2.2 hsk).1, fun v hv => (h8.2.2 hsk).2 v (by rw [hv])⟩).2.2.2 hok) hlsl p e R s m args below meth c hCC n0 ad0 A T'.heap (locs ++ L) ad2 ls' (cells + ((n1 - n) + (M1.2.2 - M.2.2))) (slots + ((mm_sl P nf n1 - mm_sl P nf n) + 6 * (M1.2.2 - M.2.2))) mc ms (mm_L_ex hL hok.1 b1) ⟨by rw [e1]; exact b2, b3.weaken (fun k q _ z => hBA q.1 z), k3⟩ (mm_ex_tr hex b1 hn0) (Nat.le_trans hn0 hn1) (by rw [b1.2]; exact hF) hA hK ⟨by omega, by omega⟩ hmc hms hfr hwd
          rw [← hvs] at kW
          obtain ⟨t2, a1, c1⟩ := kW T' rfl X'
          exact ⟨t2, stp t2 a1, c1⟩
        · cases q1
      · simp only [h7] at h
        split at h
        case isTrue => cases h
        case isFalse hk2 =>
        have hx100 : x1 < 100 := by omega
        have hrun := fun (hc9 : cells + ((n1 - n) + (M1.2.2 - M.2.2)) ≤ R.cells) (hs9 : slots + ((mm_sl P nf n1 - mm_sl P nf n) + 6 * (M1.2.2 - M.2.2)) ≤ R.slots) => mm_crun (p := p) (e := e) (R := R) (below := below) (A := A) (locs := locs) (cells := cells) (slots := slots) (rr := rr) hGG ih h5 hb10 hw.1 h3 h4 hlen hcok (fun x q => fun z => hk2 (Or.inl z)) h7 hasok hok.2.2 hCC hL hlsl hX hF hA hK hfr hwd hdg hc9 hs9
        cases h9 : mm_hd P y pc x1 with
        | none =>
          simp only [h9] at h; cases h
          intro T hT X
          rcases hrun (by omega) (by omega) T hT X with ⟨v, st₀, t, T', L, g0, X', gL, e1, e2, ⟨v2, ad2, q1, -⟩, stp⟩ | ⟨q, st₀, t, T', L, E, ce, g0, X', gL, e1, e2, ⟨x, ad2, q1, hE, b1, b2, b3, b4⟩, hce, hcv, hcl9, stp⟩
          · cases q1
          · cases q1
            obtain ⟨k1, k2, k3⟩ := vx_keep g0 e1 hX.2.2 (fun q _ => hBA q) hBA gL b4
            have hps := (hGh y me pc x1 h1).1 h9 hx100
            have hX2 : mm_X P DA nf D cl A s.heap ad2 n' M' T'.heap (locs ++ L) := ⟨by rw [e1]; exact b2, b3.weaken (fun k q _ z => hBA q.1 z), k3⟩
            have kW : vx_W p l e R s m args below meth c T'.heap (locs ++ L) (cells + ((n' - n) + (M'.2.2 - M.2.2))) (slots + ((mm_sl P nf n' - mm_sl P nf n) + 6 * (M'.2.2 - M.2.2))) (vx_MQ below (mm_Qc P DA nf D cl (.inr x1) n0 ad0 n' M' A) (mm_XC P DA nf D cl xn (.inr x1) n0 ad0 n' M' A) args s mc ms A) (F0 m pc ls' (rr.map (mm_cv ad))) q := by
              refine vx_outP (own := cn me.1) hown hlocks (fun z hz => ?_) (by rw [e1]; exact hce) hcv hcl9 (fun t9 ht9 _ => ⟨x1, ad2, rfl, hE, mm_B9_of hX2 (mm_ex_tr hex b1 hn0) ht9⟩) k3.2.2 (by omega) (by omega)
              rw [htab] at hz
              rcases hps z hz with q5 | ⟨q5, nm9, q6, q7⟩
              · exact Or.inl q5
              · exact Or.inr ⟨q5, nm9, hts _ q6, by rw [hE]; exact hF.2.2.2.2.2.2.2 _ q7⟩
            obtain ⟨t2, a1, c1⟩ := kW T' rfl X'
            exact ⟨t2, stp.trans a1, c1⟩
        | some hp =>
          simp only [h9] at h
          cases h10 : mm_cat9 P y pc x1 ls n1 M1 with
          | none => simp [h10] at h
          | some τ =>
          simp only [h10] at h
          have hkq := mm_ev_kp P f y _ _ _ _ h
          have hkc := mm_cat9_kp (st := rr) h10
          obtain ⟨hτn, hτk⟩ : τ.2.2.2.1 = n1 ∧ τ.2.2.2.2 = M1 := mm_cat9_n h10
          have hn2 : n1 ≤ n' := by have := hkq.1; omega
          have hk2' : M1.2.2 ≤ M'.2.2 := by have := hkq.2.1; rw [hτk] at this; exact this
          have hs2 := mm_sl_mono P nf hn2
          have hsok2 : mm_sok τ := hkc.2.2.2 ((mm_kp_call (pc := pc) (pc' := pc) (v := none) (r := rr) hrr hn1 hk1 fun q => ⟨(h8.2.2 hsk).1, fun v hv => by cases hv⟩).2.2.2 hok)
          intro T hT X
          rcases hrun (by omega) (by omega) T hT X with ⟨v, st₀, t, T', L, g0, X', gL, e1, e2, ⟨v2, ad2, q1, -⟩, stp⟩ | ⟨q, st₀, t, T', L, E, ce, g0, X', gL, e1, e2, ⟨x, ad2, q1, hE, b1, b2, b3, b4⟩, hce, hcv, hcl9, stp⟩
          · cases q1
          · cases q1
            obtain ⟨k1, k2, k3⟩ := vx_keep g0 e1 hX.2.2 (fun q _ => hBA q) hBA gL b4
            obtain ⟨pre, z, suf, name, t1, t2, t3, t4, t5, t6, t7⟩ := (hGh y me pc x1 h1).2 hp h9
            have hX2 : mm_X P DA nf D cl A s.heap ad2 n1 M1 T'.heap (locs ++ L) := ⟨by rw [e1]; exact b2, b3.weaken (fun k q _ z => hBA q.1 z), k3⟩
            have hL2 := mm_L_ex hL hok.1 b1
            have kW : vx_W p l e R s m args below meth c T'.heap (locs ++ L) (cells + ((n1 - n) + (M1.2.2 - M.2.2))) (slots + ((mm_sl P nf n1 - mm_sl P nf n) + 6 * (M1.2.2 - M.2.2))) (vx_MQ below (mm_Qc P DA nf D cl r n0 ad0 n' M' A) (mm_XC P DA nf D cl xn r n0 ad0 n' M' A) args s mc ms A) (F0 m pc ls' (rr.map (mm_cv ad))) q := by
              refine vx_catch (own := cn me.1) (name := name) hown pre z suf (htab.trans t1) (fun z hz => ?_) t3 t4 (hts _ t6) (by rw [hE]; exact va_Nw.use rfl (hF.2.2.2.2.2.2.1 _ t7)) (by rw [e1]; exact hce) hcv hcl9 ?_
              · rcases t2 z hz with q5 | ⟨q5, nm9, q6, q7⟩
                · exact Or.inl q5
                · exact Or.inr ⟨q5, nm9, hts _ q6, by rw [hE]; exact hF.2.2.2.2.2.2.2 _ q7⟩
              · rw [t5]
                have goW : ∀ (k pc9 : Nat), τ = (pc9, mm_st1 ls k mm_u, [], n1, M1) → ∀ l2 : Array Slot, lv_has l2 ls.length ((k, Value.ref q) :: (mm_ll ad2 ls).filter (fun q => !(q.1 == k) && !(q.1 + 1 == k && q.2.category == 2))) → W p l e R s m args below meth c T'.heap (locs ++ L) (cells + ((n1 - n) + (M1.2.2 - M.2.2))) (slots + ((mm_sl P nf n1 - mm_sl P nf n) + 6 * (M1.2.2 - M.2.2))) (vx_MQ below (mm_Qc P DA nf D cl r n0 ad0 n' M' A) (mm_XC P DA nf D cl xn r n0 ad0 n' M' A) args s mc ms A) (F0 m pc9 l2 []) := by
                  intro k pc9 hτ l2 hl2
                  subst hτ
                  exact ih y me pc9 _ [] n1 M1 r n' M' h1 hme h hsok2 ((mm_st1_len _ _ _).trans hlsl) p e R s m args below meth c hCC n0 ad0 A T'.heap (locs ++ L) ad2 l2 _ _ mc ms (mm_L_un hl2) hX2 (mm_ex_tr hex b1 hn0) (Nat.le_trans hn0 hn1) (by rw [b1.2]; exact hF) hA hK ⟨by omega, by omega⟩ hmc hms hfr hwd
                unfold mm_cat9 at h10
                simp only [h9] at h10
                split at h10
                · rename_i k hco
                  split at h10
                  · rename_i hkl
                    cases h10
                    exact lv_astore_n hx hb (hGd y _ _ _ hco) rfl (mm_L_has.mp hL2) hkl rfl (fun l2 hl2 => goW _ _ rfl l2 hl2)
                  · cases h10
                · rename_i k hco
                  split at h10
                  · rename_i hkl
                    cases h10
                    exact lv_astore hx hb (hGd y _ _ _ hco) (mm_L_has.mp hL2) hkl rfl (fun l2 hl2 => goW _ _ rfl l2 hl2)
                  · cases h10
                · cases h10
            obtain ⟨t9, a1, c1⟩ := kW T' rfl X'
            exact ⟨t9, stp.trans a1, c1⟩
end
