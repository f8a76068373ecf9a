section
variable {p : Program} {l : Launch} {e : Env} {R : Room} {s : State} {m : MethodId} {args : Array Value} {below : List Frame} {meth : Method} {c : Code} {H : Heap} {locs : List Loc} {cells slots : Nat} {Q : State → Prop}
variable {cc : ByteArray} {P : mm_P} {DA : FieldType → ClassId} {nf : Nat → Nat} {D : va_G} {cl : List vw_C} {A : Nat → Prop} {Ts : List Cond} {cn : Nat → String}
variable {ad : Nat → Nat} {ls' : Array Slot} {pc : Nat} {ls st : List mm_V} {n : Nat} {M : mm_M} {ci : Nat} {ini : Bool} {τ : mm_S}
theorem mm_en_o {a d : Nat} (h : mm_kd P a = some (.inl d)) : mm_en P DA nf ad M a = .inr (d, (List.range (nf d)).map fun k : Nat => mm_fv ad (mm_ft P d k) (M.1 a k) (M.2.1 a k)) := by
  simp only [mm_en, h]
theorem mm_en_a {a k : Nat} {ty : FieldType} (h : mm_kd P a = some (.inr (ty, k))) : mm_en P DA nf ad M a = .inl (DA ty, k, mm_av ad ty (M.1 a) (M.2.1 a)) := by
  simp only [mm_en, h]
theorem mm_range_set {α : Type} {N k : Nat} {f g : Nat → α} (h : ∀ j, j ≠ k → g j = f j) : ((List.range N).map f).set k (g k) = (List.range N).map g := by
  apply List.ext_getElem?
  intro i
  rw [List.getElem?_set]
  by_cases hi : k = i
  · subst hi
    simp only [if_true, List.length_map, List.length_range, List.getElem?_map]
    by_cases hl : k < N
    · simp [hl]
    · simp [hl]
  · simp only [hi, if_false, List.getElem?_map]
    by_cases hl : i < N
    · simp [hl, h i (fun q => hi q.symm)]
    · simp [hl]
theorem mm_ix {i : Int} (h : 0 ≤ i) (j : Nat) : ((j : Int) = i) = (j = i.toNat) := by
  apply propext; omega
theorem mm_W_get (hx : p.tables.exec = Jvm.exec) (hb : c.code = cc) (hts : ∀ w ∈ Ts, w.before args s = true) (hown : s.vm.findClass (cn ci) = some m.cls) (hK : va_K D cl (mm_tys DA) s) (hGc : mm_Gc P nf cl Ts cn) (hGf : mm_Gf P cl Ts cn) {idx : Nat} (hdg : decode cc pc = .ok (.getfield idx, 3))
    (hL : mm_L ad ls' ls) (hX : mm_X P DA nf D cl A s.heap ad n M H locs) (h : mm_get pc ls st n M P ci idx = some τ) (kk : mm_KK p l e R s m args below meth c cells slots Q P DA nf D cl A ad n τ) : W p l e R s m args below meth c H locs cells slots Q (F0 m pc ls' (st.map (mm_cv ad))) := by
  unfold mm_get at h
  split at h
  · rename_i a r d k hf
    split at h
    · rename_i hka
      obtain ⟨C, T, N, hcl, hkN, hw⟩ := hGf _ _ _ _ hf
      obtain ⟨hnf, hcn, hin, ty, hty, hnm, hft⟩ := hGc _ _ _ _ hcl
      obtain ⟨e1, e2, e3, e4⟩ := hft k hkN
      have he : (mm_w P DA nf ad n M)[a]? = some (ad a, .inr (d, (List.range (nf d)).map fun k : Nat => mm_fv ad (mm_ft P d k) (M.1 a k) (M.2.1 a k))) := by rw [mm_w_at hka.2, mm_en_o hka.1]
      have hv : ((List.range (nf d)).map fun k : Nat => mm_fv ad (mm_ft P d k) (M.1 a k) (M.2.1 a k))[k]? = some (mm_fv ad (mm_ft P d k) (M.1 a k) (M.2.1 a k)) := by
        rw [hnf]; simp [hkN]
      have go : ∀ v : mm_V, mm_fv ad (mm_ft P d k) (M.1 a k) (M.2.1 a k) = mm_cv ad v → τ = (pc + 3, ls, v :: r, n, M) → W p l e R s m args below meth c H locs cells slots Q (F0 m pc ls' ((mm_r a :: r).map (mm_cv ad))) := by
        intro v hv2 hτ
        subst hτ
        rw [hv2] at hv
        exact va_get hx hb hts hin hown hK hX.1 a he hcl k hkN (hts _ hw) (fun x q => by rw [e3] at q; exact q) hv hdg (mm_KK_s kk hL hX)
      split at h
      · rename_i q; cases h; exact go (mm_i _) (by rw [q]; rfl) rfl
      · rename_i q; cases h; exact go (mm_i _) (by rw [q]; rfl) rfl
      · rename_i q; cases h; exact go (mm_j _) (by rw [q]; rfl) rfl
      · rename_i q
        split at h
        · rename_i b qb; cases h; exact go (mm_r b) (by rw [q, qb]; rfl) rfl
        · cases h
      · rename_i q
        split at h
        · rename_i b qb; cases h; exact go (mm_r b) (by rw [q, qb]; rfl) rfl
        · cases h
      · cases h
    · cases h
  · cases h
theorem mm_fv_put {ad : Nat → Nat} {d a k : Nat} {x : Int} (j : Nat) (hj : j ≠ k) : mm_fv ad (mm_ft P d j) ((mm_putN M a k x).1 a j) ((mm_putN M a k x).2.1 a j) = mm_fv ad (mm_ft P d j) (M.1 a j) (M.2.1 a j) := by
  have : ¬ (j : Int) = (k : Int) := by omega
  simp [mm_putN, this]
theorem mm_fv_putR {ad : Nat → Nat} {d a k : Nat} {x : Option Nat} (j : Nat) (hj : j ≠ k) : mm_fv ad (mm_ft P d j) ((mm_putR M a k x).1 a j) ((mm_putR M a k x).2.1 a j) = mm_fv ad (mm_ft P d j) (M.1 a j) (M.2.1 a j) := by
  have : ¬ (j : Int) = (k : Int) := by omega
  simp [mm_putR, this]
theorem mm_W_put (hx : p.tables.exec = Jvm.exec) (hb : c.code = cc) (hts : ∀ w ∈ Ts, w.before args s = true) (hown : s.vm.findClass (cn ci) = some m.cls) (hK : va_K D cl (mm_tys DA) s) (hGc : mm_Gc P nf cl Ts cn) (hGf : mm_Gf P cl Ts cn) (hini : ini = true → meth.name = "<init>") {idx : Nat} (hdg : decode cc pc = .ok (.putfield idx, 3))
    (hL : mm_L ad ls' ls) (hX : mm_X P DA nf D cl A s.heap ad n M H locs) (h : mm_put pc ls st n M P ci ini idx = some τ) (kk : mm_KK p l e R s m args below meth c cells slots Q P DA nf D cl A ad n τ) : W p l e R s m args below meth c H locs cells slots Q (F0 m pc ls' (st.map (mm_cv ad))) := by
  unfold mm_put at h
  split at h
  · rename_i v a r d k hf
    split at h
    · rename_i hka
      obtain ⟨C, T, N, hcl, hkN, hw⟩ := hGf _ _ _ _ hf
      obtain ⟨hnf, hcn, hin, ty, hty, hnm, hft⟩ := hGc _ _ _ _ hcl
      obtain ⟨e1, e2, e3, e4⟩ := hft k hkN
      have he : (mm_w P DA nf ad n M)[a]? = some (ad a, .inr (d, (List.range (nf d)).map fun k : Nat => mm_fv ad (mm_ft P d k) (M.1 a k) (M.2.1 a k))) := by rw [mm_w_at hka.2.1, mm_en_o hka.1]
      have go : ∀ M2 : mm_M, (∀ i, i ≠ a → mm_en P DA nf ad M2 i = mm_en P DA nf ad M i) → (∀ j : Nat, j ≠ k → mm_fv ad (mm_ft P d j) (M2.1 a j) (M2.2.1 a j) = mm_fv ad (mm_ft P d j) (M.1 a j) (M.2.1 a j)) → mm_fv ad (mm_ft P d k) (M2.1 a k) (M2.2.1 a k) = mm_cv ad v → narrow (ty k) (mm_cv ad v) = mm_cv ad v → fits (ty k) (mm_cv ad v) = true → τ = (pc + 3, ls, r, n, M2) → W p l e R s m args below meth c H locs cells slots Q (F0 m pc ls' ((v :: mm_r a :: r).map (mm_cv ad))) := by
        intro M2 h1 h2 h3 h4 h5 hτ
        subst hτ
        have hset : (mm_w P DA nf ad n M).set a (ad a, .inr (d, ((List.range (nf d)).map fun k : Nat => mm_fv ad (mm_ft P d k) (M.1 a k) (M.2.1 a k)).set k (mm_cv ad v))) = mm_w P DA nf ad n M2 := by
          refine mm_w_set ?_ h1
          rw [mm_en_o hka.1, ← h3]
          congr 2
          exact (mm_range_set (f := fun k : Nat => mm_fv ad (mm_ft P d k) (M.1 a k) (M.2.1 a k)) (g := fun k : Nat => mm_fv ad (mm_ft P d k) (M2.1 a k) (M2.2.1 a k)) h2).symm
        have kk2 : ∀ (H1 : Heap) (locs1 : List Loc), va_P D cl ((mm_w P DA nf ad n M).set a (ad a, .inr (d, ((List.range (nf d)).map fun k : Nat => mm_fv ad (mm_ft P d k) (M.1 a k) (M.2.1 a k)).set k (mm_cv ad v)))) H1 → va_D A ((mm_w P DA nf ad n M).set a (ad a, .inr (d, ((List.range (nf d)).map fun k : Nat => mm_fv ad (mm_ft P d k) (M.1 a k) (M.2.1 a k)).set k (mm_cv ad v)))) → va_S A s.heap H1 locs1 → W p l e R s m args below meth c H1 locs1 cells slots Q (F0 m (pc + 3) ls' (r.map (mm_cv ad))) := by
          intro H1 locs1 q1 q2 q3
          rw [hset] at q1 q2
          exact kk ad H1 locs1 ls' cells slots rfl rfl mm_ex_rf hL ⟨q1, q2, q3⟩
        cases hfi : mm_fi P d k with
        | false => exact va_put hx hb hts hin ty hty hnm hown hK hX.1 hX.2.1 hX.2.2 a he hcl k hkN (hts _ hw) (fun x q => by rw [e3] at q; exact q) (e2.trans hfi) (hty k hkN) h4 h5 (by simp [hnf, hkN]) hdg kk2
        | true =>
          obtain ⟨g1, g2⟩ := hka.2.2 hfi
          exact va_putF hx hb hts hin ty hty hnm hown hK hX.1 hX.2.1 hX.2.2 a he hcl k hkN (hts _ hw) (fun x q => by rw [e3] at q; exact q) (e2.trans hfi) (hini g1) (by rw [e3, g2, hcn]) (hty k hkN) h4 h5 (by simp [hnf, hkN]) hdg kk2
      split at h
      · rename_i x q
        have e5 : ty k = .int := by rw [e1] at q; exact Option.some.inj q
        cases h
        exact go _ (fun i hi => mm_en_putN hi) (fun j hj => mm_fv_put j hj) (by simp only [mm_fv, q, mm_cv, mm_putN, and_self, if_true, mm_I_t]) (by rw [e5]; rfl) (by rw [e5]; rfl) rfl
      · rename_i x q
        have e5 : ty k = .boolean := by rw [e1] at q; exact Option.some.inj q
        split at h
        · rename_i hx01
          cases h
          refine go _ (fun i hi => mm_en_putN hi) (fun j hj => mm_fv_put j hj) (by simp [mm_fv, q, mm_cv, mm_putN]) ?_ ?_ rfl
          · rw [e5]; rcases hx01 with rfl | rfl <;> rfl
          · rw [e5]; rcases hx01 with rfl | rfl <;> rfl
        · cases h
      · rename_i x q
        have e5 : ty k = .long := by rw [e1] at q; exact Option.some.inj q
        cases h
        exact go _ (fun i hi => mm_en_putN hi) (fun j hj => mm_fv_put j hj) (by simp only [mm_fv, q, mm_cv, mm_putN, and_self, if_true, mm_J_t]) (by rw [e5]; rfl) (by rw [e5]; rfl) rfl
      · rename_i C2 x q
        have e5 : ty k = .object C2 := by rw [e1] at q; exact Option.some.inj q
        cases h
        exact go _ (fun i hi => mm_en_putR hi) (fun j hj => mm_fv_putR j hj) (by simp [mm_fv, q, mm_cv, mm_putR, va_rf]) (by rw [e5]; rfl) (by rw [e5]; rfl) rfl
      · rename_i C2 x q
        have e5 : ty k = .array C2 := by rw [e1] at q; exact Option.some.inj q
        cases h
        exact go _ (fun i hi => mm_en_putR hi) (fun j hj => mm_fv_putR j hj) (by simp [mm_fv, q, mm_cv, mm_putR, va_rf]) (by rw [e5]; rfl) (by rw [e5]; rfl) rfl
      · cases h
    · cases h
  · cases h
theorem mm_arr_spec {ty : FieldType} {a : Nat} {i : Int} (h : mm_arr n P ty a i = true) : ∃ k : Nat, mm_kd P a = some (.inr (ty, k)) ∧ a < n ∧ 0 ≤ i ∧ i < k ∧ k < 2147483648 := by
  unfold mm_arr at h
  split at h
  · rename_i t k hk
    simp only [Bool.and_eq_true, decide_eq_true_eq] at h
    obtain ⟨⟨⟨⟨h1, h2⟩, h3⟩, h4⟩, h5⟩ := h
    subst h2
    exact ⟨k, hk, h1, h3, h4, h5⟩
  · cases h
theorem mm_W_ald (hx : p.tables.exec = Jvm.exec) (hb : c.code = cc) (hK : va_K D cl (mm_tys DA) s) {ty : FieldType} {w : Nat} {L : Nat} {xs : Nat → Int32} (hsc : va_X (ad mm_scr) L xs s s.heap) (hscl : ad mm_scr < s.heap.size) (hscA : ¬ A (ad mm_scr)) (hL1 : (mm_sc P).1 = L) (hL2 : ∀ j : Nat, mm_I ((mm_sc P).2 j) = xs j)
    (hd : (ty = .int ∧ w = 0 ∧ decode cc pc = .ok (.iaload, 1)) ∨ (ty = .boolean ∧ w = 0 ∧ decode cc pc = .ok (.baload, 1)) ∨ (ty = .long ∧ w = 1 ∧ decode cc pc = .ok (.laload, 1)))
    (hL : mm_L ad ls' ls) (hX : mm_X P DA nf D cl A s.heap ad n M H locs) (h : mm_ald pc ls st n M P ty w = some τ) (kk : mm_KK p l e R s m args below meth c cells slots Q P DA nf D cl A ad n τ) : W p l e R s m args below meth c H locs cells slots Q (F0 m pc ls' (st.map (mm_cv ad))) := by
  unfold mm_ald at h
  split at h
  · rename_i i a r
    split at h
    · rename_i ha
      split at h
      · rename_i hi
        cases h
        obtain ⟨rfl, hty⟩ := ha
        rcases hd with ⟨-, -, hdg⟩ | ⟨h1, -⟩ | ⟨h1, -⟩
        · have hin : vp_in (mm_I i) L := by rw [← hL1]; exact mm_I_vp hi.1 hi.2.1 hi.2.2
          refine va_sld hx hb hsc hscl hscA hX.2.2 hin hdg ?_
          rw [mm_I_cl hi.1 (by omega), ← hL2, Int.toNat_of_nonneg hi.1]
          exact mm_KK_s kk hL hX
        · rw [hty] at h1; cases h1
        · rw [hty] at h1; cases h1
      · cases h
    · split at h
      · rename_i ha
        obtain ⟨k, hk, han, h0, hik, hkb⟩ := mm_arr_spec ha
        cases h
        have he : (mm_w P DA nf ad n M)[a]? = some (ad a, .inl (DA ty, k, mm_av ad ty (M.1 a) (M.2.1 a))) := by rw [mm_w_at han, mm_en_a hk]
        have hin : vp_in (mm_I i) k := mm_I_vp h0 hik hkb
        have hcl := mm_I_cl h0 (show i < 2147483648 by omega)
        rcases hd with ⟨rfl, rfl, hdg⟩ | ⟨rfl, rfl, hdg⟩ | ⟨rfl, rfl, hdg⟩
        · refine va_iald hx hb hK hX.1 a 0 he rfl hin hdg ?_
          rw [hcl]
          have k9 := mm_KK_s kk hL hX
          have e9 : ((i.toNat : Nat) : Int) = i := Int.toNat_of_nonneg h0
          rw [e9]
          exact k9
        · refine va_zald hx hb hK hX.1 a 1 he rfl hin hdg ?_
          rw [hcl]
          have k9 := mm_KK_s kk hL hX
          have e9 : ((i.toNat : Nat) : Int) = i := Int.toNat_of_nonneg h0
          rw [e9]
          exact k9
        · refine va_lald hx hb hK hX.1 a 2 he rfl hin hdg ?_
          rw [hcl]
          have k9 := mm_KK_s kk hL hX
          have e9 : ((i.toNat : Nat) : Int) = i := Int.toNat_of_nonneg h0
          rw [e9]
          exact k9
      · cases h
  · cases h
theorem mm_W_ast (hx : p.tables.exec = Jvm.exec) (hb : c.code = cc) (hK : va_K D cl (mm_tys DA) s) {ty : FieldType} {w : Nat}
    (hd : (ty = .int ∧ w = 0 ∧ decode cc pc = .ok (.iastore, 1)) ∨ (ty = .boolean ∧ w = 0 ∧ decode cc pc = .ok (.bastore, 1)) ∨ (ty = .long ∧ w = 1 ∧ decode cc pc = .ok (.lastore, 1)))
    (hL : mm_L ad ls' ls) (hX : mm_X P DA nf D cl A s.heap ad n M H locs) (h : mm_ast pc ls st n M P ty w = some τ) (kk : mm_KK p l e R s m args below meth c cells slots Q P DA nf D cl A ad n τ) : W p l e R s m args below meth c H locs cells slots Q (F0 m pc ls' (st.map (mm_cv ad))) := by
  unfold mm_ast at h
  split at h
  · rename_i x i a r
    split at h
    · rename_i ha
      obtain ⟨k, hk, han, h0, hik, hkb⟩ := mm_arr_spec ha.1
      cases h
      have he : (mm_w P DA nf ad n M)[a]? = some (ad a, .inl (DA ty, k, mm_av ad ty (M.1 a) (M.2.1 a))) := by rw [mm_w_at han, mm_en_a hk]
      have hin : vp_in (mm_I i) k := mm_I_vp h0 hik hkb
      have hcl := mm_I_cl h0 (show i < 2147483648 by omega)
      have fin : ∀ g : Nat → Int32, (∀ j, mm_I ((mm_putN M a i (mm_I x).toInt).1 a (j : Nat)) = g j) → (ty = .int ∨ ty = .boolean) → ∀ (H1 : Heap) (locs1 : List Loc), va_P D cl ((mm_w P DA nf ad n M).set a (ad a, .inl (DA ty, k, .inl g))) H1 → va_D A ((mm_w P DA nf ad n M).set a (ad a, .inl (DA ty, k, .inl g))) → va_S A s.heap H1 locs1 → W p l e R s m args below meth c H1 locs1 cells slots Q (F0 m (pc + 1) ls' (r.map (mm_cv ad))) := by
        intro g hg hty H1 locs1 q1 q2 q3
        have hset : (mm_w P DA nf ad n M).set a (ad a, .inl (DA ty, k, .inl g)) = mm_w P DA nf ad n (mm_putN M a i (mm_I x).toInt) := by
          refine mm_w_set ?_ (fun j hj => mm_en_putN hj)
          rw [mm_en_a hk]
          have : g = fun j : Nat => mm_I ((mm_putN M a i (mm_I x).toInt).1 a j) := funext fun j => (hg j).symm
          rw [this]
          rcases hty with rfl | rfl <;> rfl
        rw [hset] at q1 q2
        exact kk ad H1 locs1 ls' cells slots rfl rfl mm_ex_rf hL ⟨q1, q2, q3⟩
      rcases hd with ⟨rfl, -, hdg⟩ | ⟨rfl, -, hdg⟩ | ⟨rfl, h1, -⟩
      · refine va_iast hx hb hK hX.1 hX.2.1 hX.2.2 a 0 he rfl hin hdg (fin _ (fun j => ?_) (Or.inl rfl))
        rw [hcl]; unfold upd mm_putN; simp only [true_and, mm_ix h0 j]; split
        · exact mm_I_t _
        · rfl
      · refine va_zast hx hb hK hX.1 hX.2.1 hX.2.2 a 1 he rfl hin hdg (fin _ (fun j => ?_) (Or.inr rfl))
        rw [hcl]; unfold upd mm_putN; simp only [true_and, mm_ix h0 j]
        have h01 := ha.2 rfl
        split
        · rw [mm_I_t]; rcases h01 with rfl | rfl <;> rfl
        · rfl
      · cases h1
    · cases h
  · rename_i x i a r
    split at h
    · rename_i ha
      obtain ⟨k, hk, han, h0, hik, hkb⟩ := mm_arr_spec ha
      cases h
      have he : (mm_w P DA nf ad n M)[a]? = some (ad a, .inl (DA ty, k, mm_av ad ty (M.1 a) (M.2.1 a))) := by rw [mm_w_at han, mm_en_a hk]
      have hin : vp_in (mm_I i) k := mm_I_vp h0 hik hkb
      have hcl := mm_I_cl h0 (show i < 2147483648 by omega)
      rcases hd with ⟨-, h1, -⟩ | ⟨-, h1, -⟩ | ⟨rfl, -, hdg⟩
      · cases h1
      · cases h1
      · refine va_last hx hb hK hX.1 hX.2.1 hX.2.2 a 2 he rfl hin hdg (fun H1 locs1 q1 q2 q3 => ?_)
        have hset : (mm_w P DA nf ad n M).set a (ad a, .inl (DA .long, k, .inr (.inl (vp_updL (fun k : Nat => mm_J (M.1 a k)) (mm_I i).toNatClampNeg (mm_J x))))) = mm_w P DA nf ad n (mm_putN M a i (mm_J x).toInt) := by
          refine mm_w_set ?_ (fun j hj => mm_en_putN hj)
          rw [mm_en_a hk, hcl]
          have : vp_updL (fun k : Nat => mm_J (M.1 a k)) i.toNat (mm_J x) = fun j : Nat => mm_J ((mm_putN M a i (mm_J x).toInt).1 a j) := by
            funext j
            unfold vp_updL mm_putN; simp only [true_and, mm_ix h0 j]; split
            · exact (mm_J_t _).symm
            · rfl
          rw [this]
          rfl
        rw [hset] at q1 q2
        exact kk ad H1 locs1 ls' cells slots rfl rfl mm_ex_rf hL ⟨q1, q2, q3⟩
    · cases h
  · cases h
theorem mm_W_aald (hx : p.tables.exec = Jvm.exec) (hb : c.code = cc) (hK : va_K D cl (mm_tys DA) s) (hGn : mm_Gn P cl Ts cn) (hdg : decode cc pc = .ok (.aaload, 1))
    (hL : mm_L ad ls' ls) (hX : mm_X P DA nf D cl A s.heap ad n M H locs) (h : mm_aald pc ls st n M P = some τ) (kk : mm_KK p l e R s m args below meth c cells slots Q P DA nf D cl A ad n τ) : W p l e R s m args below meth c H locs cells slots Q (F0 m pc ls' (st.map (mm_cv ad))) := by
  unfold mm_aald at h
  split at h
  · rename_i i a r
    split at h
    · rename_i C k b hk hb2
      split at h
      · rename_i hh
        obtain rfl := hGn.2.2.2.2.2.2 _ _ _ hk
        cases h
        have he : (mm_w P DA nf ad n M)[a]? = some (ad a, .inl (DA (.object mm_arC), k, mm_av ad (.object mm_arC) (M.1 a) (M.2.1 a))) := by rw [mm_w_at hh.1, mm_en_a hk]
        have hin : vp_in (mm_I i) k := mm_I_vp hh.2.1 hh.2.2.1 hh.2.2.2
        refine va_aldq hx hb hK hX.1 a 3 he rfl hin hdg ?_
        have e9 : ((i.toNat : Nat) : Int) = i := Int.toNat_of_nonneg hh.2.1
        rw [mm_I_cl hh.2.1 (by omega), e9, hb2]
        exact mm_KK_s kk hL hX
      · cases h
    · cases h
  · cases h
theorem mm_W_aast (hx : p.tables.exec = Jvm.exec) (hb : c.code = cc) (hK : va_K D cl (mm_tys DA) s) (hGn : mm_Gn P cl Ts cn) (hdg : decode cc pc = .ok (.aastore, 1))
    (hL : mm_L ad ls' ls) (hX : mm_X P DA nf D cl A s.heap ad n M H locs) (h : mm_aast pc ls st n M P = some τ) (kk : mm_KK p l e R s m args below meth c cells slots Q P DA nf D cl A ad n τ) : W p l e R s m args below meth c H locs cells slots Q (F0 m pc ls' (st.map (mm_cv ad))) := by
  unfold mm_aast at h
  split at h
  · rename_i b i a r
    split at h
    · rename_i C k hk hb2
      split at h
      · rename_i hh
        obtain rfl := hGn.2.2.2.2.2.2 _ _ _ hk
        obtain ⟨T, N, hc0⟩ := hGn.2.2.2.2.2.1
        cases h
        have he : (mm_w P DA nf ad n M)[a]? = some (ad a, .inl (DA (.object mm_arC), k, mm_av ad (.object mm_arC) (M.1 a) (M.2.1 a))) := by rw [mm_w_at hh.1, mm_en_a hk]
        have he2 : (mm_w P DA nf ad n M)[b]? = some (ad b, .inr (0, (List.range (nf 0)).map fun k : Nat => mm_fv ad (mm_ft P 0 k) (M.1 b k) (M.2.1 b k))) := by rw [mm_w_at hh.2.1, mm_en_o hb2]
        have hin : vp_in (mm_I i) k := mm_I_vp hh.2.2.1 hh.2.2.2.1 hh.2.2.2.2
        refine va_astq hx hb hK hX.1 hX.2.1 hX.2.2 a 3 b 0 he rfl he2 hc0 hin hdg (fun H1 locs1 q1 q2 q3 => ?_)
        have hset : (mm_w P DA nf ad n M).set a (ad a, .inl (DA (.object mm_arC), k, .inr (.inr (.inr (.inr (va_up (fun k : Nat => (M.2.1 a k).map ad) (mm_I i).toNatClampNeg (some (ad b)))))))) = mm_w P DA nf ad n (mm_putR M a i (some b)) := by
          refine mm_w_set ?_ (fun j hj => mm_en_putR hj)
          rw [mm_en_a hk, mm_I_cl hh.2.2.1 (by omega)]
          have : va_up (fun k : Nat => (M.2.1 a k).map ad) i.toNat (some (ad b)) = fun j : Nat => ((mm_putR M a i (some b)).2.1 a j).map ad := by
            funext j
            unfold va_up mm_putR; simp only [true_and, mm_ix hh.2.2.1 j]; split <;> rfl
          rw [this]
          rfl
        rw [hset] at q1 q2
        exact kk ad H1 locs1 ls' cells slots rfl rfl mm_ex_rf hL ⟨q1, q2, q3⟩
      · cases h
    · cases h
  · cases h
theorem mm_W_alen (hx : p.tables.exec = Jvm.exec) (hb : c.code = cc) (hK : va_K D cl (mm_tys DA) s) (hGn : mm_Gn P cl Ts cn) {L : Nat} {xs : Nat → Int32} (hsc : va_X (ad mm_scr) L xs s s.heap) (hscl : ad mm_scr < s.heap.size) (hscA : ¬ A (ad mm_scr)) (hL1 : (mm_sc P).1 = L) (hty : ∀ a ty k, mm_kd P a = some (.inr (ty, k)) → ty = .int ∨ ty = .boolean ∨ ty = .long ∨ ty = .object mm_arC) (hdg : decode cc pc = .ok (.arraylength, 1))
    (hL : mm_L ad ls' ls) (hX : mm_X P DA nf D cl A s.heap ad n M H locs) (h : mm_alen pc ls st n M P = some τ) (kk : mm_KK p l e R s m args below meth c cells slots Q P DA nf D cl A ad n τ) : W p l e R s m args below meth c H locs cells slots Q (F0 m pc ls' (st.map (mm_cv ad))) := by
  unfold mm_alen at h
  split at h
  · rename_i a r
    split at h
    · rename_i ha
      subst ha
      cases h
      refine va_slen hx hb hsc hscl hscA hX.2.2 hdg ?_
      rw [mm_I_nat, ← hL1]
      exact mm_KK_s kk hL hX
    · split at h
      · rename_i ty k hk
        split at h
        · rename_i han
          cases h
          have he : (mm_w P DA nf ad n M)[a]? = some (ad a, .inl (DA ty, k, mm_av ad ty (M.1 a) (M.2.1 a))) := by rw [mm_w_at han, mm_en_a hk]
          rcases hty _ _ _ hk with rfl | rfl | rfl | rfl
          · exact va_alen hx hb hK hX.1 a 0 he rfl (mm_I_nat k) hdg (mm_KK_s kk hL hX)
          · exact va_alen hx hb hK hX.1 a 1 he rfl (mm_I_nat k) hdg (mm_KK_s kk hL hX)
          · exact va_alen hx hb hK hX.1 a 2 he rfl (mm_I_nat k) hdg (mm_KK_s kk hL hX)
          · exact va_alen hx hb hK hX.1 a 3 he rfl (mm_I_nat k) hdg (mm_KK_s kk hL hX)
        · cases h
      · cases h
  · cases h
end
