section
variable {p : Program} {l : Launch} {e : Env} {R : Room} {s : State} {m : MethodId} {args : Array Value} {below : List Frame} {meth : Method} {c : Code} {H : Heap} {locs : List Loc} {cells slots : Nat} {Q : State → Prop}
variable {cc : ByteArray} {P : mm_P} {DA : FieldType → ClassId} {nf : Nat → Nat} {D : va_G} {cl : List vw_C} {A : Nat → Prop} {Ts : List Cond} {cn : Nat → String}
variable {ad : Nat → Nat} {ls' : Array Slot} {pc : Nat} {ls st : List mm_V} {n : Nat} {M : mm_M} {ci : Nat} {ini : Bool} {τ : mm_S}
theorem mm_RA_eq {cA : ClassId} {ty : FieldType} (hK : va_K D cl (mm_tys DA) s) (hty : ty = .int ∨ ty = .boolean ∨ ty = .long ∨ ty = .object mm_arC) (h : va_RA s cA ty) : cA = DA ty := by
  rcases hty with rfl | rfl | rfl | rfl
  · exact Option.some.inj (h.symm.trans (hK.2 0 _ rfl).2)
  · exact Option.some.inj (h.symm.trans (hK.2 1 _ rfl).2)
  · exact Option.some.inj (h.symm.trans (hK.2 2 _ rfl).2)
  · obtain ⟨_, _, _, _, _, h1⟩ := h
    obtain ⟨_, _, _, _, _, h2⟩ := (hK.2 3 _ rfl).2
    exact Option.some.inj (h1.symm.trans h2)
theorem mm_W_nwa (hx : p.tables.exec = Jvm.exec) (hb : c.code = cc) (hts : ∀ w ∈ Ts, w.before args s = true) (hown : s.vm.findClass (cn ci) = some m.cls) (hK : va_K D cl (mm_tys DA) s) (hA : ∀ q, s.heap.size ≤ q → A q) (hGn : mm_Gn P cl Ts cn) (hAO : va_AO mm_arC s) {ty : FieldType} {k : Nat}
    (hd : (ty = .int ∧ k = 2 ∧ decode cc pc = .ok (.newarray .int, 2)) ∨ (ty = .boolean ∧ k = 2 ∧ decode cc pc = .ok (.newarray .boolean, 2)) ∨ (ty = .long ∧ k = 2 ∧ decode cc pc = .ok (.newarray .long, 2)) ∨ (ty = .object mm_arC ∧ k = 3 ∧ ∃ idx, mm_la P ci idx = some 0 ∧ decode cc pc = .ok (.anewarray idx, 3)))
    (hls : ∀ v ∈ ls, mm_vok n v) (hss : ∀ v ∈ st, mm_vok n v) (hmk : mm_mok n M) (hL : mm_L ad ls' ls) (hX : mm_X P DA nf D cl A s.heap ad n M H locs) (h : mm_nwa pc ls st n M P ty k = some τ) (hc : cells + τ.2.2.2.1 ≤ R.cells + n) (hs : slots + mm_sl P nf τ.2.2.2.1 ≤ R.slots + mm_sl P nf n) (kk : mm_KK p l e R s m args below meth c cells slots Q P DA nf D cl A ad n τ) : W p l e R s m args below meth c H locs cells slots Q (F0 m pc ls' (st.map (mm_cv ad))) := by
  unfold mm_nwa at h
  split at h
  · rename_i x r
    split at h
    · rename_i hh
      obtain ⟨hk, h0, hx6, hn⟩ := hh
      cases h
      have hsl : mm_sl P nf (n + 1) = mm_sl P nf n + x.toNat := by
        show mm_sl P nf n + mm_sz nf (mm_kd P n) = _
        rw [hk]; rfl
      have hc1 : cells + 1 ≤ R.cells := by have : cells + (n + 1) ≤ R.cells + n := hc; omega
      have hs1 : slots + x.toNat ≤ R.slots := by have : slots + mm_sl P nf (n + 1) ≤ R.slots + mm_sl P nf n := hs; omega
      have hneg : ¬ mm_I x < 0 := mm_I_lt0 h0 (by omega)
      have hcl : (mm_I x).toNatClampNeg = x.toNat := mm_I_cl h0 (by omega)
      have hen : mm_en P DA nf ad (mm_fresh M n) n = .inl (DA ty, x.toNat, mm_av ad ty (fun _ => 0) (fun _ => none)) := by
        rw [mm_en_a hk]
        simp [mm_fresh]
      have fin : ∀ (q : Nat) (H1 : Heap), va_P D cl (mm_w P DA nf ad n M ++ [(q, .inl (DA ty, x.toNat, mm_av ad ty (fun _ => 0) (fun _ => none)))]) H1 → va_D A (mm_w P DA nf ad n M ++ [(q, .inl (DA ty, x.toNat, mm_av ad ty (fun _ => 0) (fun _ => none)))]) → va_S A s.heap H1 locs → W p l e R s m args below meth c H1 locs (cells + 1) (slots + x.toNat) Q (F0 m (pc + k) ls' (.ref q :: r.map (mm_cv ad))) := by
        intro q H1 q1 q2 q3
        obtain ⟨e1, e2⟩ := mm_w_push (q := q) hmk hn hen
        rw [e1] at q1 q2
        have hst : (mm_r n :: r).map (mm_cv (va_up ad n q)) = .ref q :: r.map (mm_cv ad) := by
          rw [List.map_cons, mm_cvs_ex (fun v hv => hss v (List.mem_cons_of_mem _ hv)) e2]
          simp [mm_cv, va_up]
        rw [← hst]
        exact kk _ H1 locs ls' _ _ (by show cells + 1 + n = cells + (n + 1); omega) (by show slots + x.toNat + mm_sl P nf n = slots + mm_sl P nf (n + 1); omega) e2 (mm_L_ex hL hls e2) ⟨q1, q2, q3⟩
      rcases hd with ⟨rfl, rfl, hdg⟩ | ⟨rfl, rfl, hdg⟩ | ⟨rfl, rfl, hdg⟩ | ⟨rfl, rfl, idx, hla, hdg⟩
      · refine va_newa hx hb (hts _ hGn.2.2.1) rfl hK hX.1 hX.2.1 hX.2.2 hA (atype := .int) (a0 := (x.toNat, mm_av ad .int (fun _ => 0) (fun _ => none))) (fun cA => rfl) hneg hcl (by show x.toNat * 4 ≤ _; omega) hc1 hs1 hdg (fun q cA H1 k1 k2 k3 k4 => ?_)
        obtain rfl := mm_RA_eq hK (Or.inl rfl) (k1.2 4 _ rfl).2
        exact fin q H1 k2 k3 k4
      · refine va_newa hx hb (hts _ hGn.2.2.2.1) rfl hK hX.1 hX.2.1 hX.2.2 hA (atype := .boolean) (a0 := (x.toNat, mm_av ad .boolean (fun _ => 0) (fun _ => none))) (fun cA => rfl) hneg hcl (by show x.toNat * 1 ≤ _; omega) hc1 hs1 hdg (fun q cA H1 k1 k2 k3 k4 => ?_)
        obtain rfl := mm_RA_eq hK (Or.inr (Or.inl rfl)) (k1.2 4 _ rfl).2
        exact fin q H1 k2 k3 k4
      · refine va_newa hx hb (hts _ hGn.2.2.2.2.1) rfl hK hX.1 hX.2.1 hX.2.2 hA (atype := .long) (a0 := (x.toNat, mm_av ad .long (fun _ => 0) (fun _ => none))) (fun cA => rfl) hneg hcl (by show x.toNat * 8 ≤ _; omega) hc1 hs1 hdg (fun q cA H1 k1 k2 k3 k4 => ?_)
        obtain rfl := mm_RA_eq hK (Or.inr (Or.inr (Or.inl rfl))) (k1.2 4 _ rfl).2
        exact fin q H1 k2 k3 k4
      · refine va_newq hx hb hown (hts _ (hGn.2.1 _ _ hla)) hAO hK hX.1 hX.2.1 hX.2.2 hA hneg hcl (by omega) hc1 hs1 hdg (fun q cA H1 k1 k2 k3 k4 => ?_)
        obtain rfl := mm_RA_eq hK (Or.inr (Or.inr (Or.inr rfl))) (k1.2 4 _ rfl).2
        exact fin q H1 k2 k3 k4
    · cases h
  · cases h
theorem mm_W_new (hx : p.tables.exec = Jvm.exec) (hb : c.code = cc) (hts : ∀ w ∈ Ts, w.before args s = true) (hown : s.vm.findClass (cn ci) = some m.cls) (hK : va_K D cl (mm_tys DA) s) (hA : ∀ q, s.heap.size ≤ q → A q) (hGc : mm_Gc P nf cl Ts cn) (hGn : mm_Gn P cl Ts cn) {idx : Nat} (hdg : decode cc pc = .ok (.new idx, 3))
    (hls : ∀ v ∈ ls, mm_vok n v) (hss : ∀ v ∈ st, mm_vok n v) (hmk : mm_mok n M) (hL : mm_L ad ls' ls) (hX : mm_X P DA nf D cl A s.heap ad n M H locs) (h : mm_new pc ls st n M P ci idx = some τ) (hc : cells + τ.2.2.2.1 ≤ R.cells + n) (hs : slots + mm_sl P nf τ.2.2.2.1 ≤ R.slots + mm_sl P nf n) (kk : mm_KK p l e R s m args below meth c cells slots Q P DA nf D cl A ad n τ) : W p l e R s m args below meth c H locs cells slots Q (F0 m pc ls' (st.map (mm_cv ad))) := by
  unfold mm_new at h
  split at h
  · rename_i d hd
    split at h
    · rename_i hh
      obtain ⟨hk, hn⟩ := hh
      cases h
      obtain ⟨C, T, N, hcl, w1, w2, w3⟩ := hGn.1 _ _ _ hd
      obtain ⟨hnf, hcn, hin, ty, hty, hnm, hft⟩ := hGc _ _ _ _ hcl
      have hsl : mm_sl P nf (n + 1) = mm_sl P nf n + N := by
        show mm_sl P nf n + mm_sz nf (mm_kd P n) = _
        rw [hk]
        show _ + nf d = _
        rw [hnf]
      have hc1 : cells + 1 ≤ R.cells := by have : cells + (n + 1) ≤ R.cells + n := hc; omega
      have hs1 : slots + N ≤ R.slots := by have : slots + mm_sl P nf (n + 1) ≤ R.slots + mm_sl P nf n := hs; omega
      have hen : mm_en P DA nf ad (mm_fresh M n) n = .inr (d, (List.range N).map fun k => mm_fv ad (mm_ft P d k) 0 none) := by
        rw [mm_en_o hk, hnf]
        simp [mm_fresh]
      refine va_new (fs := (List.range N).map fun k => mm_fv ad (mm_ft P d k) 0 none) hx hb hts hin ty hty hown (hts _ w1) (hts _ w2) (hts _ w3) hK hX.1 hX.2.1 hX.2.2 hA hcl (fun j hj => ?_) hc1 hs1 hdg (fun q H1 q1 q2 q3 => ?_)
      · obtain ⟨e1, -, -, e4⟩ := hft j hj
        have : vp_V ((List.range N).map fun k => mm_fv ad (mm_ft P d k) 0 none) j = mm_fv ad (mm_ft P d j) 0 none := by
          simp [vp_V, hj]
        rw [this, e1]
        rcases e4 with h | h | h | ⟨C2, h⟩ | ⟨t, h⟩ <;> rw [h] <;> rfl
      · obtain ⟨e1, e2⟩ := mm_w_push (q := q) hmk hn hen
        rw [e1] at q1 q2
        have hst : (mm_r n :: st).map (mm_cv (va_up ad n q)) = .ref q :: st.map (mm_cv ad) := by
          rw [List.map_cons, mm_cvs_ex hss e2]
          simp [mm_cv, va_up]
        rw [← hst]
        exact kk _ H1 locs ls' _ _ (by show cells + 1 + n = cells + (n + 1); omega) (by show slots + N + mm_sl P nf n = slots + mm_sl P nf (n + 1); omega) e2 (mm_L_ex hL hls e2) ⟨q1, q2, q3⟩
    · cases h
  · cases h
theorem mm_lok_eq {i : Instr} {len k : Nat} (h : mm_lok i len = true) (hi : mm_lok i k = true) (h2 : mm_lok i (k + 1) = false) : len = k := by
  unfold mm_lok at h hi h2
  split at h
  · cases h2
  · cases h2
  · simp only [beq_iff_eq] at h hi; omega
theorem mm_do_sound (hx : p.tables.exec = Jvm.exec) (hb : c.code = cc) (hts : ∀ w ∈ Ts, w.before args s = true) (hown : s.vm.findClass (cn ci) = some m.cls) (hK : va_K D cl (mm_tys DA) s) (hA : ∀ q, s.heap.size ≤ q → A q) (hGc : mm_Gc P nf cl Ts cn) (hGf : mm_Gf P cl Ts cn) (hGk : mm_Gk P Ts cn) (hGn : mm_Gn P cl Ts cn) (hAO : va_AO mm_arC s) (hini : ini = true → meth.name = "<init>")
    {L : Nat} {xs : Nat → Int32} (hsc : va_X (ad mm_scr) L xs s s.heap) (hscl : ad mm_scr < s.heap.size) (hscA : ¬ A (ad mm_scr)) (hL1 : (mm_sc P).1 = L) (hL2 : ∀ j : Nat, mm_I ((mm_sc P).2 j) = xs j) (hty : ∀ a ty k, mm_kd P a = some (.inr (ty, k)) → ty = .int ∨ ty = .boolean ∨ ty = .long ∨ ty = .object mm_arC)
    {i : Instr} {len : Nat} (hdg : decode cc pc = .ok (i, len)) (hlok : mm_lok i len = true)
    (hls : ∀ v ∈ ls, mm_vok n v) (hss : ∀ v ∈ st, mm_vok n v) (hmk : mm_mok n M) (hL : mm_L ad ls' ls) (hX : mm_X P DA nf D cl A s.heap ad n M H locs) (h : mm_do pc ls st n M P ci ini i = some τ) (hc : cells + τ.2.2.2.1 ≤ R.cells + n) (hs : slots + mm_sl P nf τ.2.2.2.1 ≤ R.slots + mm_sl P nf n) (kk : mm_KK p l e R s m args below meth c cells slots Q P DA nf D cl A ad n τ) : W p l e R s m args below meth c H locs cells slots Q (F0 m pc ls' (st.map (mm_cv ad))) := by
  have hLh := mm_L_has.mp hL
  unfold mm_do at h
  split at h
  · obtain rfl := mm_lok_eq (k := 1) hlok rfl rfl
    exact mm_W_psh (fun r k => lv_iconst hx hb hdg rfl k) hL hX h kk
  · obtain rfl := mm_lok_eq (k := 2) hlok rfl rfl
    split at h
    · rename_i hv; exact mm_W_psh (fun r k => lv_bipush hx hb hdg (mm_I_b hv.1 hv.2) k) hL hX h kk
    · cases h
  · obtain rfl := mm_lok_eq (k := 3) hlok rfl rfl
    split at h
    · rename_i hv; exact mm_W_psh (fun r k => lv_sipush hx hb hdg (mm_I_s hv.1 hv.2) k) hL hX h kk
    · cases h
  · obtain rfl := mm_lok_eq (k := 1) hlok rfl rfl
    exact mm_W_psh (fun r k => lv_lconst hx hb hdg (mm_J_fin _) k) hL hX h kk
  · obtain rfl := mm_lok_eq (k := 2) hlok rfl rfl
    split at h
    · rename_i v hv; exact mm_W_psh (fun r k => lv_ldc hx hb hown (hts _ (hGk.1 _ _ _ hv)) hdg k) hL hX h kk
    · cases h
  · obtain rfl := mm_lok_eq (k := 3) hlok rfl rfl
    split at h
    · rename_i v hv; exact mm_W_psh (fun r k => lv_ldcw hx hb hown (hts _ (hGk.1 _ _ _ hv)) hdg k) hL hX h kk
    · cases h
  · obtain rfl := mm_lok_eq (k := 3) hlok rfl rfl
    split at h
    · rename_i v hv; exact mm_W_psh (fun r k => lv_ldc2 hx hb hown (hts _ (hGk.2 _ _ _ hv)) hdg k) hL hX h kk
    · cases h
  · obtain rfl := mm_lok_eq (k := 2) hlok rfl rfl
    exact mm_W_ld (fun x r _ hl k => lv_iload hx hb hdg hl k) (fun _ _ q => absurd q (by decide)) (fun _ _ q => absurd q (by decide)) hL hX h kk
  · obtain rfl := mm_lok_eq (k := 1) hlok rfl rfl
    exact mm_W_ld (fun x r _ hl k => lv_iload_n hx hb hdg rfl hl k) (fun _ _ q => absurd q (by decide)) (fun _ _ q => absurd q (by decide)) hL hX h kk
  · obtain rfl := mm_lok_eq (k := 2) hlok rfl rfl
    exact mm_W_ld (fun _ _ q => absurd q (by decide)) (fun x r _ hl k => lv_lload hx hb hdg hl k) (fun _ _ q => absurd q (by decide)) hL hX h kk
  · obtain rfl := mm_lok_eq (k := 1) hlok rfl rfl
    exact mm_W_ld (fun _ _ q => absurd q (by decide)) (fun x r _ hl k => lv_lload_n hx hb hdg rfl hl k) (fun _ _ q => absurd q (by decide)) hL hX h kk
  · obtain rfl := mm_lok_eq (k := 2) hlok rfl rfl
    exact mm_W_ld (fun _ _ q => absurd q (by decide)) (fun _ _ q => absurd q (by decide)) (fun x r _ hl k => lv_aload hx hb hdg hl k) hL hX h kk
  · obtain rfl := mm_lok_eq (k := 1) hlok rfl rfl
    exact mm_W_ld (fun _ _ q => absurd q (by decide)) (fun _ _ q => absurd q (by decide)) (fun x r _ hl k => lv_aload_n hx hb hdg rfl hl k) hL hX h kk
  · obtain rfl := mm_lok_eq (k := 2) hlok rfl rfl
    exact mm_W_sto (fun x r _ hi k => lv_istore hx hb hdg hLh hi rfl k) (fun _ _ q => absurd q (by decide)) (fun _ _ q => absurd q (by decide)) hX h kk
  · obtain rfl := mm_lok_eq (k := 1) hlok rfl rfl
    exact mm_W_sto (fun x r _ hi k => lv_istore_n hx hb hdg rfl hLh hi rfl k) (fun _ _ q => absurd q (by decide)) (fun _ _ q => absurd q (by decide)) hX h kk
  · obtain rfl := mm_lok_eq (k := 2) hlok rfl rfl
    exact mm_W_sto (fun _ _ q => absurd q (by decide)) (fun x r _ hi k => lv_lstore hx hb hdg hLh hi rfl k) (fun _ _ q => absurd q (by decide)) hX h kk
  · obtain rfl := mm_lok_eq (k := 1) hlok rfl rfl
    exact mm_W_sto (fun _ _ q => absurd q (by decide)) (fun x r _ hi k => lv_lstore_n hx hb hdg rfl hLh hi rfl k) (fun _ _ q => absurd q (by decide)) hX h kk
  · obtain rfl := mm_lok_eq (k := 2) hlok rfl rfl
    exact mm_W_sto (fun _ _ q => absurd q (by decide)) (fun _ _ q => absurd q (by decide)) (fun x r _ hi k => lv_astore hx hb hdg hLh hi rfl k) hX h kk
  · obtain rfl := mm_lok_eq (k := 1) hlok rfl rfl
    exact mm_W_sto (fun _ _ q => absurd q (by decide)) (fun _ _ q => absurd q (by decide)) (fun x r _ hi k => lv_astore_n hx hb hdg rfl hLh hi rfl k) hX h kk
  · obtain rfl := mm_lok_eq (k := 3) hlok rfl rfl
    split at h
    · rename_i x hi; cases h; exact mm_W_iinc hx hb hdg hi hL hX kk
    · cases h
  · obtain rfl := mm_lok_eq (k := 1) hlok rfl rfl
    exact mm_W_i2 (fun x y r k => lv_iadd hx hb hdg (by rw [← mm_I_add]; exact k)) hL hX h kk
  · obtain rfl := mm_lok_eq (k := 1) hlok rfl rfl
    exact mm_W_i2 (fun x y r k => lv_isub hx hb hdg (by rw [← mm_I_sub]; exact k)) hL hX h kk
  · obtain rfl := mm_lok_eq (k := 1) hlok rfl rfl
    exact mm_W_i2 (fun x y r k => lv_imul hx hb hdg (by rw [← mm_I_mul]; exact k)) hL hX h kk
  · obtain rfl := mm_lok_eq (k := 1) hlok rfl rfl
    split at h
    · split at h
      · cases h
      · rename_i hy; cases h; exact lv_idiv hx hb hdg hy (by have k := mm_KK_s kk hL hX; rw [List.map_cons, mm_cv, mm_I_t] at k; exact k)
    · cases h
  · obtain rfl := mm_lok_eq (k := 1) hlok rfl rfl
    split at h
    · split at h
      · cases h
      · rename_i hy; cases h; exact lv_irem hx hb hdg hy (by have k := mm_KK_s kk hL hX; rw [List.map_cons, mm_cv, mm_I_t] at k; exact k)
    · cases h
  · obtain rfl := mm_lok_eq (k := 1) hlok rfl rfl
    exact mm_W_i1 (fun x r k => lv_ineg hx hb hdg (by rw [← mm_I_neg]; exact k)) hL hX h kk
  · obtain rfl := mm_lok_eq (k := 1) hlok rfl rfl
    exact mm_W_i2 (fun x y r k => lv_iand hx hb hdg (by rw [mm_I_t] at k; exact k)) hL hX h kk
  · obtain rfl := mm_lok_eq (k := 1) hlok rfl rfl
    exact mm_W_i2 (fun x y r k => lv_ior hx hb hdg (by rw [mm_I_t] at k; exact k)) hL hX h kk
  · obtain rfl := mm_lok_eq (k := 1) hlok rfl rfl
    exact mm_W_i2 (fun x y r k => lv_ixor hx hb hdg (by rw [mm_I_t] at k; exact k)) hL hX h kk
  · obtain rfl := mm_lok_eq (k := 1) hlok rfl rfl
    exact mm_W_i2 (fun x y r k => lv_ishl hx hb hdg (by rw [mm_I_t] at k; exact k)) hL hX h kk
  · obtain rfl := mm_lok_eq (k := 1) hlok rfl rfl
    exact mm_W_i2 (fun x y r k => lv_ishr hx hb hdg (by rw [mm_I_t] at k; exact k)) hL hX h kk
  · obtain rfl := mm_lok_eq (k := 1) hlok rfl rfl
    exact mm_W_i2 (fun x y r k => lv_iushr hx hb hdg rfl (by rw [mm_I_t] at k; exact k)) hL hX h kk
  · obtain rfl := mm_lok_eq (k := 1) hlok rfl rfl
    exact mm_W_j2 (fun x y r k => lv_ladd hx hb hdg (by rw [← mm_J_add]; exact k)) hL hX h kk
  · obtain rfl := mm_lok_eq (k := 1) hlok rfl rfl
    exact mm_W_j2 (fun x y r k => lv_lsub hx hb hdg (by rw [← mm_J_sub]; exact k)) hL hX h kk
  · obtain rfl := mm_lok_eq (k := 1) hlok rfl rfl
    exact mm_W_j2 (fun x y r k => lv_lmul hx hb hdg (by rw [← mm_J_mul]; exact k)) hL hX h kk
  · obtain rfl := mm_lok_eq (k := 1) hlok rfl rfl
    split at h
    · split at h
      · cases h
      · rename_i hy; cases h; exact lv_ldiv hx hb hdg hy (by have k := mm_KK_s kk hL hX; rw [List.map_cons, mm_cv, mm_J_t] at k; exact k)
    · cases h
  · obtain rfl := mm_lok_eq (k := 1) hlok rfl rfl
    exact mm_W_j2 (fun x y r k => lv_land hx hb hdg (by rw [mm_J_t] at k; exact k)) hL hX h kk
  · obtain rfl := mm_lok_eq (k := 1) hlok rfl rfl
    exact mm_W_j2 (fun x y r k => lv_lor hx hb hdg (by rw [mm_J_t] at k; exact k)) hL hX h kk
  · obtain rfl := mm_lok_eq (k := 1) hlok rfl rfl
    exact mm_W_j2 (fun x y r k => lv_lxor hx hb hdg (by rw [mm_J_t] at k; exact k)) hL hX h kk
  · obtain rfl := mm_lok_eq (k := 1) hlok rfl rfl
    exact mm_W_js (fun x y r k => lv_lshl hx hb hdg rfl (by rw [mm_J_t] at k; exact k)) hL hX h kk
  · obtain rfl := mm_lok_eq (k := 1) hlok rfl rfl
    exact mm_W_js (fun x y r k => lv_lushr hx hb hdg rfl (by rw [mm_J_t] at k; exact k)) hL hX h kk
  · obtain rfl := mm_lok_eq (k := 1) hlok rfl rfl
    split at h
    · cases h; exact lv_i2l hx hb hdg (mm_J_i _).symm (mm_KK_s kk hL hX)
    · cases h
  · obtain rfl := mm_lok_eq (k := 1) hlok rfl rfl
    split at h
    · cases h; exact lv_l2i hx hb hdg (mm_I_j _) (mm_KK_s kk hL hX)
    · cases h
  · obtain rfl := mm_lok_eq (k := 1) hlok rfl rfl
    split at h
    · cases h; exact W.lcmp hx hb hdg (by rw [← mm_I_t (lg_cmp _ _)]; exact mm_KK_s kk hL hX)
    · cases h
  · obtain rfl := mm_lok_eq (k := 1) hlok rfl rfl
    split at h
    · split at h
      · rename_i hv; cases h; exact lv_dup hx hb hdg ((mm_cv_cat ad _).trans hv) (mm_KK_s kk hL hX)
      · cases h
    · cases h
  · obtain rfl := mm_lok_eq (k := 1) hlok rfl rfl
    split at h
    · split at h
      · rename_i hv; cases h; exact lv_pop hx hb hdg ((mm_cv_cat ad _).trans hv) (mm_KK_s kk hL hX)
      · cases h
    · cases h
  · obtain rfl := mm_lok_eq (k := 1) hlok rfl rfl
    split at h
    · split at h
      · rename_i hv; cases h; exact lv_dup_x1 hx hb hdg ((mm_cv_cat ad _).trans hv.1) ((mm_cv_cat ad _).trans hv.2) (mm_KK_s kk hL hX)
      · cases h
    · cases h
  · obtain rfl := mm_lok_eq (k := 1) hlok rfl rfl
    split at h
    · split at h
      · rename_i hv; cases h; exact lv_dup2_11 hx hb hdg ((mm_cv_cat ad _).trans hv.1) ((mm_cv_cat ad _).trans hv.2) (mm_KK_s kk hL hX)
      · cases h
    · cases h
  · obtain rfl := mm_lok_eq (k := 3) hlok rfl rfl
    obtain ⟨t, ht, rfl⟩ := mm_to_spec h
    exact lv_goto hx hb hdg ht (mm_KK_s kk hL hX)
  · obtain rfl := mm_lok_eq (k := 3) hlok rfl rfl
    refine mm_W_if1 (fun x r t ht k1 k2 => ?_) hL hX h kk
    simp only [decide_eq_true_eq] at k1 k2
    exact lv_if_eq hx hb hdg ht k1 k2
  · obtain rfl := mm_lok_eq (k := 3) hlok rfl rfl
    refine mm_W_if1 (fun x r t ht k1 k2 => ?_) hL hX h kk
    simp only [decide_eq_true_eq] at k1 k2
    exact lv_if_ne hx hb hdg ht k1 (fun q => k2 (fun z => z q))
  · obtain rfl := mm_lok_eq (k := 3) hlok rfl rfl
    refine mm_W_if1 (fun x r t ht k1 k2 => ?_) hL hX h kk
    simp only [decide_eq_true_eq] at k1 k2
    exact lv_if_lt hx hb hdg ht k1 k2
  · obtain rfl := mm_lok_eq (k := 3) hlok rfl rfl
    refine mm_W_if1 (fun x r t ht k1 k2 => ?_) hL hX h kk
    simp only [decide_eq_true_eq] at k1 k2
    exact lv_if_ge hx hb hdg ht k1 k2
  · obtain rfl := mm_lok_eq (k := 3) hlok rfl rfl
    refine mm_W_if1 (fun x r t ht k1 k2 => ?_) hL hX h kk
    simp only [decide_eq_true_eq] at k1 k2
    exact lv_if_gt hx hb hdg ht k1 k2
  · obtain rfl := mm_lok_eq (k := 3) hlok rfl rfl
    refine mm_W_if1 (fun x r t ht k1 k2 => ?_) hL hX h kk
    simp only [decide_eq_true_eq] at k1 k2
    exact lv_if_le hx hb hdg ht k1 k2
  · obtain rfl := mm_lok_eq (k := 3) hlok rfl rfl
    refine mm_W_if2 (fun x y r t ht k1 k2 => ?_) hL hX h kk
    simp only [decide_eq_true_eq] at k1 k2
    exact lv_icmp_eq hx hb hdg ht k1 k2
  · obtain rfl := mm_lok_eq (k := 3) hlok rfl rfl
    refine mm_W_if2 (fun x y r t ht k1 k2 => ?_) hL hX h kk
    simp only [decide_eq_true_eq] at k1 k2
    exact lv_icmp_ne hx hb hdg ht k1 (fun q => k2 (fun z => z q))
  · obtain rfl := mm_lok_eq (k := 3) hlok rfl rfl
    refine mm_W_if2 (fun x y r t ht k1 k2 => ?_) hL hX h kk
    simp only [decide_eq_true_eq] at k1 k2
    exact lv_icmp_lt hx hb hdg ht k1 k2
  · obtain rfl := mm_lok_eq (k := 3) hlok rfl rfl
    refine mm_W_if2 (fun x y r t ht k1 k2 => ?_) hL hX h kk
    simp only [decide_eq_true_eq] at k1 k2
    exact lv_icmp_ge hx hb hdg ht k1 k2
  · obtain rfl := mm_lok_eq (k := 3) hlok rfl rfl
    refine mm_W_if2 (fun x y r t ht k1 k2 => ?_) hL hX h kk
    simp only [decide_eq_true_eq] at k1 k2
    exact lv_icmp_gt hx hb hdg ht k1 k2
  · obtain rfl := mm_lok_eq (k := 3) hlok rfl rfl
    refine mm_W_if2 (fun x y r t ht k1 k2 => ?_) hL hX h kk
    simp only [decide_eq_true_eq] at k1 k2
    exact lv_icmp_le hx hb hdg ht k1 k2
  · split at h
    · unfold mm_sw at h
      split at h
      · rename_i hq
        obtain ⟨t, ht, rfl⟩ := mm_to_spec h
        exact lv_tableOut hx hb hdg hq ht (mm_KK_s kk hL hX)
      · rename_i hq
        split at h
        · rename_i off ho
          obtain ⟨t, ht, rfl⟩ := mm_to_spec h
          exact lv_tableIn hx hb hdg (fun z => hq (Or.inl z)) (fun z => hq (Or.inr z)) ho ht (mm_KK_s kk hL hX)
        · cases h
    · cases h
  · split at h
    · unfold mm_lsw at h
      split at h
      · rename_i hq
        obtain ⟨t, ht, rfl⟩ := mm_to_spec h
        exact lv_lookup hx hb hdg hq rfl ht (mm_KK_s kk hL hX)
      · cases h
    · cases h
  · obtain rfl := mm_lok_eq (k := 3) hlok rfl rfl
    exact mm_W_get hx hb hts hown hK hGc hGf hdg hL hX h kk
  · obtain rfl := mm_lok_eq (k := 3) hlok rfl rfl
    exact mm_W_put hx hb hts hown hK hGc hGf hini hdg hL hX h kk
  · obtain rfl := mm_lok_eq (k := 1) hlok rfl rfl
    exact mm_W_ald hx hb hK hsc hscl hscA hL1 hL2 (Or.inl ⟨rfl, rfl, hdg⟩) hL hX h kk
  · obtain rfl := mm_lok_eq (k := 1) hlok rfl rfl
    exact mm_W_ald hx hb hK hsc hscl hscA hL1 hL2 (Or.inr (Or.inl ⟨rfl, rfl, hdg⟩)) hL hX h kk
  · obtain rfl := mm_lok_eq (k := 1) hlok rfl rfl
    exact mm_W_ald hx hb hK hsc hscl hscA hL1 hL2 (Or.inr (Or.inr ⟨rfl, rfl, hdg⟩)) hL hX h kk
  · obtain rfl := mm_lok_eq (k := 1) hlok rfl rfl
    exact mm_W_aald hx hb hK hGn hdg hL hX h kk
  · obtain rfl := mm_lok_eq (k := 1) hlok rfl rfl
    exact mm_W_ast hx hb hK (Or.inl ⟨rfl, rfl, hdg⟩) hL hX h kk
  · obtain rfl := mm_lok_eq (k := 1) hlok rfl rfl
    exact mm_W_ast hx hb hK (Or.inr (Or.inl ⟨rfl, rfl, hdg⟩)) hL hX h kk
  · obtain rfl := mm_lok_eq (k := 1) hlok rfl rfl
    exact mm_W_ast hx hb hK (Or.inr (Or.inr ⟨rfl, rfl, hdg⟩)) hL hX h kk
  · obtain rfl := mm_lok_eq (k := 1) hlok rfl rfl
    exact mm_W_aast hx hb hK hGn hdg hL hX h kk
  · obtain rfl := mm_lok_eq (k := 1) hlok rfl rfl
    exact mm_W_alen hx hb hK hGn hsc hscl hscA hL1 hty hdg hL hX h kk
  · obtain rfl := mm_lok_eq (k := 2) hlok rfl rfl
    exact mm_W_nwa hx hb hts hown hK hA hGn hAO (Or.inl ⟨rfl, rfl, hdg⟩) hls hss hmk hL hX h hc hs kk
  · obtain rfl := mm_lok_eq (k := 2) hlok rfl rfl
    exact mm_W_nwa hx hb hts hown hK hA hGn hAO (Or.inr (Or.inl ⟨rfl, rfl, hdg⟩)) hls hss hmk hL hX h hc hs kk
  · obtain rfl := mm_lok_eq (k := 2) hlok rfl rfl
    exact mm_W_nwa hx hb hts hown hK hA hGn hAO (Or.inr (Or.inr (Or.inl ⟨rfl, rfl, hdg⟩))) hls hss hmk hL hX h hc hs kk
  · obtain rfl := mm_lok_eq (k := 3) hlok rfl rfl
    split at h
    · rename_i hla; exact mm_W_nwa hx hb hts hown hK hA hGn hAO (Or.inr (Or.inr (Or.inr ⟨rfl, rfl, _, hla, hdg⟩))) hls hss hmk hL hX h hc hs kk
    · cases h
  · obtain rfl := mm_lok_eq (k := 3) hlok rfl rfl
    exact mm_W_new hx hb hts hown hK hA hGc hGn hdg hls hss hmk hL hX h hc hs kk
  · cases h
end
