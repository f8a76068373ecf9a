/-! ===== CellAreas.Loops.walk and trace ===== -/
/-- how many edges are marked -/
def mkn (M : mm_M) (N : Nat) : Int := sumN (fun e => if M.1 18 e = -1 then 0 else 1) N
theorem mkn_le {M : mm_M} {N : Nat} : mkn M N ≤ N := sum01 (fun k _ _ => by
  by_cases h : M.1 18 k = -1
  · exact Or.inl (if_pos h)
  · exact Or.inr (if_neg h))
theorem mkn_ge {M : mm_M} {N : Nat} : 0 ≤ mkn M N := sumN_0 (fun k _ _ => by
  by_cases h : M.1 18 k = -1
  · show 0 ≤ (if M.1 18 k = -1 then (0 : Int) else 1)
    rw [if_pos h]; exact Int.le_refl _
  · show 0 ≤ (if M.1 18 k = -1 then (0 : Int) else 1)
    rw [if_neg h]; decide)
theorem mkn_put {M M1 : mm_M} {N : Nat} {e x : Int} (e0 : 0 ≤ e) (e1 : e < (N : Int)) (h : M.1 18 e = -1) (hx : x ≠ -1) (he : M1.1 18 e = x) (hk : ∀ k, k ≠ e → M1.1 18 k = M.1 18 k) : mkn M1 N = mkn M N + 1 := by
  have u := sumN_upd (f := fun e => if M.1 18 e = -1 then (0 : Int) else 1) (g := fun e => if M1.1 18 e = -1 then (0 : Int) else 1) e0 e1 (fun k _ _ z => by
    show (if M1.1 18 k = -1 then (0 : Int) else 1) = (if M.1 18 k = -1 then (0 : Int) else 1)
    rw [hk k z])
  have a : (if M.1 18 e = -1 then (0 : Int) else 1) = 0 := if_pos h
  have b : (if M1.1 18 e = -1 then (0 : Int) else 1) = 1 := if_neg (by rw [he]; exact hx)
  have u' : mkn M1 N = mkn M N + ((if M1.1 18 e = -1 then (0 : Int) else 1) - (if M.1 18 e = -1 then (0 : Int) else 1)) := u
  rw [a, b] at u'
  omega
theorem mkn_lt {M : mm_M} {N : Nat} {e : Int} (e0 : 0 ≤ e) (e1 : e < (N : Int)) (h : M.1 18 e = -1) : mkn M N < N := by
  have x := mkn_put (M1 := mm_putN M 18 e 0) e0 e1 h (show (0 : Int) ≠ -1 by decide) put_eq (fun k z => put_k z)
  have y := mkn_le (M := mm_putN M 18 e 0) (N := N)
  omega
theorem mkn_eq {M M1 : mm_M} {N : Nat} (h : ∀ k, M1.1 18 k = M.1 18 k) : mkn M1 N = mkn M N := sumN_eq (fun k _ _ => by
  show (if M1.1 18 k = -1 then (0 : Int) else 1) = (if M.1 18 k = -1 then (0 : Int) else 1)
  rw [h k])
abbrev wlS : Nat → Int → Prop := fun a k => a = 18 ∨ a = 20 ∨ (a = 17 ∧ k = 1)
abbrev trS : Nat → Int → Prop := fun a _ => a = 17 ∨ a = 18 ∨ a = 19 ∨ a = 20
theorem wlS_A {A : Nat} (hA : mr_A A) : ∀ b (k : Int), A ≤ b → b ≤ A + 5 → ¬ wlS b k := by
  intro b k h0 h1 h2
  have h2' : b = 18 ∨ b = 20 ∨ (b = 17 ∧ k = 1) := h2
  unfold mr_A at hA
  omega
theorem trS_A {A : Nat} (hA : mr_A A) : ∀ b (k : Int), A ≤ b → b ≤ A + 5 → ¬ trS b k := by
  intro b k h0 h1 h2
  have h2' : b = 17 ∨ b = 18 ∨ b = 19 ∨ b = 20 := h2
  unfold mr_A at hA
  omega
theorem tS_wlS {M M1 : mm_M} (h : fr tS M M1) : fr wlS M M1 := fr_mono h (fun a k z => by
  have z' : a = 20 ∨ (a = 17 ∧ k = 1) := z
  show a = 18 ∨ a = 20 ∨ (a = 17 ∧ k = 1)
  omega)
theorem EMI_fr {M M1 : mm_M} {c : Int} {em : Option (Int × Int × Int)} (h : EMI M M1 c em) : fr tS M M1 := by
  rcases h with ⟨_, h⟩ | ⟨_, _, _, _, h, _⟩
  · rw [h]; exact ⟨rfl, fun _ _ _ => rfl⟩
  · exact h
/-- the marks of the first t steps from P, those of M before -/
def MKW (s : sh) (Mg : mm_M) (P : wlk) (t : Nat) (n : Int) (M M1 : mm_M) : Prop := ∀ e p, VS s Mg e p → ((∃ u, u < t ∧ sti (Cg s Mg) u P = p) → M1.1 18 e = n) ∧ ((¬ ∃ u, u < t ∧ sti (Cg s Mg) u P = p) → M1.1 18 e = M.1 18 e)
section
variable {sc : Nat × (Int → Int)} {M : mm_M} {X : Nat → mm_M → Prop}
theorem c124 {K : mm_M → Prop} {A : Nat} {f n b : Int} {s : sh} {Mg : mm_M} {P : wlk} {G : wlk → Prop} (ho : mr_ok M) (h : AW M A) (hs : rdA M A = s) (g : GL s Mg) (v : VS s Mg f P) (nf : M.1 18 f = -1) (hc : clo (Cg s Mg) G) (hG : ∀ e p, VS s Mg e p → (M.1 18 e ≠ -1 ↔ G p)) (hn : M.1 17 0 = n) (n0 : 0 ≤ n) (hb : M.1 17 1 = b) (b0 : 0 ≤ b) (b1 : b ≤ 2 * mkn M (2 * nS_ s).toNat) (n1 : 2 * n ≤ mkn M (2 * nS_ s).toNat)
    (k : ∀ M1 m, fr trS M M1 → 0 < m → sti (Cg s Mg) m P = P → (∀ u, 0 < u → u < m → sti (Cg s Mg) u P ≠ P) → M1.1 17 0 = n + 1 → M1.1 17 1 = b + tcn (Cg s Mg) P m → M1.1 19 (n + 1) = b + tcn (Cg s Mg) P m → (∀ j, j ≠ n + 1 → M1.1 19 j = M.1 19 j) → (∀ j, j < b → M1.1 20 j = M.1 20 j) → MKW s Mg P m n M M1 →
      (f % 2 = 0 → ∀ u, u < m → trn (Cg s Mg) P u → M1.1 20 (b + tcn (Cg s Mg) P u) = pq Mg (sti (Cg s Mg) (u + 1) P)) → (f % 2 = 1 → M1.1 20 b = pq Mg P ∧ ∀ u, u < m → trn (Cg s Mg) P u → M1.1 20 (b + 1 + tcn (Cg s Mg) P u) = pq Mg (sti (Cg s Mg) (u + 1) P)) →
      b + tcn (Cg s Mg) P m ≤ 2 * mkn M1 (2 * nS_ s).toNat → 2 * (n + 1) ≤ mkn M1 (2 * nS_ s).toNat → K M1) : en_CV sc 124 [mm_r 17, mm_r A, mm_i f, mm_i (2 * nS_ s), mm_u, mm_u, mm_u] M K X := by
  have w : wf s := by rw [← hs]; exact h.2.1
  have nS' : nS_ s ≤ 400 := by rw [← hs]; exact h.2.2.2
  obtain ⟨hP, hPw, f0, f1⟩ := VS_isS w g v
  have nG : ¬ G P := fun z => (hG f P v).mpr z nf
  have N0 : ((2 * nS_ s).toNat : Int) = 2 * nS_ s := by omega
  generalize hN : (2 * nS_ s).toNat = N at *
  have m0 := mkn_ge (M := M) (N := N)
  have loop : ∀ (c : Nat) (d e st : Int) (t : Nat) (Mx M' : mm_M), (2 * nS_ s - st).toNat ≤ c → (d = 0 ∨ d = 1) → 0 ≤ st → mr_ok M' → fr wlS M M' → VS s Mg e (sti (Cg s Mg) t P) → MKW s Mg P t n M M' → (∀ u, 0 < u → u < t → sti (Cg s Mg) u P ≠ P) → WR s Mg P (b + d) t M' → (∀ j, j < b + d → M'.1 20 j = Mx.1 20 j) → mkn M' N = mkn M N + st → tcn (Cg s Mg) P t ≤ 2 * st → (st = 0 → t = 0) → (st = 1 → sti (Cg s Mg) t P ≠ P) →
      (∀ (e' st' : Int) (m : Nat) (M1 : mm_M), mr_ok M1 → fr wlS M M1 → 0 < m → sti (Cg s Mg) m P = P → (∀ u, 0 < u → u < m → sti (Cg s Mg) u P ≠ P) → MKW s Mg P m n M M1 → WR s Mg P (b + d) m M1 → (∀ j, j < b + d → M1.1 20 j = Mx.1 20 j) → mkn M N + 2 ≤ mkn M1 N → tcn (Cg s Mg) P m ≤ 2 * (mkn M1 N - mkn M N) → en_R sc 124 106 [mm_r 17, mm_r A, mm_i f, mm_i (2 * nS_ s), mm_i d, mm_i e', mm_i st'] [] M1 (QV K X)) →
      en_R sc 124 41 [mm_r 17, mm_r A, mm_i f, mm_i (2 * nS_ s), mm_i d, mm_i e, mm_i st] [] M' (QV K X) := by
    intro c
    induction c with
    | zero =>
      intro d e st t Mx M' hc' hd st0 ho' hf ve mk nr wr kp cn tc s0 s1 fin
      obtain ⟨hE, hEw, e0, e1⟩ := VS_isS w g ve
      have := mkn_le (M := M') (N := N)
      have ne : M'.1 18 e ≠ -1 := fun z => by
        have := mkn_lt (N := N) e0 (by omega) z
        omega
      refine vc124_41 ho' ⟨by omega, by omega⟩ ⟨by omega, by omega⟩ ⟨by omega, by omega⟩ ⟨fun _ => ?_, fun q => absurd (by omega) q⟩
      have bk := back hc hP nG (n := t) (by
        by_cases z : ∃ u, u < t ∧ sti (Cg s Mg) u P = sti (Cg s Mg) t P
        · exact Or.inr z
        · refine Or.inl ((hG e _ ve).mp ?_)
          rw [← (mk e _ ve).2 z]
          exact ne)
      obtain ⟨m, m0', m1, m2⟩ := bk
      have em : m = t := by
        by_cases z : m < t
        · exact absurd m2 (nr m m0' z)
        · omega
      rw [em] at m2 m0'
      have st2 : 2 ≤ st := by
        by_cases z : st = 0
        · have := s0 z; omega
        · by_cases z2 : st = 1
          · exact absurd m2 (s1 z2)
          · omega
      exact fin e st t M' ho' hf m0' m2 nr mk wr kp (by omega) (by omega)
    | succ c ih =>
      intro d e st t Mx M' hc' hd st0 ho' hf ve mk nr wr kp cn tc s0 s1 fin
      obtain ⟨hE, hEw, e0, e1⟩ := VS_isS w g ve
      have ml' := mkn_le (M := M') (N := N)
      have ex : M'.1 18 e ≠ -1 → en_R sc 124 106 [mm_r 17, mm_r A, mm_i f, mm_i (2 * nS_ s), mm_i d, mm_i e, mm_i st] [] M' (QV K X) := fun ne => by
        have bk := back hc hP nG (n := t) (by
          by_cases z : ∃ u, u < t ∧ sti (Cg s Mg) u P = sti (Cg s Mg) t P
          · exact Or.inr z
          · refine Or.inl ((hG e _ ve).mp ?_)
            rw [← (mk e _ ve).2 z]
            exact ne)
        obtain ⟨m, m0', m1, m2⟩ := bk
        have em : m = t := by
          by_cases z : m < t
          · exact absurd m2 (nr m m0' z)
          · omega
        rw [em] at m2 m0'
        have st2 : 2 ≤ st := by
          by_cases z : st = 0
          · have := s0 z; omega
          · by_cases z2 : st = 1
            · exact absurd m2 (s1 z2)
            · omega
        exact fin e st t M' ho' hf m0' m2 nr mk wr kp (by omega) (by omega)
      refine vc124_41 ho' ⟨by omega, by omega⟩ ⟨by omega, by omega⟩ ⟨by omega, by omega⟩ ⟨fun q => ex (fun z => ?_), fun q => ⟨e0, by omega, ex, fun q2 => ⟨e0, by omega, ?_⟩⟩⟩
      · have := mkn_lt (N := N) e0 (by omega) z
        omega
      · have un : M'.1 18 e = -1 := Classical.byContradiction q2
        have lt := mkn_lt (N := N) e0 (by omega) un
        have e17 : M'.1 17 0 = n := by rw [hf.2 17 0 (by intro z; have z' : 17 = 18 ∨ 17 = 20 ∨ (17 = 17 ∧ (0 : Int) = 1) := z; omega)]; exact hn
        rw [e17]
        have hom : mr_ok (mm_putN M' 18 e n) := mr_ok_putI ho' ⟨by omega, by omega⟩
        have fm : fr wlS M' (mm_putN M' 18 e n) := fr_put (Or.inl rfl)
        have m1 : (mm_putN M' 18 e n).1 18 e = n := put_eq
        have m2 : ∀ k, k ≠ e → (mm_putN M' 18 e n).1 18 k = M'.1 18 k := fun k z => put_k z
        have m3 : ∀ k, (mm_putN M' 18 e n).1 20 k = M'.1 20 k := fun k => put_a (by decide)
        have m4 : (mm_putN M' 18 e n).1 17 1 = M'.1 17 1 := put_a (by decide)
        generalize mm_putN M' 18 e n = Mm at hom fm m1 m2 m3 m4
        have Am := AW_fr (fr_trans hf fm) (wlS_A h.1) h
        have sm : rdA Mm A = s := (rdA_fr (fr_trans hf fm) (wlS_A h.1)).trans hs
        have wrm : WR s Mg P (b + d) t Mm := ⟨m4.trans wr.1, fun u a b => by rw [m3]; exact wr.2 u a b⟩
        have cb : Mm.1 17 1 = b + d + tcn (Cg s Mg) P t := wrm.1
        have tg := tcn_ge (C := Cg s Mg) (p := P) t
        have cn2 : mkn Mm N = mkn M' N + 1 := mkn_put e0 (by omega) un (show n ≠ -1 by omega) m1 m2
        -- behind the next
        have go : ∀ (x : Int) (em : Option (Int × Int × Int)) (M1 : mm_M), mr_ok M1 → NX s e x em → EMI Mm M1 (b + d + tcn (Cg s Mg) P t) em → en_R sc 124 41 [mm_r 17, mm_r A, mm_i f, mm_i (2 * nS_ s), mm_i d, mm_i x, mm_i (st + 1)] [] M1 (QV K X) := by
          intro x em M1 o1 nx emi
          obtain ⟨m, p', sg, sp, vp, mp⟩ := ml w g ve nx
          have sp2 : sti (Cg s Mg) (t + m) P = p' := by rw [sti_add]; exact sp
          obtain ⟨hp', hpw', _, _⟩ := VS_isS w g vp
          have ws := WR_seg wrm sg hEw (by rw [sp2]; exact hpw') cb emi
          have f1 := EMI_fr emi
          have e18 : ∀ k, M1.1 18 k = Mm.1 18 k := fun k => f1.2 18 k (by intro z; have z' : 18 = 20 ∨ (18 = 17 ∧ k = 1) := z; omega)
          have way := SEG_way sg
          have hor : ∀ u, t < u → u < t + m → ∀ e2 p2, VS s Mg e2 p2 → sti (Cg s Mg) u P ≠ p2 := fun u a b e2 p2 v2 z => by
            obtain ⟨u', rfl⟩ : ∃ u', u = t + u' := ⟨u - t, by omega⟩
            have q := way u' (by omega) (by omega)
            rw [← sti_add, z] at q
            have q' := (VS_isS w g v2).2.1
            omega
          refine ih d x (st + 1) (t + m) Mx M1 (by omega) hd (by omega) o1 (fr_trans hf (fr_trans fm (tS_wlS f1))) (by rw [sp2]; exact vp) (fun e2 p2 v2 => ⟨?_, fun z => ?_⟩) (fun u u0 u1 => ?_) ws.1 (fun j z => by rw [ws.2.2 j z, m3]; exact kp j z) ?_ (by have := ws.2.1; omega) (fun z => by omega) (fun z => ?_) fin
          · rintro ⟨u, u1, u2⟩
            rw [e18]
            by_cases z : u = t
            · rw [z] at u2
              rw [u2] at ve
              rw [VS_one w v2 ve]
              exact m1
            · have ut : u < t := by
                by_cases z2 : u < t
                · exact z2
                · exact absurd u2 (hor u (by omega) u1 e2 p2 v2)
              have y := (mk e2 p2 v2).1 ⟨u, ut, u2⟩
              by_cases z2 : e2 = e
              · rw [z2]; exact m1
              · rw [m2 e2 z2]; exact y
          · rw [e18]
            have ne : e2 ≠ e := fun y => z ⟨t, by omega, by rw [y] at v2; exact VS_fun w g ve v2⟩
            rw [m2 e2 ne]
            exact (mk e2 p2 v2).2 (fun ⟨u, a, b⟩ => z ⟨u, by omega, b⟩)
          · by_cases z : u < t
            · exact nr u u0 z
            · by_cases z2 : u = t
              · intro y
                rw [z2] at y u0
                rw [y] at ve
                have ef := VS_one w ve v
                have := (mk f P v).1 ⟨0, u0, rfl⟩
                rw [← ef] at this
                omega
              · exact hor u (by omega) u1 f P v
          · rw [mkn_eq e18, cn2, cn]
            omega
          · have t0 := s0 (by omega)
            rw [t0, Nat.zero_add]
            rw [t0] at sg
            exact SEG_ne w g hP hPw sg
        have er : e / 2 < nS_ (rdA Mm A) := by rw [sm]; omega
        refine c116 hom e0 (by omega) (fun z _ => ⟨⟨by decide, by decide⟩, fun y => absurd y (by decide), fun _ => ⟨e0, c122 hom Am (by omega) er cb (by omega) (by omega) (fun i x em M1 o1 ip nx emi _ => go x em M1 o1 ?_ emi)⟩⟩) (fun z _ => ⟨⟨by decide, by decide⟩, fun _ => ⟨e0, c123 hom Am (by omega) er cb (by omega) (by omega) (fun i x em M1 o1 ip nx emi _ => go x em M1 o1 ?_ emi)⟩, fun y => absurd rfl y⟩)
        · rw [sm] at ip nx
          exact ⟨e / 2, i, ip, Or.inr ⟨by omega, nx⟩⟩
        · rw [sm] at ip nx
          exact ⟨e / 2, i, ip, Or.inl ⟨by omega, nx⟩⟩
  have last : ∀ (d e' st' : Int) (m : Nat) (M1 M2 : mm_M), mr_ok M2 → fr wlS M M2 → (∀ k, M2.1 18 k = M1.1 18 k) → 0 < m → sti (Cg s Mg) m P = P → (∀ u, 0 < u → u < m → sti (Cg s Mg) u P ≠ P) → MKW s Mg P m n M M1 → M2.1 17 1 = b + tcn (Cg s Mg) P m → (∀ j, j < b → M2.1 20 j = M.1 20 j) →
      (f % 2 = 0 → ∀ u, u < m → trn (Cg s Mg) P u → M2.1 20 (b + tcn (Cg s Mg) P u) = pq Mg (sti (Cg s Mg) (u + 1) P)) → (f % 2 = 1 → M2.1 20 b = pq Mg P ∧ ∀ u, u < m → trn (Cg s Mg) P u → M2.1 20 (b + 1 + tcn (Cg s Mg) P u) = pq Mg (sti (Cg s Mg) (u + 1) P)) →
      mkn M N + 2 ≤ mkn M1 N → tcn (Cg s Mg) P m ≤ 2 * (mkn M1 N - mkn M N) → en_R sc 124 121 [mm_r 17, mm_r A, mm_i f, mm_i (2 * nS_ s), mm_i d, mm_i e', mm_i st'] [] M2 (QV K X) := by
    intro d e' st' m M1 M2 o2 f2 e18 m0' hm nr mk e1 k20 c0 c1 cn tc
    have e17 : M2.1 17 0 = n := by rw [f2.2 17 0 (by intro z; have z' : 17 = 18 ∨ 17 = 20 ∨ (17 = 17 ∧ (0 : Int) = 1) := z; omega)]; exact hn
    have e19 : ∀ j, M2.1 19 j = M.1 19 j := fun j => f2.2 19 j (by intro z; have z' : 19 = 18 ∨ 19 = 20 ∨ (19 = 17 ∧ j = 1) := z; omega)
    have ml1 := mkn_le (M := M1) (N := N)
    refine vc124_121 o2 ?_
    rw [e17]
    have p0 : (mm_putN M2 17 0 (n + 1)).1 17 0 = n + 1 := put_eq
    have p1 : (mm_putN M2 17 0 (n + 1)).1 17 1 = b + tcn (Cg s Mg) P m := by rw [put_k (by decide)]; exact e1
    rw [p0, p1]
    have e18' : ∀ k, (mm_putN (mm_putN M2 17 0 (n + 1)) 19 (n + 1) (b + tcn (Cg s Mg) P m)).1 18 k = M1.1 18 k := fun k => by
      rw [put_a (by decide), put_a (by decide)]; exact e18 k
    have e20' : ∀ k, (mm_putN (mm_putN M2 17 0 (n + 1)) 19 (n + 1) (b + tcn (Cg s Mg) P m)).1 20 k = M2.1 20 k := fun k => by
      rw [put_a (by decide), put_a (by decide)]
    have fz : fr trS M (mm_putN (mm_putN M2 17 0 (n + 1)) 19 (n + 1) (b + tcn (Cg s Mg) P m)) := fr_trans (fr_mono f2 (fun a k z => by
      have z' : a = 18 ∨ a = 20 ∨ (a = 17 ∧ k = 1) := z
      show a = 17 ∨ a = 18 ∨ a = 19 ∨ a = 20
      omega)) (fr_trans (fr_put (Or.inl rfl)) (fr_put (Or.inr (Or.inr (Or.inl rfl)))))
    refine ⟨⟨by omega, by omega⟩, by omega, by omega, Or.inl ⟨rfl, k _ m fz m0' hm nr ?_ ?_ put_eq (fun j z => ?_) (fun j z => by rw [e20']; exact k20 j z) (fun e p v => by rw [e18']; exact mk e p v) (fun z u a t => by rw [e20']; exact c0 z u a t) (fun z => ⟨by rw [e20']; exact (c1 z).1, fun u a t => by rw [e20']; exact (c1 z).2 u a t⟩) ?_ ?_⟩⟩
    · rw [put_a (by decide)]; exact p0
    · rw [put_a (by decide)]; exact p1
    · rw [put_k z, put_a (by decide)]; exact e19 j
    · rw [mkn_eq e18']; omega
    · rw [mkn_eq e18']; omega
  have fr0 : fr wlS M M := ⟨rfl, fun _ _ _ => rfl⟩
  have tz : tcn (Cg s Mg) P 0 = 0 := rfl
  refine vc124_0 ho h.1 ⟨by omega, by omega⟩ (c116 ho f0 (by omega) (fun z _ => ⟨⟨by decide, by decide⟩, fun y => absurd y (by decide), fun _ => ⟨f0, by omega, by omega, f0, c117 ho h (by omega) (by rw [hs]; omega) (fun i ip _ => ?_)⟩⟩) (fun z _ => ⟨⟨by decide, by decide⟩, fun _ => ?_, fun y => absurd rfl y⟩))
  · -- up
    rw [hs] at ip
    obtain ⟨pi, pj, i0, i1, j0, j1, ed, hp⟩ := v
    obtain ⟨bb, kk, r, a, hk⟩ := ed
    have hk' : f = 2 * kk + 1 ∧ gx Mg pi = srt s kk := by
      rcases hk with y | y
      · omega
      · exact y
    have hp' : P = (pi, pj, 1) := by
      rcases hp with y | y
      · omega
      · exact y.2
    have ek : f / 2 = kk := by omega
    rw [ek] at ip ⊢
    have ei : i = bb := by
      have m1 := a.2.2.1
      have m2 := a.2.2.2
      have m3 := ip.2.2.1
      have m4 := ip.2.2.2
      by_cases q : i < bb
      · have := sst_mono w (show 0 ≤ i + 1 by have := ip.1; omega) (show i + 1 ≤ bb by omega) (show bb ≤ sn s by have := a.2.1; omega)
        omega
      · by_cases q2 : bb < i
        · have := sst_mono w (show 0 ≤ bb + 1 by have := a.1; omega) (show bb + 1 ≤ i by omega) (show i ≤ sn s by have := ip.2.1; omega)
          omega
        · omega
    have bk := w.2.2.1 i ip.1 ip.2.1
    have kb := bk.2.2.2.2.2 kk ip.2.2.1 ip.2.2.2
    have kd := bk.2.2.2.2.1.1 kk ip.2.2.1 ip.2.2.2
    have bl1 := bk.2.1
    have bl2 := bk.2.2.1
    have bl3 := bk.2.2.2.1
    have nb1 : sn s ≤ 100 := by rw [← hs]; exact h.2.2.1
    have ex : M.1 (A + 5) kk = srt s kk := by rw [← hs]; rfl
    have ey : M.1 (A + 1) i = slo s i := by rw [← hs]; rfl
    have ip0 := ip.1
    have ip1 := ip.2.1
    rw [ex, ey]
    have lt := mkn_lt (N := N) f0 (by omega) nf
    refine ⟨ip0, by omega, c118 ho hb b0 (by omega) ⟨by omega, by omega⟩ ⟨by omega, by omega⟩ (fun Mx fx x1 x2 x3 hox => ?_)⟩
    have pP : Mx.1 20 b = pq Mg P := by
      rw [x2]
      unfold pq
      rw [hp']
      show pl (srt s kk) (slo s i) = pl (gx Mg pi) (gy Mg pj)
      rw [hk'.2, r.1, ei]
    have e18 : ∀ k, Mx.1 18 k = M.1 18 k := fun k => fx.2 18 k (by intro z; have z' : 18 = 20 ∨ (18 = 17 ∧ k = 1) := z; omega)
    have v' : VS s Mg f P := ⟨pi, pj, i0, i1, j0, j1, ⟨bb, kk, r, a, hk⟩, hp⟩
    refine loop _ 1 f 0 0 Mx Mx (Nat.le_refl _) (Or.inr rfl) (Int.le_refl _) hox (tS_wlS fx) v' (fun e p ve => ⟨fun ⟨u, u1, _⟩ => absurd u1 (by omega), fun _ => e18 e⟩) (fun u u0 u1 => absurd u1 (by omega)) ⟨by rw [x1, tz]; omega, fun u u1 _ => absurd u1 (by omega)⟩ (fun _ _ => rfl) (by rw [mkn_eq e18]; omega) (by rw [tz]; omega) (fun _ => rfl) (fun z => absurd z (by decide)) (fun e' st' m M1 o1 f1 m0' hm nr mk wr kp cn tc => ?_)
    have wr1 := wr.1
    refine vc124_106 o1 ⟨by decide, by decide⟩ ⟨fun y => absurd y (by decide), fun _ => ⟨by have := tcn_ge (C := Cg s Mg) (p := P) m; have := mkn_le (M := M1) (N := N); exact ⟨by omega, by omega⟩, ?_⟩⟩
    have tg := tcn_ge (C := Cg s Mg) (p := P) m
    have ml1 := mkn_le (M := M1) (N := N)
    refine last 1 e' st' m M1 _ (mr_ok_putI o1 ⟨by omega, by omega⟩) (fr_trans f1 (fr_put (Or.inr (Or.inr ⟨rfl, rfl⟩)))) (fun k => put_a (by decide)) m0' hm nr mk (by rw [put_eq, wr1]; omega) (fun j y => by rw [put_a (by decide), kp j (by omega), x3 j (by omega)]) (fun y => absurd y (by omega)) (fun _ => ⟨by rw [put_a (by decide), kp b (by omega)]; exact pP, fun u u1 tu => by rw [put_a (by decide)]; exact wr.2 u u1 tu⟩) cn tc
  · -- down
    refine loop _ 0 f 0 0 M M (Nat.le_refl _) (Or.inl rfl) (Int.le_refl _) ho fr0 v (fun e p ve => ⟨fun ⟨u, u1, _⟩ => absurd u1 (by omega), fun _ => rfl⟩) (fun u u0 u1 => absurd u1 (by omega)) ⟨by rw [tz]; omega, fun u u1 _ => absurd u1 (by omega)⟩ (fun _ _ => rfl) (by omega) (by rw [tz]; omega) (fun _ => rfl) (fun z => absurd z (by decide)) (fun e' st' m M1 o1 f1 m0' hm nr mk wr kp cn tc => ?_)
    have eb : b + 0 = b := by omega
    rw [eb] at wr kp
    exact vc124_106 o1 ⟨by decide, by decide⟩ ⟨fun _ => last 0 e' st' m M1 M1 o1 f1 (fun _ => rfl) m0' hm nr mk wr.1 kp (fun _ => wr.2) (fun y => absurd y (by omega)) cn tc, fun y => absurd rfl y⟩
end
