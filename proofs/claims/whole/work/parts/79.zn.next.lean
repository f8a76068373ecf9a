/-! ===== from edge to edge: the class's side ===== -/
def bst (s : sh) (b : Int) : Int := if b = -1 then 0 else sst s b
def ben (s : sh) (b : Int) : Int := if b = -1 then 0 else sst s (b + 1)
/-- the band that goes on above / below band i, or none -/
def abv (s : sh) (i : Int) : Int := if i + 1 < sn s ∧ slo s (i + 1) = shi s i then i + 1 else -1
def blw (s : sh) (i : Int) : Int := if 0 < i ∧ shi s (i - 1) = slo s i then i - 1 else -1
/-- to the left over stretch k from x, b the band above: the next edge and where it turns -/
def AT (s : sh) (k b x e x2 : Int) : Prop :=
  (∃ o, bst s b ≤ o ∧ o < ben s b ∧ srt s o ≤ x ∧ (∀ o', o < o' → o' < ben s b → x < srt s o') ∧ slf s k < srt s o ∧ e = 2 * o + 1 ∧ x2 = srt s o) ∨
  ((∀ o, bst s b ≤ o → o < ben s b → srt s o ≤ x → srt s o ≤ slf s k) ∧ e = 2 * k ∧ x2 = slf s k)
/-- to the right under stretch k from x, b the band below -/
def AB (s : sh) (k b x e x2 : Int) : Prop :=
  (∃ u, bst s b ≤ u ∧ u < ben s b ∧ x < srt s u ∧ (∀ u', bst s b ≤ u' → u' < u → srt s u' ≤ x) ∧ slf s u < srt s k ∧ e = 2 * u ∧ x2 = slf s u) ∨
  ((∀ u, bst s b ≤ u → u < ben s b → x < srt s u → srt s k ≤ slf s u) ∧ e = 2 * k + 1 ∧ x2 = srt s k)
/-- behind the edge up of stretch k in band i; em: the two corners on the way, if it turns -/
def NXU (s : sh) (k i e : Int) (em : Option (Int × Int × Int)) : Prop :=
  ((∀ o, bst s (abv s i) ≤ o → o < ben s (abv s i) → ¬ (slf s o ≤ srt s k - 1 ∧ srt s k - 1 < srt s o)) ∧ ∃ x2, AT s k (abv s i) (srt s k) e x2 ∧ em = some (srt s k, x2, shi s i)) ∨
  (∃ o, bst s (abv s i) ≤ o ∧ o < ben s (abv s i) ∧ slf s o ≤ srt s k - 1 ∧ srt s k - 1 < srt s o ∧ ((srt s o = srt s k ∧ e = 2 * o + 1 ∧ em = none) ∨ (srt s o ≠ srt s k ∧ ∃ x2, AB s o i (srt s k) e x2 ∧ em = some (srt s k, x2, shi s i))))
def NXD (s : sh) (k i e : Int) (em : Option (Int × Int × Int)) : Prop :=
  ((∀ o, bst s (blw s i) ≤ o → o < ben s (blw s i) → ¬ (slf s o ≤ slf s k ∧ slf s k < srt s o)) ∧ ∃ x2, AB s k (blw s i) (slf s k) e x2 ∧ em = some (slf s k, x2, slo s i)) ∨
  (∃ o, bst s (blw s i) ≤ o ∧ o < ben s (blw s i) ∧ slf s o ≤ slf s k ∧ slf s k < srt s o ∧ ((slf s o = slf s k ∧ e = 2 * o ∧ em = none) ∨ (slf s o ≠ slf s k ∧ ∃ x2, AT s o i (slf s k) e x2 ∧ em = some (slf s k, x2, slo s i))))
/-- the place of a corner as the class holds it -/
def pl (x y : Int) : Int := (y + 1000) * 2001 + (x + 1000)
abbrev tS : Nat → Int → Prop := fun a k => a = 20 ∨ (a = 17 ∧ k = 1)
/-- what was written from M to M1, corners c before -/
def EMI (M M1 : mm_M) (c : Int) (em : Option (Int × Int × Int)) : Prop := (em = none ∧ M1 = M) ∨ (∃ x1 x2 y, em = some (x1, x2, y) ∧ fr tS M M1 ∧ M1.1 17 1 = c + 2 ∧ M1.1 20 c = pl x1 y ∧ M1.1 20 (c + 1) = pl x2 y ∧ ∀ j, j < c → M1.1 20 j = M.1 20 j)
theorem tS_A {A : Nat} (hA : mr_A A) : ∀ b (k : Int), A ≤ b → b ≤ A + 5 → ¬ tS b k := by
  intro b k h0 h1 h2
  have h2' : b = 20 ∨ (b = 17 ∧ k = 1) := h2
  unfold mr_A at hA
  omega
theorem abv_or (s : sh) (i : Int) : (abv s i = -1 ∧ ¬ (i + 1 < sn s ∧ slo s (i + 1) = shi s i)) ∨ (abv s i = i + 1 ∧ i + 1 < sn s ∧ slo s (i + 1) = shi s i) := by
  unfold abv
  split
  · rename_i h
    exact Or.inr ⟨rfl, h⟩
  · rename_i h
    exact Or.inl ⟨rfl, h⟩
theorem blw_or (s : sh) (i : Int) : (blw s i = -1 ∧ ¬ (0 < i ∧ shi s (i - 1) = slo s i)) ∨ (blw s i = i - 1 ∧ 0 < i ∧ shi s (i - 1) = slo s i) := by
  unfold blw
  split
  · rename_i h
    exact Or.inr ⟨rfl, h⟩
  · rename_i h
    exact Or.inl ⟨rfl, h⟩
theorem inP_rg0 {s : sh} (h : wf s) {i k : Int} (a : inP s i k) : 0 ≤ k ∧ k < nS_ s := by
  have z0 := sst_mono h (Int.le_refl 0) a.1 (show i ≤ sn s by have := a.2.1; omega)
  have z1 := sst_mono h (show 0 ≤ i + 1 by have := a.1; omega) (show i + 1 ≤ sn s by have := a.2.1; omega) (Int.le_refl _)
  have := a.2.2.1
  have := a.2.2.2
  rw [h.2.1] at z0
  show 0 ≤ k ∧ k < sst s (sn s)
  omega
section
variable {sc : Nat × (Int → Int)} {M : mm_M} {X : Nat → mm_M → Prop}
theorem c116 {K : Int → mm_M → Prop} {e : Int} (ho : mr_ok M) (e0 : 0 ≤ e) (e1 : e ≤ 1000) (k1 : e % 2 = 1 → K 1 M) (k0 : e % 2 = 0 → K 0 M) : en_CI sc 116 [mm_i e] M K X :=
  vc116_0 ho ⟨by omega, by omega⟩ ⟨e0, ⟨by omega, by omega⟩, fun q => Or.inl ⟨_, rfl, k0 (by omega)⟩, fun q => Or.inl ⟨_, rfl, k1 (by omega)⟩⟩
/-- CellAreas.Area.bandOf -/
theorem c117 {K : Int → mm_M → Prop} {A : Nat} {k : Int} (ho : mr_ok M) (h : AW M A) (k0 : 0 ≤ k) (k1 : k < nS_ (rdA M A)) (kk : ∀ i, inP (rdA M A) i k → K i M) : en_CI sc 117 [mm_r A, mm_i k, mm_u, mm_u, mm_u] M K X := by
  have w := h.2.1
  have n1 : sn (rdA M A) ≤ 100 := h.2.2.1
  have nS' : nS_ (rdA M A) ≤ 400 := h.2.2.2
  have en : M.1 A 0 = sn (rdA M A) := rfl
  have npos : 0 < sn (rdA M A) := by
    have := w.1
    by_cases q : sn (rdA M A) = 0
    · have e : nS_ (rdA M A) = 0 := by
        show sst (rdA M A) (sn (rdA M A)) = 0
        rw [q]; exact w.2.1
      omega
    · omega
  refine vc117_0 ho h.1 ?_
  rw [en]
  have loop : ∀ (c : Nat) (f t : Int) (l4 : mm_V), (t - f).toNat ≤ c → 0 ≤ f → f ≤ t → t < sn (rdA M A) → sst (rdA M A) f ≤ k → k < sst (rdA M A) (t + 1) → en_R sc 117 9 [mm_r A, mm_i k, mm_i f, mm_i t, l4] [] M (QI K X) := by
    intro c
    induction c with
    | zero =>
      intro f t l4 hc f0 ft t1 hf ht
      have e : f = t := by omega
      refine vc117_9 ho ⟨by omega, by omega⟩ ⟨by omega, by omega⟩ h.1 ⟨by omega, by omega⟩ ⟨fun _ => Or.inl ⟨_, rfl, kk f ⟨f0, by omega, hf, by rw [e]; exact ht⟩⟩, fun q => absurd (by omega) q⟩
    | succ c ih =>
      intro f t l4 hc f0 ft t1 hf ht
      refine vc117_9 ho ⟨by omega, by omega⟩ ⟨by omega, by omega⟩ h.1 ⟨by omega, by omega⟩ ⟨fun q => Or.inl ⟨_, rfl, kk f ⟨f0, by omega, hf, (show t = f by omega) ▸ ht⟩⟩, fun q => ⟨⟨by omega, by omega⟩, by omega, by omega, by omega, fun q2 => ih _ _ _ (by omega) (by omega) (by omega) t1 q2 ht, fun q2 => ih _ _ _ (by omega) f0 (by omega) (by omega) hf (show k < M.1 (A + 3) _ by omega)⟩⟩
  exact loop _ 0 (sn (rdA M A) - 1) _ (Nat.le_refl _) (Int.le_refl _) (by omega) (by omega) (by rw [w.2.1]; exact k0) (by
    have e : sn (rdA M A) - 1 + 1 = sn (rdA M A) := by omega
    rw [e]; exact k1)
/-- CellAreas.Loops.turnAt -/
theorem c118 {K : mm_M → Prop} {x y c : Int} (ho : mr_ok M) (hc : M.1 17 1 = c) (c0 : 0 ≤ c) (c1 : c < 1601) (hx : -1000 ≤ x ∧ x ≤ 1000) (hy : -1000 ≤ y ∧ y ≤ 1000)
    (k : ∀ M1, fr tS M M1 → M1.1 17 1 = c + 1 → M1.1 20 c = pl x y → (∀ j, j ≠ c → M1.1 20 j = M.1 20 j) → K M1) : en_CV sc 118 [mm_r 17, mm_i x, mm_i y] M K X := by
  have e : ((y - (-1000)) * 2001 + x) - (-1000) = pl x y := by unfold pl; omega
  refine vc118_0 ho ?_
  rw [hc, e]
  have e2 : (mm_putN M 20 c (pl x y)).1 17 1 = c := by rw [put_a (by decide)]; exact hc
  rw [e2]
  have rp : mr_rg (pl x y) := by unfold pl; exact ⟨by omega, by omega⟩
  refine ⟨fun q => absurd q (by omega), fun _ => ⟨c0, c1, rp, ⟨by omega, by omega⟩, Or.inl ⟨rfl, k _ (fr_trans (fr_put (Or.inl rfl)) (fr_put (Or.inr ⟨rfl, rfl⟩))) put_eq ?_ (fun j z => ?_)⟩⟩⟩
  · rw [put_a (by decide), put_eq]
  · rw [put_a (by decide), put_k z]
theorem bst_eq {A : Nat} (b : Int) : bSt M A b = bst (rdA M A) b ∧ bEn M A b = ben (rdA M A) b := ⟨rfl, rfl⟩
/-- two corners written -/
theorem EMI_two {M1 M2 : mm_M} {c x1 x2 y : Int} (f1 : fr tS M M1) (a1 : M1.1 17 1 = c + 1) (a2 : M1.1 20 c = pl x1 y) (a3 : ∀ j, j ≠ c → M1.1 20 j = M.1 20 j) (f2 : fr tS M1 M2) (b1 : M2.1 17 1 = c + 1 + 1) (b2 : M2.1 20 (c + 1) = pl x2 y) (b3 : ∀ j, j ≠ c + 1 → M2.1 20 j = M1.1 20 j) : EMI M M2 c (some (x1, x2, y)) := by
  refine Or.inr ⟨x1, x2, y, rfl, fr_trans f1 f2, by omega, ?_, b2, fun j q => ?_⟩
  · rw [b3 c (by omega)]; exact a2
  · rw [b3 j (by omega), a3 j (by omega)]
/-- CellAreas.Loops.alongTop -/
theorem c120 {K : Int → mm_M → Prop} {A : Nat} {k i b x y c : Int} (ho : mr_ok M) (h : AW M A) (hk : inP (rdA M A) i k) (hb : bIs M A b) (hx : -1000 ≤ x ∧ x ≤ 1000) (hy : -1000 ≤ y ∧ y ≤ 1000) (hc : M.1 17 1 = c) (c0 : 0 ≤ c) (c1 : c + 1 < 1601)
    (kk : ∀ e x2 M1, mr_ok M1 → AT (rdA M A) k b x e x2 → EMI M M1 c (some (x, x2, y)) → K e M1) : en_CI sc 120 [mm_r 17, mm_r A, mm_i k, mm_i b, mm_i x, mm_i y, mm_u] M K X := by
  have w := h.2.1
  have kr := inP_rg0 w hk
  have nS' : nS_ (rdA M A) ≤ 400 := h.2.2.2
  have bk := w.2.2.1 i hk.1 hk.2.1
  have kb := bk.2.2.2.2.2 k hk.2.2.1 hk.2.2.2
  have kd := bk.2.2.2.2.1.1 k hk.2.2.1 hk.2.2.2
  refine vc120_0 ho h.1 (c118 ho hc c0 (by omega) hx hy (fun Ma fa a1 a2 a3 hoa => ?_))
  have Aa := AW_fr fa (tS_A h.1) h
  have sa : rdA Ma A = rdA M A := rdA_fr fa (tS_A h.1)
  have hb' : bIs Ma A b := by
    unfold bIs at hb ⊢
    rw [show Ma.1 A 0 = M.1 A 0 from congrArg (fun s : sh => sn s) sa]
    exact hb
  obtain ⟨d0, d1, d2, dd⟩ := bIs_ds Aa hb'
  have e4 : Ma.1 (A + 4) = slf (rdA M A) := congrArg (fun s : sh => slf s) sa
  have e5 : Ma.1 (A + 5) = srt (rdA M A) := congrArg (fun s : sh => srt s) sa
  have eS : bSt Ma A b = bst (rdA M A) b := by rw [← sa]; rfl
  have eE : bEn Ma A b = ben (rdA M A) b := by rw [← sa]; rfl
  rw [eS, eE, e4, e5] at dd
  rw [eS] at d0 d1
  rw [eE] at d1 d2
  have br' : -1 ≤ b ∧ b < 100 := by
    have n1 := h.2.2.1
    unfold bIs at hb
    omega
  have done : ∀ (q : Int), ((∀ o, bst (rdA M A) b ≤ o → o < ben (rdA M A) b → srt (rdA M A) o ≤ x → srt (rdA M A) o ≤ slf (rdA M A) k)) → en_R sc 120 65 [mm_r 17, mm_r A, mm_i k, mm_i b, mm_i x, mm_i y, mm_i q] [] Ma (QI K X) := by
    intro q hq
    refine vc120_65 hoa h.1 ⟨by omega, by omega, ?_⟩
    rw [e4]
    exact c118 hoa a1 (by omega) (by omega) ⟨kb.1, by omega⟩ hy (fun Mb fb b1 b2 b3 hob => Or.inl ⟨_, rfl, kk _ (slf (rdA M A) k) Mb hob (Or.inr ⟨hq, rfl, rfl⟩) (EMI_two fa a1 a2 a3 fb b1 b2 b3)⟩)
  refine c81 hoa Aa hb' ⟨by omega, by omega⟩ (fun q q0 q1 q2 q3 _ => c50 hoa h.1 br'.1 (by omega) (fun _ => ?_))
  rw [eS, eE] at *
  rw [e4, e5] at *
  refine ⟨⟨by omega, by omega⟩, ⟨by omega, by omega⟩, fun z => done _ (fun o o0 o1 o2 => ?_), fun z => ⟨by omega, by omega, by omega, by omega, fun z2 => done _ (fun o o0 o1 o2 => ?_), fun z2 => ⟨by omega, by omega, ?_⟩⟩⟩
  · have := q3 o (by omega) o1
    omega
  · by_cases u : o = q - 1
    · rw [u]; exact z2
    · by_cases u2 : o < q - 1
      · have := ds_mono dd o0 u2 (show q - 1 < ben (rdA M A) b by omega)
        have := dd.1 (q - 1) (by omega) (by omega)
        omega
      · have := q3 o (by omega) o1
        omega
  · have ro := q2 (q - 1) (by omega) (by omega)
    have lo : -1000 ≤ srt (rdA M A) (q - 1) := by omega
    exact c118 hoa a1 (by omega) (by omega) ⟨lo, by omega⟩ hy (fun Mb fb b1 b2 b3 hob => Or.inl ⟨_, rfl, kk _ (srt (rdA M A) (q - 1)) Mb hob (Or.inl ⟨q - 1, by omega, by omega, ro, fun o' z3 z4 => q3 o' (by omega) z4, by omega, rfl, rfl⟩) (EMI_two fa a1 a2 a3 fb b1 b2 b3)⟩)
end
