/-! ===== move, both sides ===== -/
abbrev fld (x y : Int) : Prop := -1000 ≤ x ∧ x < 1000 ∧ -1000 ≤ y ∧ y < 1000
/-- the bands before n, moved -/
def mvT (s : sh) (r u n x y : Int) : Prop := fld x y ∧ ∃ i, 0 ≤ i ∧ i < n ∧ slo s i ≤ y - u ∧ y - u < shi s i ∧ inb s i (x - r)
def mvd (s : sh) (r u x y : Int) : Prop := fld x y ∧ has s (x - r) (y - u)
theorem mvd_iff {s t : sh} (h : wf s) (e : eqv s t) (r u x y : Int) : mvd s r u x y ↔ mvd t r u x y := by
  unfold mvd
  rw [eqv_has h e]
theorem mvT_step {s : sh} {r u n : Int} (h0 : 0 ≤ n) {R : Int → Prop} (hR : ∀ x, R x ↔ (-1000 ≤ x ∧ x < 1000) ∧ inb s n (x - r)) {low high : Int} (hl : ∀ y, -1000 ≤ y → y < 1000 → (low ≤ y ↔ slo s n ≤ y - u)) (hh : ∀ y, -1000 ≤ y → y < 1000 → (y < high ↔ y - u < shi s n)) (hb : -1000 ≤ low ∧ high ≤ 1000) (x y : Int) :
    (mvT s r u n x y ∨ (low ≤ y ∧ y < high ∧ R x)) ↔ mvT s r u (n + 1) x y := by
  rw [hR]
  unfold mvT
  constructor
  · rintro (⟨a, i, b, c, d⟩ | ⟨a, b, c, d⟩)
    · exact ⟨a, i, b, by omega, d⟩
    · exact ⟨⟨c.1, c.2, by omega, by omega⟩, n, h0, by omega, (hl y (by omega) (by omega)).mp a, (hh y (by omega) (by omega)).mp b, d⟩
  · rintro ⟨a, i, b, c, d, e, f⟩
    by_cases q : i = n
    · rw [q] at d e f
      exact Or.inr ⟨(hl y a.2.2.1 a.2.2.2).mpr d, (hh y a.2.2.1 a.2.2.2).mpr e, ⟨a.1, a.2.1⟩, f⟩
    · exact Or.inl ⟨a, i, b, by omega, d, e, f⟩
theorem mvT_lt {s : sh} (h : wf s) {r u n : Int} (h1 : n < sn s) {x y : Int} (g : mvT s r u n x y) : y < slo s n + u := by
  obtain ⟨_, i, a, b, c, d, _⟩ := g
  have := wf_hl h a b h1
  omega
theorem clp_mono {v w : Int} (h : v ≤ w) : clp v ≤ clp w := by
  unfold clp
  split <;> split <;> (try split) <;> (try split) <;> omega
section
variable {sc : Nat × (Int → Int)} {M : mm_M} {X : Nat → mm_M → Prop}
/-- CellAreas.move -/
theorem c72 {K : Int → mm_M → Prop} {t a r u : Int} (ho : mr_ok M) (hO : OW M) (ht : mr_rg t) (ha : mr_rg a) (hr : mr_rg r) (hu : mr_rg u)
    (x1 : ¬ (isA t ∧ isA a) → X 1 (M.1, M.2.1, M.2.2 + 1)) (x2 : (isA t ∧ isA a) → ¬ ((-2000 ≤ r ∧ r ≤ 2000) ∧ -2000 ≤ u ∧ u ≤ 2000) → X 2 (M.1, M.2.1, M.2.2 + 1))
    (k : (isA t ∧ isA a) → ((-2000 ≤ r ∧ r ≤ 2000) ∧ -2000 ≤ u ∧ u ≤ 2000) → ∀ v M1, CB M M1 t (mvd (rdA M (ar M a)) r u) v → K v M1) : en_CI sc 72 [mm_r 0, mm_i t, mm_i a, mm_i r, mm_i u, mm_u, mm_u] M K X := by
  refine vc72_0 ho (c9 ho ht (fun gt _ => ?_) (fun q => Or.inr ⟨1, rfl, by decide, x1 (fun z => q z.1)⟩))
  refine c9 ho ha (fun ga _ => ?_) (fun q => Or.inr ⟨1, rfl, by decide, x1 (fun z => q z.2)⟩)
  refine c10 ho hr ⟨by decide, by decide⟩ ⟨by decide, by decide⟩ (fun gr _ => ?_) (fun q => Or.inr ⟨2, rfl, by decide, x2 ⟨gt, ga⟩ (fun z => q z.1)⟩)
  refine c10 ho hu ⟨by decide, by decide⟩ ⟨by decide, by decide⟩ (fun gu _ => ?_) (fun q => Or.inr ⟨2, rfl, by decide, x2 ⟨gt, ga⟩ (fun z => q z.2)⟩)
  replace k := k ⟨gt, ga⟩ ⟨gr, gu⟩
  have Aa := OW_A hO ga
  have hA := hO.2.2.2.1
  have w := Aa.2.2.1
  have n0 := w.1
  have n1 : sn (rdA M (ar M a)) ≤ 100 := Aa.2.2.2.1
  refine ⟨ga.1, ga.2, ar M a, Aa.1, Aa.2.1, c18 ho hO.2.2.1 hA (hO.2.2.2.2 _ hA) (fun Md fd Bd hod => ?_)⟩
  have loop : ∀ (c : Nat) (i : Int) (M' : mm_M), c = (sn (rdA M (ar M a)) - i).toNat → 0 ≤ i → i ≤ sn (rdA M (ar M a)) → mr_ok M' → fr (kS (br M)) M M' → BS M' (br M) (mvT (rdA M (ar M a)) r u i) → en_R sc 72 47 [mm_r 0, mm_i t, mm_i a, mm_i r, mm_i u, mm_r (ar M a), mm_i i] [] M' (QI K X) := by
    intro c
    induction c with
    | zero =>
      intro i M' hc i0 i1 ho' hf hB
      obtain ⟨O', p2, p3, p4, _⟩ := kS_keep hO hf
      have es : M'.1 (ar M a) 0 = sn (rdA M (ar M a)) := congrArg (fun s : sh => sn s) (p4 a ga.1 ga.2)
      have ei : i = sn (rdA M (ar M a)) := by omega
      rw [ei] at hB
      refine vc72_47 ho' Aa.2.1 ⟨by omega, by omega⟩ ?_
      rw [es]
      exact ⟨fun _ => c30y ho' hO hf hB gt.1 gt.2 (fun v M1 c _ => Or.inl ⟨v, rfl, k v M1 c⟩), fun q => absurd (by omega) q⟩
    | succ c ih =>
      intro i M' hc i0 i1 ho' hf hB
      obtain ⟨O', p2, p3, p4, _⟩ := kS_keep hO hf
      have es : M'.1 (ar M a) 0 = sn (rdA M (ar M a)) := congrArg (fun s : sh => sn s) (p4 a ga.1 ga.2)
      refine vc72_47 ho' Aa.2.1 ⟨by omega, by omega⟩ ?_
      rw [es]
      refine ⟨fun q => absurd q (by omega), fun _ => c12 ho' w11 (fun Me fe re hoe => ?_)⟩
      have ke : fr (kS (br M)) M Me := fr_trans hf (fr_mono fe (kS_row (by decide)))
      obtain ⟨Oe, e2, e3, e4, _⟩ := kS_keep hO ke
      have Ae := OW_A Oe ga
      rw [e2] at Ae
      have se := e4 a ga.1 ga.2
      have ese : Me.1 (ar M a) 0 = sn (rdA M (ar M a)) := congrArg (fun s : sh => sn s) se
      refine c52 hoe Ae.2 w11 (by omega) (Or.inl (by omega)) ⟨by omega, by omega⟩ ⟨by omega, by omega⟩ (fun Mf ff rf hof => ?_)
      have kf : fr (kS (br M)) M Mf := fr_trans ke (fr_mono ff (kS_row (by decide)))
      obtain ⟨Of, f2, f3, f4, _⟩ := kS_keep hO kf
      have sf := f4 a ga.1 ga.2
      have elo : Mf.1 (ar M a + 1) i = slo (rdA M (ar M a)) i := congrArg (fun s : sh => slo s i) sf
      have ehi : Mf.1 (ar M a + 2) i = shi (rdA M (ar M a)) i := congrArg (fun s : sh => shi s i) sf
      rw [elo, ehi]
      have bk := w.2.2.1 i i0 (by omega)
      have b2 := bk.2.1
      have b3 := bk.2.2.1
      have b4 := bk.2.2.2.1
      have Bf : BS Mf (br M) (mvT (rdA M (ar M a)) r u i) := BS_fr ff (fun a k z => by have z' : a = 11 + 1 := z; omega) (BS_fr fe (fun a k z => by have z' : a = 11 + 1 := z; omega) hB)
      have R : ∀ x, ri Mf 11 x ↔ (-1000 ≤ x ∧ x < 1000) ∧ inb (rdA M (ar M a)) i (x - r) := by
        intro x
        rw [rf]
        have eS : bSt Me (ar M a) i = sst (rdA M (ar M a)) i := by
          unfold bSt
          rw [if_neg (by omega)]
          exact congrArg (fun s : sh => sst s i) se
        have eE : bEn Me (ar M a) i = sst (rdA M (ar M a)) (i + 1) := by
          unfold bEn
          rw [if_neg (by omega)]
          exact congrArg (fun s : sh => sst s (i + 1)) se
        have eL : ∀ j, Me.1 (ar M a + 4) j = slf (rdA M (ar M a)) j := fun j => congrArg (fun s : sh => slf s j) se
        have eR : ∀ j, Me.1 (ar M a + 5) j = srt (rdA M (ar M a)) j := fun j => congrArg (fun s : sh => srt s j) se
        rw [eS, eE]
        constructor
        · rintro (g | ⟨g1, g2, j, j0, j1, j2, j3⟩)
          · exact absurd g (re x)
          · rw [eL] at j2
            rw [eR] at j3
            exact ⟨⟨g1, g2⟩, j, j0, j1, by omega, by omega⟩
        · rintro ⟨g, j, j0, j1, j2, j3⟩
          exact Or.inr ⟨g.1, g.2, j, j0, j1, by rw [eL]; omega, by rw [eR]; omega⟩
      refine ⟨i0, by omega, ⟨by omega, by omega⟩, i0, by omega, ⟨by omega, by omega⟩, ?_⟩
      refine c29 hof Bf w11 (by decide) (fun x g => ((R x).mp g).1.2) ⟨by omega, by omega⟩ ⟨by omega, by omega⟩ (fun _ => ⟨by omega, by omega⟩) (fun _ x y z => by have := mvT_lt w (by omega) z; omega) (fun Mh fh Bh hoh => ?_)
      refine ih (i + 1) Mh (by omega) (by omega) (by omega) hoh (fr_trans kf (fr_mono fh kS_b)) (BS_iff Bh (fun x y => mvT_step i0 R (fun y a b => by omega) (fun y a b => by omega) ⟨by omega, by omega⟩ x y))
  refine loop _ 0 Md rfl (Int.le_refl _) n0 hod (fr_mono fd kS_b) (BS_iff Bd (fun x y => ⟨fun z => z.elim, fun z => ?_⟩))
  obtain ⟨_, i, i0, i1, _⟩ := z
  omega
theorem c74 {K : Int → mm_M → Prop} {v : Int} (ho : mr_ok M) (hv : mr_rg v) (k : K (clp v) M) : en_CI sc 74 [mm_i v] M K X := by
  unfold clp at k
  refine vc74_0 ho hv ⟨fun q => ⟨fun q2 => Or.inl ⟨_, rfl, ?_⟩, fun q2 => Or.inl ⟨_, rfl, ?_⟩⟩, fun q => Or.inl ⟨_, rfl, ?_⟩⟩
  · rwa [if_neg (by omega), if_neg (by omega)] at k
  · rwa [if_neg (by omega), if_pos (by omega)] at k
  · rwa [if_pos (by omega)] at k
/-- what is told of a band of the reference's area a -/
theorem RW_band {a i : Int} (hW : RWk M a) (h0 : 0 ≤ i) (h1 : i < M.1 77 a) : M.1 75 (102 * a + i) = 402 * a + sst (rdB M a) i ∧ M.1 75 (102 * a + i) + M.1 76 (102 * a + i) = 402 * a + sst (rdB M a) (i + 1) ∧ 0 ≤ sst (rdB M a) i ∧ sst (rdB M a) i < sst (rdB M a) (i + 1) ∧ sst (rdB M a) (i + 1) ≤ 400 ∧ -1000 ≤ M.1 73 (102 * a + i) ∧ M.1 73 (102 * a + i) < M.1 74 (102 * a + i) ∧ M.1 74 (102 * a + i) ≤ 1000 := by
  have bk := hW.1.2.2.1 i h0 h1
  have est : sst (rdB M a) i = M.1 75 (102 * a + i) - 402 * a := rdB_sst h1
  have ea := hW.2.1 i h0 h1
  have s0 := sst_mono hW.1 (Int.le_refl 0) h0 (show i ≤ M.1 77 a by omega)
  have s1 := sst_mono hW.1 (by omega : 0 ≤ i + 1) (show i + 1 ≤ M.1 77 a by omega) (Int.le_refl _)
  have sE : sst (rdB M a) (M.1 77 a) = M.1 80 a := rdB_end
  rw [hW.1.2.1] at s0
  rw [sE] at s1
  have w4 := hW.2.2.2
  exact ⟨by omega, by omega, s0, bk.1, by omega, bk.2.1, bk.2.2.1, bk.2.2.2.1⟩
theorem RW_k {a i j : Int} (hW : RWk M a) (h0 : 0 ≤ i) (h1 : i < M.1 77 a) (j0 : sst (rdB M a) i ≤ j) (j1 : j < sst (rdB M a) (i + 1)) : -1000 ≤ slf (rdB M a) j ∧ slf (rdB M a) j < srt (rdB M a) j ∧ srt (rdB M a) j ≤ 1000 := by
  have bk := hW.1.2.2.1 i h0 h1
  have x := bk.2.2.2.2.2 j j0 j1
  exact ⟨x.1, bk.2.2.2.2.1.1 j j0 j1, x.2⟩
end
