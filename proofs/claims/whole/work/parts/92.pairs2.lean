/-! ===== box, clear and the readers ===== -/
theorem cS_rg {s : sh} (h : wf s) {i : Int} (i0 : 0 ≤ i) (i1 : i < sn s) : ∀ m : Nat, (m : Int) ≤ sst s (i + 1) - sst s i → 0 ≤ cS s i m ∧ cS s i m ≤ (shi s i - slo s i) * 2000 ∧ (0 < m → cS s i m ≤ (shi s i - slo s i) * (srt s (sst s i + m - 1) + 1000)) := by
  have bk := h.2.2.1 i i0 i1
  have d := bk.2.2.2.2.1
  have hp : 0 ≤ shi s i - slo s i := by have := bk.2.2.1; omega
  intro m
  induction m with
  | zero =>
    intro _
    refine ⟨Int.le_refl 0, ?_, fun z => absurd z (by omega)⟩
    show 0 ≤ (shi s i - slo s i) * 2000
    omega
  | succ m ih =>
    intro q
    obtain ⟨a, b, c⟩ := ih (by omega)
    have x1 := d.1 (sst s i + m) (by omega) (by omega)
    have x2 := bk.2.2.2.2.2 (sst s i + m) (by omega) (by omega)
    have p1 : 0 ≤ (shi s i - slo s i) * (srt s (sst s i + m) - slf s (sst s i + m)) := Int.mul_nonneg hp (by omega)
    have e : cS s i (m + 1) = cS s i m + (shi s i - slo s i) * (srt s (sst s i + m) - slf s (sst s i + m)) := rfl
    have up : cS s i (m + 1) ≤ (shi s i - slo s i) * (srt s (sst s i + m) + 1000) := by
      rw [e]
      by_cases z : m = 0
      · have e0 : cS s i m = 0 := by rw [z]; rfl
        rw [e0, Int.zero_add]
        exact Int.mul_le_mul_of_nonneg_left (by omega) hp
      · have c' := c (by omega)
        have y := ds_mono d (j := sst s i + m - 1) (k := sst s i + m) (by omega) (by omega) (by omega)
        have p2 : (shi s i - slo s i) * (srt s (sst s i + m - 1) + 1000) + (shi s i - slo s i) * (srt s (sst s i + m) - slf s (sst s i + m)) ≤ (shi s i - slo s i) * (srt s (sst s i + m) + 1000) := by
          rw [← Int.mul_add]
          exact Int.mul_le_mul_of_nonneg_left (by omega) hp
        omega
    have e5 : sst s i + ((m + 1 : Nat) : Int) - 1 = sst s i + m := by omega
    refine ⟨by omega, ?_, fun _ => by rw [e5]; exact up⟩
    have p3 : (shi s i - slo s i) * (srt s (sst s i + m) + 1000) ≤ (shi s i - slo s i) * 2000 := Int.mul_le_mul_of_nonneg_left (by omega) hp
    omega
theorem cells_rg {s : sh} (h : wf s) : 0 ≤ cells s ∧ cells s ≤ 4000000 := by
  have key : ∀ n : Nat, (n : Int) ≤ sn s → 0 ≤ cB s n ∧ cB s n ≤ 4000000 ∧ (0 < n → cB s n ≤ 2000 * (shi s (n - 1) + 1000)) := by
    intro n
    induction n with
    | zero => exact fun _ => ⟨Int.le_refl 0, by show (0 : Int) ≤ 4000000; decide, fun z => absurd z (by omega)⟩
    | succ n ih =>
      intro q
      obtain ⟨a, b, c⟩ := ih (by omega)
      have bk := h.2.2.1 (n : Int) (by omega) (by omega)
      have b1 := bk.1
      have b2 := bk.2.1
      have b3 := bk.2.2.1
      have b4 := bk.2.2.2.1
      have x := cS_rg h (i := (n : Int)) (by omega) (by omega) (sst s (n + 1) - sst s n).toNat (by omega)
      have e : cB s (n + 1) = cB s n + cS s n (sst s (n + 1) - sst s n).toNat := rfl
      have e5 : ((n + 1 : Nat) : Int) - 1 = n := by omega
      have up : cB s (n + 1) ≤ 2000 * (shi s n + 1000) := by
        rw [e]
        by_cases z : n = 0
        · have e0 : cB s n = 0 := by rw [z]; rfl
          omega
        · have c' := c (by omega)
          have y := wf_hl h (i := (n : Int) - 1) (j := (n : Int)) (by omega) (by omega) (by omega)
          omega
      exact ⟨by omega, by omega, fun _ => by rw [e5]; exact up⟩
  have n0 := h.1
  have := key (sn s).toNat (by omega)
  exact ⟨this.1, this.2.1⟩
section
variable {L : sh → mm_M → Prop} {sc : Nat × (Int → Int)}
theorem put_self {M : mm_M} : mm_putN M 98 0 (M.1 98 0) = M := by
  refine Prod.ext ?_ rfl
  funext b j
  show (if b = 98 ∧ j = 0 then M.1 98 0 else M.1 b j) = M.1 b j
  split
  · rename_i z
    rw [z.1, z.2]
  · rfl
/-- box: no answer but refused or not -/
theorem p_box (hL : Lst L) {t l lo r hi : Int} (ht : mr_rg t) (hl : mr_rg l) (hlo : mr_rg lo) (hr : mr_rg r) (hhi : mr_rg hi) (M : mm_M) (n : Nat) (ho : mr_ok M) (h : INV L M n) : en_CI sc 32 [mm_r 0, mm_i t, mm_i l, mm_i lo, mm_i r, mm_i hi, mm_u] M (fun x M1 => mr_ok M1 → en_CV sc 40 [mm_r 72, mm_i t, mm_i l, mm_i lo, mm_i r, mm_i hi, mm_u, mm_u] M1 (fun M2 => mr_ok M2 → M2.1 72 0 = x ∧ (0 ≤ x ∧ x ≤ 2) ∧ INV L M2 (n + 1)) (fun _ _ => False)) (fun _ _ => False) := by
  refine vc32_0 ho (c31 ho h.1 ht hl hlo hr hhi (fun q ho2 => Or.inl ⟨rfl, Or.inl ⟨1, rfl, fun ho3 => ?_⟩⟩) (fun g q ho2 => Or.inr ⟨rfl, Or.inl ⟨2, rfl, fun ho3 => ?_⟩⟩) (fun g gg M1 f1 f2 f3 f4 f5 f6 ho1 => Or.inl ⟨0, rfl, fun ho2 => ?_⟩))
  · exact c40 ho3 (INV_W h) ht hl hlo hr hhi (fun _ M2 f e _ => ⟨e, ⟨by decide, by decide⟩, INV_t hL h f⟩) (fun g => absurd g q) (fun g => absurd g q)
  · exact c40 ho3 (INV_W h) ht hl hlo hr hhi (fun q2 => absurd g q2) (fun _ _ M2 f e _ => ⟨e, ⟨by decide, by decide⟩, INV_t hL h f⟩) (fun _ gg => absurd gg q)
  · have c : CB M M1 t (fun x y => lo ≤ y ∧ y < hi ∧ l ≤ x ∧ x < r) (sn (rdA M1 (ar M1 t))) := ⟨f1, f2, f6, f4, Or.inr ⟨f3, rfl, f5⟩⟩
    have W1 : ∀ j, 0 ≤ j → j < 8 → RWk M1 j := fun j j0 j1 => by
      have x := (CB_W h c (M1.1 98 0) j j0 j1).2
      rw [put_self] at x
      exact x
    refine c40 ho2 W1 ht hl hlo hr hhi (fun q => absurd g q) (fun _ q => absurd gg q) (fun _ _ M2 b1 b2 b3 b4 b5 _ => ?_)
    have b : RB (mm_putN M1 98 0 (M1.1 98 0)) M2 t (fun x y => lo ≤ y ∧ y < hi ∧ l ≤ x ∧ x < r) (sn (rdB M2 t)) := by
      rw [put_self]
      exact ⟨b1, b2, b3, b4, Or.inr ⟨b5, rfl⟩⟩
    obtain ⟨_, _, _, e4, e5⟩ := INV_b hL h g c b (fun x y => Iff.rfl)
    exact ⟨e4, ⟨by decide, by decide⟩, e5⟩
theorem p_clear (hL : Lst L) {t : Int} (ht : mr_rg t) : PR L sc 44 [mm_r 0, mm_i t, mm_r 98, mm_u] 47 [mm_r 72, mm_i t, mm_u] := by
  intro M n ho h
  refine vc44_0 ho (c43 ho h.1 ht (fun q ho2 => Or.inl ⟨rfl, Or.inl ⟨1, rfl, fun ho3 => ?_⟩⟩) (fun g M1 f1 f2 f3 f4 f5 f6 ho1 => ?_))
  · exact c47 ho3 (INV_W h) ht (fun _ M2 f e _ => ⟨e, ⟨by decide, by decide⟩, fun z => absurd z (by decide), INV_t hL h f⟩) (fun g => absurd g q)
  · have w := (h.1.1 t g.1 g.2).2.1.2.1
    have cr := cells_rg w
    have rg : mr_rg (cells (rdA M (ar M t))) := ⟨by omega, by omega⟩
    have c : CB M M1 t (fun _ _ => False) (sn (rdA M1 (ar M1 t))) := ⟨f1, f2, f6, f4, Or.inr ⟨f3, rfl, f5⟩⟩
    refine ⟨rg, rj_of rg, Or.inl ⟨0, rfl, fun ho2 => ?_⟩⟩
    have ea := INV_e h c g (cells (rdA M (ar M t)))
    refine c47 ho2 (fun j j0 j1 => (CB_W h c _ j j0 j1).2) ht (fun q => absurd g q) (fun _ M2 b1 b2 b3 b4 b5 _ => ?_)
    obtain ⟨_, _, e3, e4, e5⟩ := INV_b hL h g c (M2 := M2) (T' := fun _ _ => False) (r' := sn (rdB M2 t)) ⟨b1, b2, b3, b4, Or.inr ⟨b5, rfl⟩⟩ (fun x y => Iff.rfl)
    rw [← cells_eqv ea.1 ea.2]
    exact ⟨e4, ⟨by decide, by decide⟩, fun _ => ⟨rg, e3⟩, e5⟩
/-- a reader's two sides -/
theorem p_read (hL : Lst L) {M M1 M2 : mm_M} {n : Nat} {x v : Int} (h : INV L M n) (z : zfr M M1) (z1 : M1.2.2 = M.2.2) (f : fr vT (mm_putN M1 98 0 x) M2) (t : M2.1 72 0 = 0) (rg : mr_rg v) (e : x = v) : M2.1 72 0 = 0 ∧ ((0 : Int) ≤ 0 ∧ (0 : Int) ≤ 2) ∧ ((0 : Int) = 0 → mr_rg v ∧ M2.1 98 0 = v) ∧ INV L M2 (n + 1) := by
  refine ⟨t, ⟨by decide, by decide⟩, fun _ => ⟨rg, ?_⟩, INV_z hL h (zfr_trans z (zfr_trans zfr_put (vT_zfr f))) ?_⟩
  · rw [f.2 98 0 (by unfold vT vR; omega), put_eq]
    exact e
  · rw [f.1]
    show M1.2.2 ≤ n + 1
    rw [z1]
    have := h.2.2.2
    omega
theorem zfr_refl {M : mm_M} : zfr M M := ⟨rfl, fun _ _ _ => rfl⟩
theorem INV_p {M M1 : mm_M} {n : Nat} (hL : Lst L) (h : INV L M n) (z : zfr M M1) (z1 : M1.2.2 = M.2.2) (x : Int) : (∀ j, 0 ≤ j → j < 8 → RWk (mm_putN M1 98 0 x) j) ∧ ∀ j, isA j → wf (rdA M (ar M j)) ∧ eqv (rdA M (ar M j)) (rdB (mm_putN M1 98 0 x) j) := by
  have i := INV_z hL h (zfr_trans z (zfr_put (x := x))) (n' := n) (by show M1.2.2 ≤ n; rw [z1]; exact h.2.2.2)
  refine ⟨fun j j0 j1 => (i.2.1 j j0 j1).1, fun j gj => ⟨(h.1.1 j gj.1 gj.2).2.1.2.1, ?_⟩⟩
  have w := (h.1.1 j gj.1 gj.2).2.1.2.1
  have e := (h.2.1 j gj.1 gj.2)
  have j0 := gj.1
  have j1 := gj.2
  exact eqv_trans w e.2 (rdB_same e.1 (fun a k y => by
    have : ¬ zS a k := by
      unfold hS at y
      unfold zS vT vR
      omega
    exact (zfr_trans z (zfr_put (x := x))).2 a k this)).1
theorem p_bands (hL : Lst L) {a : Int} (ha : mr_rg a) : PR L sc 103 [mm_r 0, mm_i a, mm_r 98, mm_u] 104 [mm_r 72, mm_i a] := by
  intro M n ho h
  refine vc103_0 ho (c102 ho h.1 ha (fun q ho2 => Or.inl ⟨rfl, Or.inl ⟨1, rfl, fun ho3 => ?_⟩⟩) (fun g ho1 => ?_))
  · exact c104 ho3 ha (fun _ M2 f e _ => ⟨e, ⟨by decide, by decide⟩, fun z => absurd z (by decide), INV_t hL h f⟩) (fun g => absurd g q)
  · have A := (OW_A h.1 g).2
    have n0 := A.2.1.1
    have n1 : sn (rdA M (ar M a)) ≤ 100 := A.2.2.1
    have rg : mr_rg (sn (rdA M (ar M a))) := ⟨by omega, by omega⟩
    refine ⟨rg, rj_of rg, Or.inl ⟨0, rfl, fun ho2 => ?_⟩⟩
    have P := INV_p hL h zfr_refl rfl (sn (rdA M (ar M a)))
    refine c104 ho2 ha (fun q => absurd g q) (fun _ M2 f e _ => ?_)
    have ee := (P.2 a g).2.1
    exact p_read hL h zfr_refl rfl (fr_mono f thS_vT) e (by rw [← ee]; exact rg) ee
theorem bandV_rg {s : sh} (h : wf s) (n1 : sst s (sn s) ≤ 400) (i what : Int) : mr_rg (bandV s i what) := by
  unfold bandV
  split
  · rename_i g
    have bk := h.2.2.1 i g.1 g.2
    have b1 := bk.1
    have b2 := bk.2.1
    have b3 := bk.2.2.1
    have b4 := bk.2.2.2.1
    have z0 := sst_mono h (Int.le_refl 0) g.1 (show i ≤ sn s by omega)
    have z1 := sst_mono h (show 0 ≤ i + 1 by omega) (show i + 1 ≤ sn s by omega) (Int.le_refl _)
    rw [h.2.1] at z0
    split
    · exact ⟨by omega, by omega⟩
    · split
      · exact ⟨by omega, by omega⟩
      · split
        · exact ⟨by omega, by omega⟩
        · exact ⟨by decide, by decide⟩
  · exact ⟨by decide, by decide⟩
theorem strV_rg {s : sh} (h : wf s) (i k what : Int) : mr_rg (strV s i k what) := by
  unfold strV
  split
  · rename_i g
    have bk := h.2.2.1 i g.1.1 g.1.2
    have x := bk.2.2.2.2.2 (sst s i + k) (by omega) (by omega)
    have y := bk.2.2.2.2.1.1 (sst s i + k) (by omega) (by omega)
    split
    · exact ⟨by omega, by omega⟩
    · split
      · exact ⟨by omega, by omega⟩
      · exact ⟨by decide, by decide⟩
  · exact ⟨by decide, by decide⟩
theorem p_band (hL : Lst L) {a i what : Int} (ha : mr_rg a) (hi : mr_rg i) (hw : mr_rg what) : PR L sc 106 [mm_r 0, mm_i a, mm_i i, mm_i what, mm_r 98, mm_u] 107 [mm_r 72, mm_i a, mm_i i, mm_i what, mm_u] := by
  intro M n ho h
  refine vc106_0 ho (c105 ho h.1 ha hi hw (fun q ho2 => Or.inl ⟨rfl, Or.inl ⟨1, rfl, fun ho3 => ?_⟩⟩) (fun g ho1 => ?_))
  · exact c107 ho3 (INV_W h) ha hi hw (fun _ M2 f e _ => ⟨e, ⟨by decide, by decide⟩, fun z => absurd z (by decide), INV_t hL h f⟩) (fun g => absurd g q)
  · have A := (OW_A h.1 g).2
    have rg := bandV_rg A.2.1 A.2.2.2 i what
    refine ⟨rg, rj_of rg, Or.inl ⟨0, rfl, fun ho2 => ?_⟩⟩
    have P := INV_p hL h zfr_refl rfl (bandV (rdA M (ar M a)) i what)
    refine c107 ho2 P.1 ha hi hw (fun q => absurd g q) (fun _ M2 f e _ => ?_)
    have ee := bandV_eqv (P.2 a g).2 i what
    exact p_read hL h zfr_refl rfl (fr_mono f thS_vT) e (by rw [← ee]; exact rg) ee
theorem p_stretch (hL : Lst L) {a i j what : Int} (ha : mr_rg a) (hi : mr_rg i) (hj : mr_rg j) (hw : mr_rg what) : PR L sc 109 [mm_r 0, mm_i a, mm_i i, mm_i j, mm_i what, mm_r 98, mm_u] 110 [mm_r 72, mm_i a, mm_i i, mm_i j, mm_i what, mm_u] := by
  intro M n ho h
  refine vc109_0 ho (c108 ho h.1 ha hi hj hw (fun q ho2 => Or.inl ⟨rfl, Or.inl ⟨1, rfl, fun ho3 => ?_⟩⟩) (fun g ho1 => ?_))
  · exact c110 ho3 (INV_W h) ha hi hj hw (fun _ M2 f e _ => ⟨e, ⟨by decide, by decide⟩, fun z => absurd z (by decide), INV_t hL h f⟩) (fun g => absurd g q)
  · have A := (OW_A h.1 g).2
    have rg := strV_rg A.2.1 i j what
    refine ⟨rg, rj_of rg, Or.inl ⟨0, rfl, fun ho2 => ?_⟩⟩
    have P := INV_p hL h zfr_refl rfl (strV (rdA M (ar M a)) i j what)
    refine c110 ho2 P.1 ha hi hj hw (fun q => absurd g q) (fun _ M2 f e _ => ?_)
    have ee := strV_eqv (P.2 a g).1 (P.2 a g).2 i j what
    exact p_read hL h zfr_refl rfl (fr_mono f thS_vT) e (by rw [← ee]; exact rg) ee
def PRB (L : sh → mm_M → Prop) (sc : Nat × (Int → Int)) (w : Nat) (aw : List mm_V) (r : Nat) (ar' : List mm_V) : Prop := ∀ (M : mm_M) (n : Nat), mr_ok M → INV L M n → en_CI sc w aw M (fun x M1 => mr_ok M1 → en_CI sc r ar' M1 (fun v M2 => mr_ok M2 → (M2.1 72 0 = x ∧ (0 ≤ x ∧ x ≤ 2) ∧ (x = 0 → mr_rg v ∧ M2.1 98 0 = v) ∧ INV L M2 (n + 1)) ∧ (v = 0 ∨ v = 1)) (fun _ _ => False)) (fun _ _ => False)
theorem p_has (hL : Lst L) {a x y : Int} (ha : mr_rg a) (hx : mr_rg x) (hy : mr_rg y) : PRB L sc 112 [mm_r 0, mm_i a, mm_i x, mm_i y, mm_r 98, mm_u] 114 [mm_r 72, mm_i a, mm_i x, mm_i y] := by
  intro M n ho h
  have r0 : mr_rg 0 := ⟨by decide, by decide⟩
  have r1 : mr_rg 1 := ⟨by decide, by decide⟩
  refine vc112_0 ho (c111 ho h.1 ha hx hy (fun q ho2 => Or.inl ⟨rfl, Or.inl ⟨1, rfl, fun ho3 => ?_⟩⟩) (fun g yes ho1 => ⟨r1, fun z => absurd z (by decide), fun _ => Or.inl ⟨0, rfl, fun ho2 => ?_⟩⟩) (fun g noo ho1 => ⟨r0, fun _ => Or.inl ⟨0, rfl, fun ho2 => ?_⟩, fun z => absurd rfl z⟩))
  · exact c114 ho3 (INV_W h) ha hx hy (fun _ M2 f e _ => ⟨⟨e, ⟨by decide, by decide⟩, fun z => absurd z (by decide), INV_t hL h f⟩, Or.inl rfl⟩) (fun g => absurd g q) (fun g => absurd g q)
  · have P := INV_p hL h zfr_refl rfl 1
    have hh := eqv_has (P.2 a g).1 (P.2 a g).2 x y
    exact c114 ho2 P.1 ha hx hy (fun q => absurd g q) (fun _ _ M2 f e _ => ⟨p_read hL h zfr_refl rfl (fr_mono f thS_vT) e r1 rfl, Or.inr rfl⟩) (fun _ q => absurd (hh.mp yes) q)
  · have P := INV_p hL h zfr_refl rfl 0
    have hh := eqv_has (P.2 a g).1 (P.2 a g).2 x y
    exact c114 ho2 P.1 ha hx hy (fun q => absurd g q) (fun _ q => absurd (hh.mpr q) noo) (fun _ _ M2 f e _ => ⟨p_read hL h zfr_refl rfl (fr_mono f thS_vT) e r0 rfl, Or.inl rfl⟩)
theorem p_within (hL : Lst L) {a b : Int} (ha : mr_rg a) (hb : mr_rg b) : PRB L sc 184 [mm_r 0, mm_i a, mm_i b, mm_r 98, mm_u] 185 [mm_r 72, mm_i a, mm_i b, mm_u, mm_u] := by
  intro M n ho h
  have r0 : mr_rg 0 := ⟨by decide, by decide⟩
  have r1 : mr_rg 1 := ⟨by decide, by decide⟩
  have zz : ∀ M1, fr rows3 M M1 → zfr M M1 ∧ M1.2.2 = M.2.2 := fun M1 f => ⟨zfr_fr f (fun a k z => by have z' : a = 12 ∨ a = 14 ∨ a = 16 := z; unfold zS; omega), by rw [f.1]⟩
  refine vc184_0 ho (c183 ho h.1 ha hb (fun q ho2 => Or.inl ⟨rfl, Or.inl ⟨1, rfl, fun ho3 => ?_⟩⟩) (fun g yes M1 f1 ho1 => ⟨r1, fun z => absurd z (by decide), fun _ => Or.inl ⟨0, rfl, fun ho2 => ?_⟩⟩) (fun g noo M1 f1 ho1 => ⟨r0, fun _ => Or.inl ⟨0, rfl, fun ho2 => ?_⟩, fun z => absurd rfl z⟩))
  · exact c185 ho3 (INV_W h) ha hb (fun _ M2 f e _ => ⟨⟨e, ⟨by decide, by decide⟩, fun z => absurd z (by decide), INV_t hL h f⟩, Or.inl rfl⟩) (fun g => absurd g q) (fun g => absurd g q)
  · have Z := zz M1 f1
    have P := INV_p hL h Z.1 Z.2 1
    have hh := sub_iff (P.2 a g.1).1 (P.2 b g.2).1 (P.2 a g.1).2 (P.2 b g.2).2
    exact c185 ho2 P.1 ha hb (fun q => absurd g q) (fun _ _ M2 f e _ => ⟨p_read hL h Z.1 Z.2 f e r1 rfl, Or.inr rfl⟩) (fun _ q => absurd (hh.mp yes) q)
  · have Z := zz M1 f1
    have P := INV_p hL h Z.1 Z.2 0
    have hh := sub_iff (P.2 a g.1).1 (P.2 b g.2).1 (P.2 a g.1).2 (P.2 b g.2).2
    exact c185 ho2 P.1 ha hb (fun q => absurd g q) (fun _ q => absurd (hh.mpr q) noo) (fun _ _ M2 f e _ => ⟨p_read hL h Z.1 Z.2 f e r0 rfl, Or.inl rfl⟩)
theorem DV_rg {s t : sh} (hs : wf s) (ht : wf t) {v : Int} (h : DV s t v) : mr_rg v := by
  rcases h with ⟨e, _⟩ | ⟨⟨i, k, p, q, a, b, e⟩, _⟩
  · rw [e]; exact ⟨by decide, by decide⟩
  · have bi := hs.2.2.1 i a.1 a.2.1
    have bj := ht.2.2.1 k b.1 b.2.1
    have c1 := bi.2.2.2.2.2 p a.2.2.1 a.2.2.2
    have c2 := bj.2.2.2.2.2 q b.2.2.1 b.2.2.2
    have c3 := bi.2.2.2.2.1.1 p a.2.2.1 a.2.2.2
    have c4 := bj.2.2.2.2.1.1 q b.2.2.1 b.2.2.2
    have d1 := bi.2.1
    have d2 := bi.2.2.1
    have d3 := bi.2.2.2.1
    have d4 := bj.2.1
    have d5 := bj.2.2.1
    have d6 := bj.2.2.2.1
    have f0 := far_0 s t i k p q
    have g1 : gp (slo s i) (shi s i) (slo t k) (shi t k) ≤ 2000 := by
      unfold gp
      split
      · omega
      · split <;> omega
    have g2 : gp (slf s p) (srt s p) (slf t q) (srt t q) ≤ 2000 := by
      unfold gp
      split
      · omega
      · split <;> omega
    have : far s t i k p q ≤ 2000 := by
      unfold far
      omega
    exact ⟨by omega, by omega⟩
theorem p_distance (hL : Lst L) {a b : Int} (ha : mr_rg a) (hb : mr_rg b) : PR L sc 189 [mm_r 0, mm_i a, mm_i b, mm_r 98, mm_u] 191 [mm_r 72, mm_i a, mm_i b, mm_u, mm_u, mm_u, mm_u, mm_u, mm_u, mm_u, mm_u] := by
  intro M n ho h
  refine vc189_0 ho (c188 ho h.1 ha hb (fun q ho2 => Or.inl ⟨rfl, Or.inl ⟨1, rfl, fun ho3 => ?_⟩⟩) (fun g v d ho1 => ?_))
  · exact c191 ho3 (INV_W h) ha hb (fun _ M2 f e _ => ⟨e, ⟨by decide, by decide⟩, fun z => absurd z (by decide), INV_t hL h f⟩) (fun g => absurd g q)
  · have P := INV_p hL h zfr_refl rfl v
    have rg := DV_rg (P.2 a g.1).1 (P.2 b g.2).1 d
    refine ⟨rg, rj_of rg, Or.inl ⟨0, rfl, fun ho2 => ?_⟩⟩
    refine c191 ho2 P.1 ha hb (fun q => absurd g q) (fun _ v' M2 f e d' _ => ?_)
    have k1 := vT_keep (fr_mono f thS_vT) g.1.1 g.1.2 (P.1 a g.1.1 g.1.2)
    have k2 := vT_keep (fr_mono f thS_vT) g.2.1 g.2.2 (P.1 b g.2.1 g.2.2)
    have dd := DV_eqv (P.2 a g.1).1 (P.2 b g.2).1 (eqv_trans (P.2 a g.1).1 (P.2 a g.1).2 k1.1) (eqv_trans (P.2 b g.2).1 (P.2 b g.2).2 k2.1) d
    have ee := DV_unique k1.2.1 k2.2.1 dd d'
    exact p_read hL h zfr_refl rfl (fr_mono f thS_vT) e (by rw [← ee]; exact rg) ee
end
