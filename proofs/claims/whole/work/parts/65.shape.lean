/-! ===== the one form; a set of cells has one only ===== -/
def ds (p m : Int) (lf rt : Int → Int) : Prop := (∀ k, p ≤ k → k < m → lf k < rt k) ∧ (∀ k, p ≤ k → k + 1 < m → rt k < lf (k + 1))
def din (p m : Int) (lf rt : Int → Int) (x : Int) : Prop := ∃ k, p ≤ k ∧ k < m ∧ lf k ≤ x ∧ x < rt k
theorem ds_mono {p m : Int} {lf rt : Int → Int} (h : ds p m lf rt) {j k : Int} (h0 : p ≤ j) (h1 : j < k) (h2 : k < m) : rt j < lf k := by
  have key : ∀ n : Nat, ∀ k, k = j + 1 + n → k < m → rt j < lf k := by
    intro n
    induction n with
    | zero =>
      intro k e hk
      have e2 : k = j + 1 := by omega
      rw [e2]
      exact h.2 j h0 (by omega)
    | succ n ih =>
      intro k e hk
      have a := ih (k - 1) (by omega) (by omega)
      have b := h.1 (k - 1) (by omega) (by omega)
      have c := h.2 (k - 1) (by omega) (by omega)
      have d : k - 1 + 1 = k := by omega
      rw [d] at c
      omega
  exact key (k - (j + 1)).toNat k (by omega) h2
theorem du_step {p m q r : Int} {lf rt lf' rt' : Int → Int} (h : ds p m lf rt) (h' : ds q r lf' rt') (e : ∀ x, din p m lf rt x → din q r lf' rt' x) {k : Int} (h0 : 0 ≤ k) (ag : ∀ j, 0 ≤ j → j < k → rt (p + j) = rt' (q + j)) (hk : p + k < m) : q + k < r ∧ lf' (q + k) ≤ lf (p + k) := by
  obtain ⟨j, g0, g1, g2, g3⟩ := e (lf (p + k)) ⟨p + k, by omega, hk, Int.le_refl _, h.1 _ (by omega) hk⟩
  by_cases c : j < q + k
  · have a := ag (j - q) (by omega) (by omega)
    have e1 : q + (j - q) = j := by omega
    rw [e1] at a
    have b := ds_mono h (j := p + (j - q)) (k := p + k) (by omega) (by omega) hk
    omega
  · refine ⟨by omega, ?_⟩
    by_cases c2 : j = q + k
    · rw [c2] at g2
      exact g2
    · have a := ds_mono h' (j := q + k) (k := j) (by omega) (by omega) g1
      have b := h'.1 (q + k) (by omega) (by omega)
      omega
theorem du_r {p m q r : Int} {lf rt lf' rt' : Int → Int} (h : ds p m lf rt) (e : ∀ x, din q r lf' rt' x → din p m lf rt x) {k : Int} (h0 : 0 ≤ k) (hk : p + k < m) (hk' : q + k < r) (hl : lf (p + k) = lf' (q + k)) : ¬ rt (p + k) < rt' (q + k) := by
  intro c
  have a := h.1 (p + k) (by omega) hk
  obtain ⟨j, g0, g1, g2, g3⟩ := e (rt (p + k)) ⟨q + k, by omega, hk', by omega, c⟩
  rcases Int.lt_trichotomy j (p + k) with d | d | d
  · have := ds_mono h g0 d hk
    omega
  · rw [d] at g3
    omega
  · have := ds_mono h (j := p + k) (by omega) d g1
    omega
theorem du {p m q r : Int} {lf rt lf' rt' : Int → Int} (h : ds p m lf rt) (h' : ds q r lf' rt') (e : ∀ x, din p m lf rt x ↔ din q r lf' rt' x) (k : Int) (h0 : 0 ≤ k) : (p + k < m ↔ q + k < r) ∧ (p + k < m → lf (p + k) = lf' (q + k) ∧ rt (p + k) = rt' (q + k)) := by
  have key : ∀ n : Nat, ∀ k : Int, 0 ≤ k → k < n → (p + k < m ↔ q + k < r) ∧ (p + k < m → lf (p + k) = lf' (q + k) ∧ rt (p + k) = rt' (q + k)) := by
    intro n
    induction n with
    | zero => intro k a b; omega
    | succ n ih =>
      intro k a b
      have s1 : p + k < m → q + k < r ∧ lf' (q + k) ≤ lf (p + k) := fun g => du_step h h' (fun x => (e x).mp) a (fun j j0 j1 => ((ih j j0 (by omega)).2 (by omega)).2) g
      have s2 : q + k < r → p + k < m ∧ lf (p + k) ≤ lf' (q + k) := fun g => du_step h' h (fun x => (e x).mpr) a (fun j j0 j1 => by
        have i1 := ih j j0 (by omega)
        exact (i1.2 (i1.1.mpr (by omega))).2.symm) g
      refine ⟨⟨fun g => (s1 g).1, fun g => (s2 g).1⟩, fun g => ?_⟩
      have t1 := s1 g
      have t2 := s2 t1.1
      have hl : lf (p + k) = lf' (q + k) := by omega
      refine ⟨hl, ?_⟩
      have u1 := du_r h (fun x => (e x).mpr) a g t1.1 hl
      have u2 := du_r h' (fun x => (e x).mp) a t1.1 g hl.symm
      omega
  exact key (k.toNat + 1) k h0 (by omega)
/-- a shape: bands, low, high, start, left, right -/
abbrev sh : Type := Int × (Int → Int) × (Int → Int) × (Int → Int) × (Int → Int) × (Int → Int)
abbrev sn (s : sh) : Int := s.1
abbrev slo (s : sh) : Int → Int := s.2.1
abbrev shi (s : sh) : Int → Int := s.2.2.1
abbrev sst (s : sh) : Int → Int := s.2.2.2.1
abbrev slf (s : sh) : Int → Int := s.2.2.2.2.1
abbrev srt (s : sh) : Int → Int := s.2.2.2.2.2
def inb (s : sh) (i x : Int) : Prop := din (sst s i) (sst s (i + 1)) (slf s) (srt s) x
def has (s : sh) (x y : Int) : Prop := ∃ i, 0 ≤ i ∧ i < sn s ∧ slo s i ≤ y ∧ y < shi s i ∧ inb s i x
def bok (s : sh) (i : Int) : Prop := sst s i < sst s (i + 1) ∧ -1000 ≤ slo s i ∧ slo s i < shi s i ∧ shi s i ≤ 1000 ∧ ds (sst s i) (sst s (i + 1)) (slf s) (srt s) ∧ ∀ k, sst s i ≤ k → k < sst s (i + 1) → -1000 ≤ slf s k ∧ srt s k ≤ 1000
def wf (s : sh) : Prop := 0 ≤ sn s ∧ sst s 0 = 0 ∧ (∀ i, 0 ≤ i → i < sn s → bok s i) ∧ ∀ i, 0 ≤ i → i + 1 < sn s → shi s i ≤ slo s (i + 1) ∧ (shi s i = slo s (i + 1) → ∃ x, ¬ (inb s i x ↔ inb s (i + 1) x))
def eqv (s t : sh) : Prop := sn s = sn t ∧ (∀ i, 0 ≤ i → i < sn s → slo s i = slo t i ∧ shi s i = shi t i) ∧ (∀ i, 0 ≤ i → i ≤ sn s → sst s i = sst t i) ∧ ∀ k, 0 ≤ k → k < sst s (sn s) → slf s k = slf t k ∧ srt s k = srt t k
theorem bok_some {s : sh} {i : Int} (h : bok s i) : inb s i (slf s (sst s i)) := ⟨_, Int.le_refl _, h.1, Int.le_refl _, h.2.2.2.2.1.1 _ (Int.le_refl _) h.1⟩
theorem inb_rg {s : sh} {i x : Int} (h : bok s i) (g : inb s i x) : -1000 ≤ x ∧ x < 1000 := by
  obtain ⟨k, a, b, c, d⟩ := g
  have := h.2.2.2.2.2 k a b
  omega
theorem wf_hl {s : sh} (h : wf s) {i j : Int} (h0 : 0 ≤ i) (h1 : i < j) (h2 : j < sn s) : shi s i ≤ slo s j := by
  have key : ∀ n : Nat, ∀ k, k = i + 1 + n → k < sn s → shi s i ≤ slo s k := by
    intro n
    induction n with
    | zero =>
      intro k e hk
      have e2 : k = i + 1 := by omega
      rw [e2]
      exact (h.2.2.2 i h0 (by omega)).1
    | succ n ih =>
      intro k e hk
      have a := ih (k - 1) (by omega) (by omega)
      have b := (h.2.2.1 (k - 1) (by omega) (by omega)).2.2.1
      have c := (h.2.2.2 (k - 1) (by omega) (by omega)).1
      have d : k - 1 + 1 = k := by omega
      rw [d] at c
      omega
  exact key (j - (i + 1)).toNat j (by omega) h2
/-- in a band's rows there is that band and no other -/
theorem has_at {s : sh} (h : wf s) {i y : Int} (h0 : 0 ≤ i) (h1 : i < sn s) (h2 : slo s i ≤ y) (h3 : y < shi s i) (x : Int) : has s x y ↔ inb s i x := by
  constructor
  · rintro ⟨j, a, b, c, d, e⟩
    rcases Int.lt_trichotomy j i with g | g | g
    · have := wf_hl h a g h1
      omega
    · rw [← g]
      exact e
    · have := wf_hl h h0 g b
      omega
  · intro g
    exact ⟨i, h0, h1, h2, h3, g⟩
theorem sst_mono {s : sh} (h : wf s) {i j : Int} (h0 : 0 ≤ i) (h1 : i ≤ j) (h2 : j ≤ sn s) : sst s i ≤ sst s j := by
  have key : ∀ n : Nat, ∀ k, k = i + n → k ≤ sn s → sst s i ≤ sst s k := by
    intro n
    induction n with
    | zero =>
      intro k e hk
      have e2 : k = i := by omega
      rw [e2]
      exact Int.le_refl _
    | succ n ih =>
      intro k e hk
      have a := ih (k - 1) (by omega) (by omega)
      have b := (h.2.2.1 (k - 1) (by omega) (by omega)).1
      have d : k - 1 + 1 = k := by omega
      rw [d] at b
      omega
  exact key (j - i).toNat j (by omega) h2
theorem un_step {s t : sh} (h : wf s) (h' : wf t) (e : ∀ x y, has s x y → has t x y) {k : Int} (h0 : 0 ≤ k) (ag : ∀ j, 0 ≤ j → j < k → shi s j = shi t j) (hk : k < sn s) : k < sn t ∧ slo t k ≤ slo s k := by
  have bk := h.2.2.1 k h0 hk
  obtain ⟨j, g0, g1, g2, g3, _⟩ := e _ _ ⟨k, h0, hk, Int.le_refl _, bk.2.2.1, bok_some bk⟩
  by_cases c : j < k
  · have a := ag j g0 c
    have b := wf_hl h g0 c hk
    omega
  · refine ⟨by omega, ?_⟩
    by_cases c2 : j = k
    · rw [c2] at g2
      exact g2
    · have a := wf_hl h' h0 (by omega : k < j) g1
      have b := (h'.2.2.1 k h0 (by omega)).2.2.1
      omega
theorem un_r {s t : sh} (h : wf s) (h' : wf t) (e : ∀ x y, has s x y ↔ has t x y) {k : Int} (h0 : 0 ≤ k) (hk : k < sn s) (hk' : k < sn t) (hl : slo s k = slo t k) : ¬ shi s k < shi t k := by
  intro c
  have bs := h.2.2.1 k h0 hk
  have bt := h'.2.2.1 k h0 hk'
  have b1 := bs.2.2.1
  have row : ∀ x, inb s k x ↔ inb t k x := by
    intro x
    rw [← has_at h h0 hk (Int.le_refl _) bs.2.2.1, hl, ← has_at h' h0 hk' (Int.le_refl _) bt.2.2.1]
    exact e _ _
  have row2 : ∀ x, has s x (shi s k) ↔ inb s k x := by
    intro x
    rw [e, has_at h' h0 hk' (by omega) c, row]
  obtain ⟨j, g0, g1, g2, g3, g4⟩ := (row2 _).mpr (bok_some bs)
  have j1 : k < j := by
    rcases Int.lt_trichotomy j k with d | d | d
    · have := wf_hl h g0 d hk
      omega
    · rw [d] at g3
      omega
    · exact d
  have j2 : j = k + 1 := by
    by_cases d : j = k + 1
    · exact d
    · have a := (h.2.2.2 k h0 (by omega)).1
      have b := wf_hl h (by omega : 0 ≤ k + 1) (by omega : k + 1 < j) g1
      have c2 := (h.2.2.1 (k + 1) (by omega) (by omega)).2.2.1
      omega
  subst j2
  have a := h.2.2.2 k h0 g1
  obtain ⟨x, hx⟩ := a.2 (by omega)
  apply hx
  rw [← row2, ← has_at h (by omega) g1 g2 g3]
theorem un {s t : sh} (h : wf s) (h' : wf t) (e : ∀ x y, has s x y ↔ has t x y) (k : Int) (h0 : 0 ≤ k) : (k < sn s ↔ k < sn t) ∧ (k < sn s → slo s k = slo t k ∧ shi s k = shi t k ∧ ∀ x, inb s k x ↔ inb t k x) := by
  have key : ∀ n : Nat, ∀ k : Int, 0 ≤ k → k < n → (k < sn s ↔ k < sn t) ∧ (k < sn s → slo s k = slo t k ∧ shi s k = shi t k) := by
    intro n
    induction n with
    | zero => intro k a b; omega
    | succ n ih =>
      intro k a b
      have s1 : k < sn s → k < sn t ∧ slo t k ≤ slo s k := fun g => un_step h h' (fun x y => (e x y).mp) a (fun j j0 j1 => ((ih j j0 (by omega)).2 (by omega)).2) g
      have s2 : k < sn t → k < sn s ∧ slo s k ≤ slo t k := fun g => un_step h' h (fun x y => (e x y).mpr) a (fun j j0 j1 => by
        have i1 := ih j j0 (by omega)
        exact (i1.2 (i1.1.mpr (by omega))).2.symm) g
      refine ⟨⟨fun g => (s1 g).1, fun g => (s2 g).1⟩, fun g => ?_⟩
      have t1 := s1 g
      have t2 := s2 t1.1
      have hl : slo s k = slo t k := by omega
      refine ⟨hl, ?_⟩
      have u1 := un_r h h' e a g t1.1 hl
      have u2 := un_r h' h (fun x y => (e x y).symm) a t1.1 g hl.symm
      omega
  have kk := key (k.toNat + 1) k h0 (by omega)
  refine ⟨kk.1, fun g => ⟨(kk.2 g).1, (kk.2 g).2, fun x => ?_⟩⟩
  have g' := kk.1.mp g
  have bs := h.2.2.1 k h0 g
  have bt := h'.2.2.1 k h0 g'
  rw [← has_at h h0 g (Int.le_refl _) bs.2.2.1, (kk.2 g).1, ← has_at h' h0 g' (Int.le_refl _) bt.2.2.1]
  exact e _ _
/-- a set of cells has one form only -/
theorem uniq {s t : sh} (h : wf s) (h' : wf t) (e : ∀ x y, has s x y ↔ has t x y) : eqv s t := by
  have hn : sn s = sn t := by
    have a := (un h h' e (sn s) h.1).1
    have b := (un h h' e (sn t) h'.1).1
    omega
  have hst : ∀ n : Nat, (n : Int) ≤ sn s → sst s n = sst t n ∧ ∀ k, 0 ≤ k → k < sst s n → slf s k = slf t k ∧ srt s k = srt t k := by
    intro n
    induction n with
    | zero =>
      intro _
      have a := h.2.1
      have b := h'.2.1
      refine ⟨by rw [show ((0 : Nat) : Int) = 0 from rfl]; omega, fun k k0 k1 => ?_⟩
      rw [show ((0 : Nat) : Int) = 0 from rfl] at k1
      omega
    | succ n ih =>
      intro g
      have ⟨i1, i2⟩ := ih (by omega)
      have bs := h.2.2.1 n (by omega) (by omega)
      have bt := h'.2.2.1 n (by omega) (by omega)
      have row := ((un h h' e n (by omega)).2 (by omega)).2.2
      have d := du bs.2.2.2.2.1 bt.2.2.2.2.1 row
      have en : ((n + 1 : Nat) : Int) = (n : Int) + 1 := by omega
      rw [en]
      have c : sst s (n + 1) = sst t (n + 1) := by
        have x1 := (d (sst s (n + 1) - sst s n) (by have := bs.1; omega)).1
        have x2 := (d (sst t (n + 1) - sst t n) (by have := bt.1; omega)).1
        omega
      refine ⟨c, fun k k0 k1 => ?_⟩
      by_cases g2 : k < sst s n
      · exact i2 k k0 g2
      · have x := (d (k - sst s n) (by omega)).2 (by omega)
        have e1 : sst s n + (k - sst s n) = k := by omega
        have e2 : sst t n + (k - sst s n) = k := by omega
        rw [e1, e2] at x
        exact x
  have cast : ∀ i, 0 ≤ i → ((i.toNat : Nat) : Int) = i := fun i hi => by omega
  refine ⟨hn, fun i i0 i1 => ?_, fun i i0 i1 => ?_, ?_⟩
  · have := (un h h' e i i0).2 i1
    exact ⟨this.1, this.2.1⟩
  · have := (hst i.toNat (by omega)).1
    rw [cast i i0] at this
    exact this
  · have := (hst (sn s).toNat (by have := h.1; omega)).2
    rw [cast _ h.1] at this
    exact this
