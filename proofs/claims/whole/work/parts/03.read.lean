/-- the pattern's first k letters stand in the text at a -/
def lz_M (tx pl : Nat → Int32) (a k : Nat) : Prop := ∀ i, i < k → tx (a + i) = pl i
/-- the pattern occurs at i -/
def lz_O (t m : Nat) (tx pl : Nat → Int32) (i : Nat) : Prop := 0 < m ∧ i + m ≤ t ∧ lz_M tx pl i m
theorem lz_10 : ¬ (1 : Int32) = 0 := by decide
theorem lz_ps1 {q o t : Nat} {s l : Nat → Nat} {sh ll ln tx : Nat → Int32} (I : lz_I q o t s l sh ll ln tx) (M : Int32) (pl : Nat → Int32) (post : Int32 → Prop) (a k : Nat) (hak : a + k ≤ t) (hk : k ≤ 10) (h1 : lz_M tx pl a k → post 1) (h0 : ¬ lz_M tx pl a k → post 0) : ∀ d j, j + d = k → (∀ i, i < j → tx (a + i) = pl i) → wX_patternStartsAt_2 post (nI a) (nI k) (nI (q + 4)) (nI o) (nI t) M sh ll ln pl (d + 1) (nI j) := by
  intro d
  induction d with
  | zero =>
    intro j hj h
    exact br_t (nI_le (by omega) (by omega)) (h1 (fun i hi => h i (by omega)))
  | succ d ih =>
    intro j hj h
    refine br_f (nI_ge (by omega) (by omega)) ?_
    rw [nI_add a j]
    refine lz_tl I M pl _ (a + j) (by omega) ?_
    refine ⟨vp_in_nI (by omega) (by omega), br_c (fun e => nm_r (nI_1 j) (ih (j + 1) (by omega) (lt_s h ?_))) (fun e => h0 (fun z => e ?_))⟩
    · rw [nI_clamp (by omega)] at e
      exact e
    · rw [nI_clamp (by omega)]
      exact z j (by omega)
theorem lz_ps {q o t : Nat} {s l : Nat → Nat} {sh ll ln tx : Nat → Int32} (I : lz_I q o t s l sh ll ln tx) (M : Int32) (pl : Nat → Int32) (post : Int32 → Prop) (a k : Nat) (hak : a + k ≤ t) (hk : k ≤ 10) (h1 : lz_M tx pl a k → post 1) (h0 : ¬ lz_M tx pl a k → post 0) : wpX_patternStartsAt post (nI (q + 4), nI o, nI t, M, sh, ll, ln, pl) (nI a) (nI k) :=
  ⟨k + 1, lz_ps1 I M pl post a k hak hk h1 h0 k 0 (by omega) lt_0⟩
theorem lz_yl {t : Nat} (ht : t ≤ 120) (M : Int32) (tx pl : Nat → Int32) (post : Int32 → Prop) (i : Nat) (hi : i < 2 ^ 31) (h1 : i < t → post (tx i)) (h0 : t ≤ i → post (-4)) : wpY_letterAt post (nI t, M, tx, pl) (nI i) := by
  refine br_f (nI_pos hi) (pk_le t i (fun z => h0 z) (fun z => ⟨vp_in_nI (by omega) (by omega), ?_⟩))
  rw [nI_clamp hi]
  exact h1 z
theorem lz_ys1 {t : Nat} (ht : t ≤ 120) (M : Int32) (tx pl : Nat → Int32) (post : Int32 → Prop) (a k : Nat) (ha : a ≤ t) (hk : k ≤ 10) (hp : ∀ i, i < k → ¬ (-4) = pl i) (h1 : a + k ≤ t → lz_M tx pl a k → post 1) (h0 : ¬ (a + k ≤ t ∧ lz_M tx pl a k) → post 0) : ∀ d j, j + d = k → a + j ≤ t → (∀ i, i < j → tx (a + i) = pl i) → wY_stands_2 post (nI a) (nI k) (nI t) M tx pl (d + 1) (nI j) := by
  intro d
  induction d with
  | zero =>
    intro j hj hl h
    exact br_t (nI_le (by omega) (by omega)) (h1 (by omega) (fun i hi => h i (by omega)))
  | succ d ih =>
    intro j hj hl h
    have hv : vp_in (nI j) 10 := vp_in_nI (by omega) (by omega)
    refine br_f (nI_ge (by omega) (by omega)) ?_
    rw [nI_add a j]
    refine lz_yl ht M tx pl _ (a + j) (by omega) (fun z => ?_) (fun z => ?_)
    · refine ⟨hv, br_c (fun e => nm_r (nI_1 j) (ih (j + 1) (by omega) (by omega) (lt_s h ?_))) (fun e => h0 (fun w => e ?_))⟩
      · rw [nI_clamp (by omega)] at e
        exact e
      · rw [nI_clamp (by omega)]
        exact w.2 j (by omega)
    · refine ⟨hv, br_f ?_ (h0 (fun w => by omega))⟩
      rw [nI_clamp (by omega)]
      exact hp j (by omega)
theorem lz_ys {t : Nat} (ht : t ≤ 120) (M : Int32) (tx pl : Nat → Int32) (post : Int32 → Prop) (a k : Nat) (ha : a ≤ t) (hk : k ≤ 10) (hp : ∀ i, i < k → ¬ (-4) = pl i) (h1 : a + k ≤ t → lz_M tx pl a k → post 1) (h0 : ¬ (a + k ≤ t ∧ lz_M tx pl a k) → post 0) : wpY_stands post (nI t, M, tx, pl) (nI a) (nI k) :=
  ⟨k + 1, lz_ys1 ht M tx pl post a k ha hk hp h1 h0 k 0 (by omega) ha lt_0⟩
theorem lz_yo {t m : Nat} (ht : t ≤ 120) (hm : m ≤ 10) (tx pl : Nat → Int32) (hp : ∀ i, i < m → ¬ (-4) = pl i) (post : Int32 → Prop) (i : Nat) (hi : i ≤ t) (h1 : lz_O t m tx pl i → post 1) (h0 : ¬ lz_O t m tx pl i → post 0) : wpY_occurs post (nI t, nI m, tx, pl) (nI i) := by
  refine pk_le m 0 (fun z => h0 (fun w => absurd w.1 (by omega))) (fun z => ?_)
  refine lz_ys ht _ tx pl _ i m hi hm hp (fun w1 w2 => ?_) (fun w => ?_)
  · exact br_f lz_10 (h1 ⟨z, w1, w2⟩)
  · exact br_t rfl (h0 (fun y => w y.2))
/-- how many i below n have P -/
noncomputable def lz_cn (P : Nat → Prop) : Nat → Nat
  | 0 => 0
  | n + 1 => lz_cn P n + @ite Nat (P n) (Classical.propDecidable _) 1 0
theorem lz_cn_t {P : Nat → Prop} {n : Nat} (h : P n) : lz_cn P (n + 1) = lz_cn P n + 1 := by
  show lz_cn P n + @ite Nat (P n) (Classical.propDecidable _) 1 0 = _
  rw [if_pos h]
theorem lz_cn_f {P : Nat → Prop} {n : Nat} (h : ¬ P n) : lz_cn P (n + 1) = lz_cn P n := by
  show lz_cn P n + @ite Nat (P n) (Classical.propDecidable _) 1 0 = _
  rw [if_neg h]
  rfl
theorem lz_cn_ext {P : Nat → Prop} {a : Nat} : ∀ d, (∀ i, a ≤ i → i < a + d → ¬ P i) → lz_cn P (a + d) = lz_cn P a := by
  intro d
  induction d with
  | zero => intro _; rfl
  | succ d ih =>
    intro h
    show lz_cn P (a + d + 1) = _
    rw [lz_cn_f (h (a + d) (by omega) (by omega))]
    exact ih (fun i h1 h2 => h i h1 (by omega))
theorem lz_cn_e {P : Nat → Prop} {a b : Nat} (hab : a ≤ b) (h : ∀ i, a ≤ i → i < b → ¬ P i) : lz_cn P b = lz_cn P a := by
  obtain ⟨d, rfl⟩ : ∃ d, b = a + d := ⟨b - a, by omega⟩
  exact lz_cn_ext d h
/-- the occurrences that end at e or before -/
def lz_E (e m : Nat) (tx pl : Nat → Int32) (i : Nat) : Prop := 0 < m ∧ i + m ≤ e ∧ lz_M tx pl i m
theorem lz_oc1 {q o t : Nat} {s l : Nat → Nat} {sh ll ln tx : Nat → Int32} (I : lz_I q o t s l sh ll ln tx) (m : Nat) (h0m : 0 < m) (hm : m ≤ 10) (pl : Nat → Int32) (post : Int32 → Prop) (e : Nat) (he : e ≤ t) (h : post (nI (lz_cn (lz_E e m tx pl) t))) : ∀ d i, i + d = e + 1 - m → wX_occurrencesUpTo_13 post (nI e) (nI (q + 4)) (nI o) (nI t) (nI m) sh ll ln pl (d + 1) (nI (lz_cn (lz_E e m tx pl) i)) (nI i) := by
  have ht := I.2.1
  intro d
  induction d with
  | zero =>
    intro i hi
    refine br_t ?_ ?_
    · rcases Nat.lt_or_ge e m with z | z
      · have y : i = 0 := by omega
        subst y
        exact pk_sneg (by omega) z
      · rw [pk_sub z]
        exact nI_lt (by omega) (by omega)
    · rw [lz_cn_e (a := i) (by omega) (fun j h1 h2 w => absurd w.2.1 (by omega))] at h
      exact h
  | succ d ih =>
    intro i hi
    refine br_f ?_ ?_
    · rw [pk_sub (by omega)]
      exact nI_nlt (by omega) (by omega)
    · have z := ih (i + 1) (by omega)
      refine lz_ps I _ pl _ i m (by omega) hm (fun w => ?_) (fun w => ?_)
      · rw [lz_cn_t ⟨h0m, by omega, w⟩] at z
        exact br_f lz_10 (nm_r (nI_1 _) (nm_r (nI_1 i) z))
      · rw [lz_cn_f (fun y => w y.2.2)] at z
        exact br_t rfl (nm_r (nI_1 i) z)
theorem lz_oc {q o t : Nat} {s l : Nat → Nat} {sh ll ln tx : Nat → Int32} (I : lz_I q o t s l sh ll ln tx) (m : Nat) (hm : m ≤ 10) (pl : Nat → Int32) (post : Int32 → Prop) (e : Nat) (he : e ≤ t) (h : post (nI (lz_cn (lz_E e m tx pl) t))) : wpX_occurrencesUpTo post (nI (q + 4), nI o, nI t, nI m, sh, ll, ln, pl) (nI e) := by
  refine pk_eq m 0 (fun z => ?_) (fun z => ?_)
  · rw [lz_cn_e (a := 0) (Nat.zero_le _) (fun j h1 h2 w => absurd w.1 (by omega))] at h
    exact h
  · exact ⟨_, lz_oc1 I m (by omega) hm pl post e he h (e + 1 - m) 0 (by omega)⟩
/-- e is n, cut to the text -/
def lz_W (n : Int32) (t e : Nat) : Prop := e ≤ t ∧ ∀ j, 0 < j → j ≤ t → (n < nI j ↔ e < j)
theorem lz_wi {t : Nat} (ht : t ≤ 120) (P O M n : Int32) (sh ll ln pl : Nat → Int32) (post : Int32 → Prop) (h : ∀ e, lz_W n t e → post (nI e)) : wpX_withinText post (P, O, nI t, M, sh, ll, ln, pl) n := by
  rcases pk_ix n (n := t) (by omega) with z | z | ⟨j, hj, rfl⟩
  · refine br_f (Int32.not_le.mpr z) (h 0 ⟨Nat.zero_le _, fun j h1 h2 => ⟨fun _ => h1, fun _ => ?_⟩⟩)
    exact Int32.lt_of_lt_of_le z (nI_pos' (by omega))
  · refine br_t (Int32.le_trans (nI_pos' (n := t) (by omega)) z) (br_t z (h t ⟨Nat.le_refl _, fun j h1 h2 => ⟨fun y => ?_, fun y => absurd y (by omega)⟩⟩))
    have w : nI j ≤ nI t := nI_le h2 (by omega)
    exact absurd (Int32.lt_of_lt_of_le y (Int32.le_trans w z)) Int32.lt_irrefl
  · refine br_t (nI_pos' (by omega)) (br_f (nI_ge hj (by omega)) (h j ⟨by omega, fun i h1 h2 => nI_ltI (by omega) (by omega)⟩))
theorem lz_Wt {t : Nat} (ht : t ≤ 120) : lz_W (nI t) t t := ⟨Nat.le_refl _, fun j h1 h2 => nI_ltI (by omega) (by omega)⟩
theorem lz_yc1 {t m : Nat} (ht : t ≤ 120) (hm : m ≤ 10) (tx pl : Nat → Int32) (hp : ∀ i, i < m → ¬ (-4) = pl i) (n : Int32) (e : Nat) (W : lz_W n t e) (post : Int32 → Prop) (h : post (nI (lz_cn (lz_E e m tx pl) t))) : ∀ d i, i + d = t → wY_countWithin_4 post n (nI t) (nI m) tx pl (d + 1) (nI (lz_cn (lz_E e m tx pl) i)) (nI i) := by
  intro d
  induction d with
  | zero =>
    intro i hi
    have y : i = t := by omega
    subst y
    exact br_t (nI_le (by omega) (by omega)) h
  | succ d ih =>
    intro i hi
    refine br_f (nI_ge (by omega) (by omega)) ?_
    have z := ih (i + 1) (by omega)
    refine lz_yo ht hm tx pl hp _ i (by omega) (fun w => ?_) (fun w => ?_)
    · refine br_f lz_10 ?_
      have y := W.2 (i + m) (by have := w.1; omega) w.2.1
      rw [nI_add i m, y]
      refine br_c (fun x => ?_) (fun x => ?_)
      · rw [lz_cn_f (fun v => absurd v.2.1 (by omega))] at z
        exact nm_r (nI_1 i) z
      · rw [lz_cn_t ⟨w.1, by omega, w.2.2⟩] at z
        exact nm_r (nI_1 _) (nm_r (nI_1 i) z)
    · have y := W.1
      rw [lz_cn_f (fun v => w ⟨v.1, by have := v.2.1; omega, v.2.2⟩)] at z
      exact br_t rfl (nm_r (nI_1 i) z)
theorem lz_yc {t m : Nat} (ht : t ≤ 120) (hm : m ≤ 10) (tx pl : Nat → Int32) (hp : ∀ i, i < m → ¬ (-4) = pl i) (n : Int32) (e : Nat) (W : lz_W n t e) (post : Int32 → Prop) (h : post (nI (lz_cn (lz_E e m tx pl) t))) : wpY_countWithin post (nI t, nI m, tx, pl) n :=
  ⟨t + 1, lz_yc1 ht hm tx pl hp n e W post h t 0 (by omega)⟩
