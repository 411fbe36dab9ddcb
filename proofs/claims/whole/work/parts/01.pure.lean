theorem pk_us {f : Nat → Int32} {k : Nat} {x : Int32} : upd f k x k = x := if_pos rfl
theorem pk_un {f : Nat → Int32} {k j : Nat} {x : Int32} (h : j ≠ k) : upd f k x j = f j := if_neg h
theorem pk_sub {a b : Nat} (h : b ≤ a) : nI a - nI b = nI (a - b) := by
  obtain ⟨c, rfl⟩ : ∃ c, a = c + b := ⟨a - b, by omega⟩
  rw [← nI_add, Int32.add_sub_cancel, Nat.add_sub_cancel]
theorem pk_m1 (n : Nat) : nI (n + 1) + (-1) = nI n := by
  rw [← nI_1, Int32.add_assoc, show (1 : Int32) + (-1) = 0 from rfl, Int32.add_zero]
theorem pk_sub_toInt {a b : Nat} (ha : a < 2 ^ 30) (hb : b < 2 ^ 30) : (nI a - nI b).toInt = (a : Int) - b := by
  rw [Int32.toInt_sub, nI_toInt (by omega), nI_toInt (by omega)]
  exact Int.bmod_eq_of_le (by omega) (by omega)
theorem pk_sneg {a b : Nat} (hb : b < 2 ^ 30) (h : a < b) : nI a - nI b < 0 := by
  rw [Int32.lt_iff_toInt_lt, pk_sub_toInt (by omega) hb, show (0 : Int32).toInt = 0 from by decide]
  omega
theorem pk_ix (x : Int32) {n : Nat} (hn : n < 2 ^ 31) : x < 0 ∨ nI n ≤ x ∨ ∃ j : Nat, j < n ∧ x = nI j := by
  by_cases h : x < 0
  · exact Or.inl h
  · obtain ⟨j, hj, rfl⟩ := nI_of h
    by_cases h2 : j < n
    · exact Or.inr (Or.inr ⟨j, h2, rfl⟩)
    · exact Or.inr (Or.inl (nI_le (by omega) hj))
theorem pk_le {x y : Int32} {A B : Prop} (a b : Nat) (f : a ≤ b → A) (g : b < a → B) (hx : x = nI a := by rfl) (hy : y = nI b := by rfl) (ha : a < 2 ^ 31 := by omega) (hb : b < 2 ^ 31 := by omega) : (x ≤ y → A) ∧ (¬ x ≤ y → B) := by
  subst hx hy
  rw [nI_leI ha hb]
  exact ⟨f, fun z => g (by omega)⟩
theorem pk_lt {x y : Int32} {A B : Prop} (a b : Nat) (f : a < b → A) (g : b ≤ a → B) (hx : x = nI a := by rfl) (hy : y = nI b := by rfl) (ha : a < 2 ^ 31 := by omega) (hb : b < 2 ^ 31 := by omega) : (x < y → A) ∧ (¬ x < y → B) := by
  subst hx hy
  rw [nI_ltI ha hb]
  exact ⟨f, fun z => g (by omega)⟩
theorem pk_eq {x y : Int32} {A B : Prop} (a b : Nat) (f : a = b → A) (g : a ≠ b → B) (hx : x = nI a := by rfl) (hy : y = nI b := by rfl) (ha : a < 2 ^ 31 := by omega) (hb : b < 2 ^ 31 := by omega) : (x = y → A) ∧ (¬ x = y → B) := by
  subst hx hy
  rw [nI_eq ha hb]
  exact ⟨f, g⟩
/-- the phrase that is left of p when d letters are taken off its end -/
def lz_it (s : Nat → Nat) : Nat → Nat → Nat
  | 0, p => p
  | d + 1, p => lz_it s d (s p)
/-- where the text's i-th phrase starts -/
def lz_st (s l : Nat → Nat) : Nat → Nat
  | 0 => 0
  | i + 1 => lz_st s l i + l (s (i + 4))
/-- the phrase p stands in the text at a -/
def lz_S (s l : Nat → Nat) (ll tx : Nat → Int32) (p a : Nat) : Prop :=
  ∀ d, d < l p → ll (lz_it s d p) = tx (a + (l p - 1 - d))
/-- the dictionary, with q closed phrases -/
def lz_D (q : Nat) (s l : Nat → Nat) (sh ll ln : Nat → Int32) : Prop :=
  (∀ j, j < 4 → l j = 1 ∧ ll j = nI j) ∧
  (∀ j, j < q + 4 → sh j = nI (s j) ∧ ln j = nI (l j) ∧ s j ≤ j ∧ 1 ≤ l j ∧ l j ≤ 120) ∧
  (∀ j, 4 ≤ j → j < q + 4 → s j < j ∧ l j = l (s j) + 1)
/-- dictionary and text: the closed phrases, one behind the other, and behind them the open one, are the text -/
def lz_I (q o t : Nat) (s l : Nat → Nat) (sh ll ln tx : Nat → Int32) : Prop :=
  lz_D q s l sh ll ln ∧ t ≤ 120 ∧
  (∀ i, i < q → lz_S s l ll tx (s (i + 4)) (lz_st s l i)) ∧
  (t = 0 → q = 0) ∧
  (0 < t → o < q + 4 ∧ lz_S s l ll tx o (lz_st s l q) ∧ lz_st s l q + l o = t)
def lz_u (f : Nat → Nat) (k x : Nat) : Nat → Nat := fun j => if j = k then x else f j
theorem lz_us {f : Nat → Nat} {k x : Nat} : lz_u f k x k = x := if_pos rfl
theorem lz_un {f : Nat → Nat} {k x j : Nat} (h : j ≠ k) : lz_u f k x j = f j := if_neg h
theorem lz_it_lt {q : Nat} {s : Nat → Nat} (h : ∀ j, j < q + 4 → s j ≤ j) : ∀ d p, p < q + 4 → lz_it s d p < q + 4 := by
  intro d
  induction d with
  | zero => intro p hp; exact hp
  | succ d ih =>
    intro p hp
    have := h p hp
    exact ih (s p) (by omega)
theorem lz_it_u {q x : Nat} {s : Nat → Nat} (h : ∀ j, j < q + 4 → s j ≤ j) : ∀ d p, p < q + 4 → lz_it (lz_u s (q + 4) x) d p = lz_it s d p := by
  intro d
  induction d with
  | zero => intro p hp; rfl
  | succ d ih =>
    intro p hp
    have := h p hp
    show lz_it (lz_u s (q + 4) x) d (lz_u s (q + 4) x p) = lz_it s d (s p)
    rw [lz_un (by omega)]
    exact ih (s p) (by omega)
theorem lz_st_mono (s l : Nat → Nat) (i : Nat) : ∀ d, lz_st s l i ≤ lz_st s l (i + d) := by
  intro d
  induction d with
  | zero => exact Nat.le_refl _
  | succ d ih => exact Nat.le_trans ih (Nat.le_add_right _ _)
theorem lz_st_le (s l : Nat → Nat) {i j : Nat} (h : i ≤ j) : lz_st s l i ≤ lz_st s l j := by
  obtain ⟨d, rfl⟩ : ∃ d, j = i + d := ⟨j - i, by omega⟩
  exact lz_st_mono s l i d
theorem lz_st_ge {q : Nat} {s l : Nat → Nat} {sh ll ln : Nat → Int32} (D : lz_D q s l sh ll ln) : ∀ i, i ≤ q → i ≤ lz_st s l i := by
  intro i
  induction i with
  | zero => intro _; exact Nat.zero_le _
  | succ i ih =>
    intro h
    have h1 := ih (by omega)
    have h2 := (D.2.1 (i + 4) (by omega)).2.2.1
    have h3 := (D.2.1 (s (i + 4)) (by omega)).2.2.2.1
    show i + 1 ≤ lz_st s l i + l (s (i + 4))
    omega
theorem lz_st_u {q x y : Nat} {s l : Nat → Nat} (h : ∀ j, j < q + 4 → s j ≤ j) : ∀ i, i ≤ q → lz_st (lz_u s (q + 4) x) (lz_u l (q + 4) y) i = lz_st s l i := by
  intro i
  induction i with
  | zero => intro _; rfl
  | succ i ih =>
    intro hi
    have h2 := h (i + 4) (by omega)
    show lz_st (lz_u s (q + 4) x) (lz_u l (q + 4) y) i + lz_u l (q + 4) y (lz_u s (q + 4) x (i + 4)) = lz_st s l i + l (s (i + 4))
    rw [ih (by omega), lz_un (f := s) (by omega), lz_un (by omega)]
theorem lz_S_tx {s l : Nat → Nat} {ll tx : Nat → Int32} {p a t : Nat} {x : Int32} (h : lz_S s l ll tx p a) (ht : a + l p ≤ t) : lz_S s l ll (upd tx t x) p a := by
  intro d hd
  rw [pk_un (by omega)]
  exact h d hd
theorem lz_S_u {q x y : Nat} {s l : Nat → Nat} {ll tx : Nat → Int32} {p a : Nat} {z : Int32} (hs : ∀ j, j < q + 4 → s j ≤ j) (hp : p < q + 4) (h : lz_S s l ll tx p a) : lz_S (lz_u s (q + 4) x) (lz_u l (q + 4) y) (upd ll (q + 4) z) tx p a := by
  intro d hd
  have hk := lz_it_lt hs d p hp
  rw [lz_un (by omega)] at hd
  rw [lz_it_u hs d p hp, pk_un (by omega), lz_un (by omega)]
  exact h d hd
theorem lz_S_ext {s l : Nat → Nat} {ll tx : Nat → Int32} {j o a : Nat} (h : lz_S s l ll tx o a) (hs : s j = o) (hl : l j = l o + 1) (hx : ll j = tx (a + l o)) : lz_S s l ll tx j a := by
  intro d hd
  cases d with
  | zero =>
    show ll j = _
    rw [hx, hl]
    rfl
  | succ d =>
    show ll (lz_it s d (s j)) = _
    rw [hs, h d (by omega), hl]
    have e : a + (l o - 1 - d) = a + (l o + 1 - 1 - (d + 1)) := by omega
    rw [e]
theorem lz_S_1 {s l : Nat → Nat} {ll tx : Nat → Int32} {c a : Nat} (hl : l c = 1) (hx : ll c = tx a) : lz_S s l ll tx c a := by
  intro d hd
  have e : d = 0 := by omega
  subst e
  rw [hl]
  exact hx
theorem lz_add0 {q o c : Nat} {s l : Nat → Nat} {sh ll ln tx : Nat → Int32} (I : lz_I q o 0 s l sh ll ln tx) (hc : c < 4) : lz_I q c 1 s l sh ll ln (upd tx 0 (nI c)) := by
  obtain ⟨D, _, _, h0, _⟩ := I
  have hq := h0 rfl
  subst hq
  obtain ⟨h1, h2⟩ := D.1 c hc
  refine ⟨D, by omega, fun i hi => absurd hi (by omega), fun h => rfl, fun _ => ⟨by omega, lz_S_1 h1 ?_, ?_⟩⟩
  · rw [h2]; exact pk_us.symm
  · rw [h1]; rfl
theorem lz_addF {q o t c i : Nat} {s l : Nat → Nat} {sh ll ln tx : Nat → Int32} (I : lz_I q o t s l sh ll ln tx) (ht0 : 0 < t) (ht : t < 120) (h4 : 4 ≤ i) (hi : i < q + 4) (hs : sh i = nI o) (hl : ll i = nI c) : lz_I q i (t + 1) s l sh ll ln (upd tx t (nI c)) := by
  obtain ⟨D, h120, C, h0, O⟩ := I
  obtain ⟨ho, So, e⟩ := O ht0
  have hq : q ≤ 119 := by
    have := lz_st_ge D q (Nat.le_refl _)
    omega
  obtain ⟨d1, d2, d3, d4, d5⟩ := D.2.1 i hi
  obtain ⟨f1, f2⟩ := D.2.2 i h4 hi
  have hso : s i = o := by
    rw [d1] at hs
    exact (nI_eq (by omega) (by omega)).mp hs
  rw [hso] at f2
  refine ⟨D, by omega, fun j hj => lz_S_tx (C j hj) ?_, fun z => absurd z (by omega), fun _ => ⟨hi, ?_, ?_⟩⟩
  · have := lz_st_le s l (show j + 1 ≤ q by omega)
    have z : lz_st s l (j + 1) = lz_st s l j + l (s (j + 4)) := rfl
    omega
  · refine lz_S_ext (lz_S_tx So (by omega)) hso f2 ?_
    rw [hl, e]
    exact pk_us.symm
  · omega
theorem lz_room {q o t : Nat} {s l : Nat → Nat} {sh ll ln tx : Nat → Int32} (I : lz_I q o t s l sh ll ln tx) (ht : t < 120) : q < 119 := by
  obtain ⟨D, h120, C, h0, O⟩ := I
  rcases Nat.eq_zero_or_pos t with z | z
  · have := h0 z
    omega
  · obtain ⟨ho, So, e⟩ := O z
    have := lz_st_ge D q (Nat.le_refl _)
    have := (D.2.1 o ho).2.2.2.1
    omega
theorem lz_addN {q o t c : Nat} {s l : Nat → Nat} {sh ll ln tx : Nat → Int32} (I : lz_I q o t s l sh ll ln tx) (ht0 : 0 < t) (ht : t < 120) (hc : c < 4) : lz_I (q + 1) c (t + 1) (lz_u s (q + 4) o) (lz_u l (q + 4) (l o + 1)) (upd sh (q + 4) (nI o)) (upd ll (q + 4) (nI c)) (upd ln (q + 4) (nI (l o + 1))) (upd tx t (nI c)) := by
  have hq := lz_room I ht
  obtain ⟨D, h120, C, h0, O⟩ := I
  obtain ⟨ho, So, e⟩ := O ht0
  have hsj : ∀ j, j < q + 4 → s j ≤ j := fun j hj => (D.2.1 j hj).2.2.1
  have hst := lz_st_u (q := q) (x := o) (y := l o + 1) (l := l) hsj
  have e1 : lz_st (lz_u s (q + 4) o) (lz_u l (q + 4) (l o + 1)) (q + 1) = t := by
    show lz_st (lz_u s (q + 4) o) (lz_u l (q + 4) (l o + 1)) q + lz_u l (q + 4) (l o + 1) (lz_u s (q + 4) o (q + 4)) = t
    rw [hst q (Nat.le_refl _), lz_us, lz_un (by omega)]
    exact e
  obtain ⟨c1, c2⟩ := D.1 c hc
  refine ⟨⟨fun j hj => ?_, fun j hj => ?_, fun j h4 hj => ?_⟩, by omega, fun j hj => ?_, fun z => absurd z (by omega), fun _ => ⟨by omega, ?_, ?_⟩⟩
  · rw [lz_un (by omega), pk_un (by omega)]
    exact D.1 j hj
  · rcases Nat.lt_or_ge j (q + 4) with z | z
    · rw [pk_un (by omega), pk_un (by omega), lz_un (by omega), lz_un (by omega)]
      exact D.2.1 j z
    · have z2 : j = q + 4 := by omega
      subst z2
      rw [pk_us, pk_us, lz_us, lz_us]
      exact ⟨rfl, rfl, by omega, by omega, by omega⟩
  · rcases Nat.lt_or_ge j (q + 4) with z | z
    · obtain ⟨f1, f2⟩ := D.2.2 j h4 z
      rw [lz_un (f := s) (by omega), lz_un (by omega), lz_un (by omega)]
      exact ⟨f1, f2⟩
    · have z2 : j = q + 4 := by omega
      subst z2
      rw [lz_us, lz_us, lz_un (by omega)]
      exact ⟨ho, rfl⟩
  · rcases Nat.lt_or_ge j q with z | z
    · have k1 := hsj (j + 4) (by omega)
      rw [hst j (by omega), lz_un (f := s) (by omega)]
      refine lz_S_u hsj (by omega) (lz_S_tx (C j z) ?_)
      have := lz_st_le s l (show j + 1 ≤ q by omega)
      have z : lz_st s l (j + 1) = lz_st s l j + l (s (j + 4)) := rfl
      omega
    · have z2 : j = q := by omega
      subst z2
      rw [hst j (by omega), lz_us]
      exact lz_S_u hsj ho (lz_S_tx So (by omega))
  · rw [e1]
    refine lz_S_1 ?_ ?_
    · rw [lz_un (by omega)]; exact c1
    · rw [pk_un (by omega), pk_us]; exact c2
  · rw [e1, lz_un (by omega), c1]
