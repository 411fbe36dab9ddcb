section
theorem pk_us {f : Nat → Int32} {k : Nat} {x : Int32} : upd f k x k = x := if_pos rfl
theorem pk_un {f : Nat → Int32} {k j : Nat} {x : Int32} (h : j ≠ k) : upd f k x j = f j := if_neg h
theorem pk_sub {a b : Nat} (h : b ≤ a) : nI a - nI b = nI (a - b) := by
  obtain ⟨c, rfl⟩ : ∃ c, a = c + b := ⟨a - b, by omega⟩
  rw [← nI_add, Int32.add_sub_cancel, Nat.add_sub_cancel]
theorem pk_m1 (n : Nat) : nI (n + 1) + (-1) = nI n := by
  rw [← nI_1, Int32.add_assoc, show (1 : Int32) + (-1) = 0 from rfl, Int32.add_zero]
theorem pk_sub_toInt {a b : Nat} (ha : a < 2 ^ 30) (hb : b < 2 ^ 30) : (nI a - nI b).toInt = (a : Int) - b := by
  rw [Int32.toInt_sub, nI_toInt (by omega), nI_toInt (by omega)]
  exact Int.bmod_eq_of_le (by omega) (by omega)
theorem pk_sneg {a b : Nat} (hb : b < 2 ^ 30) (h : a < b) : nI a - nI b < 0 := by
  rw [Int32.lt_iff_toInt_lt, pk_sub_toInt (by omega) hb, show (0 : Int32).toInt = 0 from by decide]
  omega
theorem pk_ix (x : Int32) {n : Nat} (hn : n < 2 ^ 31) : x < 0 ∨ nI n ≤ x ∨ ∃ j : Nat, j < n ∧ x = nI j := by
  by_cases h : x < 0
  · exact Or.inl h
  · obtain ⟨j, hj, rfl⟩ := nI_of h
    by_cases h2 : j < n
    · exact Or.inr (Or.inr ⟨j, h2, rfl⟩)
    · exact Or.inr (Or.inl (nI_le (by omega) hj))
theorem pk_le {x y : Int32} {A B : Prop} (a b : Nat) (f : a ≤ b → A) (g : b < a → B) (hx : x = nI a := by rfl) (hy : y = nI b := by rfl) (ha : a < 2 ^ 31 := by omega) (hb : b < 2 ^ 31 := by omega) : (x ≤ y → A) ∧ (¬ x ≤ y → B) := by
  subst hx hy
  rw [nI_leI ha hb]
  exact ⟨f, fun z => g (by omega)⟩
theorem pk_lt {x y : Int32} {A B : Prop} (a b : Nat) (f : a < b → A) (g : b ≤ a → B) (hx : x = nI a := by rfl) (hy : y = nI b := by rfl) (ha : a < 2 ^ 31 := by omega) (hb : b < 2 ^ 31 := by omega) : (x < y → A) ∧ (¬ x < y → B) := by
  subst hx hy
  rw [nI_ltI ha hb]
  exact ⟨f, fun z => g (by omega)⟩
theorem pk_eq {x y : Int32} {A B : Prop} (a b : Nat) (f : a = b → A) (g : a ≠ b → B) (hx : x = nI a := by rfl) (hy : y = nI b := by rfl) (ha : a < 2 ^ 31 := by omega) (hb : b < 2 ^ 31 := by omega) : (x = y → A) ∧ (¬ x = y → B) := by
  subst hx hy
  rw [nI_eq ha hb]
  exact ⟨f, g⟩
/-- the phrase that is left of p when d letters are taken off its end -/
def lz_it (s : Nat → Nat) : Nat → Nat → Nat
  | 0, p => p
  | d + 1, p => lz_it s d (s p)
/-- where the text's i-th phrase starts -/
def lz_st (s l : Nat → Nat) : Nat → Nat
  | 0 => 0
  | i + 1 => lz_st s l i + l (s (i + 4))
/-- the phrase p stands in the text at a -/
def lz_S (s l : Nat → Nat) (ll tx : Nat → Int32) (p a : Nat) : Prop :=
  ∀ d, d < l p → ll (lz_it s d p) = tx (a + (l p - 1 - d))
/-- the dictionary, with q closed phrases -/
def lz_D (q : Nat) (s l : Nat → Nat) (sh ll ln : Nat → Int32) : Prop :=
  (∀ j, j < 4 → l j = 1 ∧ ll j = nI j) ∧
  (∀ j, j < q + 4 → sh j = nI (s j) ∧ ln j = nI (l j) ∧ s j ≤ j ∧ 1 ≤ l j ∧ l j ≤ 120) ∧
  (∀ j, 4 ≤ j → j < q + 4 → s j < j ∧ l j = l (s j) + 1)
/-- dictionary and text: the closed phrases, one behind the other, and behind them the open one, are the text -/
def lz_I (q o t : Nat) (s l : Nat → Nat) (sh ll ln tx : Nat → Int32) : Prop :=
  lz_D q s l sh ll ln ∧ t ≤ 120 ∧
  (∀ i, i < q → lz_S s l ll tx (s (i + 4)) (lz_st s l i)) ∧
  (t = 0 → q = 0) ∧
  (0 < t → o < q + 4 ∧ lz_S s l ll tx o (lz_st s l q) ∧ lz_st s l q + l o = t)
def lz_u (f : Nat → Nat) (k x : Nat) : Nat → Nat := fun j => if j = k then x else f j
theorem lz_us {f : Nat → Nat} {k x : Nat} : lz_u f k x k = x := if_pos rfl
theorem lz_un {f : Nat → Nat} {k x j : Nat} (h : j ≠ k) : lz_u f k x j = f j := if_neg h
theorem lz_it_lt {q : Nat} {s : Nat → Nat} (h : ∀ j, j < q + 4 → s j ≤ j) : ∀ d p, p < q + 4 → lz_it s d p < q + 4 := by
  intro d
  induction d with
  | zero => intro p hp; exact hp
  | succ d ih =>
    intro p hp
    have := h p hp
    exact ih (s p) (by omega)
theorem lz_it_u {q x : Nat} {s : Nat → Nat} (h : ∀ j, j < q + 4 → s j ≤ j) : ∀ d p, p < q + 4 → lz_it (lz_u s (q + 4) x) d p = lz_it s d p := by
  intro d
  induction d with
  | zero => intro p hp; rfl
  | succ d ih =>
    intro p hp
    have := h p hp
    show lz_it (lz_u s (q + 4) x) d (lz_u s (q + 4) x p) = lz_it s d (s p)
    rw [lz_un (by omega)]
    exact ih (s p) (by omega)
theorem lz_st_mono (s l : Nat → Nat) (i : Nat) : ∀ d, lz_st s l i ≤ lz_st s l (i + d) := by
  intro d
  induction d with
  | zero => exact Nat.le_refl _
  | succ d ih => exact Nat.le_trans ih (Nat.le_add_right _ _)
theorem lz_st_le (s l : Nat → Nat) {i j : Nat} (h : i ≤ j) : lz_st s l i ≤ lz_st s l j := by
  obtain ⟨d, rfl⟩ : ∃ d, j = i + d := ⟨j - i, by omega⟩
  exact lz_st_mono s l i d
theorem lz_st_ge {q : Nat} {s l : Nat → Nat} {sh ll ln : Nat → Int32} (D : lz_D q s l sh ll ln) : ∀ i, i ≤ q → i ≤ lz_st s l i := by
  intro i
  induction i with
  | zero => intro _; exact Nat.zero_le _
  | succ i ih =>
    intro h
    have h1 := ih (by omega)
    have h2 := (D.2.1 (i + 4) (by omega)).2.2.1
    have h3 := (D.2.1 (s (i + 4)) (by omega)).2.2.2.1
    show i + 1 ≤ lz_st s l i + l (s (i + 4))
    omega
theorem lz_st_u {q x y : Nat} {s l : Nat → Nat} (h : ∀ j, j < q + 4 → s j ≤ j) : ∀ i, i ≤ q → lz_st (lz_u s (q + 4) x) (lz_u l (q + 4) y) i = lz_st s l i := by
  intro i
  induction i with
  | zero => intro _; rfl
  | succ i ih =>
    intro hi
    have h2 := h (i + 4) (by omega)
    show lz_st (lz_u s (q + 4) x) (lz_u l (q + 4) y) i + lz_u l (q + 4) y (lz_u s (q + 4) x (i + 4)) = lz_st s l i + l (s (i + 4))
    rw [ih (by omega), lz_un (f := s) (by omega), lz_un (by omega)]
theorem lz_S_tx {s l : Nat → Nat} {ll tx : Nat → Int32} {p a t : Nat} {x : Int32} (h : lz_S s l ll tx p a) (ht : a + l p ≤ t) : lz_S s l ll (upd tx t x) p a := by
  intro d hd
  rw [pk_un (by omega)]
  exact h d hd
theorem lz_S_u {q x y : Nat} {s l : Nat → Nat} {ll tx : Nat → Int32} {p a : Nat} {z : Int32} (hs : ∀ j, j < q + 4 → s j ≤ j) (hp : p < q + 4) (h : lz_S s l ll tx p a) : lz_S (lz_u s (q + 4) x) (lz_u l (q + 4) y) (upd ll (q + 4) z) tx p a := by
  intro d hd
  have hk := lz_it_lt hs d p hp
  rw [lz_un (by omega)] at hd
  rw [lz_it_u hs d p hp, pk_un (by omega), lz_un (by omega)]
  exact h d hd
theorem lz_S_ext {s l : Nat → Nat} {ll tx : Nat → Int32} {j o a : Nat} (h : lz_S s l ll tx o a) (hs : s j = o) (hl : l j = l o + 1) (hx : ll j = tx (a + l o)) : lz_S s l ll tx j a := by
  intro d hd
  cases d with
  | zero =>
    show ll j = _
    rw [hx, hl]
    rfl
  | succ d =>
    show ll (lz_it s d (s j)) = _
    rw [hs, h d (by omega), hl]
    have e : a + (l o - 1 - d) = a + (l o + 1 - 1 - (d + 1)) := by omega
    rw [e]
theorem lz_S_1 {s l : Nat → Nat} {ll tx : Nat → Int32} {c a : Nat} (hl : l c = 1) (hx : ll c = tx a) : lz_S s l ll tx c a := by
  intro d hd
  have e : d = 0 := by omega
  subst e
  rw [hl]
  exact hx
theorem lz_add0 {q o c : Nat} {s l : Nat → Nat} {sh ll ln tx : Nat → Int32} (I : lz_I q o 0 s l sh ll ln tx) (hc : c < 4) : lz_I q c 1 s l sh ll ln (upd tx 0 (nI c)) := by
  obtain ⟨D, _, _, h0, _⟩ := I
  have hq := h0 rfl
  subst hq
  obtain ⟨h1, h2⟩ := D.1 c hc
  refine ⟨D, by omega, fun i hi => absurd hi (by omega), fun h => rfl, fun _ => ⟨by omega, lz_S_1 h1 ?_, ?_⟩⟩
  · rw [h2]; exact pk_us.symm
  · rw [h1]; rfl
theorem lz_addF {q o t c i : Nat} {s l : Nat → Nat} {sh ll ln tx : Nat → Int32} (I : lz_I q o t s l sh ll ln tx) (ht0 : 0 < t) (ht : t < 120) (h4 : 4 ≤ i) (hi : i < q + 4) (hs : sh i = nI o) (hl : ll i = nI c) : lz_I q i (t + 1) s l sh ll ln (upd tx t (nI c)) := by
  obtain ⟨D, h120, C, h0, O⟩ := I
  obtain ⟨ho, So, e⟩ := O ht0
  have hq : q ≤ 119 := by
    have := lz_st_ge D q (Nat.le_refl _)
    omega
  obtain ⟨d1, d2, d3, d4, d5⟩ := D.2.1 i hi
  obtain ⟨f1, f2⟩ := D.2.2 i h4 hi
  have hso : s i = o := by
    rw [d1] at hs
    exact (nI_eq (by omega) (by omega)).mp hs
  rw [hso] at f2
  refine ⟨D, by omega, fun j hj => lz_S_tx (C j hj) ?_, fun z => absurd z (by omega), fun _ => ⟨hi, ?_, ?_⟩⟩
  · have := lz_st_le s l (show j + 1 ≤ q by omega)
    have z : lz_st s l (j + 1) = lz_st s l j + l (s (j + 4)) := rfl
    omega
  · refine lz_S_ext (lz_S_tx So (by omega)) hso f2 ?_
    rw [hl, e]
    exact pk_us.symm
  · omega
theorem lz_room {q o t : Nat} {s l : Nat → Nat} {sh ll ln tx : Nat → Int32} (I : lz_I q o t s l sh ll ln tx) (ht : t < 120) : q < 119 := by
  obtain ⟨D, h120, C, h0, O⟩ := I
  rcases Nat.eq_zero_or_pos t with z | z
  · have := h0 z
    omega
  · obtain ⟨ho, So, e⟩ := O z
    have := lz_st_ge D q (Nat.le_refl _)
    have := (D.2.1 o ho).2.2.2.1
    omega
theorem lz_addN {q o t c : Nat} {s l : Nat → Nat} {sh ll ln tx : Nat → Int32} (I : lz_I q o t s l sh ll ln tx) (ht0 : 0 < t) (ht : t < 120) (hc : c < 4) : lz_I (q + 1) c (t + 1) (lz_u s (q + 4) o) (lz_u l (q + 4) (l o + 1)) (upd sh (q + 4) (nI o)) (upd ll (q + 4) (nI c)) (upd ln (q + 4) (nI (l o + 1))) (upd tx t (nI c)) := by
  have hq := lz_room I ht
  obtain ⟨D, h120, C, h0, O⟩ := I
  obtain ⟨ho, So, e⟩ := O ht0
  have hsj : ∀ j, j < q + 4 → s j ≤ j := fun j hj => (D.2.1 j hj).2.2.1
  have hst := lz_st_u (q := q) (x := o) (y := l o + 1) (l := l) hsj
  have e1 : lz_st (lz_u s (q + 4) o) (lz_u l (q + 4) (l o + 1)) (q + 1) = t := by
    show lz_st (lz_u s (q + 4) o) (lz_u l (q + 4) (l o + 1)) q + lz_u l (q + 4) (l o + 1) (lz_u s (q + 4) o (q + 4)) = t
    rw [hst q (Nat.le_refl _), lz_us, lz_un (by omega)]
    exact e
  obtain ⟨c1, c2⟩ := D.1 c hc
  refine ⟨⟨fun j hj => ?_, fun j hj => ?_, fun j h4 hj => ?_⟩, by omega, fun j hj => ?_, fun z => absurd z (by omega), fun _ => ⟨by omega, ?_, ?_⟩⟩
  · rw [lz_un (by omega), pk_un (by omega)]
    exact D.1 j hj
  · rcases Nat.lt_or_ge j (q + 4) with z | z
    · rw [pk_un (by omega), pk_un (by omega), lz_un (by omega), lz_un (by omega)]
      exact D.2.1 j z
    · have z2 : j = q + 4 := by omega
      subst z2
      rw [pk_us, pk_us, lz_us, lz_us]
      exact ⟨rfl, rfl, by omega, by omega, by omega⟩
  · rcases Nat.lt_or_ge j (q + 4) with z | z
    · obtain ⟨f1, f2⟩ := D.2.2 j h4 z
      rw [lz_un (f := s) (by omega), lz_un (by omega), lz_un (by omega)]
      exact ⟨f1, f2⟩
    · have z2 : j = q + 4 := by omega
      subst z2
      rw [lz_us, lz_us, lz_un (by omega)]
      exact ⟨ho, rfl⟩
  · rcases Nat.lt_or_ge j q with z | z
    · have k1 := hsj (j + 4) (by omega)
      rw [hst j (by omega), lz_un (f := s) (by omega)]
      refine lz_S_u hsj (by omega) (lz_S_tx (C j z) ?_)
      have := lz_st_le s l (show j + 1 ≤ q by omega)
      have z : lz_st s l (j + 1) = lz_st s l j + l (s (j + 4)) := rfl
      omega
    · have z2 : j = q := by omega
      subst z2
      rw [hst j (by omega), lz_us]
      exact lz_S_u hsj ho (lz_S_tx So (by omega))
  · rw [e1]
    refine lz_S_1 ?_ ?_
    · rw [lz_un (by omega)]; exact c1
    · rw [pk_un (by omega), pk_us]; exact c2
  · rw [e1, lz_un (by omega), c1]
end
section
theorem lz_nm1 {n : Nat} (h : n < 2 ^ 31) : ¬ nI n = -1 := by
  intro e
  have h0 := nI_pos' h
  rw [e] at h0
  exact absurd h0 (by decide)
theorem lz_pl1 {q : Nat} {s l : Nat → Nat} {sh ll ln : Nat → Int32} (D : lz_D q s l sh ll ln) (hq : q ≤ 120) (P O T M : Int32) (pl : Nat → Int32) (post : Int32 → Prop) (off : Nat) (ho : off < 120) : ∀ (e p : Nat), e < 120 → p < q + 4 → l p = off + e + 1 → post (ll (lz_it s e p)) → wX_phraseLetter_12 post (nI off) P O T M sh ll ln pl (e + 1) (nI p) (nI (off + e)) := by
  intro e
  induction e with
  | zero =>
    intro p he hp hl h
    refine br_t (nI_le (by omega) (by omega)) ⟨vp_in_nI (by omega) (by omega), ?_⟩
    rw [nI_clamp (by omega)]
    exact h
  | succ e ih =>
    intro p he hp hl h
    have h4 : 4 ≤ p := by
      rcases Nat.lt_or_ge p 4 with z | z
      · have := (D.1 p z).1
        omega
      · exact z
    obtain ⟨h1, h2⟩ := D.2.2 p h4 hp
    refine br_f (nI_ge (by omega) (by omega)) ⟨vp_in_nI (by omega) (by omega), nm_r (e' := nI (s p)) ?_ (nm_r (e' := nI (off + e)) ?_ (ih (s p) (by omega) (by omega) (by omega) h))⟩
    · rw [nI_clamp (by omega)]
      exact (D.2.1 p hp).1
    · exact pk_m1 (off + e)
theorem lz_pl {q : Nat} {s l : Nat → Nat} {sh ll ln tx : Nat → Int32} (D : lz_D q s l sh ll ln) (hq : q ≤ 120) (P O T M : Int32) (pl : Nat → Int32) (post : Int32 → Prop) (p a off : Nat) (hp : p < q + 4) (S : lz_S s l ll tx p a) (ho : off < l p) (h : post (tx (a + off))) : wpX_phraseLetter post (P, O, T, M, sh, ll, ln, pl) (nI p) (nI off) := by
  obtain ⟨_, h2, _, h4, h5⟩ := D.2.1 p hp
  have e : nI (l p) - 1 = nI (off + (l p - 1 - off)) := by
    obtain ⟨k, hk⟩ : ∃ k, l p = k + 1 := ⟨l p - 1, by omega⟩
    rw [hk, nI_pred]
    have : off + (k + 1 - 1 - off) = k := by omega
    rw [this]
  refine ⟨vp_in_nI (by omega) (by omega), nm_r (e' := nI (off + (l p - 1 - off))) ?_ ⟨_, lz_pl1 D hq P O T M pl post off (by omega) (l p - 1 - off) p (by omega) hp (by omega) ?_⟩⟩
  · rw [nI_clamp (by omega), h2]
    exact e
  · rw [S (l p - 1 - off) (by omega)]
    have : a + (l p - 1 - (l p - 1 - off)) = a + off := by omega
    rw [this]
    exact h
theorem lz_q {q o t : Nat} {s l : Nat → Nat} {sh ll ln tx : Nat → Int32} (I : lz_I q o t s l sh ll ln tx) : q ≤ 120 := by
  obtain ⟨D, h120, C, h0, O⟩ := I
  rcases Nat.eq_zero_or_pos t with z | z
  · have := h0 z
    omega
  · obtain ⟨ho, So, e⟩ := O z
    have := lz_st_ge D q (Nat.le_refl _)
    omega
theorem lz_tl1 {q o t : Nat} {s l : Nat → Nat} {sh ll ln tx : Nat → Int32} (I : lz_I q o t s l sh ll ln tx) (M : Int32) (pl : Nat → Int32) (post : Int32 → Prop) (i : Nat) (hi : i < t) (h : post (tx i)) : ∀ d j, j + d = q → lz_st s l j ≤ i → wX_textLetter_4 post (nI i) (nI (q + 4)) (nI o) (nI t) M sh ll ln pl (d + 1) (nI (lz_st s l j)) (nI (j + 4)) := by
  have hq := lz_q I
  obtain ⟨D, h120, C, h0, O⟩ := I
  obtain ⟨ho, So, e⟩ := O (by omega)
  intro d
  induction d with
  | zero =>
    intro j hj hle
    have z : j = q := by omega
    subst z
    refine br_t (nI_le (by omega) (by omega)) ?_
    rw [pk_sub hle]
    refine lz_pl D hq _ _ _ _ pl _ o (lz_st s l j) (i - lz_st s l j) ho So (by omega) ?_
    rw [show lz_st s l j + (i - lz_st s l j) = i by omega]
    exact h
  | succ d ih =>
    intro j hj hle
    have k0 := lz_st_le s l (show j + 1 ≤ q by omega)
    have k1 : lz_st s l (j + 1) = lz_st s l j + l (s (j + 4)) := rfl
    obtain ⟨d1, d2, d3, d4, d5⟩ := D.2.1 (j + 4) (by omega)
    obtain ⟨f1, f2, f3, f4, f5⟩ := D.2.1 (s (j + 4)) (by omega)
    have e1 : sh (nI (j + 4)).toNatClampNeg = nI (s (j + 4)) := by
      rw [nI_clamp (by omega)]
      exact d1
    have e2 : ln (nI (s (j + 4))).toNatClampNeg = nI (l (s (j + 4))) := by
      rw [nI_clamp (by omega)]
      exact f2
    refine br_f (nI_ge (by omega) (by omega)) ⟨vp_in_nI (by omega) (by omega), ?_⟩
    rw [e1, e2]
    refine ⟨vp_in_nI (by omega) (by omega), nm_r (e' := nI (lz_st s l (j + 1))) (nI_add _ _) ?_⟩
    refine pk_le (lz_st s l (j + 1)) i (fun hh => nm_r (e' := nI (j + 1 + 4)) ?_ (ih (j + 1) (by omega) hh)) (fun hh => ⟨vp_in_nI (by omega) (by omega), ?_⟩)
    · rw [nI_1, show j + 4 + 1 = j + 1 + 4 by omega]
    · rw [pk_sub hle]
      refine lz_pl D hq _ _ _ _ pl _ (s (j + 4)) (lz_st s l j) (i - lz_st s l j) (by omega) (C j (by omega)) (by omega) ?_
      rw [show lz_st s l j + (i - lz_st s l j) = i by omega]
      exact h
theorem lz_tl {q o t : Nat} {s l : Nat → Nat} {sh ll ln tx : Nat → Int32} (I : lz_I q o t s l sh ll ln tx) (M : Int32) (pl : Nat → Int32) (post : Int32 → Prop) (i : Nat) (hi : i < t) (h : post (tx i)) : wpX_textLetter post (nI (q + 4), nI o, nI t, M, sh, ll, ln, pl) (nI i) :=
  ⟨q + 1, lz_tl1 I M pl post i hi h q 0 (by omega) (Nat.zero_le _)⟩
theorem lz_lp1 {q : Nat} (hq : q ≤ 120) (o c : Nat) (O T M : Int32) (sh ll ln pl : Nat → Int32) (post : Int32 → Prop) (hN : post (-1)) (hF : ∀ i, 4 ≤ i → i < q + 4 → sh i = nI o → ll i = nI c → post (nI i)) : ∀ d j, j + d = q → wX_longerPhrase_2 post (nI o) (nI c) (nI (q + 4)) O T M sh ll ln pl (d + 1) (nI (j + 4)) := by
  intro d
  induction d with
  | zero =>
    intro j hj
    exact br_t (nI_le (by omega) (by omega)) hN
  | succ d ih =>
    intro j hj
    have e : nI (j + 4) + 1 = nI (j + 1 + 4) := by
      rw [nI_1, show j + 4 + 1 = j + 1 + 4 by omega]
    have z := ih (j + 1) (by omega)
    have hv : vp_in (nI (j + 4)) 124 := vp_in_nI (by omega) (by omega)
    refine br_f (nI_ge (by omega) (by omega)) ⟨hv, br_c (fun h1 => ⟨hv, br_c (fun h2 => hF (j + 4) (by omega) (by omega) ?_ ?_) (fun _ => nm_r e z)⟩) (fun _ => nm_r e z)⟩
    · rw [nI_clamp (by omega)] at h1
      exact h1
    · rw [nI_clamp (by omega)] at h2
      exact h2
theorem lz_lp {q : Nat} (hq : q ≤ 120) (o c : Nat) (O T M : Int32) (sh ll ln pl : Nat → Int32) (post : Int32 → Prop) (hN : post (-1)) (hF : ∀ i, 4 ≤ i → i < q + 4 → sh i = nI o → ll i = nI c → post (nI i)) : wpX_longerPhrase post (nI (q + 4), O, T, M, sh, ll, ln, pl) (nI o) (nI c) :=
  ⟨q + 1, lz_lp1 hq o c O T M sh ll ln pl post hN hF q 0 (by omega)⟩
theorem lz_at {q o t : Nat} {s l : Nat → Nat} {sh ll ln tx : Nat → Int32} (I : lz_I q o t s l sh ll ln tx) (ht : t < 120) (c : Nat) (hc : c < 4) (M : Int32) (pl : Nat → Int32) (post : SX → Prop) (h : ∀ (q' o' : Nat) (s' l' : Nat → Nat) (sh' ll' ln' : Nat → Int32), lz_I q' o' (t + 1) s' l' sh' ll' ln' (upd tx t (nI c)) → post (nI (q' + 4), nI o', nI (t + 1), M, sh', ll', ln', pl)) : wpX_addToText post (nI (q + 4), nI o, nI t, M, sh, ll, ln, pl) (nI c) := by
  have hq := lz_room I ht
  rcases Nat.eq_zero_or_pos t with z | z
  · subst z
    refine br_t nI_0 ?_
    exact br_f (lz_nm1 (by omega)) (nm_r (nI_1 0) (h q c s l sh ll ln (lz_add0 I hc)))
  · refine br_f (nI_ne0 z (by omega)) ?_
    obtain ⟨ho, So, e⟩ := I.2.2.2.2 z
    obtain ⟨d1, d2, d3, d4, d5⟩ := I.1.2.1 o ho
    have hv : vp_in (nI (q + 4)) 124 := vp_in_nI (by omega) (by omega)
    have ec : (nI (q + 4)).toNatClampNeg = q + 4 := nI_clamp (by omega)
    refine lz_lp (by omega) o c _ _ _ sh ll ln pl _ ?_ ?_
    · refine br_t rfl ?_
      refine ⟨hv, nm_r (e' := upd sh (q + 4) (nI o)) (by rw [ec]) ⟨hv, nm_r (e' := upd ll (q + 4) (nI c)) (by rw [ec]) ⟨vp_in_nI (by omega) (by omega), hv, nm_r (e' := upd ln (q + 4) (nI (l o + 1))) ?_ (nm_r (e' := nI (q + 1 + 4)) ?_ ?_)⟩⟩⟩
      · rw [ec, nI_clamp (by omega), d2, nI_1]
      · rw [nI_1, show q + 4 + 1 = q + 1 + 4 by omega]
      · exact nm_r (nI_1 t) (h (q + 1) c _ _ _ _ _ (lz_addN I z ht hc))
    · intro i h4 hi hs hl
      exact br_f (lz_nm1 (by omega)) (nm_r (nI_1 t) (h q i s l sh ll ln (lz_addF I z ht h4 hi hs hl)))
end
section
/-- the pattern's first k letters stand in the text at a -/
def lz_M (tx pl : Nat → Int32) (a k : Nat) : Prop := ∀ i, i < k → tx (a + i) = pl i
/-- the pattern occurs at i -/
def lz_O (t m : Nat) (tx pl : Nat → Int32) (i : Nat) : Prop := 0 < m ∧ i + m ≤ t ∧ lz_M tx pl i m
theorem lz_10 : ¬ (1 : Int32) = 0 := by decide
theorem lz_ps1 {q o t : Nat} {s l : Nat → Nat} {sh ll ln tx : Nat → Int32} (I : lz_I q o t s l sh ll ln tx) (M : Int32) (pl : Nat → Int32) (post : Int32 → Prop) (a k : Nat) (hak : a + k ≤ t) (hk : k ≤ 10) (h1 : lz_M tx pl a k → post 1) (h0 : ¬ lz_M tx pl a k → post 0) : ∀ d j, j + d = k → (∀ i, i < j → tx (a + i) = pl i) → wX_patternStartsAt_2 post (nI a) (nI k) (nI (q + 4)) (nI o) (nI t) M sh ll ln pl (d + 1) (nI j) := by
  intro d
  induction d with
  | zero =>
    intro j hj h
    exact br_t (nI_le (by omega) (by omega)) (h1 (fun i hi => h i (by omega)))
  | succ d ih =>
    intro j hj h
    refine br_f (nI_ge (by omega) (by omega)) ?_
    rw [nI_add a j]
    refine lz_tl I M pl _ (a + j) (by omega) ?_
    refine ⟨vp_in_nI (by omega) (by omega), br_c (fun e => nm_r (nI_1 j) (ih (j + 1) (by omega) (lt_s h ?_))) (fun e => h0 (fun z => e ?_))⟩
    · rw [nI_clamp (by omega)] at e
      exact e
    · rw [nI_clamp (by omega)]
      exact z j (by omega)
theorem lz_ps {q o t : Nat} {s l : Nat → Nat} {sh ll ln tx : Nat → Int32} (I : lz_I q o t s l sh ll ln tx) (M : Int32) (pl : Nat → Int32) (post : Int32 → Prop) (a k : Nat) (hak : a + k ≤ t) (hk : k ≤ 10) (h1 : lz_M tx pl a k → post 1) (h0 : ¬ lz_M tx pl a k → post 0) : wpX_patternStartsAt post (nI (q + 4), nI o, nI t, M, sh, ll, ln, pl) (nI a) (nI k) :=
  ⟨k + 1, lz_ps1 I M pl post a k hak hk h1 h0 k 0 (by omega) lt_0⟩
theorem lz_yl {t : Nat} (ht : t ≤ 120) (M : Int32) (tx pl : Nat → Int32) (post : Int32 → Prop) (i : Nat) (hi : i < 2 ^ 31) (h1 : i < t → post (tx i)) (h0 : t ≤ i → post (-4)) : wpY_letterAt post (nI t, M, tx, pl) (nI i) := by
  refine br_f (nI_pos hi) (pk_le t i (fun z => h0 z) (fun z => ⟨vp_in_nI (by omega) (by omega), ?_⟩))
  rw [nI_clamp hi]
  exact h1 z
theorem lz_ys1 {t : Nat} (ht : t ≤ 120) (M : Int32) (tx pl : Nat → Int32) (post : Int32 → Prop) (a k : Nat) (ha : a ≤ t) (hk : k ≤ 10) (hp : ∀ i, i < k → ¬ (-4) = pl i) (h1 : a + k ≤ t → lz_M tx pl a k → post 1) (h0 : ¬ (a + k ≤ t ∧ lz_M tx pl a k) → post 0) : ∀ d j, j + d = k → a + j ≤ t → (∀ i, i < j → tx (a + i) = pl i) → wY_stands_2 post (nI a) (nI k) (nI t) M tx pl (d + 1) (nI j) := by
  intro d
  induction d with
  | zero =>
    intro j hj hl h
    exact br_t (nI_le (by omega) (by omega)) (h1 (by omega) (fun i hi => h i (by omega)))
  | succ d ih =>
    intro j hj hl h
    have hv : vp_in (nI j) 10 := vp_in_nI (by omega) (by omega)
    refine br_f (nI_ge (by omega) (by omega)) ?_
    rw [nI_add a j]
    refine lz_yl ht M tx pl _ (a + j) (by omega) (fun z => ?_) (fun z => ?_)
    · refine ⟨hv, br_c (fun e => nm_r (nI_1 j) (ih (j + 1) (by omega) (by omega) (lt_s h ?_))) (fun e => h0 (fun w => e ?_))⟩
      · rw [nI_clamp (by omega)] at e
        exact e
      · rw [nI_clamp (by omega)]
        exact w.2 j (by omega)
    · refine ⟨hv, br_f ?_ (h0 (fun w => by omega))⟩
      rw [nI_clamp (by omega)]
      exact hp j (by omega)
theorem lz_ys {t : Nat} (ht : t ≤ 120) (M : Int32) (tx pl : Nat → Int32) (post : Int32 → Prop) (a k : Nat) (ha : a ≤ t) (hk : k ≤ 10) (hp : ∀ i, i < k → ¬ (-4) = pl i) (h1 : a + k ≤ t → lz_M tx pl a k → post 1) (h0 : ¬ (a + k ≤ t ∧ lz_M tx pl a k) → post 0) : wpY_stands post (nI t, M, tx, pl) (nI a) (nI k) :=
  ⟨k + 1, lz_ys1 ht M tx pl post a k ha hk hp h1 h0 k 0 (by omega) ha lt_0⟩
theorem lz_yo {t m : Nat} (ht : t ≤ 120) (hm : m ≤ 10) (tx pl : Nat → Int32) (hp : ∀ i, i < m → ¬ (-4) = pl i) (post : Int32 → Prop) (i : Nat) (hi : i ≤ t) (h1 : lz_O t m tx pl i → post 1) (h0 : ¬ lz_O t m tx pl i → post 0) : wpY_occurs post (nI t, nI m, tx, pl) (nI i) := by
  refine pk_le m 0 (fun z => h0 (fun w => absurd w.1 (by omega))) (fun z => ?_)
  refine lz_ys ht _ tx pl _ i m hi hm hp (fun w1 w2 => ?_) (fun w => ?_)
  · exact br_f lz_10 (h1 ⟨z, w1, w2⟩)
  · exact br_t rfl (h0 (fun y => w y.2))
/-- how many i below n have P -/
noncomputable def lz_cn (P : Nat → Prop) : Nat → Nat
  | 0 => 0
  | n + 1 => lz_cn P n + @ite Nat (P n) (Classical.propDecidable _) 1 0
theorem lz_cn_t {P : Nat → Prop} {n : Nat} (h : P n) : lz_cn P (n + 1) = lz_cn P n + 1 := by
  show lz_cn P n + @ite Nat (P n) (Classical.propDecidable _) 1 0 = _
  rw [if_pos h]
theorem lz_cn_f {P : Nat → Prop} {n : Nat} (h : ¬ P n) : lz_cn P (n + 1) = lz_cn P n := by
  show lz_cn P n + @ite Nat (P n) (Classical.propDecidable _) 1 0 = _
  rw [if_neg h]
  rfl
theorem lz_cn_ext {P : Nat → Prop} {a : Nat} : ∀ d, (∀ i, a ≤ i → i < a + d → ¬ P i) → lz_cn P (a + d) = lz_cn P a := by
  intro d
  induction d with
  | zero => intro _; rfl
  | succ d ih =>
    intro h
    show lz_cn P (a + d + 1) = _
    rw [lz_cn_f (h (a + d) (by omega) (by omega))]
    exact ih (fun i h1 h2 => h i h1 (by omega))
theorem lz_cn_e {P : Nat → Prop} {a b : Nat} (hab : a ≤ b) (h : ∀ i, a ≤ i → i < b → ¬ P i) : lz_cn P b = lz_cn P a := by
  obtain ⟨d, rfl⟩ : ∃ d, b = a + d := ⟨b - a, by omega⟩
  exact lz_cn_ext d h
/-- the occurrences that end at e or before -/
def lz_E (e m : Nat) (tx pl : Nat → Int32) (i : Nat) : Prop := 0 < m ∧ i + m ≤ e ∧ lz_M tx pl i m
theorem lz_oc1 {q o t : Nat} {s l : Nat → Nat} {sh ll ln tx : Nat → Int32} (I : lz_I q o t s l sh ll ln tx) (m : Nat) (h0m : 0 < m) (hm : m ≤ 10) (pl : Nat → Int32) (post : Int32 → Prop) (e : Nat) (he : e ≤ t) (h : post (nI (lz_cn (lz_E e m tx pl) t))) : ∀ d i, i + d = e + 1 - m → wX_occurrencesUpTo_13 post (nI e) (nI (q + 4)) (nI o) (nI t) (nI m) sh ll ln pl (d + 1) (nI (lz_cn (lz_E e m tx pl) i)) (nI i) := by
  have ht := I.2.1
  intro d
  induction d with
  | zero =>
    intro i hi
    refine br_t ?_ ?_
    · rcases Nat.lt_or_ge e m with z | z
      · have y : i = 0 := by omega
        subst y
        exact pk_sneg (by omega) z
      · rw [pk_sub z]
        exact nI_lt (by omega) (by omega)
    · rw [lz_cn_e (a := i) (by omega) (fun j h1 h2 w => absurd w.2.1 (by omega))] at h
      exact h
  | succ d ih =>
    intro i hi
    refine br_f ?_ ?_
    · rw [pk_sub (by omega)]
      exact nI_nlt (by omega) (by omega)
    · have z := ih (i + 1) (by omega)
      refine lz_ps I _ pl _ i m (by omega) hm (fun w => ?_) (fun w => ?_)
      · rw [lz_cn_t ⟨h0m, by omega, w⟩] at z
        exact br_f lz_10 (nm_r (nI_1 _) (nm_r (nI_1 i) z))
      · rw [lz_cn_f (fun y => w y.2.2)] at z
        exact br_t rfl (nm_r (nI_1 i) z)
theorem lz_oc {q o t : Nat} {s l : Nat → Nat} {sh ll ln tx : Nat → Int32} (I : lz_I q o t s l sh ll ln tx) (m : Nat) (hm : m ≤ 10) (pl : Nat → Int32) (post : Int32 → Prop) (e : Nat) (he : e ≤ t) (h : post (nI (lz_cn (lz_E e m tx pl) t))) : wpX_occurrencesUpTo post (nI (q + 4), nI o, nI t, nI m, sh, ll, ln, pl) (nI e) := by
  refine pk_eq m 0 (fun z => ?_) (fun z => ?_)
  · rw [lz_cn_e (a := 0) (Nat.zero_le _) (fun j h1 h2 w => absurd w.1 (by omega))] at h
    exact h
  · exact ⟨_, lz_oc1 I m (by omega) hm pl post e he h (e + 1 - m) 0 (by omega)⟩
/-- e is n, cut to the text -/
def lz_W (n : Int32) (t e : Nat) : Prop := e ≤ t ∧ ∀ j, 0 < j → j ≤ t → (n < nI j ↔ e < j)
theorem lz_wi {t : Nat} (ht : t ≤ 120) (P O M n : Int32) (sh ll ln pl : Nat → Int32) (post : Int32 → Prop) (h : ∀ e, lz_W n t e → post (nI e)) : wpX_withinText post (P, O, nI t, M, sh, ll, ln, pl) n := by
  rcases pk_ix n (n := t) (by omega) with z | z | ⟨j, hj, rfl⟩
  · refine br_f (Int32.not_le.mpr z) (h 0 ⟨Nat.zero_le _, fun j h1 h2 => ⟨fun _ => h1, fun _ => ?_⟩⟩)
    exact Int32.lt_of_lt_of_le z (nI_pos' (by omega))
  · refine br_t (Int32.le_trans (nI_pos' (n := t) (by omega)) z) (br_t z (h t ⟨Nat.le_refl _, fun j h1 h2 => ⟨fun y => ?_, fun y => absurd y (by omega)⟩⟩))
    have w : nI j ≤ nI t := nI_le h2 (by omega)
    exact absurd (Int32.lt_of_lt_of_le y (Int32.le_trans w z)) Int32.lt_irrefl
  · refine br_t (nI_pos' (by omega)) (br_f (nI_ge hj (by omega)) (h j ⟨by omega, fun i h1 h2 => nI_ltI (by omega) (by omega)⟩))
theorem lz_Wt {t : Nat} (ht : t ≤ 120) : lz_W (nI t) t t := ⟨Nat.le_refl _, fun j h1 h2 => nI_ltI (by omega) (by omega)⟩
theorem lz_yc1 {t m : Nat} (ht : t ≤ 120) (hm : m ≤ 10) (tx pl : Nat → Int32) (hp : ∀ i, i < m → ¬ (-4) = pl i) (n : Int32) (e : Nat) (W : lz_W n t e) (post : Int32 → Prop) (h : post (nI (lz_cn (lz_E e m tx pl) t))) : ∀ d i, i + d = t → wY_countWithin_4 post n (nI t) (nI m) tx pl (d + 1) (nI (lz_cn (lz_E e m tx pl) i)) (nI i) := by
  intro d
  induction d with
  | zero =>
    intro i hi
    have y : i = t := by omega
    subst y
    exact br_t (nI_le (by omega) (by omega)) h
  | succ d ih =>
    intro i hi
    refine br_f (nI_ge (by omega) (by omega)) ?_
    have z := ih (i + 1) (by omega)
    refine lz_yo ht hm tx pl hp _ i (by omega) (fun w => ?_) (fun w => ?_)
    · refine br_f lz_10 ?_
      have y := W.2 (i + m) (by have := w.1; omega) w.2.1
      rw [nI_add i m, y]
      refine br_c (fun x => ?_) (fun x => ?_)
      · rw [lz_cn_f (fun v => absurd v.2.1 (by omega))] at z
        exact nm_r (nI_1 i) z
      · rw [lz_cn_t ⟨w.1, by omega, w.2.2⟩] at z
        exact nm_r (nI_1 _) (nm_r (nI_1 i) z)
    · have y := W.1
      rw [lz_cn_f (fun v => w ⟨v.1, by have := v.2.1; omega, v.2.2⟩)] at z
      exact br_t rfl (nm_r (nI_1 i) z)
theorem lz_yc {t m : Nat} (ht : t ≤ 120) (hm : m ≤ 10) (tx pl : Nat → Int32) (hp : ∀ i, i < m → ¬ (-4) = pl i) (n : Int32) (e : Nat) (W : lz_W n t e) (post : Int32 → Prop) (h : post (nI (lz_cn (lz_E e m tx pl) t))) : wpY_countWithin post (nI t, nI m, tx, pl) n :=
  ⟨t + 1, lz_yc1 ht hm tx pl hp n e W post h t 0 (by omega)⟩
end
section
theorem lz_lei {n : Int32} {i : Nat} (hi : i < 2 ^ 30) : n ≤ nI i ↔ n < nI (i + 1) := by
  rw [Int32.le_iff_toInt_le, Int32.lt_iff_toInt_lt, nI_toInt (by omega), nI_toInt (by omega)]
  omega
theorem lz_We {n : Int32} {t e i : Nat} (ht : t ≤ 120) (W : lz_W n t e) (hi : i < t) : n ≤ nI i ↔ e ≤ i := by
  rw [lz_lei (by omega), W.2 (i + 1) (by omega) (by omega)]
  omega
theorem lz_xf1 {q o t : Nat} {s l : Nat → Nat} {sh ll ln tx : Nat → Int32} (I : lz_I q o t s l sh ll ln tx) (M c : Int32) (pl : Nat → Int32) (post : Int32 → Prop) (e : Nat) (he : e ≤ t) (h : post (nI (lz_cn (fun i => tx i = c) e))) : ∀ d i, i + d = e → wX_frequency_21 post c (nI e) (nI (q + 4)) (nI o) (nI t) M sh ll ln pl (d + 1) (nI (lz_cn (fun i => tx i = c) i)) (nI i) := by
  have ht := I.2.1
  intro d
  induction d with
  | zero =>
    intro i hi
    have y : i = e := by omega
    subst y
    exact br_t (nI_le (by omega) (by omega)) h
  | succ d ih =>
    intro i hi
    refine br_f (nI_ge (by omega) (by omega)) ?_
    have z := ih (i + 1) (by omega)
    refine lz_tl I M pl _ i (by omega) ?_
    refine br_c (fun w => ?_) (fun w => ?_)
    · rw [lz_cn_t (P := fun i => tx i = c) w] at z
      exact nm_r (nI_1 _) (nm_r (nI_1 i) z)
    · rw [lz_cn_f (P := fun i => tx i = c) w] at z
      exact nm_r (nI_1 i) z
theorem lz_yf1 {t : Nat} (ht : t ≤ 120) (M c n : Int32) (tx pl : Nat → Int32) (post : Int32 → Prop) (e : Nat) (W : lz_W n t e) (h : post (nI (lz_cn (fun i => tx i = c) e))) : ∀ d i, i + d = e → wY_frequency_15 post c n (nI t) M tx pl (d + 1) (nI (lz_cn (fun i => tx i = c) i)) (nI i) := by
  have he := W.1
  intro d
  induction d with
  | zero =>
    intro i hi
    have y : i = e := by omega
    subst y
    refine br_c (fun _ => h) (fun w => ?_)
    rcases Nat.lt_or_ge i t with z | z
    · exact absurd ((lz_We ht W z).mpr (Nat.le_refl _)) w
    · exact br_t (nI_le z (by omega)) h
  | succ d ih =>
    intro i hi
    have w : ¬ n ≤ nI i := fun w => absurd ((lz_We ht W (by omega)).mp w) (by omega)
    have z := ih (i + 1) (by omega)
    refine br_f w (br_f (nI_ge (by omega) (by omega)) ⟨vp_in_nI (by omega) (by omega), ?_⟩)
    rw [nI_clamp (by omega)]
    refine br_c (fun w => ?_) (fun w => ?_)
    · rw [lz_cn_t (P := fun i => tx i = c) w] at z
      exact nm_r (nI_1 _) (nm_r (nI_1 i) z)
    · rw [lz_cn_f (P := fun i => tx i = c) w] at z
      exact nm_r (nI_1 i) z
/-- the greatest k up to n that has P, or 0 -/
noncomputable def lz_ov (P : Nat → Prop) : Nat → Nat
  | 0 => 0
  | n + 1 => @ite Nat (P (n + 1)) (Classical.propDecidable _) (n + 1) (lz_ov P n)
theorem lz_ov_t {P : Nat → Prop} {n : Nat} (h : P (n + 1)) : lz_ov P (n + 1) = n + 1 := by
  show @ite Nat (P (n + 1)) (Classical.propDecidable _) (n + 1) (lz_ov P n) = _
  rw [if_pos h]
theorem lz_ov_f {P : Nat → Prop} {n : Nat} (h : ¬ P (n + 1)) : lz_ov P (n + 1) = lz_ov P n := by
  show @ite Nat (P (n + 1)) (Classical.propDecidable _) (n + 1) (lz_ov P n) = _
  rw [if_neg h]
/-- the pattern's first k letters end the text -/
def lz_V (t : Nat) (tx pl : Nat → Int32) (k : Nat) : Prop := lz_M tx pl (t - k) k
theorem lz_xo {q o t : Nat} {s l : Nat → Nat} {sh ll ln tx : Nat → Int32} (I : lz_I q o t s l sh ll ln tx) (M : Int32) (pl : Nat → Int32) (post : Int32 → Prop) : ∀ k, k ≤ t → k ≤ 10 → post (nI (lz_ov (lz_V t tx pl) k)) → wX_overlap_25 post (nI (q + 4)) (nI o) (nI t) M sh ll ln pl (k + 1) (nI k) := by
  have ht := I.2.1
  intro k
  induction k with
  | zero =>
    intro h1 h2 h
    exact br_t (nI_le (a := 0) (b := 0) (by omega) (by omega)) h
  | succ k ih =>
    intro h1 h2 h
    refine br_f (nI_nle (by omega) (by omega)) ?_
    rw [pk_sub h1]
    refine lz_ps I M pl _ (t - (k + 1)) (k + 1) (by omega) h2 (fun w => ?_) (fun w => ?_)
    · rw [lz_ov_t (P := lz_V t tx pl) w] at h
      exact br_f lz_10 h
    · rw [lz_ov_f (P := lz_V t tx pl) w] at h
      exact br_t rfl (nm_r (pk_m1 k) (ih (by omega) (by omega) h))
theorem lz_yv {t m : Nat} (ht : t ≤ 120) (hm : m ≤ 10) (tx pl : Nat → Int32) (hp : ∀ i, i < m → ¬ (-4) = pl i) (post : Int32 → Prop) (L : Nat) (hL1 : L ≤ m) (hL2 : L ≤ t) (hL : L = m ∨ L = t) (h : post (nI (lz_ov (lz_V t tx pl) L))) : ∀ d i, i + d = L → wY_overlap_4 post (nI t) (nI m) tx pl (d + 1) (nI (lz_ov (lz_V t tx pl) i)) (nI (i + 1)) := by
  intro d
  induction d with
  | zero =>
    intro i hi
    have y : i = L := by omega
    subst y
    refine br_c (fun _ => h) (fun w => ?_)
    rcases hL with z | z
    · exact absurd (nI_lt (show m < i + 1 by omega) (by omega)) w
    · exact br_t (nI_lt (by omega) (by omega)) h
  | succ d ih =>
    intro i hi
    refine br_f (nI_nlt (by omega) (by omega)) (br_f (nI_nlt (by omega) (by omega)) ?_)
    rw [pk_sub (by omega)]
    have z := ih (i + 1) (by omega)
    refine lz_ys ht _ tx pl _ (t - (i + 1)) (i + 1) (by omega) (by omega) (fun j hj => hp j (by omega)) (fun _ w => ?_) (fun w => ?_)
    · rw [lz_ov_t (P := lz_V t tx pl) w] at z
      exact br_f lz_10 (nm_r (nI_1 (i + 1)) z)
    · rw [lz_ov_f (P := lz_V t tx pl) (fun v => w ⟨by omega, v⟩)] at z
      exact br_t rfl (nm_r (nI_1 (i + 1)) z)
theorem lz_yp0 {t m : Nat} (ht : t ≤ 120) (hm : m ≤ 10) (tx pl : Nat → Int32) (hp : ∀ i, i < m → ¬ (-4) = pl i) (n f : Int32) (post : Int32 → Prop) (h : post (-4)) : ∀ d i, i + d = t → (∀ j, i ≤ j → ¬ lz_O t m tx pl j) → wY_position_4 post n (nI t) (nI m) tx pl (d + 1) f (nI i) := by
  intro d
  induction d with
  | zero =>
    intro i hi _
    exact br_t (nI_le (by omega) (by omega)) h
  | succ d ih =>
    intro i hi hn
    refine br_f (nI_ge (by omega) (by omega)) ?_
    refine lz_yo ht hm tx pl hp _ i (by omega) (fun w => absurd w (hn i (Nat.le_refl _))) (fun w => ?_)
    exact br_t rfl (nm_r (nI_1 i) (ih (i + 1) (by omega) (fun j hj => hn j (by omega))))
theorem lz_po {q o t m : Nat} {s l : Nat → Nat} {sh ll ln tx : Nat → Int32} (I : lz_I q o t s l sh ll ln tx) (h0m : 0 < m) (hm : m ≤ 10) (pl : Nat → Int32) (hp : ∀ i, i < m → ¬ (-4) = pl i) (n : Int32) : ∀ (d i : Nat) (f : Int32), i + d = t + 1 - m → ∃ r : Int32, (∀ post : Int32 → Prop, post r → wX_position_14 post n (nI (q + 4)) (nI o) (nI t) (nI m) sh ll ln pl (d + 1) f (nI i)) ∧ (∀ post : Int32 → Prop, post r → wY_position_4 post n (nI t) (nI m) tx pl (t - i + 1) f (nI i)) := by
  have ht := I.2.1
  intro d
  induction d with
  | zero =>
    intro i f hi
    refine ⟨-4, fun post h => br_t ?_ h, fun post h => lz_yp0 ht hm tx pl hp n f post h (t - i) i (by omega) (fun j hj w => absurd w.2.1 (by omega))⟩
    rcases Nat.lt_or_ge t m with z | z
    · have y : i = 0 := by omega
      subst y
      exact pk_sneg (by omega) z
    · rw [pk_sub z]
      exact nI_lt (by omega) (by omega)
  | succ d ih =>
    intro i f hi
    have hx : ¬ nI t - nI m < nI i := by
      rw [pk_sub (by omega)]
      exact nI_nlt (by omega) (by omega)
    have hy : ¬ nI t ≤ nI i := nI_ge (by omega) (by omega)
    have et : t - i + 1 = t - (i + 1) + 1 + 1 := by omega
    rw [et]
    by_cases w : lz_M tx pl i m
    · by_cases g : f = n
      · refine ⟨nI i, fun post h => br_f hx ?_, fun post h => br_f hy ?_⟩
        · exact lz_ps I _ pl _ i m (by omega) hm (fun _ => br_f lz_10 (br_t g h)) (fun v => absurd w v)
        · exact lz_yo ht hm tx pl hp _ i (by omega) (fun _ => br_f lz_10 (br_t g h)) (fun v => absurd ⟨h0m, by omega, w⟩ v)
      · obtain ⟨r, hX, hY⟩ := ih (i + 1) (f + 1) (by omega)
        refine ⟨r, fun post h => br_f hx ?_, fun post h => br_f hy ?_⟩
        · exact lz_ps I _ pl _ i m (by omega) hm (fun _ => br_f lz_10 (br_f g (nm_e (nm_r (nI_1 i) (hX post h))))) (fun v => absurd w v)
        · exact lz_yo ht hm tx pl hp _ i (by omega) (fun _ => br_f lz_10 (br_f g (nm_e (nm_r (nI_1 i) (hY post h))))) (fun v => absurd ⟨h0m, by omega, w⟩ v)
    · obtain ⟨r, hX, hY⟩ := ih (i + 1) f (by omega)
      refine ⟨r, fun post h => br_f hx ?_, fun post h => br_f hy ?_⟩
      · exact lz_ps I _ pl _ i m (by omega) hm (fun v => absurd v w) (fun _ => br_t rfl (nm_r (nI_1 i) (hX post h)))
      · exact lz_yo ht hm tx pl hp _ i (by omega) (fun v => absurd v.2.2 w) (fun _ => br_t rfl (nm_r (nI_1 i) (hY post h)))
theorem lz_xi0 {x : Int32} (h : x < 0 ∨ nI 4 ≤ x) (post : Int32 → Prop) (hp : post 0) : wpX_isLetter post x := by
  rcases h with z | z
  · exact br_t z hp
  · exact br_f (Int32.not_lt.mpr (Int32.le_trans (nI_pos' (n := 4) (by omega)) z)) (br_t z hp)
theorem lz_xi1 {c : Nat} (h : c < 4) (post : Int32 → Prop) (hp : post 1) : wpX_isLetter post (nI c) :=
  br_f (nI_pos (by omega)) (br_f (nI_ge (b := 4) h (by omega)) hp)
theorem lz_yi0 {x : Int32} (v : SY) (h : x < 0 ∨ nI 4 ≤ x) (post : Int32 → Prop) (hp : post 0) : wpY_isLetter post v x := by
  rcases h with z | z
  · exact br_t z hp
  · exact br_f (Int32.not_lt.mpr (Int32.le_trans (nI_pos' (n := 4) (by omega)) z)) (br_t (Int32.lt_of_lt_of_le (nI_lt (a := 3) (b := 4) (by omega) (by omega)) z) hp)
theorem lz_yi1 {c : Nat} (v : SY) (h : c < 4) (post : Int32 → Prop) (hp : post 1) : wpY_isLetter post v (nI c) :=
  br_f (nI_pos (by omega)) (br_f (nI_nlt (b := c) (a := 3) (by omega) (by omega)) hp)
theorem lz_let (x : Int32) : (x < 0 ∨ nI 4 ≤ x) ∨ ∃ c, c < 4 ∧ x = nI c := by
  rcases pk_ix x (n := 4) (by omega) with z | z | z
  · exact Or.inl (Or.inl z)
  · exact Or.inl (Or.inr z)
  · exact Or.inr z
end
section
/-- all letters of the text are letters -/
def lz_L (t : Nat) (tx : Nat → Int32) : Prop := ∀ i, i < t → ∃ c, c < 4 ∧ tx i = nI c
theorem lz_L_u {t c : Nat} {tx : Nat → Int32} (h : lz_L t tx) (hc : c < 4) : lz_L (t + 1) (upd tx t (nI c)) := by
  intro i hi
  rcases Nat.lt_or_ge i t with z | z
  · rw [pk_un (by omega)]
    exact h i z
  · have y : i = t := by omega
    subst y
    exact ⟨c, hc, pk_us⟩
theorem lz_L_4 {m : Nat} {pl : Nat → Int32} (h : lz_L m pl) : ∀ i, i < m → ¬ (-4) = pl i := by
  intro i hi e
  obtain ⟨c, hc, ec⟩ := h i hi
  rw [ec] at e
  have h0 := nI_pos' (n := c) (by omega)
  rw [← e] at h0
  exact absurd h0 (by decide)
/-- the text of t letters, d times lengthened by the letter at a, a + 1 and on -/
def lz_rp : Nat → (Nat → Int32) → Nat → Nat → (Nat → Int32)
  | 0, tx, _, _ => tx
  | d + 1, tx, t, a => lz_rp d (upd tx t (tx a)) (t + 1) (a + 1)
theorem lz_xr (M : Int32) (pl : Nat → Int32) (post : Int32 → SX → Prop) (f n : Nat) (hn : n ≤ 120) : ∀ (d i q o t : Nat) (s l : Nat → Nat) (sh ll ln tx : Nat → Int32), lz_I q o t s l sh ll ln tx → lz_L t tx → f + i < t → t + d ≤ 120 → i + d = n → (∀ (q' o' : Nat) (s' l' : Nat → Nat) (sh' ll' ln' : Nat → Int32), lz_I q' o' (t + d) s' l' sh' ll' ln' (lz_rp d tx t (f + i)) → lz_L (t + d) (lz_rp d tx t (f + i)) → post (nI (t + d)) (nI (q' + 4), nI o', nI (t + d), M, sh', ll', ln', pl)) → wX_repeat_27 post (nI f) (nI n) (d + 1) (nI i) (nI (q + 4)) (nI o) (nI t) M sh ll ln pl := by
  intro d
  induction d with
  | zero =>
    intro i q o t s l sh ll ln tx I L hf hd hi h
    exact br_t (nI_le (by omega) (by omega)) (h q o s l sh ll ln I L)
  | succ d ih =>
    intro i q o t s l sh ll ln tx I L hf hd hi h
    obtain ⟨c, hc, ec⟩ := L (f + i) hf
    refine br_f (nI_ge (by omega) (by omega)) ?_
    rw [nI_add f i]
    refine lz_tl I M pl _ (f + i) hf ?_
    rw [ec]
    refine lz_at I (by omega) c hc M pl _ ?_
    intro q' o' s' l' sh' ll' ln' I'
    refine nm_r (nI_1 i) (ih (i + 1) q' o' (t + 1) s' l' sh' ll' ln' _ I' (lz_L_u L hc) (by omega) (by omega) (by omega) ?_)
    have e2 : lz_rp (d + 1) tx t (f + i) = lz_rp d (upd tx t (nI c)) (t + 1) (f + (i + 1)) := by
      show lz_rp d (upd tx t (tx (f + i))) (t + 1) (f + i + 1) = _
      rw [ec]
      rfl
    rw [show t + (d + 1) = t + 1 + d by omega, e2] at h
    exact h
theorem lz_ya {t c : Nat} (ht : t < 120) (hc : c < 4) (M : Int32) (tx pl : Nat → Int32) (post : Int32 → SY → Prop) (h : post (nI (t + 1)) (nI (t + 1), M, upd tx t (nI c), pl)) : wpY_append post (nI t, M, tx, pl) (nI c) := by
  unfold wpY_append
  dsimp only
  refine lz_yi1 _ hc _ ?_
  refine br_f lz_10 (br_f ?_ ⟨vp_in_nI (by omega) (by omega), nm_r (e' := upd tx t (nI c)) (by rw [nI_clamp (by omega)]) (nm_r (nI_1 t) h)⟩)
  intro z
  have := (nI_eq (a := t) (b := 120) (by omega) (by omega)).mp z
  omega
theorem lz_yr (M : Int32) (pl : Nat → Int32) (post : Int32 → SY → Prop) (f n : Nat) (hn : n ≤ 120) : ∀ (d i t : Nat) (tx : Nat → Int32), lz_L t tx → f + i < t → t + d ≤ 120 → i + d = n → post (nI (t + d)) (nI (t + d), M, lz_rp d tx t (f + i), pl) → wY_repeat_42 post (nI f) (nI n) (d + 1) (nI i) (nI t) M tx pl := by
  intro d
  induction d with
  | zero =>
    intro i t tx L hf hd hi h
    exact br_t (nI_le (by omega) (by omega)) h
  | succ d ih =>
    intro i t tx L hf hd hi h
    obtain ⟨c, hc, ec⟩ := L (f + i) hf
    refine br_f (nI_ge (by omega) (by omega)) ?_
    rw [nI_add f i]
    refine ⟨vp_in_nI (by omega) (by omega), ?_⟩
    rw [nI_clamp (by omega), ec]
    refine lz_ya (by omega) hc M tx pl _ ?_
    refine nm_r (nI_1 i) (ih (i + 1) (t + 1) _ (lz_L_u L hc) (by omega) (by omega) (by omega) ?_)
    have e2 : lz_rp (d + 1) tx t (f + i) = lz_rp d (upd tx t (nI c)) (t + 1) (f + (i + 1)) := by
      show lz_rp d (upd tx t (tx (f + i))) (t + 1) (f + i + 1) = _
      rw [ec]
      rfl
    rw [show t + (d + 1) = t + 1 + d by omega, e2] at h
    exact h
theorem lz_in0 {t : Nat} (ht : t ≤ 120) {x : Int32} (P O M : Int32) (sh ll ln pl : Nat → Int32) (h : x < 0 ∨ nI t ≤ x) (post : Int32 → Prop) (hp : post 0) : wpX_isInText post (P, O, nI t, M, sh, ll, ln, pl) x := by
  rcases h with z | z
  · exact br_t z hp
  · exact br_f (Int32.not_lt.mpr (Int32.le_trans (nI_pos' (n := t) (by omega)) z)) (br_t z hp)
theorem lz_in1 {t i : Nat} (ht : t ≤ 120) (hi : i < t) (P O M : Int32) (sh ll ln pl : Nat → Int32) (post : Int32 → Prop) (hp : post 1) : wpX_isInText post (P, O, nI t, M, sh, ll, ln, pl) (nI i) :=
  br_f (nI_pos (by omega)) (br_f (nI_ge hi (by omega)) hp)
theorem lz_yr9 {t : Nat} (ht : t ≤ 120) {x : Int32} (M z0 : Int32) (tx pl : Nat → Int32) (h : x < 0 ∨ nI t ≤ x) (post : Int32 → SY → Prop) (hp : post (-3) (nI t, M, tx, pl)) : wY_repeat_9 post x z0 (nI t) M tx pl := by
  rcases h with z | z
  · exact br_t z hp
  · exact br_f (Int32.not_lt.mpr (Int32.le_trans (nI_pos' (n := t) (by omega)) z)) (br_f (Int32.not_lt.mpr z) hp)
theorem lz_120 {t : Nat} (ht : t ≤ 120) : (120 : Int32) - nI t = nI (120 - t) := pk_sub (a := 120) ht
end
section
/-- the phrases of the component are the reference's letters; the two patterns are the same -/
def i_Rel (_ : Nat) (u : SX) (v : SY) : Prop :=
  ∃ (q o t m : Nat) (s l : Nat → Nat) (sh ll ln tx pl : Nat → Int32), u = (nI (q + 4), nI o, nI t, nI m, sh, ll, ln, pl) ∧ v = (nI t, nI m, tx, pl) ∧ lz_I q o t s l sh ll ln tx ∧ m ≤ 10 ∧ lz_L t tx ∧ lz_L m pl
theorem i_up {k : Nat} {u : SX} {v : SY} (h : i_Rel k u v) : i_Rel (k + 3) u v := h
theorem i_vc0 : wpX_init (fun u => wpY_init (fun v => i_Rel 0 u v)) := by
  have v0 : vp_in (nI 0) 124 := vp_in_nI (by omega) (by omega)
  have v1 : vp_in (nI 1) 124 := vp_in_nI (by omega) (by omega)
  have v2 : vp_in (nI 2) 124 := vp_in_nI (by omega) (by omega)
  have v3 : vp_in (nI 3) 124 := vp_in_nI (by omega) (by omega)
  refine ⟨5, ?_⟩
  refine br_f (by decide) ⟨v0, nm_e ⟨v0, nm_e (nm_r (nI_1 0) ?_)⟩⟩
  refine br_f (nI_ge (a := 1) (b := 4) (by omega) (by omega)) ⟨v1, nm_e ⟨v1, nm_e (nm_r (nI_1 1) ?_)⟩⟩
  refine br_f (nI_ge (a := 2) (b := 4) (by omega) (by omega)) ⟨v2, nm_e ⟨v2, nm_e (nm_r (nI_1 2) ?_)⟩⟩
  refine br_f (nI_ge (a := 3) (b := 4) (by omega) (by omega)) ⟨v3, nm_e ⟨v3, nm_e (nm_r (nI_1 3) ?_)⟩⟩
  refine br_t (nI_le (a := 4) (b := 4) (by omega) (by omega)) ?_
  refine ⟨0, 0, 0, 0, fun _ => 0, fun _ => 1, _, _, _, _, _, rfl, rfl, ⟨⟨fun j hj => ?_, fun j hj => ?_, fun j h4 hj => absurd hj (by omega)⟩, by omega, fun i hi => absurd hi (by omega), fun _ => rfl, fun h => absurd h (by omega)⟩, by omega, fun i hi => absurd hi (by omega), fun i hi => absurd hi (by omega)⟩
  · rcases (by omega : j = 0 ∨ j = 1 ∨ j = 2 ∨ j = 3) with e | e | e | e
    all_goals subst e
    all_goals exact ⟨rfl, by decide +kernel⟩
  · rcases (by omega : j = 0 ∨ j = 1 ∨ j = 2 ∨ j = 3) with e | e | e | e
    all_goals subst e
    all_goals exact ⟨by decide +kernel, by decide +kernel, Nat.zero_le _, Nat.le_refl _, by decide⟩
theorem i_vc_append {k : Nat} {u : SX} {v : SY} (I : i_Rel k u v) (hk : k + 3 ≤ 1536) (v1 : Int32) : wpX_append (fun r u' => wpY_append (fun r' v' => r' = r ∧ i_Rel (k + 3) u' v') v v1) u v1 := by
  obtain ⟨q, o, t, m, s, l, sh, ll, ln, tx, pl, rfl, rfl, I, hm, L, P⟩ := I
  have ht := I.2.1
  unfold wpX_append wpY_append
  dsimp only
  rcases lz_let v1 with z | ⟨c, hc, rfl⟩
  · refine lz_xi0 z _ (br_t rfl (lz_yi0 _ z _ (br_t rfl ⟨rfl, q, o, t, m, s, l, sh, ll, ln, tx, pl, rfl, rfl, I, hm, L, P⟩)))
  · refine lz_xi1 hc _ (br_f lz_10 (pk_lt t 120 (fun z => ?_) (fun z => ?_)))
    · refine lz_at I z c hc _ pl _ ?_
      intro q' o' s' l' sh' ll' ln' I'
      refine lz_yi1 _ hc _ (br_f lz_10 (br_f ?_ ⟨vp_in_nI (by omega) (by omega), nm_r (e' := upd tx t (nI c)) (by rw [nI_clamp (by omega)]) (nm_r (nI_1 t) ⟨rfl, q', o', t + 1, m, s', l', sh', ll', ln', _, pl, rfl, rfl, I', hm, lz_L_u L hc, P⟩)⟩))
      intro y
      have := (nI_eq (a := t) (b := 120) (by omega) (by omega)).mp y
      omega
    · have y : t = 120 := by omega
      subst y
      exact lz_yi1 _ hc _ (br_f lz_10 (br_t rfl ⟨rfl, q, o, 120, m, s, l, sh, ll, ln, tx, pl, rfl, rfl, I, hm, L, P⟩))
theorem i_vc_repeat {k : Nat} {u : SX} {v : SY} (I : i_Rel k u v) (hk : k + 3 ≤ 1536) (v1 : Int32) (v2 : Int32) : wpX_repeat (fun r u' => wpY_repeat (fun r' v' => r' = r ∧ i_Rel (k + 3) u' v') v v1 v2) u v1 v2 := by
  obtain ⟨q, o, t, m, s, l, sh, ll, ln, tx, pl, rfl, rfl, I, hm, L, P⟩ := I
  have ht := I.2.1
  have R : i_Rel (k + 3) (nI (q + 4), nI o, nI t, nI m, sh, ll, ln, pl) (nI t, nI m, tx, pl) := ⟨q, o, t, m, s, l, sh, ll, ln, tx, pl, rfl, rfl, I, hm, L, P⟩
  unfold wpX_repeat wpY_repeat
  dsimp only
  have bad : (v1 < 0 ∨ nI t ≤ v1) ∨ ∃ f, f < t ∧ v1 = nI f := by
    rcases pk_ix v1 (n := t) (by omega) with z | z | z
    · exact Or.inl (Or.inl z)
    · exact Or.inl (Or.inr z)
    · exact Or.inr z
  rcases bad with z | ⟨f, hf, rfl⟩
  · refine lz_in0 ht _ _ _ _ _ _ _ z _ (br_t rfl ?_)
    exact br_c (fun _ => lz_yr9 ht _ _ _ _ z _ ⟨rfl, R⟩) (fun _ => lz_yr9 ht _ _ _ _ z _ ⟨rfl, R⟩)
  · refine lz_in1 ht hf _ _ _ _ _ _ _ _ (br_f lz_10 ?_)
    rw [lz_120 ht]
    rcases pk_ix v2 (n := 121 - t) (by omega) with z | z | ⟨j, hj, rfl⟩
    · refine br_t (Int32.le_of_lt (Int32.lt_of_lt_of_le z (nI_pos' (by omega)))) ⟨1, br_t (Int32.le_of_lt z) ?_⟩
      refine br_f (Int32.not_le.mpr z) ?_
      unfold wY_repeat_9
      rw [lz_120 ht]
      exact br_f (nI_pos (by omega)) (br_t (nI_lt hf (by omega)) (br_t (nI_pos' (by omega)) ⟨1, br_t (by decide) ⟨rfl, R⟩⟩))
    · have y : ¬ v2 ≤ nI (120 - t) := by
        rw [lz_lei (by omega), show 120 - t + 1 = 121 - t by omega]
        exact Int32.not_lt.mpr z
      refine br_f y ?_
      refine br_t (Int32.le_trans (nI_pos' (n := 121 - t) (by omega)) z) ?_
      unfold wY_repeat_9
      rw [lz_120 ht]
      exact br_f (nI_pos (by omega)) (br_t (nI_lt hf (by omega)) (br_f y ⟨rfl, R⟩))
    · have y : nI j ≤ nI (120 - t) := nI_le (by omega) (by omega)
      refine br_t y ⟨j + 1, lz_xr _ pl _ f j (by omega) j 0 q o t s l sh ll ln tx I L hf (by omega) (by omega) ?_⟩
      intro q' o' s' l' sh' ll' ln' I' L'
      refine br_t (nI_pos' (by omega)) ?_
      unfold wY_repeat_9
      rw [lz_120 ht]
      refine br_f (nI_pos (by omega)) (br_t (nI_lt hf (by omega)) (br_t y ⟨j + 1, lz_yr _ pl _ f j (by omega) j 0 t tx L hf (by omega) (by omega) ?_⟩))
      exact ⟨rfl, q', o', t + j, m, s', l', sh', ll', ln', _, pl, rfl, rfl, I', hm, L', P⟩
theorem i_vc_clear {k : Nat} {u : SX} {v : SY} (I : i_Rel k u v) (hk : k + 3 ≤ 1536) : wpX_clear (fun u' => wpY_clear (fun v' => i_Rel (k + 3) u' v') v) u := by
  obtain ⟨q, o, t, m, s, l, sh, ll, ln, tx, pl, rfl, rfl, I, hm, L, P⟩ := I
  obtain ⟨D, _, _, _, _⟩ := I
  refine ⟨0, o, 0, m, s, l, sh, ll, ln, tx, pl, rfl, rfl, ⟨⟨D.1, fun j hj => D.2.1 j (by omega), fun j h4 hj => absurd hj (by omega)⟩, by omega, fun i hi => absurd hi (by omega), fun _ => rfl, fun h => absurd h (by omega)⟩, hm, fun i hi => absurd hi (by omega), P⟩
theorem i_vc_pattern {k : Nat} {u : SX} {v : SY} (I : i_Rel k u v) (hk : k + 3 ≤ 1536) (v1 : Int32) : wpX_pattern (fun r u' => wpY_pattern (fun r' v' => r' = r ∧ i_Rel (k + 3) u' v') v v1) u v1 := by
  obtain ⟨q, o, t, m, s, l, sh, ll, ln, tx, pl, rfl, rfl, I, hm, L, P⟩ := I
  unfold wpX_pattern wpY_pattern
  dsimp only
  rcases lz_let v1 with z | ⟨c, hc, rfl⟩
  · refine lz_xi0 z _ (br_t rfl (lz_yi0 _ z _ (br_t rfl ⟨rfl, q, o, t, m, s, l, sh, ll, ln, tx, pl, rfl, rfl, I, hm, L, P⟩)))
  · refine lz_xi1 hc _ (br_f lz_10 (pk_lt m 10 (fun z => ?_) (fun z => ?_)))
    · refine ⟨vp_in_nI (by omega) (by omega), nm_r (e' := upd pl m (nI c)) (by rw [nI_clamp (by omega)]) (nm_r (nI_1 m) ?_)⟩
      refine lz_yi1 _ hc _ (br_f lz_10 (br_f ?_ ⟨vp_in_nI (by omega) (by omega), nm_r (e' := upd pl m (nI c)) (by rw [nI_clamp (by omega)]) (nm_r (nI_1 m) ⟨rfl, q, o, t, m + 1, s, l, sh, ll, ln, tx, _, rfl, rfl, I, by omega, L, lz_L_u P hc⟩)⟩))
      intro y
      have := (nI_eq (a := m) (b := 10) (by omega) (by omega)).mp y
      omega
    · have y : m = 10 := by omega
      subst y
      exact lz_yi1 _ hc _ (br_f lz_10 (br_t rfl ⟨rfl, q, o, t, 10, s, l, sh, ll, ln, tx, pl, rfl, rfl, I, hm, L, P⟩))
theorem i_vc_clearPattern {k : Nat} {u : SX} {v : SY} (I : i_Rel k u v) (hk : k + 3 ≤ 1536) : wpX_clearPattern (fun u' => wpY_clearPattern (fun v' => i_Rel (k + 3) u' v') v) u := by
  obtain ⟨q, o, t, m, s, l, sh, ll, ln, tx, pl, rfl, rfl, I, hm, L, P⟩ := I
  exact ⟨q, o, t, 0, s, l, sh, ll, ln, tx, pl, rfl, rfl, I, by omega, L, fun i hi => absurd hi (by omega)⟩
theorem i_vc_length {k : Nat} {u : SX} {v : SY} (I : i_Rel k u v) (hk : k + 3 ≤ 1536) : wpX_length (fun r => wpY_length (fun r' => r' = r ∧ i_Rel (k + 3) u v) v) u := by
  have J : i_Rel (k + 3) u v := I
  obtain ⟨q, o, t, m, s, l, sh, ll, ln, tx, pl, rfl, rfl, I, hm, L, P⟩ := I
  exact ⟨rfl, J⟩
theorem i_vc_letterAt {k : Nat} {u : SX} {v : SY} (I : i_Rel k u v) (hk : k + 3 ≤ 1536) (v1 : Int32) : wpX_letterAt (fun r => wpY_letterAt (fun r' => r' = r ∧ i_Rel (k + 3) u v) v v1) u v1 := by
  have J : i_Rel (k + 3) u v := I
  obtain ⟨q, o, t, m, s, l, sh, ll, ln, tx, pl, rfl, rfl, I, hm, L, P⟩ := I
  have ht := I.2.1
  unfold wpX_letterAt
  dsimp only
  rcases pk_ix v1 (n := t) (by omega) with z | z | ⟨j, hj, rfl⟩
  · exact lz_in0 ht _ _ _ _ _ _ _ (Or.inl z) _ (br_t rfl (br_t z ⟨rfl, J⟩))
  · exact lz_in0 ht _ _ _ _ _ _ _ (Or.inr z) _ (br_t rfl (br_f (Int32.not_lt.mpr (Int32.le_trans (nI_pos' (n := t) (by omega)) z)) (br_t z ⟨rfl, J⟩)))
  · refine lz_in1 ht hj _ _ _ _ _ _ _ _ (br_f lz_10 ?_)
    refine lz_tl I _ pl _ j hj ?_
    exact lz_yl ht _ tx pl _ j (by omega) (fun _ => ⟨rfl, J⟩) (fun z => absurd z (by omega))
theorem i_vc_count {k : Nat} {u : SX} {v : SY} (I : i_Rel k u v) (hk : k + 3 ≤ 1536) : wpX_count (fun r => wpY_count (fun r' => r' = r ∧ i_Rel (k + 3) u v) v) u := by
  have J : i_Rel (k + 3) u v := I
  obtain ⟨q, o, t, m, s, l, sh, ll, ln, tx, pl, rfl, rfl, I, hm, L, P⟩ := I
  have ht := I.2.1
  unfold wpX_count wpY_count
  dsimp only
  refine lz_oc I m hm pl _ t (Nat.le_refl _) ?_
  exact lz_yc ht hm tx pl (lz_L_4 P) (nI t) t (lz_Wt ht) _ ⟨rfl, J⟩
theorem i_vc_position {k : Nat} {u : SX} {v : SY} (I : i_Rel k u v) (hk : k + 3 ≤ 1536) (v1 : Int32) : wpX_position (fun r => wpY_position (fun r' => r' = r ∧ i_Rel (k + 3) u v) v v1) u v1 := by
  have J : i_Rel (k + 3) u v := I
  obtain ⟨q, o, t, m, s, l, sh, ll, ln, tx, pl, rfl, rfl, I, hm, L, P⟩ := I
  have ht := I.2.1
  refine pk_eq m 0 (fun z => ?_) (fun z => ?_)
  · exact ⟨t + 1, lz_yp0 ht hm tx pl (lz_L_4 P) v1 0 _ ⟨rfl, J⟩ t 0 (by omega) (fun j _ w => absurd w.1 (by omega))⟩
  · obtain ⟨r, hX, hY⟩ := lz_po I (by omega) hm pl (lz_L_4 P) v1 (t + 1 - m) 0 0 (by omega)
    exact ⟨_, hX _ ⟨_, hY _ ⟨rfl, J⟩⟩⟩
theorem i_vc_frequency {k : Nat} {u : SX} {v : SY} (I : i_Rel k u v) (hk : k + 3 ≤ 1536) (v1 : Int32) (v2 : Int32) : wpX_frequency (fun r => wpY_frequency (fun r' => r' = r ∧ i_Rel (k + 3) u v) v v1 v2) u v1 v2 := by
  have J : i_Rel (k + 3) u v := I
  obtain ⟨q, o, t, m, s, l, sh, ll, ln, tx, pl, rfl, rfl, I, hm, L, P⟩ := I
  have ht := I.2.1
  unfold wpX_frequency wpY_frequency
  dsimp only
  rcases lz_let v1 with z | ⟨c, hc, rfl⟩
  · exact lz_xi0 z _ (br_t rfl (lz_yi0 _ z _ (br_t rfl ⟨rfl, J⟩)))
  · refine lz_xi1 hc _ (br_f lz_10 ?_)
    refine lz_wi ht _ _ _ v2 sh ll ln pl _ ?_
    intro e W
    refine ⟨e + 1, lz_xf1 I _ (nI c) pl _ e W.1 ?_ e 0 (by omega)⟩
    refine lz_yi1 _ hc _ (br_f lz_10 ?_)
    exact ⟨e + 1, lz_yf1 ht _ (nI c) v2 tx pl _ e W ⟨rfl, J⟩ e 0 (by omega)⟩
theorem i_vc_overlap {k : Nat} {u : SX} {v : SY} (I : i_Rel k u v) (hk : k + 3 ≤ 1536) : wpX_overlap (fun r => wpY_overlap (fun r' => r' = r ∧ i_Rel (k + 3) u v) v) u := by
  have J : i_Rel (k + 3) u v := I
  obtain ⟨q, o, t, m, s, l, sh, ll, ln, tx, pl, rfl, rfl, I, hm, L, P⟩ := I
  have ht := I.2.1
  refine pk_le t m (fun z => ⟨t + 1, ?_⟩) (fun z => ⟨m + 1, ?_⟩)
  · refine lz_xo I _ pl _ t (Nat.le_refl _) (by omega) ?_
    exact ⟨t + 1, lz_yv ht hm tx pl (lz_L_4 P) _ t z (Nat.le_refl _) (Or.inr rfl) ⟨rfl, J⟩ t 0 (by omega)⟩
  · refine lz_xo I _ pl _ m (by omega) (by omega) ?_
    exact ⟨m + 1, lz_yv ht hm tx pl (lz_L_4 P) _ m (Nat.le_refl _) (by omega) (Or.inl rfl) ⟨rfl, J⟩ m 0 (by omega)⟩
theorem i_vc_countWithin {k : Nat} {u : SX} {v : SY} (I : i_Rel k u v) (hk : k + 3 ≤ 1536) (v1 : Int32) : wpX_countWithin (fun r => wpY_countWithin (fun r' => r' = r ∧ i_Rel (k + 3) u v) v v1) u v1 := by
  have J : i_Rel (k + 3) u v := I
  obtain ⟨q, o, t, m, s, l, sh, ll, ln, tx, pl, rfl, rfl, I, hm, L, P⟩ := I
  have ht := I.2.1
  unfold wpX_countWithin
  dsimp only
  refine lz_wi ht _ _ _ v1 sh ll ln pl _ ?_
  intro e W
  refine lz_oc I m hm pl _ e W.1 ?_
  exact lz_yc ht hm tx pl (lz_L_4 P) v1 e W _ ⟨rfl, J⟩
end
