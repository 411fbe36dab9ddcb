section
theorem pk_us {f : Nat → Int32} {k : Nat} {x : Int32} : upd f k x k = x := if_pos rfl
theorem pk_un {f : Nat → Int32} {k j : Nat} {x : Int32} (h : j ≠ k) : upd f k x j = f j := if_neg h
theorem pk_sub {a b : Nat} (h : b ≤ a) : nI a - nI b = nI (a - b) := by
  obtain ⟨c, rfl⟩ : ∃ c, a = c + b := ⟨a - b, by omega⟩
  rw [← nI_add, Int32.add_sub_cancel, Nat.add_sub_cancel]
theorem pk_m1 (n : Nat) : nI (n + 1) + (-1) = nI n := by
  rw [← nI_1, Int32.add_assoc, show (1 : Int32) + (-1) = 0 from rfl, Int32.add_zero]
theorem pk_sub_toInt {a b : Nat} (ha : a < 2 ^ 30) (hb : b < 2 ^ 30) : (nI a - nI b).toInt = (a : Int) - b := by
  rw [Int32.toInt_sub, nI_toInt (by omega), nI_toInt (by omega)]
  exact Int.bmod_eq_of_le (by omega) (by omega)
theorem pk_sneg {a b : Nat} (hb : b < 2 ^ 30) (h : a < b) : nI a - nI b < 0 := by
  rw [Int32.lt_iff_toInt_lt, pk_sub_toInt (by omega) hb, show (0 : Int32).toInt = 0 from by decide]
  omega
theorem pk_ix (x : Int32) {n : Nat} (hn : n < 2 ^ 31) : x < 0 ∨ nI n ≤ x ∨ ∃ j : Nat, j < n ∧ x = nI j := by
  by_cases h : x < 0
  · exact Or.inl h
  · obtain ⟨j, hj, rfl⟩ := nI_of h
    by_cases h2 : j < n
    · exact Or.inr (Or.inr ⟨j, h2, rfl⟩)
    · exact Or.inr (Or.inl (nI_le (by omega) hj))
theorem pk_le {x y : Int32} {A B : Prop} (a b : Nat) (f : a ≤ b → A) (g : b < a → B) (hx : x = nI a := by rfl) (hy : y = nI b := by rfl) (ha : a < 2 ^ 31 := by omega) (hb : b < 2 ^ 31 := by omega) : (x ≤ y → A) ∧ (¬ x ≤ y → B) := by
  subst hx hy
  rw [nI_leI ha hb]
  exact ⟨f, fun z => g (by omega)⟩
theorem pk_lt {x y : Int32} {A B : Prop} (a b : Nat) (f : a < b → A) (g : b ≤ a → B) (hx : x = nI a := by rfl) (hy : y = nI b := by rfl) (ha : a < 2 ^ 31 := by omega) (hb : b < 2 ^ 31 := by omega) : (x < y → A) ∧ (¬ x < y → B) := by
  subst hx hy
  rw [nI_ltI ha hb]
  exact ⟨f, fun z => g (by omega)⟩
theorem pk_eq {x y : Int32} {A B : Prop} (a b : Nat) (f : a = b → A) (g : a ≠ b → B) (hx : x = nI a := by rfl) (hy : y = nI b := by rfl) (ha : a < 2 ^ 31 := by omega) (hb : b < 2 ^ 31 := by omega) : (x = y → A) ∧ (¬ x = y → B) := by
  subst hx hy
  rw [nI_eq ha hb]
  exact ⟨f, g⟩
/-- the phrase that is left of p when d letters are taken off its end -/
def lz_it (s : Nat → Nat) : Nat → Nat → Nat
  | 0, p => p
  | d + 1, p => lz_it s d (s p)
/-- where the text's i-th phrase starts -/
def lz_st (s l : Nat → Nat) : Nat → Nat
  | 0 => 0
  | i + 1 => lz_st s l i + l (s (i + 4))
/-- the phrase p stands in the text at a -/
def lz_S (s l : Nat → Nat) (ll tx : Nat → Int32) (p a : Nat) : Prop :=
  ∀ d, d < l p → ll (lz_it s d p) = tx (a + (l p - 1 - d))
/-- the dictionary, with q closed phrases -/
def lz_D (q : Nat) (s l : Nat → Nat) (sh ll ln : Nat → Int32) : Prop :=
  (∀ j, j < 4 → l j = 1 ∧ ll j = nI j) ∧
  (∀ j, j < q + 4 → sh j = nI (s j) ∧ ln j = nI (l j) ∧ s j ≤ j ∧ 1 ≤ l j ∧ l j ≤ 120) ∧
  (∀ j, 4 ≤ j → j < q + 4 → s j < j ∧ l j = l (s j) + 1)
/-- dictionary and text: the closed phrases, one behind the other, and behind them the open one, are the text -/
def lz_I (q o t : Nat) (s l : Nat → Nat) (sh ll ln tx : Nat → Int32) : Prop :=
  lz_D q s l sh ll ln ∧ t ≤ 120 ∧
  (∀ i, i < q → lz_S s l ll tx (s (i + 4)) (lz_st s l i)) ∧
  (t = 0 → q = 0) ∧
  (0 < t → o < q + 4 ∧ lz_S s l ll tx o (lz_st s l q) ∧ lz_st s l q + l o = t)
def lz_u (f : Nat → Nat) (k x : Nat) : Nat → Nat := fun j => if j = k then x else f j
theorem lz_us {f : Nat → Nat} {k x : Nat} : lz_u f k x k = x := if_pos rfl
theorem lz_un {f : Nat → Nat} {k x j : Nat} (h : j ≠ k) : lz_u f k x j = f j := if_neg h
theorem lz_it_lt {q : Nat} {s : Nat → Nat} (h : ∀ j, j < q + 4 → s j ≤ j) : ∀ d p, p < q + 4 → lz_it s d p < q + 4 := by
  intro d
  induction d with
  | zero => intro p hp; exact hp
  | succ d ih =>
    intro p hp
    have := h p hp
    exact ih (s p) (by omega)
theorem lz_it_u {q x : Nat} {s : Nat → Nat} (h : ∀ j, j < q + 4 → s j ≤ j) : ∀ d p, p < q + 4 → lz_it (lz_u s (q + 4) x) d p = lz_it s d p := by
  intro d
  induction d with
  | zero => intro p hp; rfl
  | succ d ih =>
    intro p hp
    have := h p hp
    show lz_it (lz_u s (q + 4) x) d (lz_u s (q + 4) x p) = lz_it s d (s p)
    rw [lz_un (by omega)]
    exact ih (s p) (by omega)
theorem lz_st_mono (s l : Nat → Nat) (i : Nat) : ∀ d, lz_st s l i ≤ lz_st s l (i + d) := by
  intro d
  induction d with
  | zero => exact Nat.le_refl _
  | succ d ih => exact Nat.le_trans ih (Nat.le_add_right _ _)
theorem lz_st_le (s l : Nat → Nat) {i j : Nat} (h : i ≤ j) : lz_st s l i ≤ lz_st s l j := by
  obtain ⟨d, rfl⟩ : ∃ d, j = i + d := ⟨j - i, by omega⟩
  exact lz_st_mono s l i d
theorem lz_st_ge {q : Nat} {s l : Nat → Nat} {sh ll ln : Nat → Int32} (D : lz_D q s l sh ll ln) : ∀ i, i ≤ q → i ≤ lz_st s l i := by
  intro i
  induction i with
  | zero => intro _; exact Nat.zero_le _
  | succ i ih =>
    intro h
    have h1 := ih (by omega)
    have h2 := (D.2.1 (i + 4) (by omega)).2.2.1
    have h3 := (D.2.1 (s (i + 4)) (by omega)).2.2.2.1
    show i + 1 ≤ lz_st s l i + l (s (i + 4))
    omega
theorem lz_st_u {q x y : Nat} {s l : Nat → Nat} (h : ∀ j, j < q + 4 → s j ≤ j) : ∀ i, i ≤ q → lz_st (lz_u s (q + 4) x) (lz_u l (q + 4) y) i = lz_st s l i := by
  intro i
  induction i with
  | zero => intro _; rfl
  | succ i ih =>
    intro hi
    have h2 := h (i + 4) (by omega)
    show lz_st (lz_u s (q + 4) x) (lz_u l (q + 4) y) i + lz_u l (q + 4) y (lz_u s (q + 4) x (i + 4)) = lz_st s l i + l (s (i + 4))
    rw [ih (by omega), lz_un (f := s) (by omega), lz_un (by omega)]
theorem lz_S_tx {s l : Nat → Nat} {ll tx : Nat → Int32} {p a t : Nat} {x : Int32} (h : lz_S s l ll tx p a) (ht : a + l p ≤ t) : lz_S s l ll (upd tx t x) p a := by
  intro d hd
  rw [pk_un (by omega)]
  exact h d hd
theorem lz_S_u {q x y : Nat} {s l : Nat → Nat} {ll tx : Nat → Int32} {p a : Nat} {z : Int32} (hs : ∀ j, j < q + 4 → s j ≤ j) (hp : p < q + 4) (h : lz_S s l ll tx p a) : lz_S (lz_u s (q + 4) x) (lz_u l (q + 4) y) (upd ll (q + 4) z) tx p a := by
  intro d hd
  have hk := lz_it_lt hs d p hp
  rw [lz_un (by omega)] at hd
  rw [lz_it_u hs d p hp, pk_un (by omega), lz_un (by omega)]
  exact h d hd
theorem lz_S_ext {s l : Nat → Nat} {ll tx : Nat → Int32} {j o a : Nat} (h : lz_S s l ll tx o a) (hs : s j = o) (hl : l j = l o + 1) (hx : ll j = tx (a + l o)) : lz_S s l ll tx j a := by
  intro d hd
  cases d with
  | zero =>
    show ll j = _
    rw [hx, hl]
    rfl
  | succ d =>
    show ll (lz_it s d (s j)) = _
    rw [hs, h d (by omega), hl]
    have e : a + (l o - 1 - d) = a + (l o + 1 - 1 - (d + 1)) := by omega
    rw [e]
theorem lz_S_1 {s l : Nat → Nat} {ll tx : Nat → Int32} {c a : Nat} (hl : l c = 1) (hx : ll c = tx a) : lz_S s l ll tx c a := by
  intro d hd
  have e : d = 0 := by omega
  subst e
  rw [hl]
  exact hx
theorem lz_add0 {q o c : Nat} {s l : Nat → Nat} {sh ll ln tx : Nat → Int32} (I : lz_I q o 0 s l sh ll ln tx) (hc : c < 4) : lz_I q c 1 s l sh ll ln (upd tx 0 (nI c)) := by
  obtain ⟨D, _, _, h0, _⟩ := I
  have hq := h0 rfl
  subst hq
  obtain ⟨h1, h2⟩ := D.1 c hc
  refine ⟨D, by omega, fun i hi => absurd hi (by omega), fun h => rfl, fun _ => ⟨by omega, lz_S_1 h1 ?_, ?_⟩⟩
  · rw [h2]; exact pk_us.symm
  · rw [h1]; rfl
theorem lz_addF {q o t c i : Nat} {s l : Nat → Nat} {sh ll ln tx : Nat → Int32} (I : lz_I q o t s l sh ll ln tx) (ht0 : 0 < t) (ht : t < 120) (h4 : 4 ≤ i) (hi : i < q + 4) (hs : sh i = nI o) (hl : ll i = nI c) : lz_I q i (t + 1) s l sh ll ln (upd tx t (nI c)) := by
  obtain ⟨D, h120, C, h0, O⟩ := I
  obtain ⟨ho, So, e⟩ := O ht0
  have hq : q ≤ 119 := by
    have := lz_st_ge D q (Nat.le_refl _)
    omega
  obtain ⟨d1, d2, d3, d4, d5⟩ := D.2.1 i hi
  obtain ⟨f1, f2⟩ := D.2.2 i h4 hi
  have hso : s i = o := by
    rw [d1] at hs
    exact (nI_eq (by omega) (by omega)).mp hs
  rw [hso] at f2
  refine ⟨D, by omega, fun j hj => lz_S_tx (C j hj) ?_, fun z => absurd z (by omega), fun _ => ⟨hi, ?_, ?_⟩⟩
  · have := lz_st_le s l (show j + 1 ≤ q by omega)
    have z : lz_st s l (j + 1) = lz_st s l j + l (s (j + 4)) := rfl
    omega
  · refine lz_S_ext (lz_S_tx So (by omega)) hso f2 ?_
    rw [hl, e]
    exact pk_us.symm
  · omega
theorem lz_room {q o t : Nat} {s l : Nat → Nat} {sh ll ln tx : Nat → Int32} (I : lz_I q o t s l sh ll ln tx) (ht : t < 120) : q < 119 := by
  obtain ⟨D, h120, C, h0, O⟩ := I
  rcases Nat.eq_zero_or_pos t with z | z
  · have := h0 z
    omega
  · obtain ⟨ho, So, e⟩ := O z
    have := lz_st_ge D q (Nat.le_refl _)
    have := (D.2.1 o ho).2.2.2.1
    omega
theorem lz_addN {q o t c : Nat} {s l : Nat → Nat} {sh ll ln tx : Nat → Int32} (I : lz_I q o t s l sh ll ln tx) (ht0 : 0 < t) (ht : t < 120) (hc : c < 4) : lz_I (q + 1) c (t + 1) (lz_u s (q + 4) o) (lz_u l (q + 4) (l o + 1)) (upd sh (q + 4) (nI o)) (upd ll (q + 4) (nI c)) (upd ln (q + 4) (nI (l o + 1))) (upd tx t (nI c)) := by
  have hq := lz_room I ht
  obtain ⟨D, h120, C, h0, O⟩ := I
  obtain ⟨ho, So, e⟩ := O ht0
  have hsj : ∀ j, j < q + 4 → s j ≤ j := fun j hj => (D.2.1 j hj).2.2.1
  have hst := lz_st_u (q := q) (x := o) (y := l o + 1) (l := l) hsj
  have e1 : lz_st (lz_u s (q + 4) o) (lz_u l (q + 4) (l o + 1)) (q + 1) = t := by
    show lz_st (lz_u s (q + 4) o) (lz_u l (q + 4) (l o + 1)) q + lz_u l (q + 4) (l o + 1) (lz_u s (q + 4) o (q + 4)) = t
    rw [hst q (Nat.le_refl _), lz_us, lz_un (by omega)]
    exact e
  obtain ⟨c1, c2⟩ := D.1 c hc
  refine ⟨⟨fun j hj => ?_, fun j hj => ?_, fun j h4 hj => ?_⟩, by omega, fun j hj => ?_, fun z => absurd z (by omega), fun _ => ⟨by omega, ?_, ?_⟩⟩
  · rw [lz_un (by omega), pk_un (by omega)]
    exact D.1 j hj
  · rcases Nat.lt_or_ge j (q + 4) with z | z
    · rw [pk_un (by omega), pk_un (by omega), lz_un (by omega), lz_un (by omega)]
      exact D.2.1 j z
    · have z2 : j = q + 4 := by omega
      subst z2
      rw [pk_us, pk_us, lz_us, lz_us]
      exact ⟨rfl, rfl, by omega, by omega, by omega⟩
  · rcases Nat.lt_or_ge j (q + 4) with z | z
    · obtain ⟨f1, f2⟩ := D.2.2 j h4 z
      rw [lz_un (f := s) (by omega), lz_un (by omega), lz_un (by omega)]
      exact ⟨f1, f2⟩
    · have z2 : j = q + 4 := by omega
      subst z2
      rw [lz_us, lz_us, lz_un (by omega)]
      exact ⟨ho, rfl⟩
  · rcases Nat.lt_or_ge j q with z | z
    · have k1 := hsj (j + 4) (by omega)
      rw [hst j (by omega), lz_un (f := s) (by omega)]
      refine lz_S_u hsj (by omega) (lz_S_tx (C j z) ?_)
      have := lz_st_le s l (show j + 1 ≤ q by omega)
      have z : lz_st s l (j + 1) = lz_st s l j + l (s (j + 4)) := rfl
      omega
    · have z2 : j = q := by omega
      subst z2
      rw [hst j (by omega), lz_us]
      exact lz_S_u hsj ho (lz_S_tx So (by omega))
  · rw [e1]
    refine lz_S_1 ?_ ?_
    · rw [lz_un (by omega)]; exact c1
    · rw [pk_un (by omega), pk_us]; exact c2
  · rw [e1, lz_un (by omega), c1]
end
section
theorem lz_nm1 {n : Nat} (h : n < 2 ^ 31) : ¬ nI n = -1 := by
  intro e
  have h0 := nI_pos' h
  rw [e] at h0
  exact absurd h0 (by decide)
theorem lz_pl1 {q : Nat} {s l : Nat → Nat} {sh ll ln : Nat → Int32} (D : lz_D q s l sh ll ln) (hq : q ≤ 120) (P O T M : Int32) (pl : Nat → Int32) (post : Int32 → Prop) (off : Nat) (ho : off < 120) : ∀ (e p : Nat), e < 120 → p < q + 4 → l p = off + e + 1 → post (ll (lz_it s e p)) → wX_phraseLetter_12 post (nI off) P O T M sh ll ln pl (e + 1) (nI p) (nI (off + e)) := by
  intro e
  induction e with
  | zero =>
    intro p he hp hl h
    refine br_t (nI_le (by omega) (by omega)) ⟨vp_in_nI (by omega) (by omega), ?_⟩
    rw [nI_clamp (by omega)]
    exact h
  | succ e ih =>
    intro p he hp hl h
    have h4 : 4 ≤ p := by
      rcases Nat.lt_or_ge p 4 with z | z
      · have := (D.1 p z).1
        omega
      · exact z
    obtain ⟨h1, h2⟩ := D.2.2 p h4 hp
    refine br_f (nI_ge (by omega) (by omega)) ⟨vp_in_nI (by omega) (by omega), nm_r (e' := nI (s p)) ?_ (nm_r (e' := nI (off + e)) ?_ (ih (s p) (by omega) (by omega) (by omega) h))⟩
    · rw [nI_clamp (by omega)]
      exact (D.2.1 p hp).1
    · exact pk_m1 (off + e)
theorem lz_pl {q : Nat} {s l : Nat → Nat} {sh ll ln tx : Nat → Int32} (D : lz_D q s l sh ll ln) (hq : q ≤ 120) (P O T M : Int32) (pl : Nat → Int32) (post : Int32 → Prop) (p a off : Nat) (hp : p < q + 4) (S : lz_S s l ll tx p a) (ho : off < l p) (h : post (tx (a + off))) : wpX_phraseLetter post (P, O, T, M, sh, ll, ln, pl) (nI p) (nI off) := by
  obtain ⟨_, h2, _, h4, h5⟩ := D.2.1 p hp
  have e : nI (l p) - 1 = nI (off + (l p - 1 - off)) := by
    obtain ⟨k, hk⟩ : ∃ k, l p = k + 1 := ⟨l p - 1, by omega⟩
    rw [hk, nI_pred]
    have : off + (k + 1 - 1 - off) = k := by omega
    rw [this]
  refine ⟨vp_in_nI (by omega) (by omega), nm_r (e' := nI (off + (l p - 1 - off))) ?_ ⟨_, lz_pl1 D hq P O T M pl post off (by omega) (l p - 1 - off) p (by omega) hp (by omega) ?_⟩⟩
  · rw [nI_clamp (by omega), h2]
    exact e
  · rw [S (l p - 1 - off) (by omega)]
    have : a + (l p - 1 - (l p - 1 - off)) = a + off := by omega
    rw [this]
    exact h
theorem lz_q {q o t : Nat} {s l : Nat → Nat} {sh ll ln tx : Nat → Int32} (I : lz_I q o t s l sh ll ln tx) : q ≤ 120 := by
  obtain ⟨D, h120, C, h0, O⟩ := I
  rcases Nat.eq_zero_or_pos t with z | z
  · have := h0 z
    omega
  · obtain ⟨ho, So, e⟩ := O z
    have := lz_st_ge D q (Nat.le_refl _)
    omega
theorem lz_tl1 {q o t : Nat} {s l : Nat → Nat} {sh ll ln tx : Nat → Int32} (I : lz_I q o t s l sh ll ln tx) (M : Int32) (pl : Nat → Int32) (post : Int32 → Prop) (i : Nat) (hi : i < t) (h : post (tx i)) : ∀ d j, j + d = q → lz_st s l j ≤ i → wX_textLetter_4 post (nI i) (nI (q + 4)) (nI o) (nI t) M sh ll ln pl (d + 1) (nI (lz_st s l j)) (nI (j + 4)) := by
  have hq := lz_q I
  obtain ⟨D, h120, C, h0, O⟩ := I
  obtain ⟨ho, So, e⟩ := O (by omega)
  intro d
  induction d with
  | zero =>
    intro j hj hle
    have z : j = q := by omega
    subst z
    refine br_t (nI_le (by omega) (by omega)) ?_
    rw [pk_sub hle]
    refine lz_pl D hq _ _ _ _ pl _ o (lz_st s l j) (i - lz_st s l j) ho So (by omega) ?_
    rw [show lz_st s l j + (i - lz_st s l j) = i by omega]
    exact h
  | succ d ih =>
    intro j hj hle
    have k0 := lz_st_le s l (show j + 1 ≤ q by omega)
    have k1 : lz_st s l (j + 1) = lz_st s l j + l (s (j + 4)) := rfl
    obtain ⟨d1, d2, d3, d4, d5⟩ := D.2.1 (j + 4) (by omega)
    obtain ⟨f1, f2, f3, f4, f5⟩ := D.2.1 (s (j + 4)) (by omega)
    have e1 : sh (nI (j + 4)).toNatClampNeg = nI (s (j + 4)) := by
      rw [nI_clamp (by omega)]
      exact d1
    have e2 : ln (nI (s (j + 4))).toNatClampNeg = nI (l (s (j + 4))) := by
      rw [nI_clamp (by omega)]
      exact f2
    refine br_f (nI_ge (by omega) (by omega)) ⟨vp_in_nI (by omega) (by omega), ?_⟩
    rw [e1, e2]
    refine ⟨vp_in_nI (by omega) (by omega), nm_r (e' := nI (lz_st s l (j + 1))) (nI_add _ _) ?_⟩
    refine pk_le (lz_st s l (j + 1)) i (fun hh => nm_r (e' := nI (j + 1 + 4)) ?_ (ih (j + 1) (by omega) hh)) (fun hh => ⟨vp_in_nI (by omega) (by omega), ?_⟩)
    · rw [nI_1, show j + 4 + 1 = j + 1 + 4 by omega]
    · rw [pk_sub hle]
      refine lz_pl D hq _ _ _ _ pl _ (s (j + 4)) (lz_st s l j) (i - lz_st s l j) (by omega) (C j (by omega)) (by omega) ?_
      rw [show lz_st s l j + (i - lz_st s l j) = i by omega]
      exact h
theorem lz_tl {q o t : Nat} {s l : Nat → Nat} {sh ll ln tx : Nat → Int32} (I : lz_I q o t s l sh ll ln tx) (M : Int32) (pl : Nat → Int32) (post : Int32 → Prop) (i : Nat) (hi : i < t) (h : post (tx i)) : wpX_textLetter post (nI (q + 4), nI o, nI t, M, sh, ll, ln, pl) (nI i) :=
  ⟨q + 1, lz_tl1 I M pl post i hi h q 0 (by omega) (Nat.zero_le _)⟩
theorem lz_lp1 {q : Nat} (hq : q ≤ 120) (o c : Nat) (O T M : Int32) (sh ll ln pl : Nat → Int32) (post : Int32 → Prop) (hN : post (-1)) (hF : ∀ i, 4 ≤ i → i < q + 4 → sh i = nI o → ll i = nI c → post (nI i)) : ∀ d j, j + d = q → wX_longerPhrase_2 post (nI o) (nI c) (nI (q + 4)) O T M sh ll ln pl (d + 1) (nI (j + 4)) := by
  intro d
  induction d with
  | zero =>
    intro j hj
    exact br_t (nI_le (by omega) (by omega)) hN
  | succ d ih =>
    intro j hj
    have e : nI (j + 4) + 1 = nI (j + 1 + 4) := by
      rw [nI_1, show j + 4 + 1 = j + 1 + 4 by omega]
    have z := ih (j + 1) (by omega)
    have hv : vp_in (nI (j + 4)) 124 := vp_in_nI (by omega) (by omega)
    refine br_f (nI_ge (by omega) (by omega)) ⟨hv, br_c (fun h1 => ⟨hv, br_c (fun h2 => hF (j + 4) (by omega) (by omega) ?_ ?_) (fun _ => nm_r e z)⟩) (fun _ => nm_r e z)⟩
    · rw [nI_clamp (by omega)] at h1
      exact h1
    · rw [nI_clamp (by omega)] at h2
      exact h2
theorem lz_lp {q : Nat} (hq : q ≤ 120) (o c : Nat) (O T M : Int32) (sh ll ln pl : Nat → Int32) (post : Int32 → Prop) (hN : post (-1)) (hF : ∀ i, 4 ≤ i → i < q + 4 → sh i = nI o → ll i = nI c → post (nI i)) : wpX_longerPhrase post (nI (q + 4), O, T, M, sh, ll, ln, pl) (nI o) (nI c) :=
  ⟨q + 1, lz_lp1 hq o c O T M sh ll ln pl post hN hF q 0 (by omega)⟩
theorem lz_at {q o t : Nat} {s l : Nat → Nat} {sh ll ln tx : Nat → Int32} (I : lz_I q o t s l sh ll ln tx) (ht : t < 120) (c : Nat) (hc : c < 4) (M : Int32) (pl : Nat → Int32) (post : SX → Prop) (h : ∀ (q' o' : Nat) (s' l' : Nat → Nat) (sh' ll' ln' : Nat → Int32), lz_I q' o' (t + 1) s' l' sh' ll' ln' (upd tx t (nI c)) → post (nI (q' + 4), nI o', nI (t + 1), M, sh', ll', ln', pl)) : wpX_addToText post (nI (q + 4), nI o, nI t, M, sh, ll, ln, pl) (nI c) := by
  have hq := lz_room I ht
  rcases Nat.eq_zero_or_pos t with z | z
  · subst z
    refine br_t nI_0 ?_
    exact br_f (lz_nm1 (by omega)) (nm_r (nI_1 0) (h q c s l sh ll ln (lz_add0 I hc)))
  · refine br_f (nI_ne0 z (by omega)) ?_
    obtain ⟨ho, So, e⟩ := I.2.2.2.2 z
    obtain ⟨d1, d2, d3, d4, d5⟩ := I.1.2.1 o ho
    have hv : vp_in (nI (q + 4)) 124 := vp_in_nI (by omega) (by omega)
    have ec : (nI (q + 4)).toNatClampNeg = q + 4 := nI_clamp (by omega)
    refine lz_lp (by omega) o c _ _ _ sh ll ln pl _ ?_ ?_
    · refine br_t rfl ?_
      refine ⟨hv, nm_r (e' := upd sh (q + 4) (nI o)) (by rw [ec]) ⟨hv, nm_r (e' := upd ll (q + 4) (nI c)) (by rw [ec]) ⟨vp_in_nI (by omega) (by omega), hv, nm_r (e' := upd ln (q + 4) (nI (l o + 1))) ?_ (nm_r (e' := nI (q + 1 + 4)) ?_ ?_)⟩⟩⟩
      · rw [ec, nI_clamp (by omega), d2, nI_1]
      · rw [nI_1, show q + 4 + 1 = q + 1 + 4 by omega]
      · exact nm_r (nI_1 t) (h (q + 1) c _ _ _ _ _ (lz_addN I z ht hc))
    · intro i h4 hi hs hl
      exact br_f (lz_nm1 (by omega)) (nm_r (nI_1 t) (h q i s l sh ll ln (lz_addF I z ht h4 hi hs hl)))
end
