theorem lz_nm1 {n : Nat} (h : n < 2 ^ 31) : ¬ nI n = -1 := by
  intro e
  have h0 := nI_pos' h
  rw [e] at h0
  exact absurd h0 (by decide)
theorem lz_pl1 {q : Nat} {s l : Nat → Nat} {sh ll ln : Nat → Int32} (D : lz_D q s l sh ll ln) (hq : q ≤ 120) (P O T M : Int32) (pl : Nat → Int32) (post : Int32 → Prop) (off : Nat) (ho : off < 120) : ∀ (e p : Nat), e < 120 → p < q + 4 → l p = off + e + 1 → post (ll (lz_it s e p)) → wX_phraseLetter_12 post (nI off) P O T M sh ll ln pl (e + 1) (nI p) (nI (off + e)) := by
  intro e
  induction e with
  | zero =>
    intro p he hp hl h
    refine br_t (nI_le (by omega) (by omega)) ⟨vp_in_nI (by omega) (by omega), ?_⟩
    rw [nI_clamp (by omega)]
    exact h
  | succ e ih =>
    intro p he hp hl h
    have h4 : 4 ≤ p := by
      rcases Nat.lt_or_ge p 4 with z | z
      · have := (D.1 p z).1
        omega
      · exact z
    obtain ⟨h1, h2⟩ := D.2.2 p h4 hp
    refine br_f (nI_ge (by omega) (by omega)) ⟨vp_in_nI (by omega) (by omega), nm_r (e' := nI (s p)) ?_ (nm_r (e' := nI (off + e)) ?_ (ih (s p) (by omega) (by omega) (by omega) h))⟩
    · rw [nI_clamp (by omega)]
      exact (D.2.1 p hp).1
    · exact pk_m1 (off + e)
theorem lz_pl {q : Nat} {s l : Nat → Nat} {sh ll ln tx : Nat → Int32} (D : lz_D q s l sh ll ln) (hq : q ≤ 120) (P O T M : Int32) (pl : Nat → Int32) (post : Int32 → Prop) (p a off : Nat) (hp : p < q + 4) (S : lz_S s l ll tx p a) (ho : off < l p) (h : post (tx (a + off))) : wpX_phraseLetter post (P, O, T, M, sh, ll, ln, pl) (nI p) (nI off) := by
  obtain ⟨_, h2, _, h4, h5⟩ := D.2.1 p hp
  have e : nI (l p) - 1 = nI (off + (l p - 1 - off)) := by
    obtain ⟨k, hk⟩ : ∃ k, l p = k + 1 := ⟨l p - 1, by omega⟩
    rw [hk, nI_pred]
    have : off + (k + 1 - 1 - off) = k := by omega
    rw [this]
  refine ⟨vp_in_nI (by omega) (by omega), nm_r (e' := nI (off + (l p - 1 - off))) ?_ ⟨_, lz_pl1 D hq P O T M pl post off (by omega) (l p - 1 - off) p (by omega) hp (by omega) ?_⟩⟩
  · rw [nI_clamp (by omega), h2]
    exact e
  · rw [S (l p - 1 - off) (by omega)]
    have : a + (l p - 1 - (l p - 1 - off)) = a + off := by omega
    rw [this]
    exact h
theorem lz_q {q o t : Nat} {s l : Nat → Nat} {sh ll ln tx : Nat → Int32} (I : lz_I q o t s l sh ll ln tx) : q ≤ 120 := by
  obtain ⟨D, h120, C, h0, O⟩ := I
  rcases Nat.eq_zero_or_pos t with z | z
  · have := h0 z
    omega
  · obtain ⟨ho, So, e⟩ := O z
    have := lz_st_ge D q (Nat.le_refl _)
    omega
theorem lz_tl1 {q o t : Nat} {s l : Nat → Nat} {sh ll ln tx : Nat → Int32} (I : lz_I q o t s l sh ll ln tx) (M : Int32) (pl : Nat → Int32) (post : Int32 → Prop) (i : Nat) (hi : i < t) (h : post (tx i)) : ∀ d j, j + d = q → lz_st s l j ≤ i → wX_textLetter_4 post (nI i) (nI (q + 4)) (nI o) (nI t) M sh ll ln pl (d + 1) (nI (lz_st s l j)) (nI (j + 4)) := by
  have hq := lz_q I
  obtain ⟨D, h120, C, h0, O⟩ := I
  obtain ⟨ho, So, e⟩ := O (by omega)
  intro d
  induction d with
  | zero =>
    intro j hj hle
    have z : j = q := by omega
    subst z
    refine br_t (nI_le (by omega) (by omega)) ?_
    rw [pk_sub hle]
    refine lz_pl D hq _ _ _ _ pl _ o (lz_st s l j) (i - lz_st s l j) ho So (by omega) ?_
    rw [show lz_st s l j + (i - lz_st s l j) = i by omega]
    exact h
  | succ d ih =>
    intro j hj hle
    have k0 := lz_st_le s l (show j + 1 ≤ q by omega)
    have k1 : lz_st s l (j + 1) = lz_st s l j + l (s (j + 4)) := rfl
    obtain ⟨d1, d2, d3, d4, d5⟩ := D.2.1 (j + 4) (by omega)
    obtain ⟨f1, f2, f3, f4, f5⟩ := D.2.1 (s (j + 4)) (by omega)
    have e1 : sh (nI (j + 4)).toNatClampNeg = nI (s (j + 4)) := by
      rw [nI_clamp (by omega)]
      exact d1
    have e2 : ln (nI (s (j + 4))).toNatClampNeg = nI (l (s (j + 4))) := by
      rw [nI_clamp (by omega)]
      exact f2
    refine br_f (nI_ge (by omega) (by omega)) ⟨vp_in_nI (by omega) (by omega), ?_⟩
    rw [e1, e2]
    refine ⟨vp_in_nI (by omega) (by omega), nm_r (e' := nI (lz_st s l (j + 1))) (nI_add _ _) ?_⟩
    refine pk_le (lz_st s l (j + 1)) i (fun hh => nm_r (e' := nI (j + 1 + 4)) ?_ (ih (j + 1) (by omega) hh)) (fun hh => ⟨vp_in_nI (by omega) (by omega), ?_⟩)
    · rw [nI_1, show j + 4 + 1 = j + 1 + 4 by omega]
    · rw [pk_sub hle]
      refine lz_pl D hq _ _ _ _ pl _ (s (j + 4)) (lz_st s l j) (i - lz_st s l j) (by omega) (C j (by omega)) (by omega) ?_
      rw [show lz_st s l j + (i - lz_st s l j) = i by omega]
      exact h
theorem lz_tl {q o t : Nat} {s l : Nat → Nat} {sh ll ln tx : Nat → Int32} (I : lz_I q o t s l sh ll ln tx) (M : Int32) (pl : Nat → Int32) (post : Int32 → Prop) (i : Nat) (hi : i < t) (h : post (tx i)) : wpX_textLetter post (nI (q + 4), nI o, nI t, M, sh, ll, ln, pl) (nI i) :=
  ⟨q + 1, lz_tl1 I M pl post i hi h q 0 (by omega) (Nat.zero_le _)⟩
theorem lz_lp1 {q : Nat} (hq : q ≤ 120) (o c : Nat) (O T M : Int32) (sh ll ln pl : Nat → Int32) (post : Int32 → Prop) (hN : post (-1)) (hF : ∀ i, 4 ≤ i → i < q + 4 → sh i = nI o → ll i = nI c → post (nI i)) : ∀ d j, j + d = q → wX_longerPhrase_2 post (nI o) (nI c) (nI (q + 4)) O T M sh ll ln pl (d + 1) (nI (j + 4)) := by
  intro d
  induction d with
  | zero =>
    intro j hj
    exact br_t (nI_le (by omega) (by omega)) hN
  | succ d ih =>
    intro j hj
    have e : nI (j + 4) + 1 = nI (j + 1 + 4) := by
      rw [nI_1, show j + 4 + 1 = j + 1 + 4 by omega]
    have z := ih (j + 1) (by omega)
    have hv : vp_in (nI (j + 4)) 124 := vp_in_nI (by omega) (by omega)
    refine br_f (nI_ge (by omega) (by omega)) ⟨hv, br_c (fun h1 => ⟨hv, br_c (fun h2 => hF (j + 4) (by omega) (by omega) ?_ ?_) (fun _ => nm_r e z)⟩) (fun _ => nm_r e z)⟩
    · rw [nI_clamp (by omega)] at h1
      exact h1
    · rw [nI_clamp (by omega)] at h2
      exact h2
theorem lz_lp {q : Nat} (hq : q ≤ 120) (o c : Nat) (O T M : Int32) (sh ll ln pl : Nat → Int32) (post : Int32 → Prop) (hN : post (-1)) (hF : ∀ i, 4 ≤ i → i < q + 4 → sh i = nI o → ll i = nI c → post (nI i)) : wpX_longerPhrase post (nI (q + 4), O, T, M, sh, ll, ln, pl) (nI o) (nI c) :=
  ⟨q + 1, lz_lp1 hq o c O T M sh ll ln pl post hN hF q 0 (by omega)⟩
theorem lz_at {q o t : Nat} {s l : Nat → Nat} {sh ll ln tx : Nat → Int32} (I : lz_I q o t s l sh ll ln tx) (ht : t < 120) (c : Nat) (hc : c < 4) (M : Int32) (pl : Nat → Int32) (post : SX → Prop) (h : ∀ (q' o' : Nat) (s' l' : Nat → Nat) (sh' ll' ln' : Nat → Int32), lz_I q' o' (t + 1) s' l' sh' ll' ln' (upd tx t (nI c)) → post (nI (q' + 4), nI o', nI (t + 1), M, sh', ll', ln', pl)) : wpX_addToText post (nI (q + 4), nI o, nI t, M, sh, ll, ln, pl) (nI c) := by
  have hq := lz_room I ht
  rcases Nat.eq_zero_or_pos t with z | z
  · subst z
    refine br_t nI_0 ?_
    exact br_f (lz_nm1 (by omega)) (nm_r (nI_1 0) (h q c s l sh ll ln (lz_add0 I hc)))
  · refine br_f (nI_ne0 z (by omega)) ?_
    obtain ⟨ho, So, e⟩ := I.2.2.2.2 z
    obtain ⟨d1, d2, d3, d4, d5⟩ := I.1.2.1 o ho
    have hv : vp_in (nI (q + 4)) 124 := vp_in_nI (by omega) (by omega)
    have ec : (nI (q + 4)).toNatClampNeg = q + 4 := nI_clamp (by omega)
    refine lz_lp (by omega) o c _ _ _ sh ll ln pl _ ?_ ?_
    · refine br_t rfl ?_
      refine ⟨hv, nm_r (e' := upd sh (q + 4) (nI o)) (by rw [ec]) ⟨hv, nm_r (e' := upd ll (q + 4) (nI c)) (by rw [ec]) ⟨vp_in_nI (by omega) (by omega), hv, nm_r (e' := upd ln (q + 4) (nI (l o + 1))) ?_ (nm_r (e' := nI (q + 1 + 4)) ?_ ?_)⟩⟩⟩
      · rw [ec, nI_clamp (by omega), d2, nI_1]
      · rw [nI_1, show q + 4 + 1 = q + 1 + 4 by omega]
      · exact nm_r (nI_1 t) (h (q + 1) c _ _ _ _ _ (lz_addN I z ht hc))
    · intro i h4 hi hs hl
      exact br_f (lz_nm1 (by omega)) (nm_r (nI_1 t) (h q i s l sh ll ln (lz_addF I z ht h4 hi hs hl)))
