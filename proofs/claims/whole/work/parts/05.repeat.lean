/-- all letters of the text are letters -/
def lz_L (t : Nat) (tx : Nat → Int32) : Prop := ∀ i, i < t → ∃ c, c < 4 ∧ tx i = nI c
theorem lz_L_u {t c : Nat} {tx : Nat → Int32} (h : lz_L t tx) (hc : c < 4) : lz_L (t + 1) (upd tx t (nI c)) := by
  intro i hi
  rcases Nat.lt_or_ge i t with z | z
  · rw [pk_un (by omega)]
    exact h i z
  · have y : i = t := by omega
    subst y
    exact ⟨c, hc, pk_us⟩
theorem lz_L_4 {m : Nat} {pl : Nat → Int32} (h : lz_L m pl) : ∀ i, i < m → ¬ (-4) = pl i := by
  intro i hi e
  obtain ⟨c, hc, ec⟩ := h i hi
  rw [ec] at e
  have h0 := nI_pos' (n := c) (by omega)
  rw [← e] at h0
  exact absurd h0 (by decide)
/-- the text of t letters, d times lengthened by the letter at a, a + 1 and on -/
def lz_rp : Nat → (Nat → Int32) → Nat → Nat → (Nat → Int32)
  | 0, tx, _, _ => tx
  | d + 1, tx, t, a => lz_rp d (upd tx t (tx a)) (t + 1) (a + 1)
theorem lz_xr (M : Int32) (pl : Nat → Int32) (post : Int32 → SX → Prop) (f n : Nat) (hn : n ≤ 120) : ∀ (d i q o t : Nat) (s l : Nat → Nat) (sh ll ln tx : Nat → Int32), lz_I q o t s l sh ll ln tx → lz_L t tx → f + i < t → t + d ≤ 120 → i + d = n → (∀ (q' o' : Nat) (s' l' : Nat → Nat) (sh' ll' ln' : Nat → Int32), lz_I q' o' (t + d) s' l' sh' ll' ln' (lz_rp d tx t (f + i)) → lz_L (t + d) (lz_rp d tx t (f + i)) → post (nI (t + d)) (nI (q' + 4), nI o', nI (t + d), M, sh', ll', ln', pl)) → wX_repeat_27 post (nI f) (nI n) (d + 1) (nI i) (nI (q + 4)) (nI o) (nI t) M sh ll ln pl := by
  intro d
  induction d with
  | zero =>
    intro i q o t s l sh ll ln tx I L hf hd hi h
    exact br_t (nI_le (by omega) (by omega)) (h q o s l sh ll ln I L)
  | succ d ih =>
    intro i q o t s l sh ll ln tx I L hf hd hi h
    obtain ⟨c, hc, ec⟩ := L (f + i) hf
    refine br_f (nI_ge (by omega) (by omega)) ?_
    rw [nI_add f i]
    refine lz_tl I M pl _ (f + i) hf ?_
    rw [ec]
    refine lz_at I (by omega) c hc M pl _ ?_
    intro q' o' s' l' sh' ll' ln' I'
    refine nm_r (nI_1 i) (ih (i + 1) q' o' (t + 1) s' l' sh' ll' ln' _ I' (lz_L_u L hc) (by omega) (by omega) (by omega) ?_)
    have e2 : lz_rp (d + 1) tx t (f + i) = lz_rp d (upd tx t (nI c)) (t + 1) (f + (i + 1)) := by
      show lz_rp d (upd tx t (tx (f + i))) (t + 1) (f + i + 1) = _
      rw [ec]
      rfl
    rw [show t + (d + 1) = t + 1 + d by omega, e2] at h
    exact h
theorem lz_ya {t c : Nat} (ht : t < 120) (hc : c < 4) (M : Int32) (tx pl : Nat → Int32) (post : Int32 → SY → Prop) (h : post (nI (t + 1)) (nI (t + 1), M, upd tx t (nI c), pl)) : wpY_append post (nI t, M, tx, pl) (nI c) := by
  unfold wpY_append
  dsimp only
  refine lz_yi1 _ hc _ ?_
  refine br_f lz_10 (br_f ?_ ⟨vp_in_nI (by omega) (by omega), nm_r (e' := upd tx t (nI c)) (by rw [nI_clamp (by omega)]) (nm_r (nI_1 t) h)⟩)
  intro z
  have := (nI_eq (a := t) (b := 120) (by omega) (by omega)).mp z
  omega
theorem lz_yr (M : Int32) (pl : Nat → Int32) (post : Int32 → SY → Prop) (f n : Nat) (hn : n ≤ 120) : ∀ (d i t : Nat) (tx : Nat → Int32), lz_L t tx → f + i < t → t + d ≤ 120 → i + d = n → post (nI (t + d)) (nI (t + d), M, lz_rp d tx t (f + i), pl) → wY_repeat_42 post (nI f) (nI n) (d + 1) (nI i) (nI t) M tx pl := by
  intro d
  induction d with
  | zero =>
    intro i t tx L hf hd hi h
    exact br_t (nI_le (by omega) (by omega)) h
  | succ d ih =>
    intro i t tx L hf hd hi h
    obtain ⟨c, hc, ec⟩ := L (f + i) hf
    refine br_f (nI_ge (by omega) (by omega)) ?_
    rw [nI_add f i]
    refine ⟨vp_in_nI (by omega) (by omega), ?_⟩
    rw [nI_clamp (by omega), ec]
    refine lz_ya (by omega) hc M tx pl _ ?_
    refine nm_r (nI_1 i) (ih (i + 1) (t + 1) _ (lz_L_u L hc) (by omega) (by omega) (by omega) ?_)
    have e2 : lz_rp (d + 1) tx t (f + i) = lz_rp d (upd tx t (nI c)) (t + 1) (f + (i + 1)) := by
      show lz_rp d (upd tx t (tx (f + i))) (t + 1) (f + i + 1) = _
      rw [ec]
      rfl
    rw [show t + (d + 1) = t + 1 + d by omega, e2] at h
    exact h
theorem lz_in0 {t : Nat} (ht : t ≤ 120) {x : Int32} (P O M : Int32) (sh ll ln pl : Nat → Int32) (h : x < 0 ∨ nI t ≤ x) (post : Int32 → Prop) (hp : post 0) : wpX_isInText post (P, O, nI t, M, sh, ll, ln, pl) x := by
  rcases h with z | z
  · exact br_t z hp
  · exact br_f (Int32.not_lt.mpr (Int32.le_trans (nI_pos' (n := t) (by omega)) z)) (br_t z hp)
theorem lz_in1 {t i : Nat} (ht : t ≤ 120) (hi : i < t) (P O M : Int32) (sh ll ln pl : Nat → Int32) (post : Int32 → Prop) (hp : post 1) : wpX_isInText post (P, O, nI t, M, sh, ll, ln, pl) (nI i) :=
  br_f (nI_pos (by omega)) (br_f (nI_ge hi (by omega)) hp)
theorem lz_yr9 {t : Nat} (ht : t ≤ 120) {x : Int32} (M z0 : Int32) (tx pl : Nat → Int32) (h : x < 0 ∨ nI t ≤ x) (post : Int32 → SY → Prop) (hp : post (-3) (nI t, M, tx, pl)) : wY_repeat_9 post x z0 (nI t) M tx pl := by
  rcases h with z | z
  · exact br_t z hp
  · exact br_f (Int32.not_lt.mpr (Int32.le_trans (nI_pos' (n := t) (by omega)) z)) (br_f (Int32.not_lt.mpr z) hp)
theorem lz_120 {t : Nat} (ht : t ≤ 120) : (120 : Int32) - nI t = nI (120 - t) := pk_sub (a := 120) ht
