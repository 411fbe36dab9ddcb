theorem lz_lei {n : Int32} {i : Nat} (hi : i < 2 ^ 30) : n ≤ nI i ↔ n < nI (i + 1) := by
  rw [Int32.le_iff_toInt_le, Int32.lt_iff_toInt_lt, nI_toInt (by omega), nI_toInt (by omega)]
  omega
theorem lz_We {n : Int32} {t e i : Nat} (ht : t ≤ 120) (W : lz_W n t e) (hi : i < t) : n ≤ nI i ↔ e ≤ i := by
  rw [lz_lei (by omega), W.2 (i + 1) (by omega) (by omega)]
  omega
theorem lz_xf1 {q o t : Nat} {s l : Nat → Nat} {sh ll ln tx : Nat → Int32} (I : lz_I q o t s l sh ll ln tx) (M c : Int32) (pl : Nat → Int32) (post : Int32 → Prop) (e : Nat) (he : e ≤ t) (h : post (nI (lz_cn (fun i => tx i = c) e))) : ∀ d i, i + d = e → wX_frequency_21 post c (nI e) (nI (q + 4)) (nI o) (nI t) M sh ll ln pl (d + 1) (nI (lz_cn (fun i => tx i = c) i)) (nI i) := by
  have ht := I.2.1
  intro d
  induction d with
  | zero =>
    intro i hi
    have y : i = e := by omega
    subst y
    exact br_t (nI_le (by omega) (by omega)) h
  | succ d ih =>
    intro i hi
    refine br_f (nI_ge (by omega) (by omega)) ?_
    have z := ih (i + 1) (by omega)
    refine lz_tl I M pl _ i (by omega) ?_
    refine br_c (fun w => ?_) (fun w => ?_)
    · rw [lz_cn_t (P := fun i => tx i = c) w] at z
      exact nm_r (nI_1 _) (nm_r (nI_1 i) z)
    · rw [lz_cn_f (P := fun i => tx i = c) w] at z
      exact nm_r (nI_1 i) z
theorem lz_yf1 {t : Nat} (ht : t ≤ 120) (M c n : Int32) (tx pl : Nat → Int32) (post : Int32 → Prop) (e : Nat) (W : lz_W n t e) (h : post (nI (lz_cn (fun i => tx i = c) e))) : ∀ d i, i + d = e → wY_frequency_15 post c n (nI t) M tx pl (d + 1) (nI (lz_cn (fun i => tx i = c) i)) (nI i) := by
  have he := W.1
  intro d
  induction d with
  | zero =>
    intro i hi
    have y : i = e := by omega
    subst y
    refine br_c (fun _ => h) (fun w => ?_)
    rcases Nat.lt_or_ge i t with z | z
    · exact absurd ((lz_We ht W z).mpr (Nat.le_refl _)) w
    · exact br_t (nI_le z (by omega)) h
  | succ d ih =>
    intro i hi
    have w : ¬ n ≤ nI i := fun w => absurd ((lz_We ht W (by omega)).mp w) (by omega)
    have z := ih (i + 1) (by omega)
    refine br_f w (br_f (nI_ge (by omega) (by omega)) ⟨vp_in_nI (by omega) (by omega), ?_⟩)
    rw [nI_clamp (by omega)]
    refine br_c (fun w => ?_) (fun w => ?_)
    · rw [lz_cn_t (P := fun i => tx i = c) w] at z
      exact nm_r (nI_1 _) (nm_r (nI_1 i) z)
    · rw [lz_cn_f (P := fun i => tx i = c) w] at z
      exact nm_r (nI_1 i) z
/-- the greatest k up to n that has P, or 0 -/
noncomputable def lz_ov (P : Nat → Prop) : Nat → Nat
  | 0 => 0
  | n + 1 => @ite Nat (P (n + 1)) (Classical.propDecidable _) (n + 1) (lz_ov P n)
theorem lz_ov_t {P : Nat → Prop} {n : Nat} (h : P (n + 1)) : lz_ov P (n + 1) = n + 1 := by
  show @ite Nat (P (n + 1)) (Classical.propDecidable _) (n + 1) (lz_ov P n) = _
  rw [if_pos h]
theorem lz_ov_f {P : Nat → Prop} {n : Nat} (h : ¬ P (n + 1)) : lz_ov P (n + 1) = lz_ov P n := by
  show @ite Nat (P (n + 1)) (Classical.propDecidable _) (n + 1) (lz_ov P n) = _
  rw [if_neg h]
/-- the pattern's first k letters end the text -/
def lz_V (t : Nat) (tx pl : Nat → Int32) (k : Nat) : Prop := lz_M tx pl (t - k) k
theorem lz_xo {q o t : Nat} {s l : Nat → Nat} {sh ll ln tx : Nat → Int32} (I : lz_I q o t s l sh ll ln tx) (M : Int32) (pl : Nat → Int32) (post : Int32 → Prop) : ∀ k, k ≤ t → k ≤ 10 → post (nI (lz_ov (lz_V t tx pl) k)) → wX_overlap_25 post (nI (q + 4)) (nI o) (nI t) M sh ll ln pl (k + 1) (nI k) := by
  have ht := I.2.1
  intro k
  induction k with
  | zero =>
    intro h1 h2 h
    exact br_t (nI_le (a := 0) (b := 0) (by omega) (by omega)) h
  | succ k ih =>
    intro h1 h2 h
    refine br_f (nI_nle (by omega) (by omega)) ?_
    rw [pk_sub h1]
    refine lz_ps I M pl _ (t - (k + 1)) (k + 1) (by omega) h2 (fun w => ?_) (fun w => ?_)
    · rw [lz_ov_t (P := lz_V t tx pl) w] at h
      exact br_f lz_10 h
    · rw [lz_ov_f (P := lz_V t tx pl) w] at h
      exact br_t rfl (nm_r (pk_m1 k) (ih (by omega) (by omega) h))
theorem lz_yv {t m : Nat} (ht : t ≤ 120) (hm : m ≤ 10) (tx pl : Nat → Int32) (hp : ∀ i, i < m → ¬ (-4) = pl i) (post : Int32 → Prop) (L : Nat) (hL1 : L ≤ m) (hL2 : L ≤ t) (hL : L = m ∨ L = t) (h : post (nI (lz_ov (lz_V t tx pl) L))) : ∀ d i, i + d = L → wY_overlap_4 post (nI t) (nI m) tx pl (d + 1) (nI (lz_ov (lz_V t tx pl) i)) (nI (i + 1)) := by
  intro d
  induction d with
  | zero =>
    intro i hi
    have y : i = L := by omega
    subst y
    refine br_c (fun _ => h) (fun w => ?_)
    rcases hL with z | z
    · exact absurd (nI_lt (show m < i + 1 by omega) (by omega)) w
    · exact br_t (nI_lt (by omega) (by omega)) h
  | succ d ih =>
    intro i hi
    refine br_f (nI_nlt (by omega) (by omega)) (br_f (nI_nlt (by omega) (by omega)) ?_)
    rw [pk_sub (by omega)]
    have z := ih (i + 1) (by omega)
    refine lz_ys ht _ tx pl _ (t - (i + 1)) (i + 1) (by omega) (by omega) (fun j hj => hp j (by omega)) (fun _ w => ?_) (fun w => ?_)
    · rw [lz_ov_t (P := lz_V t tx pl) w] at z
      exact br_f lz_10 (nm_r (nI_1 (i + 1)) z)
    · rw [lz_ov_f (P := lz_V t tx pl) (fun v => w ⟨by omega, v⟩)] at z
      exact br_t rfl (nm_r (nI_1 (i + 1)) z)
theorem lz_yp0 {t m : Nat} (ht : t ≤ 120) (hm : m ≤ 10) (tx pl : Nat → Int32) (hp : ∀ i, i < m → ¬ (-4) = pl i) (n f : Int32) (post : Int32 → Prop) (h : post (-4)) : ∀ d i, i + d = t → (∀ j, i ≤ j → ¬ lz_O t m tx pl j) → wY_position_4 post n (nI t) (nI m) tx pl (d + 1) f (nI i) := by
  intro d
  induction d with
  | zero =>
    intro i hi _
    exact br_t (nI_le (by omega) (by omega)) h
  | succ d ih =>
    intro i hi hn
    refine br_f (nI_ge (by omega) (by omega)) ?_
    refine lz_yo ht hm tx pl hp _ i (by omega) (fun w => absurd w (hn i (Nat.le_refl _))) (fun w => ?_)
    exact br_t rfl (nm_r (nI_1 i) (ih (i + 1) (by omega) (fun j hj => hn j (by omega))))
theorem lz_po {q o t m : Nat} {s l : Nat → Nat} {sh ll ln tx : Nat → Int32} (I : lz_I q o t s l sh ll ln tx) (h0m : 0 < m) (hm : m ≤ 10) (pl : Nat → Int32) (hp : ∀ i, i < m → ¬ (-4) = pl i) (n : Int32) : ∀ (d i : Nat) (f : Int32), i + d = t + 1 - m → ∃ r : Int32, (∀ post : Int32 → Prop, post r → wX_position_14 post n (nI (q + 4)) (nI o) (nI t) (nI m) sh ll ln pl (d + 1) f (nI i)) ∧ (∀ post : Int32 → Prop, post r → wY_position_4 post n (nI t) (nI m) tx pl (t - i + 1) f (nI i)) := by
  have ht := I.2.1
  intro d
  induction d with
  | zero =>
    intro i f hi
    refine ⟨-4, fun post h => br_t ?_ h, fun post h => lz_yp0 ht hm tx pl hp n f post h (t - i) i (by omega) (fun j hj w => absurd w.2.1 (by omega))⟩
    rcases Nat.lt_or_ge t m with z | z
    · have y : i = 0 := by omega
      subst y
      exact pk_sneg (by omega) z
    · rw [pk_sub z]
      exact nI_lt (by omega) (by omega)
  | succ d ih =>
    intro i f hi
    have hx : ¬ nI t - nI m < nI i := by
      rw [pk_sub (by omega)]
      exact nI_nlt (by omega) (by omega)
    have hy : ¬ nI t ≤ nI i := nI_ge (by omega) (by omega)
    have et : t - i + 1 = t - (i + 1) + 1 + 1 := by omega
    rw [et]
    by_cases w : lz_M tx pl i m
    · by_cases g : f = n
      · refine ⟨nI i, fun post h => br_f hx ?_, fun post h => br_f hy ?_⟩
        · exact lz_ps I _ pl _ i m (by omega) hm (fun _ => br_f lz_10 (br_t g h)) (fun v => absurd w v)
        · exact lz_yo ht hm tx pl hp _ i (by omega) (fun _ => br_f lz_10 (br_t g h)) (fun v => absurd ⟨h0m, by omega, w⟩ v)
      · obtain ⟨r, hX, hY⟩ := ih (i + 1) (f + 1) (by omega)
        refine ⟨r, fun post h => br_f hx ?_, fun post h => br_f hy ?_⟩
        · exact lz_ps I _ pl _ i m (by omega) hm (fun _ => br_f lz_10 (br_f g (nm_e (nm_r (nI_1 i) (hX post h))))) (fun v => absurd w v)
        · exact lz_yo ht hm tx pl hp _ i (by omega) (fun _ => br_f lz_10 (br_f g (nm_e (nm_r (nI_1 i) (hY post h))))) (fun v => absurd ⟨h0m, by omega, w⟩ v)
    · obtain ⟨r, hX, hY⟩ := ih (i + 1) f (by omega)
      refine ⟨r, fun post h => br_f hx ?_, fun post h => br_f hy ?_⟩
      · exact lz_ps I _ pl _ i m (by omega) hm (fun v => absurd v w) (fun _ => br_t rfl (nm_r (nI_1 i) (hX post h)))
      · exact lz_yo ht hm tx pl hp _ i (by omega) (fun v => absurd v.2.2 w) (fun _ => br_t rfl (nm_r (nI_1 i) (hY post h)))
theorem lz_xi0 {x : Int32} (h : x < 0 ∨ nI 4 ≤ x) (post : Int32 → Prop) (hp : post 0) : wpX_isLetter post x := by
  rcases h with z | z
  · exact br_t z hp
  · exact br_f (Int32.not_lt.mpr (Int32.le_trans (nI_pos' (n := 4) (by omega)) z)) (br_t z hp)
theorem lz_xi1 {c : Nat} (h : c < 4) (post : Int32 → Prop) (hp : post 1) : wpX_isLetter post (nI c) :=
  br_f (nI_pos (by omega)) (br_f (nI_ge (b := 4) h (by omega)) hp)
theorem lz_yi0 {x : Int32} (v : SY) (h : x < 0 ∨ nI 4 ≤ x) (post : Int32 → Prop) (hp : post 0) : wpY_isLetter post v x := by
  rcases h with z | z
  · exact br_t z hp
  · exact br_f (Int32.not_lt.mpr (Int32.le_trans (nI_pos' (n := 4) (by omega)) z)) (br_t (Int32.lt_of_lt_of_le (nI_lt (a := 3) (b := 4) (by omega) (by omega)) z) hp)
theorem lz_yi1 {c : Nat} (v : SY) (h : c < 4) (post : Int32 → Prop) (hp : post 1) : wpY_isLetter post v (nI c) :=
  br_f (nI_pos (by omega)) (br_f (nI_nlt (b := c) (a := 3) (by omega) (by omega)) hp)
theorem lz_let (x : Int32) : (x < 0 ∨ nI 4 ≤ x) ∨ ∃ c, c < 4 ∧ x = nI c := by
  rcases pk_ix x (n := 4) (by omega) with z | z | z
  · exact Or.inl (Or.inl z)
  · exact Or.inl (Or.inr z)
  · exact Or.inr z
