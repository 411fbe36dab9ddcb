/-- the phrases of the component are the reference's letters; the two patterns are the same -/
def i_Rel (_ : Nat) (u : SX) (v : SY) : Prop :=
  ∃ (q o t m : Nat) (s l : Nat → Nat) (sh ll ln tx pl : Nat → Int32), u = (nI (q + 4), nI o, nI t, nI m, sh, ll, ln, pl) ∧ v = (nI t, nI m, tx, pl) ∧ lz_I q o t s l sh ll ln tx ∧ m ≤ 10 ∧ lz_L t tx ∧ lz_L m pl
theorem i_up {k : Nat} {u : SX} {v : SY} (h : i_Rel k u v) : i_Rel (k + 3) u v := h
theorem i_vc0 : wpX_init (fun u => wpY_init (fun v => i_Rel 0 u v)) := by
  have v0 : vp_in (nI 0) 124 := vp_in_nI (by omega) (by omega)
  have v1 : vp_in (nI 1) 124 := vp_in_nI (by omega) (by omega)
  have v2 : vp_in (nI 2) 124 := vp_in_nI (by omega) (by omega)
  have v3 : vp_in (nI 3) 124 := vp_in_nI (by omega) (by omega)
  refine ⟨5, ?_⟩
  refine br_f (by decide) ⟨v0, nm_e ⟨v0, nm_e (nm_r (nI_1 0) ?_)⟩⟩
  refine br_f (nI_ge (a := 1) (b := 4) (by omega) (by omega)) ⟨v1, nm_e ⟨v1, nm_e (nm_r (nI_1 1) ?_)⟩⟩
  refine br_f (nI_ge (a := 2) (b := 4) (by omega) (by omega)) ⟨v2, nm_e ⟨v2, nm_e (nm_r (nI_1 2) ?_)⟩⟩
  refine br_f (nI_ge (a := 3) (b := 4) (by omega) (by omega)) ⟨v3, nm_e ⟨v3, nm_e (nm_r (nI_1 3) ?_)⟩⟩
  refine br_t (nI_le (a := 4) (b := 4) (by omega) (by omega)) ?_
  refine ⟨0, 0, 0, 0, fun _ => 0, fun _ => 1, _, _, _, _, _, rfl, rfl, ⟨⟨fun j hj => ?_, fun j hj => ?_, fun j h4 hj => absurd hj (by omega)⟩, by omega, fun i hi => absurd hi (by omega), fun _ => rfl, fun h => absurd h (by omega)⟩, by omega, fun i hi => absurd hi (by omega), fun i hi => absurd hi (by omega)⟩
  · rcases (by omega : j = 0 ∨ j = 1 ∨ j = 2 ∨ j = 3) with e | e | e | e
    all_goals subst e
    all_goals exact ⟨rfl, by decide +kernel⟩
  · rcases (by omega : j = 0 ∨ j = 1 ∨ j = 2 ∨ j = 3) with e | e | e | e
    all_goals subst e
    all_goals exact ⟨by decide +kernel, by decide +kernel, Nat.zero_le _, Nat.le_refl _, by decide⟩
theorem i_vc_append {k : Nat} {u : SX} {v : SY} (I : i_Rel k u v) (hk : k + 3 ≤ 1536) (v1 : Int32) : wpX_append (fun r u' => wpY_append (fun r' v' => r' = r ∧ i_Rel (k + 3) u' v') v v1) u v1 := by
  obtain ⟨q, o, t, m, s, l, sh, ll, ln, tx, pl, rfl, rfl, I, hm, L, P⟩ := I
  have ht := I.2.1
  unfold wpX_append wpY_append
  dsimp only
  rcases lz_let v1 with z | ⟨c, hc, rfl⟩
  · refine lz_xi0 z _ (br_t rfl (lz_yi0 _ z _ (br_t rfl ⟨rfl, q, o, t, m, s, l, sh, ll, ln, tx, pl, rfl, rfl, I, hm, L, P⟩)))
  · refine lz_xi1 hc _ (br_f lz_10 (pk_lt t 120 (fun z => ?_) (fun z => ?_)))
    · refine lz_at I z c hc _ pl _ ?_
      intro q' o' s' l' sh' ll' ln' I'
      refine lz_yi1 _ hc _ (br_f lz_10 (br_f ?_ ⟨vp_in_nI (by omega) (by omega), nm_r (e' := upd tx t (nI c)) (by rw [nI_clamp (by omega)]) (nm_r (nI_1 t) ⟨rfl, q', o', t + 1, m, s', l', sh', ll', ln', _, pl, rfl, rfl, I', hm, lz_L_u L hc, P⟩)⟩))
      intro y
      have := (nI_eq (a := t) (b := 120) (by omega) (by omega)).mp y
      omega
    · have y : t = 120 := by omega
      subst y
      exact lz_yi1 _ hc _ (br_f lz_10 (br_t rfl ⟨rfl, q, o, 120, m, s, l, sh, ll, ln, tx, pl, rfl, rfl, I, hm, L, P⟩))
theorem i_vc_repeat {k : Nat} {u : SX} {v : SY} (I : i_Rel k u v) (hk : k + 3 ≤ 1536) (v1 : Int32) (v2 : Int32) : wpX_repeat (fun r u' => wpY_repeat (fun r' v' => r' = r ∧ i_Rel (k + 3) u' v') v v1 v2) u v1 v2 := by
  obtain ⟨q, o, t, m, s, l, sh, ll, ln, tx, pl, rfl, rfl, I, hm, L, P⟩ := I
  have ht := I.2.1
  have R : i_Rel (k + 3) (nI (q + 4), nI o, nI t, nI m, sh, ll, ln, pl) (nI t, nI m, tx, pl) := ⟨q, o, t, m, s, l, sh, ll, ln, tx, pl, rfl, rfl, I, hm, L, P⟩
  unfold wpX_repeat wpY_repeat
  dsimp only
  have bad : (v1 < 0 ∨ nI t ≤ v1) ∨ ∃ f, f < t ∧ v1 = nI f := by
    rcases pk_ix v1 (n := t) (by omega) with z | z | z
    · exact Or.inl (Or.inl z)
    · exact Or.inl (Or.inr z)
    · exact Or.inr z
  rcases bad with z | ⟨f, hf, rfl⟩
  · refine lz_in0 ht _ _ _ _ _ _ _ z _ (br_t rfl ?_)
    exact br_c (fun _ => lz_yr9 ht _ _ _ _ z _ ⟨rfl, R⟩) (fun _ => lz_yr9 ht _ _ _ _ z _ ⟨rfl, R⟩)
  · refine lz_in1 ht hf _ _ _ _ _ _ _ _ (br_f lz_10 ?_)
    rw [lz_120 ht]
    rcases pk_ix v2 (n := 121 - t) (by omega) with z | z | ⟨j, hj, rfl⟩
    · refine br_t (Int32.le_of_lt (Int32.lt_of_lt_of_le z (nI_pos' (by omega)))) ⟨1, br_t (Int32.le_of_lt z) ?_⟩
      refine br_f (Int32.not_le.mpr z) ?_
      unfold wY_repeat_9
      rw [lz_120 ht]
      exact br_f (nI_pos (by omega)) (br_t (nI_lt hf (by omega)) (br_t (nI_pos' (by omega)) ⟨1, br_t (by decide) ⟨rfl, R⟩⟩))
    · have y : ¬ v2 ≤ nI (120 - t) := by
        rw [lz_lei (by omega), show 120 - t + 1 = 121 - t by omega]
        exact Int32.not_lt.mpr z
      refine br_f y ?_
      refine br_t (Int32.le_trans (nI_pos' (n := 121 - t) (by omega)) z) ?_
      unfold wY_repeat_9
      rw [lz_120 ht]
      exact br_f (nI_pos (by omega)) (br_t (nI_lt hf (by omega)) (br_f y ⟨rfl, R⟩))
    · have y : nI j ≤ nI (120 - t) := nI_le (by omega) (by omega)
      refine br_t y ⟨j + 1, lz_xr _ pl _ f j (by omega) j 0 q o t s l sh ll ln tx I L hf (by omega) (by omega) ?_⟩
      intro q' o' s' l' sh' ll' ln' I' L'
      refine br_t (nI_pos' (by omega)) ?_
      unfold wY_repeat_9
      rw [lz_120 ht]
      refine br_f (nI_pos (by omega)) (br_t (nI_lt hf (by omega)) (br_t y ⟨j + 1, lz_yr _ pl _ f j (by omega) j 0 t tx L hf (by omega) (by omega) ?_⟩))
      exact ⟨rfl, q', o', t + j, m, s', l', sh', ll', ln', _, pl, rfl, rfl, I', hm, L', P⟩
theorem i_vc_clear {k : Nat} {u : SX} {v : SY} (I : i_Rel k u v) (hk : k + 3 ≤ 1536) : wpX_clear (fun u' => wpY_clear (fun v' => i_Rel (k + 3) u' v') v) u := by
  obtain ⟨q, o, t, m, s, l, sh, ll, ln, tx, pl, rfl, rfl, I, hm, L, P⟩ := I
  obtain ⟨D, _, _, _, _⟩ := I
  refine ⟨0, o, 0, m, s, l, sh, ll, ln, tx, pl, rfl, rfl, ⟨⟨D.1, fun j hj => D.2.1 j (by omega), fun j h4 hj => absurd hj (by omega)⟩, by omega, fun i hi => absurd hi (by omega), fun _ => rfl, fun h => absurd h (by omega)⟩, hm, fun i hi => absurd hi (by omega), P⟩
theorem i_vc_pattern {k : Nat} {u : SX} {v : SY} (I : i_Rel k u v) (hk : k + 3 ≤ 1536) (v1 : Int32) : wpX_pattern (fun r u' => wpY_pattern (fun r' v' => r' = r ∧ i_Rel (k + 3) u' v') v v1) u v1 := by
  obtain ⟨q, o, t, m, s, l, sh, ll, ln, tx, pl, rfl, rfl, I, hm, L, P⟩ := I
  unfold wpX_pattern wpY_pattern
  dsimp only
  rcases lz_let v1 with z | ⟨c, hc, rfl⟩
  · refine lz_xi0 z _ (br_t rfl (lz_yi0 _ z _ (br_t rfl ⟨rfl, q, o, t, m, s, l, sh, ll, ln, tx, pl, rfl, rfl, I, hm, L, P⟩)))
  · refine lz_xi1 hc _ (br_f lz_10 (pk_lt m 10 (fun z => ?_) (fun z => ?_)))
    · refine ⟨vp_in_nI (by omega) (by omega), nm_r (e' := upd pl m (nI c)) (by rw [nI_clamp (by omega)]) (nm_r (nI_1 m) ?_)⟩
      refine lz_yi1 _ hc _ (br_f lz_10 (br_f ?_ ⟨vp_in_nI (by omega) (by omega), nm_r (e' := upd pl m (nI c)) (by rw [nI_clamp (by omega)]) (nm_r (nI_1 m) ⟨rfl, q, o, t, m + 1, s, l, sh, ll, ln, tx, _, rfl, rfl, I, by omega, L, lz_L_u P hc⟩)⟩))
      intro y
      have := (nI_eq (a := m) (b := 10) (by omega) (by omega)).mp y
      omega
    · have y : m = 10 := by omega
      subst y
      exact lz_yi1 _ hc _ (br_f lz_10 (br_t rfl ⟨rfl, q, o, t, 10, s, l, sh, ll, ln, tx, pl, rfl, rfl, I, hm, L, P⟩))
theorem i_vc_clearPattern {k : Nat} {u : SX} {v : SY} (I : i_Rel k u v) (hk : k + 3 ≤ 1536) : wpX_clearPattern (fun u' => wpY_clearPattern (fun v' => i_Rel (k + 3) u' v') v) u := by
  obtain ⟨q, o, t, m, s, l, sh, ll, ln, tx, pl, rfl, rfl, I, hm, L, P⟩ := I
  exact ⟨q, o, t, 0, s, l, sh, ll, ln, tx, pl, rfl, rfl, I, by omega, L, fun i hi => absurd hi (by omega)⟩
theorem i_vc_length {k : Nat} {u : SX} {v : SY} (I : i_Rel k u v) (hk : k + 3 ≤ 1536) : wpX_length (fun r => wpY_length (fun r' => r' = r ∧ i_Rel (k + 3) u v) v) u := by
  have J : i_Rel (k + 3) u v := I
  obtain ⟨q, o, t, m, s, l, sh, ll, ln, tx, pl, rfl, rfl, I, hm, L, P⟩ := I
  exact ⟨rfl, J⟩
theorem i_vc_letterAt {k : Nat} {u : SX} {v : SY} (I : i_Rel k u v) (hk : k + 3 ≤ 1536) (v1 : Int32) : wpX_letterAt (fun r => wpY_letterAt (fun r' => r' = r ∧ i_Rel (k + 3) u v) v v1) u v1 := by
  have J : i_Rel (k + 3) u v := I
  obtain ⟨q, o, t, m, s, l, sh, ll, ln, tx, pl, rfl, rfl, I, hm, L, P⟩ := I
  have ht := I.2.1
  unfold wpX_letterAt
  dsimp only
  rcases pk_ix v1 (n := t) (by omega) with z | z | ⟨j, hj, rfl⟩
  · exact lz_in0 ht _ _ _ _ _ _ _ (Or.inl z) _ (br_t rfl (br_t z ⟨rfl, J⟩))
  · exact lz_in0 ht _ _ _ _ _ _ _ (Or.inr z) _ (br_t rfl (br_f (Int32.not_lt.mpr (Int32.le_trans (nI_pos' (n := t) (by omega)) z)) (br_t z ⟨rfl, J⟩)))
  · refine lz_in1 ht hj _ _ _ _ _ _ _ _ (br_f lz_10 ?_)
    refine lz_tl I _ pl _ j hj ?_
    exact lz_yl ht _ tx pl _ j (by omega) (fun _ => ⟨rfl, J⟩) (fun z => absurd z (by omega))
theorem i_vc_count {k : Nat} {u : SX} {v : SY} (I : i_Rel k u v) (hk : k + 3 ≤ 1536) : wpX_count (fun r => wpY_count (fun r' => r' = r ∧ i_Rel (k + 3) u v) v) u := by
  have J : i_Rel (k + 3) u v := I
  obtain ⟨q, o, t, m, s, l, sh, ll, ln, tx, pl, rfl, rfl, I, hm, L, P⟩ := I
  have ht := I.2.1
  unfold wpX_count wpY_count
  dsimp only
  refine lz_oc I m hm pl _ t (Nat.le_refl _) ?_
  exact lz_yc ht hm tx pl (lz_L_4 P) (nI t) t (lz_Wt ht) _ ⟨rfl, J⟩
theorem i_vc_position {k : Nat} {u : SX} {v : SY} (I : i_Rel k u v) (hk : k + 3 ≤ 1536) (v1 : Int32) : wpX_position (fun r => wpY_position (fun r' => r' = r ∧ i_Rel (k + 3) u v) v v1) u v1 := by
  have J : i_Rel (k + 3) u v := I
  obtain ⟨q, o, t, m, s, l, sh, ll, ln, tx, pl, rfl, rfl, I, hm, L, P⟩ := I
  have ht := I.2.1
  refine pk_eq m 0 (fun z => ?_) (fun z => ?_)
  · exact ⟨t + 1, lz_yp0 ht hm tx pl (lz_L_4 P) v1 0 _ ⟨rfl, J⟩ t 0 (by omega) (fun j _ w => absurd w.1 (by omega))⟩
  · obtain ⟨r, hX, hY⟩ := lz_po I (by omega) hm pl (lz_L_4 P) v1 (t + 1 - m) 0 0 (by omega)
    exact ⟨_, hX _ ⟨_, hY _ ⟨rfl, J⟩⟩⟩
theorem i_vc_frequency {k : Nat} {u : SX} {v : SY} (I : i_Rel k u v) (hk : k + 3 ≤ 1536) (v1 : Int32) (v2 : Int32) : wpX_frequency (fun r => wpY_frequency (fun r' => r' = r ∧ i_Rel (k + 3) u v) v v1 v2) u v1 v2 := by
  have J : i_Rel (k + 3) u v := I
  obtain ⟨q, o, t, m, s, l, sh, ll, ln, tx, pl, rfl, rfl, I, hm, L, P⟩ := I
  have ht := I.2.1
  unfold wpX_frequency wpY_frequency
  dsimp only
  rcases lz_let v1 with z | ⟨c, hc, rfl⟩
  · exact lz_xi0 z _ (br_t rfl (lz_yi0 _ z _ (br_t rfl ⟨rfl, J⟩)))
  · refine lz_xi1 hc _ (br_f lz_10 ?_)
    refine lz_wi ht _ _ _ v2 sh ll ln pl _ ?_
    intro e W
    refine ⟨e + 1, lz_xf1 I _ (nI c) pl _ e W.1 ?_ e 0 (by omega)⟩
    refine lz_yi1 _ hc _ (br_f lz_10 ?_)
    exact ⟨e + 1, lz_yf1 ht _ (nI c) v2 tx pl _ e W ⟨rfl, J⟩ e 0 (by omega)⟩
theorem i_vc_overlap {k : Nat} {u : SX} {v : SY} (I : i_Rel k u v) (hk : k + 3 ≤ 1536) : wpX_overlap (fun r => wpY_overlap (fun r' => r' = r ∧ i_Rel (k + 3) u v) v) u := by
  have J : i_Rel (k + 3) u v := I
  obtain ⟨q, o, t, m, s, l, sh, ll, ln, tx, pl, rfl, rfl, I, hm, L, P⟩ := I
  have ht := I.2.1
  refine pk_le t m (fun z => ⟨t + 1, ?_⟩) (fun z => ⟨m + 1, ?_⟩)
  · refine lz_xo I _ pl _ t (Nat.le_refl _) (by omega) ?_
    exact ⟨t + 1, lz_yv ht hm tx pl (lz_L_4 P) _ t z (Nat.le_refl _) (Or.inr rfl) ⟨rfl, J⟩ t 0 (by omega)⟩
  · refine lz_xo I _ pl _ m (by omega) (by omega) ?_
    exact ⟨m + 1, lz_yv ht hm tx pl (lz_L_4 P) _ m (Nat.le_refl _) (by omega) (Or.inl rfl) ⟨rfl, J⟩ m 0 (by omega)⟩
theorem i_vc_countWithin {k : Nat} {u : SX} {v : SY} (I : i_Rel k u v) (hk : k + 3 ≤ 1536) (v1 : Int32) : wpX_countWithin (fun r => wpY_countWithin (fun r' => r' = r ∧ i_Rel (k + 3) u v) v v1) u v1 := by
  have J : i_Rel (k + 3) u v := I
  obtain ⟨q, o, t, m, s, l, sh, ll, ln, tx, pl, rfl, rfl, I, hm, L, P⟩ := I
  have ht := I.2.1
  unfold wpX_countWithin
  dsimp only
  refine lz_wi ht _ _ _ v1 sh ll ln pl _ ?_
  intro e W
  refine lz_oc I m hm pl _ e W.1 ?_
  exact lz_yc ht hm tx pl (lz_L_4 P) v1 e W _ ⟨rfl, J⟩
