/-- both sides hold the same patterns, and each stands for some number -/
def i_Rel (_ : Nat) (u : SX) (v : SY) : Prop := v = u ∧ ∀ r, r < 6 → kb_J (u.1 r) (u.2 r)
theorem kb_Jupd {va ma : Nat → Int32} {q : Nat} {v m : Int32} (R : ∀ r, r < 6 → kb_J (va r) (ma r)) (h : kb_J v m) : ∀ r, r < 6 → kb_J (upd va q v r) (upd ma q m r) := by
  intro r hr
  by_cases e : r = q
  · subst e
    rw [kb_us, kb_us]
    exact h
  · rw [kb_un _ _ e, kb_un _ _ e]
    exact R r hr
theorem kb_Jne {v m : Int32} (h : kb_J v m) : ∃ n, n < 64 ∧ kb_st v m n := by
  obtain ⟨j, hj, _, s⟩ := h
  exact ⟨j, hj, s⟩
theorem kb_kind {p : Int32} (h0 : ¬ p < 0) (h7 : p < 7) : ∃ j, j < 7 ∧ p = nI j ∧ p ≤ 6 := by
  obtain ⟨j, hj, rfl⟩ := nI_of h0
  have h : j < 7 := (nI_ltI (b := 7) hj (by decide)).mp h7
  exact ⟨j, h, rfl, nI_le (b := 6) (by omega) (by decide)⟩
theorem kb_67 {p : Int32} (h : p ≤ 6) : p < 7 := by
  rw [Int32.le_iff_toInt_le] at h
  rw [Int32.lt_iff_toInt_lt]
  have a : (6 : Int32).toInt = 6 := by decide
  have b : (7 : Int32).toInt = 7 := by decide
  omega
theorem i_up {k : Nat} {u : SX} {v : SY} (h : i_Rel k u v) : i_Rel (k + 5) u v := h
theorem i_vc0 : wpX_init (fun u => wpY_init (fun v => i_Rel 0 u v)) := ⟨rfl, fun _ _ => kb_J0⟩
theorem i_vc_set {k : Nat} {u : SX} {v : SY} (I : i_Rel k u v) (hk : k + 5 ≤ 2560) (v1 : Int32) (v2 : Int32) (v3 : Int32) : wpX_set (fun r u' => wpY_set (fun r' v' => r' = r ∧ i_Rel (k + 5) u' v') v v1 v2 v3) u v1 v2 v3 := by
  obtain ⟨va, ma⟩ := u
  obtain ⟨rfl, R⟩ := I
  have S : i_Rel (k + 5) (va, ma) (va, ma) := ⟨rfl, R⟩
  unfold wpX_set
  dsimp only
  rcases kb_reg v1 with hb | ⟨r, hr, rfl⟩
  · refine kb_xb hb ?_
    unfold wpY_set
    dsimp only
    exact kb_yb hb ⟨rfl, S⟩
  · refine kb_xr hr ⟨kb_in hr, ?_⟩
    rw [kb_cl hr]
    refine nm_e ⟨kb_in hr, nm_e ?_⟩
    unfold wpY_set
    dsimp only
    refine kb_yr hr ⟨kb_in hr, ?_⟩
    rw [kb_cl hr]
    refine nm_e ⟨kb_in hr, kb_in hr, nm_e ⟨rfl, ?_⟩⟩
    rw [kb_us, kb_i7]
    exact ⟨rfl, kb_Jupd R (kb_Jset v2 v3)⟩
theorem i_vc_combine {k : Nat} {u : SX} {v : SY} (I : i_Rel k u v) (hk : k + 5 ≤ 2560) (v1 : Int32) (v2 : Int32) (v3 : Int32) (v4 : Int32) : wpX_combine (fun r u' => wpY_combine (fun r' v' => r' = r ∧ i_Rel (k + 5) u' v') v v1 v2 v3 v4) u v1 v2 v3 v4 := by
  obtain ⟨va, ma⟩ := u
  obtain ⟨rfl, R⟩ := I
  have S : i_Rel (k + 5) (va, ma) (va, ma) := ⟨rfl, R⟩
  unfold wpX_combine
  dsimp only
  rcases kb_reg v1 with hb | ⟨d, hd, rfl⟩
  · refine kb_xb hb ?_
    unfold wpY_combine
    dsimp only
    exact kb_yb hb ⟨rfl, S⟩
  refine kb_xr hd ?_
  rcases kb_reg v3 with hb | ⟨a, ha, rfl⟩
  · refine kb_xb hb ?_
    unfold wpY_combine
    dsimp only
    exact kb_yr hd (kb_yb hb ⟨rfl, S⟩)
  refine kb_xr ha ?_
  rcases kb_reg v4 with hb | ⟨b, hb, rfl⟩
  · refine kb_xb hb ?_
    unfold wpY_combine
    dsimp only
    exact kb_yr hd (kb_yr ha (kb_yb hb ⟨rfl, S⟩))
  refine kb_xr hb ?_
  by_cases h0 : v2 < 0
  · refine br_t h0 ?_
    unfold wpY_combine
    dsimp only
    exact kb_yr hd (kb_yr ha (kb_yr hb (br_t h0 ⟨rfl, S⟩)))
  refine br_f h0 ?_
  by_cases h7 : v2 < 7
  · refine br_t h7 ?_
    obtain ⟨kd, hk, rfl, h6⟩ := kb_kind h0 h7
    refine kb_no ha (fun xs hxs => kb_no hb (fun ys hys => kb_ro hxs hys hk (kb_Jne (R a ha)) (kb_Jne (R b hb)) (fun s hs => ?_)))
    have Y : ∀ post : Int32 → SY → Prop, ((s = 0 → post (-2) (va, ma)) ∧ (¬ s = 0 → post 0 (upd va d (kb_V s), upd ma d (kb_M s)))) → wpY_combine post (va, ma) (nI d) (nI kd) (nI a) (nI b) := by
      intro post h
      unfold wpY_combine
      dsimp only
      refine kb_yr hd (kb_yr ha (kb_yr hb (br_f h0 (br_t h6 (kb_yc40 hd hk ha hb (fun t ht => ?_))))))
      rw [kb_mext (fun i hi => (ht i hi).trans (hs i hi).symm)]
      exact h
    exact kb_kx hd (fun z => Y _ ⟨fun _ => ⟨rfl, S⟩, fun w => absurd z w⟩) (fun z => Y _ ⟨fun w => absurd w z, fun _ => ⟨rfl, rfl, kb_Jupd R (kb_JV z)⟩⟩)
  · refine br_f h7 ?_
    unfold wpY_combine
    dsimp only
    exact kb_yr hd (kb_yr ha (kb_yr hb (br_f h0 (br_f (fun z => h7 (kb_67 z)) ⟨rfl, S⟩))))
theorem i_vc_shift {k : Nat} {u : SX} {v : SY} (I : i_Rel k u v) (hk : k + 5 ≤ 2560) (v1 : Int32) (v2 : Int32) (v3 : Int32) : wpX_shift (fun r u' => wpY_shift (fun r' v' => r' = r ∧ i_Rel (k + 5) u' v') v v1 v2 v3) u v1 v2 v3 := by
  obtain ⟨va, ma⟩ := u
  obtain ⟨rfl, R⟩ := I
  have S : i_Rel (k + 5) (va, ma) (va, ma) := ⟨rfl, R⟩
  unfold wpX_shift
  dsimp only
  rcases kb_reg v1 with hb | ⟨d, hd, rfl⟩
  · refine kb_xb hb ?_
    unfold wpY_shift
    dsimp only
    exact kb_yb hb ⟨rfl, S⟩
  refine kb_xr hd ?_
  rcases kb_reg v2 with hb | ⟨a, ha, rfl⟩
  · refine kb_xb hb ?_
    unfold wpY_shift
    dsimp only
    exact kb_yr hd (kb_yb hb ⟨rfl, S⟩)
  refine kb_xr ha ?_
  by_cases h1 : v3 < -6
  · refine br_t h1 ?_
    unfold wpY_shift
    dsimp only
    exact kb_yr hd (kb_yr ha (br_t h1 ⟨rfl, S⟩))
  refine br_f h1 ?_
  by_cases h2 : v3 ≤ 6
  · refine br_t h2 (kb_no ha (fun xs hxs => kb_xs hd hxs (fun s hs => ?_)))
    have Y : ∀ post : Int32 → SY → Prop, ((s = 0 → post (-2) (va, ma)) ∧ (¬ s = 0 → post 0 (upd va d (kb_V s), upd ma d (kb_M s)))) → wpY_shift post (va, ma) (nI d) (nI a) v3 := by
      intro post h
      unfold wpY_shift
      dsimp only
      refine kb_yr hd (kb_yr ha (br_f h1 (br_t h2 (kb_ysh hd ha h1 h2 (fun t ht => ?_)))))
      rw [kb_mext (fun i hi => (ht i hi).trans (hs i hi).symm)]
      exact h
    exact ⟨fun z => Y _ ⟨fun _ => ⟨rfl, S⟩, fun w => absurd z w⟩, fun z => Y _ ⟨fun w => absurd w z, fun _ => ⟨rfl, rfl, kb_Jupd R (kb_JV z)⟩⟩⟩
  · refine br_f h2 ?_
    unfold wpY_shift
    dsimp only
    exact kb_yr hd (kb_yr ha (br_f h1 (br_f h2 ⟨rfl, S⟩)))
theorem i_vc_narrow {k : Nat} {u : SX} {v : SY} (I : i_Rel k u v) (hk : k + 5 ≤ 2560) (v1 : Int32) (v2 : Int32) (v3 : Int32) : wpX_narrow (fun r u' => wpY_narrow (fun r' v' => r' = r ∧ i_Rel (k + 5) u' v') v v1 v2 v3) u v1 v2 v3 := by
  obtain ⟨va, ma⟩ := u
  obtain ⟨rfl, R⟩ := I
  have S : i_Rel (k + 5) (va, ma) (va, ma) := ⟨rfl, R⟩
  unfold wpX_narrow
  dsimp only
  rcases kb_reg v1 with hb | ⟨r, hr, rfl⟩
  · refine kb_xb hb ?_
    unfold wpY_narrow
    dsimp only
    exact kb_yb hb ⟨rfl, S⟩
  · refine kb_xr hr (kb_nw hr (fun s hs => ?_))
    have Y : ∀ post : Int32 → SY → Prop, ((s = 0 → post (-2) (va, ma)) ∧ (¬ s = 0 → post 0 (upd va r (kb_V s), upd ma r (kb_M s)))) → wpY_narrow post (va, ma) (nI r) v2 v3 := by
      intro post h
      unfold wpY_narrow
      dsimp only
      refine kb_yr hr (kb_yn hr (fun t ht => ?_))
      rw [kb_mext (fun i hi => (ht i hi).trans (hs i hi).symm)]
      exact h
    exact kb_kx hr (fun z => Y _ ⟨fun _ => ⟨rfl, S⟩, fun w => absurd z w⟩) (fun z => Y _ ⟨fun w => absurd w z, fun _ => ⟨rfl, rfl, kb_Jupd R (kb_JV z)⟩⟩)
theorem i_vc_suppose {k : Nat} {u : SX} {v : SY} (I : i_Rel k u v) (hk : k + 5 ≤ 2560) (v1 : Int32) (v2 : Int32) (v3 : Int32) : wpX_suppose (fun r u' => wpY_suppose (fun r' v' => r' = r ∧ i_Rel (k + 5) u' v') v v1 v2 v3) u v1 v2 v3 := by
  obtain ⟨va, ma⟩ := u
  obtain ⟨rfl, R⟩ := I
  have S : i_Rel (k + 5) (va, ma) (va, ma) := ⟨rfl, R⟩
  unfold wpX_suppose
  dsimp only
  rcases kb_reg v1 with hb | ⟨a, ha, rfl⟩
  · refine kb_xb hb ?_
    unfold wpY_suppose
    dsimp only
    exact kb_yb hb ⟨rfl, S⟩
  refine kb_xr ha ?_
  rcases kb_reg v3 with hb | ⟨b, hb, rfl⟩
  · refine kb_xb hb ?_
    unfold wpY_suppose
    dsimp only
    exact kb_yr ha (kb_yb hb ⟨rfl, S⟩)
  refine kb_xr hb ?_
  rcases kb_reg v2 with hc | ⟨how, hh, rfl⟩
  · refine kb_xcb hc ?_
    unfold wpY_suppose
    dsimp only
    refine kb_yr ha (kb_yr hb ?_)
    rcases hc with h0 | ⟨h0, _, h5⟩
    · exact br_t h0 ⟨rfl, S⟩
    · exact br_f h0 (br_t (Int32.not_le.mp h5) ⟨rfl, S⟩)
  refine kb_xc hh ?_
  by_cases e : nI a = nI b
  · refine br_t e ?_
    unfold wpY_suppose
    dsimp only
    exact kb_yr ha (kb_yr hb (br_f (kb_r6 how hh).1 (br_f (kb_r6 how hh).2.2.2 (br_t e ⟨rfl, S⟩))))
  · refine br_f e (kb_no ha (fun xs hxs => kb_no hb (fun ys hys => kb_xt hh (kb_twp hxs hys hh (fun l hl => kb_twp hys hxs (kb_T6 how hh) (fun t ht => ?_))))))
    have ht' : ∀ i, i < 64 → (kb_m t i ↔ ∃ n m, n < 64 ∧ m < 64 ∧ kb_PR (kb_st (va a) (ma a)) (kb_st (va b) (ma b)) how n m i) := fun i hi => (ht i hi).trans (kb_turn hh)
    have z := kb_lr hl ht'
    have Y : ∀ post : Int32 → SY → Prop, ((l = 0 → post (-2) (va, ma)) ∧ (¬ l = 0 → post 0 (upd (upd va a (kb_V l)) b (kb_V t), upd (upd ma a (kb_M l)) b (kb_M t)))) → wpY_suppose post (va, ma) (nI a) (nI how) (nI b) := by
      intro post h
      unfold wpY_suppose
      dsimp only
      refine kb_yr ha (kb_yr hb (br_f (kb_r6 how hh).1 (br_f (kb_r6 how hh).2.2.2 (br_f e (kb_ysp hh ha hb (fun l2 t2 hl2 ht2 => ?_))))))
      rw [kb_mext (fun i hi => (hl2 i hi).trans (hl i hi).symm), kb_mext (fun i hi => (ht2 i hi).trans (ht' i hi).symm)]
      exact h
    refine br_c (fun w => Y _ ⟨fun _ => ⟨rfl, S⟩, fun g => absurd w g⟩) (fun w => br_f (fun g => w (z.mpr g)) (kb_kx ha (fun g => absurd g w) (fun _ => kb_kx hb (fun g => absurd (z.mpr g) w) (fun g => Y _ ⟨fun f => absurd f w, fun _ => ⟨rfl, rfl, ?_⟩⟩))))
    exact kb_Jupd (kb_Jupd R (kb_JV w)) (kb_JV g)
theorem i_vc_compare {k : Nat} {u : SX} {v : SY} (I : i_Rel k u v) (hk : k + 5 ≤ 2560) (v1 : Int32) (v2 : Int32) (v3 : Int32) : wpX_compare (fun r => wpY_compare (fun r' => r' = r ∧ i_Rel (k + 5) u v) v v1 v2 v3) u v1 v2 v3 := by
  obtain ⟨va, ma⟩ := u
  obtain ⟨rfl, R⟩ := I
  have S : i_Rel (k + 5) (va, ma) (va, ma) := ⟨rfl, R⟩
  unfold wpX_compare
  dsimp only
  rcases kb_reg v1 with hb | ⟨a, ha, rfl⟩
  · refine kb_xb hb ?_
    unfold wpY_compare
    dsimp only
    exact kb_yb hb ⟨rfl, S⟩
  refine kb_xr ha ?_
  rcases kb_reg v3 with hb | ⟨b, hb, rfl⟩
  · refine kb_xb hb ?_
    unfold wpY_compare
    dsimp only
    exact kb_yr ha (kb_yb hb ⟨rfl, S⟩)
  refine kb_xr hb ?_
  rcases kb_reg v2 with hc | ⟨how, hh, rfl⟩
  · refine kb_xcb hc ?_
    unfold wpY_compare
    dsimp only
    refine kb_yr ha (kb_yr hb ?_)
    rcases hc with h0 | ⟨h0, _, h5⟩
    · exact br_t h0 ⟨rfl, S⟩
    · exact br_f h0 (br_f h5 ⟨rfl, S⟩)
  refine kb_xc hh (kb_no ha (fun xs hxs => kb_no hb (fun ys hys => kb_xq46 hxs hys hh ?_)))
  have Y : ∀ post : Int32 → Prop, kb_A post (kb_st (va a) (ma a)) (kb_st (va b) (ma b)) how → wpY_compare post (va, ma) (nI a) (nI how) (nI b) := by
    intro post h
    unfold wpY_compare
    dsimp only
    exact kb_yr ha (kb_yr hb (br_f (kb_r6 how hh).1 (br_t (kb_r6 how hh).2.2.1 (kb_yq34 hh ha hb h))))
  exact ⟨fun p => Y _ ⟨fun _ => ⟨rfl, S⟩, fun q => absurd q p, fun q => absurd q p⟩, fun p q => Y _ ⟨fun g => absurd p g, fun _ _ => ⟨rfl, S⟩, fun _ g => absurd g q⟩, fun p q => Y _ ⟨fun g => absurd p g, fun _ g => absurd q g, fun _ _ => ⟨rfl, S⟩⟩⟩
theorem i_vc_value {k : Nat} {u : SX} {v : SY} (I : i_Rel k u v) (hk : k + 5 ≤ 2560) (v1 : Int32) : wpX_value (fun r => wpY_value (fun r' => r' = r ∧ i_Rel (k + 5) u v) v v1) u v1 := by
  obtain ⟨va, ma⟩ := u
  obtain ⟨rfl, R⟩ := I
  have S : i_Rel (k + 5) (va, ma) (va, ma) := ⟨rfl, R⟩
  unfold wpX_value
  dsimp only
  rcases kb_reg v1 with hb | ⟨r, hr, rfl⟩
  · refine kb_xb hb ?_
    unfold wpY_value
    dsimp only
    exact kb_yb hb ⟨rfl, S⟩
  · refine kb_xr hr ⟨kb_in hr, ?_⟩
    unfold wpY_value
    dsimp only
    exact kb_yr hr ⟨kb_in hr, rfl, S⟩
theorem i_vc_mask {k : Nat} {u : SX} {v : SY} (I : i_Rel k u v) (hk : k + 5 ≤ 2560) (v1 : Int32) : wpX_mask (fun r => wpY_mask (fun r' => r' = r ∧ i_Rel (k + 5) u v) v v1) u v1 := by
  obtain ⟨va, ma⟩ := u
  obtain ⟨rfl, R⟩ := I
  have S : i_Rel (k + 5) (va, ma) (va, ma) := ⟨rfl, R⟩
  unfold wpX_mask
  dsimp only
  rcases kb_reg v1 with hb | ⟨r, hr, rfl⟩
  · refine kb_xb hb ?_
    unfold wpY_mask
    dsimp only
    exact kb_yb hb ⟨rfl, S⟩
  · refine kb_xr hr ⟨kb_in hr, ?_⟩
    unfold wpY_mask
    dsimp only
    exact kb_yr hr ⟨kb_in hr, rfl, S⟩
theorem i_vc_least {k : Nat} {u : SX} {v : SY} (I : i_Rel k u v) (hk : k + 5 ≤ 2560) (v1 : Int32) (v2 : Int32) : wpX_least (fun r => wpY_least (fun r' => r' = r ∧ i_Rel (k + 5) u v) v v1 v2) u v1 v2 := by
  obtain ⟨va, ma⟩ := u
  obtain ⟨rfl, R⟩ := I
  have S : i_Rel (k + 5) (va, ma) (va, ma) := ⟨rfl, R⟩
  unfold wpX_least
  dsimp only
  rcases kb_reg v1 with hb | ⟨r, hr, rfl⟩
  · refine kb_xb hb ?_
    unfold wpY_least
    dsimp only
    exact kb_yb hb ⟨rfl, S⟩
  · refine kb_xr hr (kb_nw hr (fun s hs => ?_))
    obtain ⟨q, L⟩ := kb_Lex s
    refine ⟨q + 1, kb_xl L ?_ (q + 1) 0 (Nat.zero_le _) (by omega)⟩
    unfold wpY_least
    dsimp only
    exact kb_yr hr ⟨q + 1, kb_yl hr hs L ⟨rfl, S⟩ (q + 1) 0 (Nat.zero_le _) (by omega)⟩
