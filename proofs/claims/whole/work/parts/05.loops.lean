/-! X: the results of a kind below 5, pair by pair -/
def kb_PC (A B : Nat → Prop) (kd n m i : Nat) : Prop := (A n ∧ B m) ∧ kb_P kd B n m i
theorem kb_ro35 {post : Int64 → Prop} {J : Int64 → Int32 → Prop} {A B : Nat → Prop} {kd x : Nat} {xs ys s : Int64} (hxs : ∀ i, i < 64 → (kb_m xs i ↔ A i)) (hys : ∀ i, i < 64 → (kb_m ys i ↔ B i)) (hk : kd < 5) (hx : x < 64) (h0 : kb_SJ (kb_PC A B kd) x 0 s) (H : ∀ s', kb_SJ (kb_PC A B kd) x 64 s' → J s' (nI (x + 1))) : ∃ n, wX_resultsOf_35 post J (nI kd) xs ys (nI x) n s 0 := by
  refine loop_0 (fun n i s => wX_resultsOf_35 post J (nI kd) xs ys (nI x) n s (nI i)) (fun y s => kb_SJ (kb_PC A B kd) x y s) 64 s h0 ?_ ?_
  · intro n s hs
    exact br_t kb_64 (nm_r (nI_1 x) (H s hs))
  · intro n i s hi hs K
    exact br_f (kb_n64 hi) (kb_xi hxs hx (fun a => kb_xi hys hi (fun b => kb_xres hk (nm_e (nm_r (nI_1 i) (K _ (kb_SJy hs (fun j _ => ⟨fun z => ⟨⟨a, b⟩, (kb_P5 hk B x i j).mpr z⟩, fun z => (kb_P5 hk B x i j).mp z.2⟩)))))) (fun b => nm_r (nI_1 i) (K _ (kb_SJn hs (fun j _ z => b z.1.2))))) (fun a => nm_r (nI_1 i) (K _ (kb_SJn hs (fun j _ z => a z.1.1)))))
theorem kb_ro25 {post : Int64 → Prop} {A B : Nat → Prop} {kd : Nat} {xs ys : Int64} (hxs : ∀ i, i < 64 → (kb_m xs i ↔ A i)) (hys : ∀ i, i < 64 → (kb_m ys i ↔ B i)) (hk : kd < 5) (H : ∀ s, (∀ i, i < 64 → (kb_m s i ↔ ∃ n m, n < 64 ∧ m < 64 ∧ kb_PC A B kd n m i)) → post s) : ∃ n, wX_resultsOf_25 post (nI kd) xs ys n 0 0 := by
  refine loop_0 (fun n i s => wX_resultsOf_25 post (nI kd) xs ys n s (nI i)) (fun x s => kb_SJ (kb_PC A B kd) x 0 s) 64 0 (kb_SJ0 _) ?_ ?_
  · intro n s hs
    exact br_t kb_64 (H s (kb_SJe hs))
  · intro n i s hi hs K
    exact br_f (kb_n64 hi) (kb_ro35 hxs hys hk hi hs (fun s' h' => K s' (kb_SJr h')))
theorem kb_ro {post : Int64 → Prop} {A B : Nat → Prop} {kd : Nat} {xs ys : Int64} (hxs : ∀ i, i < 64 → (kb_m xs i ↔ A i)) (hys : ∀ i, i < 64 → (kb_m ys i ↔ B i)) (hk : kd < 7) (hA : ∃ n, n < 64 ∧ A n) (hB : ∃ n, n < 64 ∧ B n) (H : ∀ s, (∀ i, i < 64 → (kb_m s i ↔ ∃ n m, n < 64 ∧ m < 64 ∧ kb_PC A B kd n m i)) → post s) : wpX_resultsOf post (nI kd) xs ys := by
  unfold wpX_resultsOf
  by_cases h5 : kd < 5
  · have e5 : ¬ nI kd = 5 := fun z => absurd ((nI_eq (b := 5) (by omega) (by decide)).mp z) (by omega)
    have e6 : ¬ nI kd = 6 := fun z => absurd ((nI_eq (b := 6) (by omega) (by decide)).mp z) (by omega)
    exact br_f e5 (br_f e6 (kb_ro25 hxs hys h5 H))
  · have h : kd = 5 ∨ kd = 6 := by omega
    obtain ⟨p, hp, ap⟩ := hA
    obtain ⟨q, hq, bq⟩ := hB
    rcases h with rfl | rfl
    · refine br_t (by decide +kernel) (H _ (fun i hi => ?_))
      rw [kb_mor, hxs i hi, hys i hi]
      constructor
      · rintro (a | b)
        · exact ⟨i, q, hi, hq, ⟨a, bq⟩, Or.inl rfl⟩
        · exact ⟨p, i, hp, hi, ⟨ap, b⟩, Or.inr rfl⟩
      · rintro ⟨n, m, _, _, ⟨a, b⟩, z⟩
        rcases (z : i = n ∨ i = m) with rfl | rfl
        · exact Or.inl a
        · exact Or.inr b
    · refine br_f (by decide +kernel) (br_t (by decide +kernel) (H _ (fun i hi => ?_)))
      rw [kb_mand, hxs i hi, hys i hi]
      constructor
      · rintro ⟨a, b⟩
        exact ⟨i, i, hi, hi, ⟨a, b⟩, b, rfl⟩
      · rintro ⟨n, m, _, _, ⟨a, b⟩, z⟩
        obtain ⟨c, e⟩ := (z : B n ∧ i = n)
        rw [e]
        exact ⟨a, c⟩
/-! Y: the results of combine -/
theorem kb_yc50 {post : Int32 → SY → Prop} {J : Int64 → Int32 → Prop} {x1 : Int32} {kd a b x : Nat} {s : Int64} {va ma : Nat → Int32} (hk : kd < 7) (ha : a < 6) (hb : b < 6) (hx : x < 64) (h0 : kb_SJ (kb_PC (kb_st (va a) (ma a)) (kb_st (va b) (ma b)) kd) x 0 s) (H : ∀ s', kb_SJ (kb_PC (kb_st (va a) (ma a)) (kb_st (va b) (ma b)) kd) x 64 s' → J s' (nI (x + 1))) : ∃ n, wY_combine_50 post J x1 (nI kd) (nI a) (nI b) (nI x) va ma n s 0 := by
  refine loop_0 (fun n i s => wY_combine_50 post J x1 (nI kd) (nI a) (nI b) (nI x) va ma n s (nI i)) (fun y s => kb_SJ (kb_PC (kb_st (va a) (ma a)) (kb_st (va b) (ma b)) kd) x y s) 64 s h0 ?_ ?_
  · intro n s hs
    exact br_t kb_64 (nm_r (nI_1 x) (H s hs))
  · intro n i s hi hs K
    exact br_f (kb_n64 hi) (kb_ys ha (fun p => kb_ys hb (fun q => kb_yres hk hb hx hi (fun e he => nm_e (nm_r (nI_1 i) (K _ (kb_SJy hs (fun j hj => (he j hj).trans ⟨fun z => ⟨⟨p, q⟩, z⟩, fun z => z.2⟩)))))) (fun q => nm_r (nI_1 i) (K _ (kb_SJn hs (fun j _ z => q z.1.2))))) (fun p => nm_r (nI_1 i) (K _ (kb_SJn hs (fun j _ z => p z.1.1)))))
theorem kb_yc40 {post : Int32 → SY → Prop} {d kd a b : Nat} {va ma : Nat → Int32} (hd : d < 6) (hk : kd < 7) (ha : a < 6) (hb : b < 6) (H : ∀ s, (∀ i, i < 64 → (kb_m s i ↔ ∃ n m, n < 64 ∧ m < 64 ∧ kb_PC (kb_st (va a) (ma a)) (kb_st (va b) (ma b)) kd n m i)) → (s = 0 → post (-2) (va, ma)) ∧ (¬ s = 0 → post 0 (upd va d (kb_V s), upd ma d (kb_M s)))) : ∃ n, wY_combine_40 post (nI d) (nI kd) (nI a) (nI b) va ma n 0 0 := by
  refine loop_0 (fun n i s => wY_combine_40 post (nI d) (nI kd) (nI a) (nI b) va ma n s (nI i)) (fun x s => kb_SJ (kb_PC (kb_st (va a) (ma a)) (kb_st (va b) (ma b)) kd) x 0 s) 64 0 (kb_SJ0 _) ?_ ?_
  · intro n s hs
    exact br_t kb_64 (kb_ky hd (H s (kb_SJe hs)).1 (H s (kb_SJe hs)).2)
  · intro n i s hi hs K
    exact br_f (kb_n64 hi) (kb_yc50 hk ha hb hi hs (fun s' h' => K s' (kb_SJr h')))
/-! Y: narrow -/
theorem kb_yn {post : Int32 → SY → Prop} {r : Nat} {lo hi : Int32} {va ma : Nat → Int32} (hr : r < 6) (H : ∀ s, (∀ i, i < 64 → (kb_m s i ↔ kb_W (va r) (ma r) lo hi i)) → (s = 0 → post (-2) (va, ma)) ∧ (¬ s = 0 → post 0 (upd va r (kb_V s), upd ma r (kb_M s)))) : ∃ n, wY_narrow_15 post (nI r) lo hi va ma n 0 0 := by
  refine loop_0 (fun n i s => wY_narrow_15 post (nI r) lo hi va ma n s (nI i)) (fun k s => kb_SQ (kb_W (va r) (ma r) lo hi) k s) 64 0 (kb_SQ0 _) ?_ ?_
  · intro n s hs
    exact br_t kb_64 (kb_ky hr (H s (kb_SQe hs)).1 (H s (kb_SQe hs)).2)
  · intro n i s hi' hs K
    exact br_f (kb_n64 hi') (kb_ys hr (fun p => br_c (fun g => nm_r (nI_1 i) (K _ (kb_SQn hs (fun q => q.2.1 g)))) (fun g => br_c (fun e => nm_r (nI_1 i) (K _ (kb_SQn hs (fun q => q.2.2 e)))) (fun e => nm_e (nm_r (nI_1 i) (K _ (kb_SQy hi' hs ⟨p, g, e⟩)))))) (fun p => nm_r (nI_1 i) (K _ (kb_SQn hs (fun q => p q.1)))))
/-! count -/
theorem kb_xn {post : Int32 → Prop} {s : Int64} {va ma : Nat → Int32} (H : post (kb_cnt s 64)) : ∃ n, wX_count_24 post s va ma n 0 0 := by
  refine loop_0 (fun n i c => wX_count_24 post s va ma n c (nI i)) (fun k c => c = kb_cnt s k) 64 0 rfl ?_ ?_
  · intro n c hc
    subst hc
    exact br_t kb_64 H
  · intro n i c hi hc K
    subst hc
    exact br_f (kb_n64 hi) (kb_xi (Q := kb_m s) (fun _ _ => Iff.rfl) hi (fun m => nm_e (nm_r (nI_1 i) (K _ (kb_cnt_y m)))) (fun m => nm_r (nI_1 i) (K _ (kb_cnt_n m))))
theorem kb_ynt {post : Int32 → Prop} {r : Nat} {lo hi : Int32} {s : Int64} {va ma : Nat → Int32} (hr : r < 6) (hs : ∀ i, i < 64 → (kb_m s i ↔ kb_W (va r) (ma r) lo hi i)) (H : post (kb_cnt s 64)) : ∃ n, wY_count_15 post (nI r) lo hi va ma n 0 0 := by
  refine loop_0 (fun n i c => wY_count_15 post (nI r) lo hi va ma n c (nI i)) (fun k c => c = kb_cnt s k) 64 0 rfl ?_ ?_
  · intro n c hc
    subst hc
    exact br_t kb_64 H
  · intro n i c hi' hc K
    subst hc
    have w := hs i hi'
    exact br_f (kb_n64 hi') (kb_ys hr (fun p => br_c (fun g => nm_r (nI_1 i) (K _ (kb_cnt_n (fun q => (w.mp q).2.1 g)))) (fun g => br_c (fun e => nm_r (nI_1 i) (K _ (kb_cnt_n (fun q => (w.mp q).2.2 e)))) (fun e => nm_e (nm_r (nI_1 i) (K _ (kb_cnt_y (w.mpr ⟨p, g, e⟩))))))) (fun p => nm_r (nI_1 i) (K _ (kb_cnt_n (fun q => p (w.mp q).1)))))
/-! least -/
theorem kb_xl {post : Int32 → Prop} {s : Int64} {r : Nat} {va ma : Nat → Int32} (L : kb_L s r) (H : post (nI r)) : ∀ n i, i ≤ r → r - i < n → wX_least_21 post s va ma n (nI i) := by
  obtain ⟨hr, ht, hn⟩ := L
  intro n
  induction n with
  | zero => intro i _ h; omega
  | succ n ih =>
    intro i hi h
    by_cases e : i = 64
    · have z : r = 64 := by omega
      subst e
      rw [z] at H
      exact br_t kb_64 H
    · have hi' : i < 64 := by omega
      refine br_f (kb_n64 hi') (kb_xi (Q := kb_m s) (fun _ _ => Iff.rfl) hi' (fun m => ?_) (fun m => nm_r (nI_1 i) (ih (i + 1) ?_ ?_)))
      · have z : i = r := by
          rcases Nat.lt_or_ge i r with c | c
          · exact absurd m (hn i c)
          · omega
        rw [z]
        exact H
      · rcases Nat.lt_or_ge i r with c | c
        · omega
        · have z : i = r := by omega
          rw [z] at m hi'
          exact absurd (ht hi') m
      · rcases Nat.lt_or_ge i r with c | c
        · omega
        · have z : i = r := by omega
          rw [z] at m hi'
          exact absurd (ht hi') m
theorem kb_yl {post : Int32 → Prop} {s : Int64} {r a : Nat} {fr : Int32} {va ma : Nat → Int32} (ha : a < 6) (hs : ∀ i, i < 64 → (kb_m s i ↔ kb_W (va a) (ma a) fr 63 i)) (L : kb_L s r) (H : post (nI r)) : ∀ n i, i ≤ r → r - i < n → wY_least_11 post (nI a) fr va ma n (nI i) := by
  obtain ⟨hr, ht, hn⟩ := L
  intro n
  induction n with
  | zero => intro i _ h; omega
  | succ n ih =>
    intro i hi h
    by_cases e : i = 64
    · have z : r = 64 := by omega
      subst e
      rw [z] at H
      exact br_t kb_64 H
    · have hi' : i < 64 := by omega
      have w := hs i hi'
      have nx : ¬ kb_m s i → wY_least_11 post (nI a) fr va ma n (nI (i + 1)) := by
        intro m
        rcases Nat.lt_or_ge i r with c | c
        · exact ih (i + 1) (by omega) (by omega)
        · have z : i = r := by omega
          rw [z] at m hi'
          exact absurd (ht hi') m
      refine br_f (kb_n64 hi') (br_c (fun g => nm_r (nI_1 i) (nx (fun q => (w.mp q).2.1 g))) (fun g => kb_ys ha (fun p => ?_) (fun p => nm_r (nI_1 i) (nx (fun q => p (w.mp q).1)))))
      have m : kb_m s i := w.mpr ⟨p, g, kb_n63 i hi'⟩
      have z : i = r := by
        rcases Nat.lt_or_ge i r with c | c
        · exact absurd m (hn i c)
        · omega
      rw [z]
      exact H
