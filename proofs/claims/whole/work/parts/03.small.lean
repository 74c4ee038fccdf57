/-! numbers -/
theorem kb_10 : ¬ (1 : Int32) = 0 := by decide
theorem kb_64 : (64 : Int32) ≤ nI 64 := by decide +kernel
theorem kb_n64 {i : Nat} (h : i < 64) : ¬ (64 : Int32) ≤ nI i := nI_ge (b := 64) h (by decide)
theorem kb_n63 : ∀ i, i < 64 → ¬ (63 : Int32) < nI i := by decide +kernel
theorem kb_n0 : ∀ i, i < 64 → ¬ nI i < (0 : Int32) := by decide +kernel
theorem kb_cl {r : Nat} (h : r < 6) : (nI r).toNatClampNeg = r := nI_clamp (by omega)
theorem kb_in {r : Nat} (h : r < 6) : vp_in (nI r) 6 := vp_in_nI h (by decide)
theorem kb_us (f : Nat → Int32) (k : Nat) (x : Int32) : upd f k x k = x := if_pos rfl
theorem kb_un (f : Nat → Int32) {k j : Nat} (x : Int32) (h : ¬ j = k) : upd f k x j = f j := if_neg h
/-! registers: within or not -/
def kb_bad (p : Int32) : Prop := p < 0 ∨ (¬ p < 0 ∧ 6 ≤ p ∧ ¬ p ≤ 5)
theorem kb_reg (p : Int32) : kb_bad p ∨ ∃ j, j < 6 ∧ p = nI j := by
  by_cases h0 : p < 0
  · exact Or.inl (Or.inl h0)
  · obtain ⟨j, hj, rfl⟩ := nI_of h0
    by_cases h : j < 6
    · exact Or.inr ⟨j, h, rfl⟩
    · refine Or.inl (Or.inr ⟨h0, ?_, ?_⟩)
      · exact nI_le (a := 6) (by omega) hj
      · exact nI_ge (b := j) (a := 5) (by omega) hj
theorem kb_r6 : ∀ j, j < 6 → ¬ nI j < (0 : Int32) ∧ ¬ (6 : Int32) ≤ nI j ∧ nI j ≤ (5 : Int32) ∧ ¬ (5 : Int32) < nI j := by decide +kernel
theorem kb_xr {A B : Prop} {j : Nat} (hj : j < 6) (b : B) : wpX_isRegister (fun r => (r = 0 → A) ∧ (¬ r = 0 → B)) (nI j) := by
  unfold wpX_isRegister
  exact br_f (kb_r6 j hj).1 (br_f (kb_r6 j hj).2.1 (br_f kb_10 b))
theorem kb_xb {A B : Prop} {p : Int32} (h : kb_bad p) (a : A) : wpX_isRegister (fun r => (r = 0 → A) ∧ (¬ r = 0 → B)) p := by
  unfold wpX_isRegister
  rcases h with h | ⟨h0, h6, _⟩
  · exact br_t h (br_t rfl a)
  · exact br_f h0 (br_t h6 (br_t rfl a))
theorem kb_yr {A B : Prop} {j : Nat} (hj : j < 6) (a : A) : wpY_bad (fun r => (r = 0 → A) ∧ (¬ r = 0 → B)) (nI j) := by
  unfold wpY_bad
  exact br_f (kb_r6 j hj).1 (br_t (kb_r6 j hj).2.2.1 (br_t rfl a))
theorem kb_yb {A B : Prop} {p : Int32} (h : kb_bad p) (b : B) : wpY_bad (fun r => (r = 0 → A) ∧ (¬ r = 0 → B)) p := by
  unfold wpY_bad
  rcases h with h | ⟨h0, _, h5⟩
  · exact br_t h (br_f kb_10 b)
  · exact br_f h0 (br_f h5 (br_f kb_10 b))
theorem kb_xc {A B : Prop} {j : Nat} (hj : j < 6) (b : B) : wpX_isComparison (fun r => (r = 0 → A) ∧ (¬ r = 0 → B)) (nI j) := by
  unfold wpX_isComparison
  exact br_f (kb_r6 j hj).1 (br_f (kb_r6 j hj).2.1 (br_f kb_10 b))
theorem kb_xcb {A B : Prop} {p : Int32} (h : kb_bad p) (a : A) : wpX_isComparison (fun r => (r = 0 → A) ∧ (¬ r = 0 → B)) p := by
  unfold wpX_isComparison
  rcases h with h | ⟨h0, h6, _⟩
  · exact br_t h (br_t rfl a)
  · exact br_f h0 (br_t h6 (br_t rfl a))
/-! is a number in a set -/
theorem kb_xi {A B : Prop} {Q : Nat → Prop} {s : Int64} {k : Nat} (hs : ∀ i, i < 64 → (kb_m s i ↔ Q i)) (hk : k < 64) (t : Q k → B) (f : ¬ Q k → A) : wpX_isIn (fun r => (r = 0 → A) ∧ (¬ r = 0 → B)) (nI k) s := by
  unfold wpX_isIn
  by_cases h : kb_m s k
  · exact br_f (fun z => (kb_bx hk).mp z h) (br_f kb_10 (t ((hs k hk).mp h)))
  · exact br_t ((kb_bx hk).mpr h) (br_t rfl (f (fun q => h ((hs k hk).mpr q))))
theorem kb_ys {A B : Prop} {va ma : Nat → Int32} {r k : Nat} (hr : r < 6) (t : kb_st (va r) (ma r) k → B) (f : ¬ kb_st (va r) (ma r) k → A) : wpY_stands (fun r => (r = 0 → A) ∧ (¬ r = 0 → B)) (va, ma) (nI r) (nI k) := by
  unfold wpY_stands
  dsimp only
  rw [kb_cl hr]
  refine ⟨kb_in hr, kb_in hr, ?_⟩
  by_cases h : kb_st (va r) (ma r) k
  · exact br_t h (br_f kb_10 (t h))
  · exact br_f h (br_t rfl (f h))
/-! sets of the numbers that have a property, built one by one -/
def kb_SQ (Q : Nat → Prop) (k : Nat) (s : Int64) : Prop := ∀ i, i < 64 → (kb_m s i ↔ i < k ∧ Q i)
theorem kb_SQ0 (Q : Nat → Prop) : kb_SQ Q 0 0 := fun i _ => ⟨fun h => absurd h (kb_m0 i), fun h => absurd h.1 (Nat.not_lt_zero i)⟩
theorem kb_SQy {Q : Nat → Prop} {k : Nat} {s : Int64} (hk : k < 64) (h : kb_SQ Q k s) (q : Q k) : kb_SQ Q (k + 1) (s ||| ((1 : Int64) <<< ((nI k).toInt64 &&& 63))) := by
  intro i hi
  rw [kb_mor, h i hi, kb_mone hk]
  constructor
  · rintro (⟨a, b⟩ | a)
    · exact ⟨Nat.lt_succ_of_lt a, b⟩
    · rw [a]; exact ⟨Nat.lt_succ_self k, q⟩
  · rintro ⟨a, b⟩
    rcases Nat.lt_succ_iff_lt_or_eq.mp a with c | c
    · exact Or.inl ⟨c, b⟩
    · exact Or.inr c
theorem kb_SQn {Q : Nat → Prop} {k : Nat} {s : Int64} (h : kb_SQ Q k s) (q : ¬ Q k) : kb_SQ Q (k + 1) s := by
  intro i hi
  rw [h i hi]
  constructor
  · rintro ⟨a, b⟩
    exact ⟨Nat.lt_succ_of_lt a, b⟩
  · rintro ⟨a, b⟩
    rcases Nat.lt_succ_iff_lt_or_eq.mp a with c | c
    · exact ⟨c, b⟩
    · rw [c] at b; exact absurd b q
theorem kb_SQe {Q : Nat → Prop} {s : Int64} (h : kb_SQ Q 64 s) : ∀ i, i < 64 → (kb_m s i ↔ Q i) := fun i hi => (h i hi).trans ⟨fun z => z.2, fun z => ⟨hi, z⟩⟩
/-! X's numbersWithin -/
def kb_W (v m lo hi : Int32) (n : Nat) : Prop := kb_st v m n ∧ ¬ nI n < lo ∧ ¬ hi < nI n
theorem kb_nw38 {post : Int64 → Prop} {J : Int64 → Int32 → Prop} {x1 lo hi z : Int32} {s : Int64} {i : Nat} {va ma : Nat → Int32} (c : ¬ z = 0 → ¬ nI i < lo → ¬ hi < nI i → J (s ||| ((1 : Int64) <<< ((nI i).toInt64 &&& 63))) (nI (i + 1))) (d : (z = 0 ∨ nI i < lo ∨ hi < nI i) → J s (nI (i + 1))) : wX_numbersWithin_38 post J x1 lo hi s (nI i) z va ma := by
  unfold wX_numbersWithin_38
  exact br_c (fun h => nm_r (nI_1 i) (d (Or.inl h))) (fun h => br_c (fun g => nm_r (nI_1 i) (d (Or.inr (Or.inl g)))) (fun g => br_c (fun e => nm_r (nI_1 i) (d (Or.inr (Or.inr e)))) (fun e => nm_e (nm_r (nI_1 i) (c h g e)))))
theorem kb_nw {post : Int64 → Prop} {r : Nat} {lo hi : Int32} {va ma : Nat → Int32} (hr : r < 6) (H : ∀ s, (∀ i, i < 64 → (kb_m s i ↔ kb_W (va r) (ma r) lo hi i)) → post s) : wpX_numbersWithin post (va, ma) (nI r) lo hi := by
  unfold wpX_numbersWithin
  dsimp only
  refine loop_0 (fun n i s => wX_numbersWithin_6 post (nI r) lo hi va ma n s (nI i)) (fun k s => kb_SQ (kb_W (va r) (ma r) lo hi) k s) 64 0 (kb_SQ0 _) ?_ ?_
  · intro n s hs
    exact br_t kb_64 (H s (kb_SQe hs))
  · intro n i s hi' hs K
    refine br_f (kb_n64 hi') ⟨kb_in hr, kb_in hr, ?_⟩
    rw [kb_cl hr]
    refine br_c (fun h => kb_nw38 (fun _ a b => K _ (kb_SQy hi' hs ⟨h, a, b⟩)) (fun o => K _ (kb_SQn hs ?_))) (fun h => kb_nw38 (fun z _ _ => absurd rfl z) (fun _ => K _ (kb_SQn hs (fun q => h q.1))))
    rintro ⟨_, a, b⟩
    rcases o with o | o | o
    · exact kb_10 o
    · exact a o
    · exact b o
theorem kb_no {post : Int64 → Prop} {r : Nat} {va ma : Nat → Int32} (hr : r < 6) (H : ∀ s, (∀ i, i < 64 → (kb_m s i ↔ kb_st (va r) (ma r) i)) → post s) : wpX_numbersOf post (va, ma) (nI r) := by
  unfold wpX_numbersOf
  dsimp only
  exact kb_nw hr (fun s hs => H s (fun i hi => (hs i hi).trans ⟨fun z => z.1, fun z => ⟨z, kb_n0 i hi, kb_n63 i hi⟩⟩))
/-! the two ways to keep a set's least pattern -/
theorem kb_kx {post : Int32 → SX → Prop} {r : Nat} {s : Int64} {va ma : Nat → Int32} (hr : r < 6) (h0 : s = 0 → post (-2) (va, ma)) (h1 : ¬ s = 0 → post 0 (upd va r (kb_V s), upd ma r (kb_M s))) : wpX_keepLeastPattern post (va, ma) (nI r) s := by
  unfold wpX_keepLeastPattern
  dsimp only
  refine br_c h0 (fun z => ?_)
  refine loop_0 (fun n i (t : Int32 × Int32) => wX_keepLeastPattern_19 post (nI r) s va ma n t.1 t.2 (nI i)) (fun k t => kb_IX s k t.1 t.2) 64 (63, 0) (kb_IX0 s) ?_ ?_
  · intro n t ht
    obtain ⟨e1, e2, _, _⟩ := kb_IXe ht z
    refine br_t kb_64 ⟨kb_in hr, ?_⟩
    rw [kb_cl hr, e2, e1]
    exact nm_e ⟨kb_in hr, nm_e (h1 z)⟩
  · intro n i t hi ht K
    exact br_f (kb_n64 hi) (kb_xi (Q := kb_m s) (fun _ _ => Iff.rfl) hi (fun m => nm_e (nm_e (nm_r (nI_1 i) (K (_, _) (kb_IXy hi ht m))))) (fun m => nm_r (nI_1 i) (K t (kb_IXn ht m))))
theorem kb_0le {x : Int32} (h : ¬ x < 0) : (0 : Int32) ≤ x := Int32.not_lt.mp h
theorem kb_n0le {x : Int32} (h : x < 0) : ¬ (0 : Int32) ≤ x := Int32.not_le.mpr h
theorem kb_ky {post : Int32 → SY → Prop} {r : Nat} {s : Int64} {va ma : Nat → Int32} (hr : r < 6) (h0 : s = 0 → post (-2) (va, ma)) (h1 : ¬ s = 0 → post 0 (upd va r (kb_V s), upd ma r (kb_M s))) : wpY_keep post (va, ma) (nI r) s := by
  unfold wpY_keep
  dsimp only
  refine loop_0 (fun n i (t : Int32 × Int32) => wY_keep_9 post (nI r) s va ma n t.1 t.2 (nI i)) (fun k t => t = (kb_fst s k, kb_dif s k)) 64 (-1, 0) rfl ?_ ?_
  · intro n t ht
    subst ht
    refine br_t kb_64 ?_
    by_cases z : s = 0
    · have f : kb_fst s 64 < 0 := by rw [z]; exact kb_fneg
      exact br_f (kb_n0le f) (h0 z)
    · refine br_t (kb_0le (kb_fpos z)) ⟨kb_in hr, ?_⟩
      rw [kb_cl hr]
      exact nm_e ⟨kb_in hr, nm_e (h1 z)⟩
  · intro n i t hi ht K
    subst ht
    refine br_f (kb_n64 hi) ?_
    by_cases m : kb_m s i
    · refine br_t ((kb_by hi).mpr m) ?_
      by_cases f : kb_fst s i < 0
      · refine br_f (kb_n0le f) ?_
        unfold wY_keep_36
        exact nm_e (nm_r (nI_1 i) (K (nI i, kb_dif s i ||| (nI i ^^^ nI i)) (by rw [kb_dif_y m, kb_fst_t m f])))
      · refine br_t (kb_0le f) ?_
        unfold wY_keep_36
        exact nm_e (nm_r (nI_1 i) (K (_, _) (by rw [kb_dif_y m, kb_fst_f m f])))
    · exact br_f (fun q => m ((kb_by hi).mp q)) (nm_r (nI_1 i) (K (_, _) (by rw [kb_dif_n m, kb_fst_n m])))
