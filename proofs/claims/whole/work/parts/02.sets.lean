/-! a pattern's numbers -/
def kb_st (v m : Int32) (n : Nat) : Prop := nI n &&& (m ^^^ (-1)) = v
/-- a register that stands for some number -/
def kb_J (v m : Int32) : Prop := ∃ j, j < 64 ∧ v = nI j ∧ kb_st v m j
theorem kb_J0 : kb_J 0 0 := ⟨0, by decide, rfl, by unfold kb_st; decide⟩
theorem kb_Jset (v m : Int32) : kb_J ((v &&& 63) &&& ((m &&& 63) ^^^ (-1))) (m &&& 63) := by
  have e : (v &&& 63) &&& ((m &&& 63) ^^^ (-1)) = ((v &&& (m ^^^ (-1))) &&& 63) := (kb_i7 v m).symm
  obtain ⟨j, hj, ej⟩ := kb_63 (v &&& (m ^^^ (-1)))
  refine ⟨j, hj, e.trans ej, ?_⟩
  unfold kb_st
  rw [← ej, ← e]
  exact kb_i4 _ _
/-! Y's fold: the first number of a set, and where another differs from it -/
def kb_fst (s : Int64) : Nat → Int32
  | 0 => -1
  | k + 1 => if s.toBitVec.getLsbD k = true then (if kb_fst s k < 0 then nI k else kb_fst s k) else kb_fst s k
def kb_dif (s : Int64) : Nat → Int32
  | 0 => 0
  | k + 1 => if s.toBitVec.getLsbD k = true then kb_dif s k ||| (nI k ^^^ kb_fst s (k + 1)) else kb_dif s k
theorem kb_fst_n {s : Int64} {k : Nat} (h : ¬ kb_m s k) : kb_fst s (k + 1) = kb_fst s k := if_neg h
theorem kb_dif_n {s : Int64} {k : Nat} (h : ¬ kb_m s k) : kb_dif s (k + 1) = kb_dif s k := if_neg h
theorem kb_fst_t {s : Int64} {k : Nat} (h : kb_m s k) (f : kb_fst s k < 0) : kb_fst s (k + 1) = nI k := (if_pos h).trans (if_pos f)
theorem kb_fst_f {s : Int64} {k : Nat} (h : kb_m s k) (f : ¬ kb_fst s k < 0) : kb_fst s (k + 1) = kb_fst s k := (if_pos h).trans (if_neg f)
theorem kb_dif_y {s : Int64} {k : Nat} (h : kb_m s k) : kb_dif s (k + 1) = kb_dif s k ||| (nI k ^^^ kb_fst s (k + 1)) := if_pos h
theorem kb_F0 {s : Int64} : ∀ {k : Nat}, (∀ n, n < k → ¬ kb_m s n) → kb_fst s k = -1 ∧ kb_dif s k = 0 := by
  intro k
  induction k with
  | zero => intro _; exact ⟨rfl, rfl⟩
  | succ k ih =>
    intro h
    have hk := h k (Nat.lt_succ_self k)
    obtain ⟨a, b⟩ := ih (fun n hn => h n (Nat.lt_succ_of_lt hn))
    exact ⟨(kb_fst_n hk).trans a, (kb_dif_n hk).trans b⟩
theorem kb_neg1 : (-1 : Int32) < 0 := by decide
/-- X's fold over the same set -/
def kb_IX (s : Int64) (k : Nat) (al an : Int32) : Prop :=
  ((∀ n, n < k → ¬ kb_m s n) ∧ al = 63 ∧ an = 0) ∨
  ((∃ n, n < k ∧ kb_m s n) ∧ ¬ kb_fst s k < 0 ∧ al = kb_fst s k &&& (kb_dif s k ^^^ (-1)) ∧ an = kb_fst s k ||| kb_dif s k ∧ ∃ a, a < 64 ∧ al = nI a)
theorem kb_IX0 (s : Int64) : kb_IX s 0 63 0 := Or.inl ⟨fun n h => absurd h (Nat.not_lt_zero n), rfl, rfl⟩
theorem kb_IXn {s : Int64} {k : Nat} {al an : Int32} (h : kb_IX s k al an) (hm : ¬ kb_m s k) : kb_IX s (k + 1) al an := by
  rcases h with ⟨h0, e1, e2⟩ | ⟨⟨n, hn, mn⟩, f, e1, e2, e3⟩
  · refine Or.inl ⟨fun n hn => ?_, e1, e2⟩
    rcases Nat.lt_succ_iff_lt_or_eq.mp hn with h | h
    · exact h0 n h
    · rw [h]; exact hm
  · refine Or.inr ⟨⟨n, Nat.lt_succ_of_lt hn, mn⟩, ?_, ?_, ?_, e3⟩
    · rw [kb_fst_n hm]; exact f
    · rw [kb_fst_n hm, kb_dif_n hm]; exact e1
    · rw [kb_fst_n hm, kb_dif_n hm]; exact e2
theorem kb_IXy {s : Int64} {k : Nat} {al an : Int32} (hk : k < 64) (h : kb_IX s k al an) (hm : kb_m s k) : kb_IX s (k + 1) (al &&& nI k) (an ||| nI k) := by
  have hp : ¬ nI k < 0 := nI_pos (by omega)
  rcases h with ⟨h0, e1, e2⟩ | ⟨_, f, e1, e2, a, ha, e3⟩
  · obtain ⟨f0, d0⟩ := kb_F0 h0
    have f1 : kb_fst s (k + 1) = nI k := kb_fst_t hm (by rw [f0]; exact kb_neg1)
    have d1 : kb_dif s (k + 1) = 0 ||| (nI k ^^^ nI k) := by rw [kb_dif_y hm, d0, f1]
    refine Or.inr ⟨⟨k, Nat.lt_succ_self k, hm⟩, ?_, ?_, ?_, k, hk, ?_⟩
    · rw [f1]; exact hp
    · rw [f1, d1, e1, kb_63n k hk, kb_i5]
    · rw [f1, d1, e2, kb_i6]
    · rw [e1, kb_63n k hk]
  · have f1 : kb_fst s (k + 1) = kb_fst s k := kb_fst_f hm f
    have d1 : kb_dif s (k + 1) = kb_dif s k ||| (nI k ^^^ kb_fst s k) := by rw [kb_dif_y hm, f1]
    refine Or.inr ⟨⟨k, Nat.lt_succ_self k, hm⟩, ?_, ?_, ?_, a &&& k, Nat.lt_of_le_of_lt Nat.and_le_left ha, ?_⟩
    · rw [f1]; exact f
    · rw [f1, d1, e1, kb_i1]
    · rw [f1, d1, e2, kb_i2]
    · rw [e3, kb_nand]
/-- what both sides store -/
def kb_V (s : Int64) : Int32 := kb_fst s 64 &&& (kb_dif s 64 ^^^ (-1))
def kb_M (s : Int64) : Int32 := kb_dif s 64
theorem kb_IXe {s : Int64} {al an : Int32} (h : kb_IX s 64 al an) (z : ¬ s = 0) : al = kb_V s ∧ an &&& (al ^^^ (-1)) = kb_M s ∧ kb_J (kb_V s) (kb_M s) ∧ ¬ kb_fst s 64 < 0 := by
  rcases h with ⟨h0, _, _⟩ | ⟨_, f, e1, e2, a, ha, e3⟩
  · obtain ⟨n, hn, mn⟩ := kb_ne.mp z
    exact absurd mn (h0 n hn)
  · refine ⟨e1, ?_, ⟨a, ha, e1.symm.trans e3, ?_⟩, f⟩
    · rw [e2, e1, kb_i3]; rfl
    · unfold kb_st kb_V kb_M
      rw [← e3, e1, kb_i4]
/-- X's fold as a function, so that the two facts of it can be had without a walk -/
theorem kb_IXex (s : Int64) : ∀ k, k ≤ 64 → ∃ al an, kb_IX s k al an := by
  intro k
  induction k with
  | zero => intro _; exact ⟨_, _, kb_IX0 s⟩
  | succ k ih =>
    intro hk
    obtain ⟨al, an, h⟩ := ih (by omega)
    by_cases hm : kb_m s k
    · exact ⟨_, _, kb_IXy (by omega) h hm⟩
    · exact ⟨_, _, kb_IXn h hm⟩
theorem kb_JV {s : Int64} (z : ¬ s = 0) : kb_J (kb_V s) (kb_M s) := by
  obtain ⟨al, an, h⟩ := kb_IXex s 64 (Nat.le_refl _)
  exact (kb_IXe h z).2.2.1
theorem kb_fpos {s : Int64} (z : ¬ s = 0) : ¬ kb_fst s 64 < 0 := by
  obtain ⟨al, an, h⟩ := kb_IXex s 64 (Nat.le_refl _)
  exact (kb_IXe h z).2.2.2
theorem kb_fneg : kb_fst 0 64 < 0 := by
  rw [(kb_F0 (fun n _ => kb_m0 n)).1]
  exact kb_neg1
/-! sets built by loops -/
def kb_SI (P : Nat → Nat → Prop) (k : Nat) (s : Int64) : Prop := ∀ i, i < 64 → (kb_m s i ↔ ∃ n, n < k ∧ P n i)
theorem kb_SI0 (P : Nat → Nat → Prop) : kb_SI P 0 0 := fun i _ => ⟨fun h => absurd h (kb_m0 i), fun ⟨n, h, _⟩ => absurd h (Nat.not_lt_zero n)⟩
theorem kb_SIy {P : Nat → Nat → Prop} {k : Nat} {s e : Int64} (h : kb_SI P k s) (he : ∀ i, i < 64 → (kb_m e i ↔ P k i)) : kb_SI P (k + 1) (s ||| e) := by
  intro i hi
  rw [kb_mor, h i hi, he i hi]
  constructor
  · rintro (⟨n, a, b⟩ | b)
    · exact ⟨n, Nat.lt_succ_of_lt a, b⟩
    · exact ⟨k, Nat.lt_succ_self k, b⟩
  · rintro ⟨n, a, b⟩
    rcases Nat.lt_succ_iff_lt_or_eq.mp a with c | c
    · exact Or.inl ⟨n, c, b⟩
    · rw [c] at b; exact Or.inr b
theorem kb_SIn {P : Nat → Nat → Prop} {k : Nat} {s : Int64} (h : kb_SI P k s) (he : ∀ i, i < 64 → ¬ P k i) : kb_SI P (k + 1) s := by
  intro i hi
  rw [h i hi]
  constructor
  · rintro ⟨n, a, b⟩
    exact ⟨n, Nat.lt_succ_of_lt a, b⟩
  · rintro ⟨n, a, b⟩
    rcases Nat.lt_succ_iff_lt_or_eq.mp a with c | c
    · exact ⟨n, c, b⟩
    · rw [c] at b; exact absurd b (he i hi)
/-! pairs: those that a double loop has seen when it stands at x, y -/
def kb_D (x y n m : Nat) : Prop := (n < x ∧ m < 64) ∨ (n = x ∧ m < y)
theorem kb_D0 (n m : Nat) : ¬ kb_D 0 0 n m := by unfold kb_D; omega
theorem kb_Ds (x y n m : Nat) : kb_D x (y + 1) n m ↔ kb_D x y n m ∨ (n = x ∧ m = y) := by unfold kb_D; omega
theorem kb_Dr (x n m : Nat) : kb_D x 64 n m ↔ kb_D (x + 1) 0 n m := by unfold kb_D; omega
theorem kb_De (n m : Nat) : kb_D 64 0 n m ↔ n < 64 ∧ m < 64 := by unfold kb_D; omega
def kb_E (P : Nat → Nat → Prop) (x y : Nat) : Prop := ∃ n m, kb_D x y n m ∧ P n m
theorem kb_E0 (P : Nat → Nat → Prop) : ¬ kb_E P 0 0 := fun ⟨n, m, h, _⟩ => kb_D0 n m h
theorem kb_Es (P : Nat → Nat → Prop) (x y : Nat) : kb_E P x (y + 1) ↔ kb_E P x y ∨ P x y := by
  constructor
  · rintro ⟨n, m, h, p⟩
    rcases (kb_Ds x y n m).mp h with d | ⟨rfl, rfl⟩
    · exact Or.inl ⟨n, m, d, p⟩
    · exact Or.inr p
  · rintro (⟨n, m, h, p⟩ | p)
    · exact ⟨n, m, (kb_Ds x y n m).mpr (Or.inl h), p⟩
    · exact ⟨x, y, (kb_Ds x y x y).mpr (Or.inr ⟨rfl, rfl⟩), p⟩
theorem kb_Er (P : Nat → Nat → Prop) (x : Nat) : kb_E P x 64 ↔ kb_E P (x + 1) 0 :=
  ⟨fun ⟨n, m, h, p⟩ => ⟨n, m, (kb_Dr x n m).mp h, p⟩, fun ⟨n, m, h, p⟩ => ⟨n, m, (kb_Dr x n m).mpr h, p⟩⟩
theorem kb_Ee (P : Nat → Nat → Prop) : kb_E P 64 0 ↔ ∃ n m, n < 64 ∧ m < 64 ∧ P n m :=
  ⟨fun ⟨n, m, h, p⟩ => ⟨n, m, ((kb_De n m).mp h).1, ((kb_De n m).mp h).2, p⟩, fun ⟨n, m, a, b, p⟩ => ⟨n, m, (kb_De n m).mpr ⟨a, b⟩, p⟩⟩
def kb_SJ (P : Nat → Nat → Nat → Prop) (x y : Nat) (s : Int64) : Prop := ∀ i, i < 64 → (kb_m s i ↔ kb_E (fun n m => P n m i) x y)
theorem kb_SJ0 (P : Nat → Nat → Nat → Prop) : kb_SJ P 0 0 0 := fun i _ => ⟨fun h => absurd h (kb_m0 i), fun h => absurd h (kb_E0 _)⟩
theorem kb_SJy {P : Nat → Nat → Nat → Prop} {x y : Nat} {s e : Int64} (h : kb_SJ P x y s) (he : ∀ i, i < 64 → (kb_m e i ↔ P x y i)) : kb_SJ P x (y + 1) (s ||| e) := by
  intro i hi
  rw [kb_mor, h i hi, he i hi, kb_Es]
theorem kb_SJn {P : Nat → Nat → Nat → Prop} {x y : Nat} {s : Int64} (h : kb_SJ P x y s) (he : ∀ i, i < 64 → ¬ P x y i) : kb_SJ P x (y + 1) s := by
  intro i hi
  rw [h i hi, kb_Es]
  exact ⟨Or.inl, fun z => z.elim id (fun p => absurd p (he i hi))⟩
theorem kb_SJr {P : Nat → Nat → Nat → Prop} {x : Nat} {s : Int64} (h : kb_SJ P x 64 s) : kb_SJ P (x + 1) 0 s := fun i hi => (h i hi).trans (kb_Er _ x)
theorem kb_SJe {P : Nat → Nat → Nat → Prop} {s : Int64} (h : kb_SJ P 64 0 s) : ∀ i, i < 64 → (kb_m s i ↔ ∃ n m, n < 64 ∧ m < 64 ∧ P n m i) := fun i hi => (h i hi).trans (kb_Ee _)
/-! counting, and the first -/
def kb_cnt (s : Int64) : Nat → Int32
  | 0 => 0
  | k + 1 => if s.toBitVec.getLsbD k = true then kb_cnt s k + 1 else kb_cnt s k
theorem kb_cnt_y {s : Int64} {k : Nat} (h : kb_m s k) : kb_cnt s k + 1 = kb_cnt s (k + 1) := (if_pos h).symm
theorem kb_cnt_n {s : Int64} {k : Nat} (h : ¬ kb_m s k) : kb_cnt s k = kb_cnt s (k + 1) := (if_neg h).symm
/-- r is the first number of s, or 64 -/
def kb_L (s : Int64) (r : Nat) : Prop := r ≤ 64 ∧ (r < 64 → kb_m s r) ∧ ∀ j, j < r → ¬ kb_m s j
theorem kb_Lex (s : Int64) : ∃ r, kb_L s r := by
  have h : ∀ k, k ≤ 64 → (∃ r, kb_L s r) ∨ ∀ j, j < k → ¬ kb_m s j := by
    intro k
    induction k with
    | zero => intro _; exact Or.inr (fun j h => absurd h (Nat.not_lt_zero j))
    | succ k ih =>
      intro hk
      rcases ih (by omega) with a | a
      · exact Or.inl a
      · by_cases hm : kb_m s k
        · exact Or.inl ⟨k, by omega, fun _ => hm, a⟩
        · refine Or.inr (fun j hj => ?_)
          rcases Nat.lt_succ_iff_lt_or_eq.mp hj with c | c
          · exact a j c
          · rw [c]; exact hm
  rcases h 64 (Nat.le_refl _) with a | a
  · exact a
  · exact ⟨64, Nat.le_refl _, fun z => absurd z (Nat.lt_irrefl _), a⟩
