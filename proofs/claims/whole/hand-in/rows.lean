section
/-! the bits of an int -/
def kb_b (x : Int32) (i : Nat) : Bool := x.toBitVec.getLsbD i
theorem kb_ext {x y : Int32} (h : ∀ i, i < 32 → kb_b x i = kb_b y i) : x = y := Int32.toBitVec_inj.mp (BitVec.eq_of_getLsbD_eq (fun i hi => h i hi))
theorem kb_or (x y : Int32) (i : Nat) : kb_b (x ||| y) i = (kb_b x i || kb_b y i) := by unfold kb_b; rw [Int32.toBitVec_or, BitVec.getLsbD_or]
theorem kb_and (x y : Int32) (i : Nat) : kb_b (x &&& y) i = (kb_b x i && kb_b y i) := by unfold kb_b; rw [Int32.toBitVec_and, BitVec.getLsbD_and]
theorem kb_xor (x y : Int32) (i : Nat) : kb_b (x ^^^ y) i = (kb_b x i ^^ kb_b y i) := by unfold kb_b; rw [Int32.toBitVec_xor, BitVec.getLsbD_xor]
theorem kb_m1 : ∀ i, i < 32 → kb_b (-1) i = true := by decide +kernel
theorem kb_b0 (i : Nat) : kb_b 0 i = false := BitVec.getLsbD_zero
/-! the steps of the two folds: all = f & ~d, any = f | d -/
theorem kb_i1 (f d n : Int32) : (f &&& (d ^^^ (-1))) &&& n = f &&& ((d ||| (n ^^^ f)) ^^^ (-1)) := by
  apply kb_ext
  intro i hi
  simp only [kb_and, kb_or, kb_xor, kb_m1 i hi]
  cases kb_b f i <;> cases kb_b d i <;> cases kb_b n i <;> rfl
theorem kb_i2 (f d n : Int32) : (f ||| d) ||| n = f ||| (d ||| (n ^^^ f)) := by
  apply kb_ext
  intro i hi
  simp only [kb_or, kb_xor]
  cases kb_b f i <;> cases kb_b d i <;> cases kb_b n i <;> rfl
theorem kb_i3 (f d : Int32) : (f ||| d) &&& ((f &&& (d ^^^ (-1))) ^^^ (-1)) = d := by
  apply kb_ext
  intro i hi
  simp only [kb_and, kb_or, kb_xor, kb_m1 i hi]
  cases kb_b f i <;> cases kb_b d i <;> rfl
theorem kb_i4 (f d : Int32) : (f &&& (d ^^^ (-1))) &&& (d ^^^ (-1)) = f &&& (d ^^^ (-1)) := by
  apply kb_ext
  intro i hi
  simp only [kb_and, kb_xor, kb_m1 i hi]
  cases kb_b f i <;> cases kb_b d i <;> rfl
theorem kb_i5 (n : Int32) : n &&& ((0 ||| (n ^^^ n)) ^^^ (-1)) = n := by
  apply kb_ext
  intro i hi
  simp only [kb_and, kb_or, kb_xor, kb_b0, kb_m1 i hi]
  cases kb_b n i <;> rfl
theorem kb_i6 (n : Int32) : n ||| (0 ||| (n ^^^ n)) = 0 ||| n := by
  apply kb_ext
  intro i hi
  simp only [kb_or, kb_xor, kb_b0]
  cases kb_b n i <;> rfl
/-! what set stores -/
theorem kb_i7 (v m : Int32) : (v &&& (m ^^^ (-1))) &&& 63 = (v &&& 63) &&& ((m &&& 63) ^^^ (-1)) := by
  apply kb_ext
  intro i hi
  simp only [kb_and, kb_xor, kb_m1 i hi]
  cases kb_b v i <;> cases kb_b m i <;> cases kb_b 63 i <;> rfl
theorem kb_nand (a b : Nat) : nI a &&& nI b = nI (a &&& b) := by
  apply Int32.toBitVec_inj.1
  show BitVec.ofNat 32 a &&& BitVec.ofNat 32 b = BitVec.ofNat 32 (a &&& b)
  apply BitVec.eq_of_getLsbD_eq
  intro i hi
  simp [hi]
theorem kb_nof (x : Int32) : x = nI x.toBitVec.toNat := by
  apply Int32.toBitVec_inj.1
  show x.toBitVec = BitVec.ofNat 32 x.toBitVec.toNat
  simp
theorem kb_63 (x : Int32) : ∃ j, j < 64 ∧ x &&& 63 = nI j := by
  refine ⟨x.toBitVec.toNat &&& 63, Nat.lt_of_le_of_lt Nat.and_le_right (by decide), ?_⟩
  rw [← kb_nand, ← kb_nof]
  rfl
theorem kb_63n : ∀ n, n < 64 → (63 : Int32) &&& nI n = nI n := by decide +kernel
/-! a long as a set of numbers below 64 -/
def kb_m (s : Int64) (i : Nat) : Prop := s.toBitVec.getLsbD i = true
theorem kb_mext {s t : Int64} (h : ∀ i, i < 64 → (kb_m s i ↔ kb_m t i)) : s = t := by
  apply Int64.toBitVec_inj.mp
  apply BitVec.eq_of_getLsbD_eq
  intro i hi
  exact Bool.eq_iff_iff.mpr (h i hi)
theorem kb_m0 (i : Nat) : ¬ kb_m 0 i := by
  show ¬ (0#64).getLsbD i = true
  rw [BitVec.getLsbD_zero]
  exact Bool.false_ne_true
theorem kb_mor (s t : Int64) (i : Nat) : kb_m (s ||| t) i ↔ kb_m s i ∨ kb_m t i := by
  unfold kb_m
  rw [Int64.toBitVec_or, BitVec.getLsbD_or, Bool.or_eq_true]
theorem kb_mand (s t : Int64) (i : Nat) : kb_m (s &&& t) i ↔ kb_m s i ∧ kb_m t i := by
  unfold kb_m
  rw [Int64.toBitVec_and, BitVec.getLsbD_and, Bool.and_eq_true]
theorem kb_tp : ∀ k, k < 64 → ((1 : Int64) <<< ((nI k).toInt64 &&& 63)).toBitVec = BitVec.twoPow 64 k := by decide +kernel
theorem kb_mone {k i : Nat} (hk : k < 64) : kb_m ((1 : Int64) <<< ((nI k).toInt64 &&& 63)) i ↔ i = k := by
  unfold kb_m
  rw [kb_tp k hk, BitVec.getLsbD_twoPow, Bool.and_eq_true, decide_eq_true_iff, decide_eq_true_iff]
  exact ⟨fun h => h.2.symm, fun h => ⟨hk, h.symm⟩⟩
theorem kb_cu : ∀ k, k < 64 → ((nI k).toInt64.toUInt64 &&& Int64.toUInt64 63).toNat % 64 = k := by decide +kernel
theorem kb_cs : ∀ k, k < 64 → (((nI k).toInt64 &&& 63).toBitVec.smod 64).toNat = k := by decide +kernel
theorem kb_one (w : BitVec 64) : w &&& 1#64 = 0#64 ↔ w.getLsbD 0 = false := by
  constructor
  · intro h
    have t := congrArg (fun x => x.getLsbD 0) h
    simpa using t
  · intro h
    apply BitVec.eq_of_getLsbD_eq
    intro i hi
    cases i with
    | zero => rw [BitVec.getLsbD_and, h, Bool.false_and, BitVec.getLsbD_zero]
    | succ i => simp
theorem kb_one1 (w : BitVec 64) : w &&& 1#64 = 1#64 ↔ w.getLsbD 0 = true := by
  constructor
  · intro h
    have t := congrArg (fun x => x.getLsbD 0) h
    simpa using t
  · intro h
    apply BitVec.eq_of_getLsbD_eq
    intro i hi
    cases i with
    | zero => simp [h]
    | succ i => simp
/-- X's test -/
theorem kb_bx {w : Int64} {k : Nat} (hk : k < 64) : ((w.toUInt64 >>> ((nI k).toInt64.toUInt64 &&& Int64.toUInt64 63)).toInt64 &&& 1) = 0 ↔ ¬ kb_m w k := by
  have e : (w.toUInt64 >>> ((nI k).toInt64.toUInt64 &&& Int64.toUInt64 63)).toInt64.toBitVec = w.toBitVec >>> k := by
    apply BitVec.eq_of_toNat_eq
    show (w.toUInt64 >>> ((nI k).toInt64.toUInt64 &&& Int64.toUInt64 63)).toNat = _
    rw [UInt64.toNat_shiftRight, kb_cu k hk, BitVec.toNat_ushiftRight]
    rfl
  rw [← Int64.toBitVec_inj, Int64.toBitVec_and, e]
  show w.toBitVec >>> k &&& 1#64 = 0#64 ↔ _
  rw [kb_one, BitVec.getLsbD_ushiftRight, Nat.add_zero]
  unfold kb_m
  cases w.toBitVec.getLsbD k <;> simp
/-- Y's test -/
theorem kb_by {w : Int64} {k : Nat} (hk : k < 64) : ((w >>> ((nI k).toInt64 &&& 63)) &&& 1) = 1 ↔ kb_m w k := by
  have e : (w >>> ((nI k).toInt64 &&& 63)).toBitVec = w.toBitVec.sshiftRight k := by
    rw [Int64.toBitVec_shiftRight]
    show w.toBitVec.sshiftRight (((nI k).toInt64 &&& 63).toBitVec.smod 64).toNat = _
    rw [kb_cs k hk]
  rw [← Int64.toBitVec_inj, Int64.toBitVec_and, e]
  show w.toBitVec.sshiftRight k &&& 1#64 = 1#64 ↔ _
  rw [kb_one1, BitVec.getLsbD_sshiftRight]
  unfold kb_m
  simp [hk]
theorem kb_ne {s : Int64} : ¬ s = 0 ↔ ∃ n, n < 64 ∧ kb_m s n := by
  constructor
  · intro h
    apply Classical.byContradiction
    intro z
    apply h
    apply kb_mext
    intro i hi
    exact ⟨fun a => absurd ⟨i, hi, a⟩ z, fun a => absurd a (kb_m0 i)⟩
  · rintro ⟨n, _, a⟩ rfl
    exact kb_m0 n a
end
section
/-! a pattern's numbers -/
def kb_st (v m : Int32) (n : Nat) : Prop := nI n &&& (m ^^^ (-1)) = v
/-- a register that stands for some number -/
def kb_J (v m : Int32) : Prop := ∃ j, j < 64 ∧ v = nI j ∧ kb_st v m j
theorem kb_J0 : kb_J 0 0 := ⟨0, by decide, rfl, by unfold kb_st; decide⟩
theorem kb_Jset (v m : Int32) : kb_J ((v &&& 63) &&& ((m &&& 63) ^^^ (-1))) (m &&& 63) := by
  have e : (v &&& 63) &&& ((m &&& 63) ^^^ (-1)) = ((v &&& (m ^^^ (-1))) &&& 63) := (kb_i7 v m).symm
  obtain ⟨j, hj, ej⟩ := kb_63 (v &&& (m ^^^ (-1)))
  refine ⟨j, hj, e.trans ej, ?_⟩
  unfold kb_st
  rw [← ej, ← e]
  exact kb_i4 _ _
/-! Y's fold: the first number of a set, and where another differs from it -/
def kb_fst (s : Int64) : Nat → Int32
  | 0 => -1
  | k + 1 => if s.toBitVec.getLsbD k = true then (if kb_fst s k < 0 then nI k else kb_fst s k) else kb_fst s k
def kb_dif (s : Int64) : Nat → Int32
  | 0 => 0
  | k + 1 => if s.toBitVec.getLsbD k = true then kb_dif s k ||| (nI k ^^^ kb_fst s (k + 1)) else kb_dif s k
theorem kb_fst_n {s : Int64} {k : Nat} (h : ¬ kb_m s k) : kb_fst s (k + 1) = kb_fst s k := if_neg h
theorem kb_dif_n {s : Int64} {k : Nat} (h : ¬ kb_m s k) : kb_dif s (k + 1) = kb_dif s k := if_neg h
theorem kb_fst_t {s : Int64} {k : Nat} (h : kb_m s k) (f : kb_fst s k < 0) : kb_fst s (k + 1) = nI k := (if_pos h).trans (if_pos f)
theorem kb_fst_f {s : Int64} {k : Nat} (h : kb_m s k) (f : ¬ kb_fst s k < 0) : kb_fst s (k + 1) = kb_fst s k := (if_pos h).trans (if_neg f)
theorem kb_dif_y {s : Int64} {k : Nat} (h : kb_m s k) : kb_dif s (k + 1) = kb_dif s k ||| (nI k ^^^ kb_fst s (k + 1)) := if_pos h
theorem kb_F0 {s : Int64} : ∀ {k : Nat}, (∀ n, n < k → ¬ kb_m s n) → kb_fst s k = -1 ∧ kb_dif s k = 0 := by
  intro k
  induction k with
  | zero => intro _; exact ⟨rfl, rfl⟩
  | succ k ih =>
    intro h
    have hk := h k (Nat.lt_succ_self k)
    obtain ⟨a, b⟩ := ih (fun n hn => h n (Nat.lt_succ_of_lt hn))
    exact ⟨(kb_fst_n hk).trans a, (kb_dif_n hk).trans b⟩
theorem kb_neg1 : (-1 : Int32) < 0 := by decide
/-- X's fold over the same set -/
def kb_IX (s : Int64) (k : Nat) (al an : Int32) : Prop :=
  ((∀ n, n < k → ¬ kb_m s n) ∧ al = 63 ∧ an = 0) ∨
  ((∃ n, n < k ∧ kb_m s n) ∧ ¬ kb_fst s k < 0 ∧ al = kb_fst s k &&& (kb_dif s k ^^^ (-1)) ∧ an = kb_fst s k ||| kb_dif s k ∧ ∃ a, a < 64 ∧ al = nI a)
theorem kb_IX0 (s : Int64) : kb_IX s 0 63 0 := Or.inl ⟨fun n h => absurd h (Nat.not_lt_zero n), rfl, rfl⟩
theorem kb_IXn {s : Int64} {k : Nat} {al an : Int32} (h : kb_IX s k al an) (hm : ¬ kb_m s k) : kb_IX s (k + 1) al an := by
  rcases h with ⟨h0, e1, e2⟩ | ⟨⟨n, hn, mn⟩, f, e1, e2, e3⟩
  · refine Or.inl ⟨fun n hn => ?_, e1, e2⟩
    rcases Nat.lt_succ_iff_lt_or_eq.mp hn with h | h
    · exact h0 n h
    · rw [h]; exact hm
  · refine Or.inr ⟨⟨n, Nat.lt_succ_of_lt hn, mn⟩, ?_, ?_, ?_, e3⟩
    · rw [kb_fst_n hm]; exact f
    · rw [kb_fst_n hm, kb_dif_n hm]; exact e1
    · rw [kb_fst_n hm, kb_dif_n hm]; exact e2
theorem kb_IXy {s : Int64} {k : Nat} {al an : Int32} (hk : k < 64) (h : kb_IX s k al an) (hm : kb_m s k) : kb_IX s (k + 1) (al &&& nI k) (an ||| nI k) := by
  have hp : ¬ nI k < 0 := nI_pos (by omega)
  rcases h with ⟨h0, e1, e2⟩ | ⟨_, f, e1, e2, a, ha, e3⟩
  · obtain ⟨f0, d0⟩ := kb_F0 h0
    have f1 : kb_fst s (k + 1) = nI k := kb_fst_t hm (by rw [f0]; exact kb_neg1)
    have d1 : kb_dif s (k + 1) = 0 ||| (nI k ^^^ nI k) := by rw [kb_dif_y hm, d0, f1]
    refine Or.inr ⟨⟨k, Nat.lt_succ_self k, hm⟩, ?_, ?_, ?_, k, hk, ?_⟩
    · rw [f1]; exact hp
    · rw [f1, d1, e1, kb_63n k hk, kb_i5]
    · rw [f1, d1, e2, kb_i6]
    · rw [e1, kb_63n k hk]
  · have f1 : kb_fst s (k + 1) = kb_fst s k := kb_fst_f hm f
    have d1 : kb_dif s (k + 1) = kb_dif s k ||| (nI k ^^^ kb_fst s k) := by rw [kb_dif_y hm, f1]
    refine Or.inr ⟨⟨k, Nat.lt_succ_self k, hm⟩, ?_, ?_, ?_, a &&& k, Nat.lt_of_le_of_lt Nat.and_le_left ha, ?_⟩
    · rw [f1]; exact f
    · rw [f1, d1, e1, kb_i1]
    · rw [f1, d1, e2, kb_i2]
    · rw [e3, kb_nand]
/-- what both sides store -/
def kb_V (s : Int64) : Int32 := kb_fst s 64 &&& (kb_dif s 64 ^^^ (-1))
def kb_M (s : Int64) : Int32 := kb_dif s 64
theorem kb_IXe {s : Int64} {al an : Int32} (h : kb_IX s 64 al an) (z : ¬ s = 0) : al = kb_V s ∧ an &&& (al ^^^ (-1)) = kb_M s ∧ kb_J (kb_V s) (kb_M s) ∧ ¬ kb_fst s 64 < 0 := by
  rcases h with ⟨h0, _, _⟩ | ⟨_, f, e1, e2, a, ha, e3⟩
  · obtain ⟨n, hn, mn⟩ := kb_ne.mp z
    exact absurd mn (h0 n hn)
  · refine ⟨e1, ?_, ⟨a, ha, e1.symm.trans e3, ?_⟩, f⟩
    · rw [e2, e1, kb_i3]; rfl
    · unfold kb_st kb_V kb_M
      rw [← e3, e1, kb_i4]
/-- X's fold as a function, so that the two facts of it can be had without a walk -/
theorem kb_IXex (s : Int64) : ∀ k, k ≤ 64 → ∃ al an, kb_IX s k al an := by
  intro k
  induction k with
  | zero => intro _; exact ⟨_, _, kb_IX0 s⟩
  | succ k ih =>
    intro hk
    obtain ⟨al, an, h⟩ := ih (by omega)
    by_cases hm : kb_m s k
    · exact ⟨_, _, kb_IXy (by omega) h hm⟩
    · exact ⟨_, _, kb_IXn h hm⟩
theorem kb_JV {s : Int64} (z : ¬ s = 0) : kb_J (kb_V s) (kb_M s) := by
  obtain ⟨al, an, h⟩ := kb_IXex s 64 (Nat.le_refl _)
  exact (kb_IXe h z).2.2.1
theorem kb_fpos {s : Int64} (z : ¬ s = 0) : ¬ kb_fst s 64 < 0 := by
  obtain ⟨al, an, h⟩ := kb_IXex s 64 (Nat.le_refl _)
  exact (kb_IXe h z).2.2.2
theorem kb_fneg : kb_fst 0 64 < 0 := by
  rw [(kb_F0 (fun n _ => kb_m0 n)).1]
  exact kb_neg1
/-! sets built by loops -/
def kb_SI (P : Nat → Nat → Prop) (k : Nat) (s : Int64) : Prop := ∀ i, i < 64 → (kb_m s i ↔ ∃ n, n < k ∧ P n i)
theorem kb_SI0 (P : Nat → Nat → Prop) : kb_SI P 0 0 := fun i _ => ⟨fun h => absurd h (kb_m0 i), fun ⟨n, h, _⟩ => absurd h (Nat.not_lt_zero n)⟩
theorem kb_SIy {P : Nat → Nat → Prop} {k : Nat} {s e : Int64} (h : kb_SI P k s) (he : ∀ i, i < 64 → (kb_m e i ↔ P k i)) : kb_SI P (k + 1) (s ||| e) := by
  intro i hi
  rw [kb_mor, h i hi, he i hi]
  constructor
  · rintro (⟨n, a, b⟩ | b)
    · exact ⟨n, Nat.lt_succ_of_lt a, b⟩
    · exact ⟨k, Nat.lt_succ_self k, b⟩
  · rintro ⟨n, a, b⟩
    rcases Nat.lt_succ_iff_lt_or_eq.mp a with c | c
    · exact Or.inl ⟨n, c, b⟩
    · rw [c] at b; exact Or.inr b
theorem kb_SIn {P : Nat → Nat → Prop} {k : Nat} {s : Int64} (h : kb_SI P k s) (he : ∀ i, i < 64 → ¬ P k i) : kb_SI P (k + 1) s := by
  intro i hi
  rw [h i hi]
  constructor
  · rintro ⟨n, a, b⟩
    exact ⟨n, Nat.lt_succ_of_lt a, b⟩
  · rintro ⟨n, a, b⟩
    rcases Nat.lt_succ_iff_lt_or_eq.mp a with c | c
    · exact ⟨n, c, b⟩
    · rw [c] at b; exact absurd b (he i hi)
/-! pairs: those that a double loop has seen when it stands at x, y -/
def kb_D (x y n m : Nat) : Prop := (n < x ∧ m < 64) ∨ (n = x ∧ m < y)
theorem kb_D0 (n m : Nat) : ¬ kb_D 0 0 n m := by unfold kb_D; omega
theorem kb_Ds (x y n m : Nat) : kb_D x (y + 1) n m ↔ kb_D x y n m ∨ (n = x ∧ m = y) := by unfold kb_D; omega
theorem kb_Dr (x n m : Nat) : kb_D x 64 n m ↔ kb_D (x + 1) 0 n m := by unfold kb_D; omega
theorem kb_De (n m : Nat) : kb_D 64 0 n m ↔ n < 64 ∧ m < 64 := by unfold kb_D; omega
def kb_E (P : Nat → Nat → Prop) (x y : Nat) : Prop := ∃ n m, kb_D x y n m ∧ P n m
theorem kb_E0 (P : Nat → Nat → Prop) : ¬ kb_E P 0 0 := fun ⟨n, m, h, _⟩ => kb_D0 n m h
theorem kb_Es (P : Nat → Nat → Prop) (x y : Nat) : kb_E P x (y + 1) ↔ kb_E P x y ∨ P x y := by
  constructor
  · rintro ⟨n, m, h, p⟩
    rcases (kb_Ds x y n m).mp h with d | ⟨rfl, rfl⟩
    · exact Or.inl ⟨n, m, d, p⟩
    · exact Or.inr p
  · rintro (⟨n, m, h, p⟩ | p)
    · exact ⟨n, m, (kb_Ds x y n m).mpr (Or.inl h), p⟩
    · exact ⟨x, y, (kb_Ds x y x y).mpr (Or.inr ⟨rfl, rfl⟩), p⟩
theorem kb_Er (P : Nat → Nat → Prop) (x : Nat) : kb_E P x 64 ↔ kb_E P (x + 1) 0 :=
  ⟨fun ⟨n, m, h, p⟩ => ⟨n, m, (kb_Dr x n m).mp h, p⟩, fun ⟨n, m, h, p⟩ => ⟨n, m, (kb_Dr x n m).mpr h, p⟩⟩
theorem kb_Ee (P : Nat → Nat → Prop) : kb_E P 64 0 ↔ ∃ n m, n < 64 ∧ m < 64 ∧ P n m :=
  ⟨fun ⟨n, m, h, p⟩ => ⟨n, m, ((kb_De n m).mp h).1, ((kb_De n m).mp h).2, p⟩, fun ⟨n, m, a, b, p⟩ => ⟨n, m, (kb_De n m).mpr ⟨a, b⟩, p⟩⟩
def kb_SJ (P : Nat → Nat → Nat → Prop) (x y : Nat) (s : Int64) : Prop := ∀ i, i < 64 → (kb_m s i ↔ kb_E (fun n m => P n m i) x y)
theorem kb_SJ0 (P : Nat → Nat → Nat → Prop) : kb_SJ P 0 0 0 := fun i _ => ⟨fun h => absurd h (kb_m0 i), fun h => absurd h (kb_E0 _)⟩
theorem kb_SJy {P : Nat → Nat → Nat → Prop} {x y : Nat} {s e : Int64} (h : kb_SJ P x y s) (he : ∀ i, i < 64 → (kb_m e i ↔ P x y i)) : kb_SJ P x (y + 1) (s ||| e) := by
  intro i hi
  rw [kb_mor, h i hi, he i hi, kb_Es]
theorem kb_SJn {P : Nat → Nat → Nat → Prop} {x y : Nat} {s : Int64} (h : kb_SJ P x y s) (he : ∀ i, i < 64 → ¬ P x y i) : kb_SJ P x (y + 1) s := by
  intro i hi
  rw [h i hi, kb_Es]
  exact ⟨Or.inl, fun z => z.elim id (fun p => absurd p (he i hi))⟩
theorem kb_SJr {P : Nat → Nat → Nat → Prop} {x : Nat} {s : Int64} (h : kb_SJ P x 64 s) : kb_SJ P (x + 1) 0 s := fun i hi => (h i hi).trans (kb_Er _ x)
theorem kb_SJe {P : Nat → Nat → Nat → Prop} {s : Int64} (h : kb_SJ P 64 0 s) : ∀ i, i < 64 → (kb_m s i ↔ ∃ n m, n < 64 ∧ m < 64 ∧ P n m i) := fun i hi => (h i hi).trans (kb_Ee _)
/-! counting, and the first -/
def kb_cnt (s : Int64) : Nat → Int32
  | 0 => 0
  | k + 1 => if s.toBitVec.getLsbD k = true then kb_cnt s k + 1 else kb_cnt s k
theorem kb_cnt_y {s : Int64} {k : Nat} (h : kb_m s k) : kb_cnt s k + 1 = kb_cnt s (k + 1) := (if_pos h).symm
theorem kb_cnt_n {s : Int64} {k : Nat} (h : ¬ kb_m s k) : kb_cnt s k = kb_cnt s (k + 1) := (if_neg h).symm
/-- r is the first number of s, or 64 -/
def kb_L (s : Int64) (r : Nat) : Prop := r ≤ 64 ∧ (r < 64 → kb_m s r) ∧ ∀ j, j < r → ¬ kb_m s j
theorem kb_Lex (s : Int64) : ∃ r, kb_L s r := by
  have h : ∀ k, k ≤ 64 → (∃ r, kb_L s r) ∨ ∀ j, j < k → ¬ kb_m s j := by
    intro k
    induction k with
    | zero => intro _; exact Or.inr (fun j h => absurd h (Nat.not_lt_zero j))
    | succ k ih =>
      intro hk
      rcases ih (by omega) with a | a
      · exact Or.inl a
      · by_cases hm : kb_m s k
        · exact Or.inl ⟨k, by omega, fun _ => hm, a⟩
        · refine Or.inr (fun j hj => ?_)
          rcases Nat.lt_succ_iff_lt_or_eq.mp hj with c | c
          · exact a j c
          · rw [c]; exact hm
  rcases h 64 (Nat.le_refl _) with a | a
  · exact a
  · exact ⟨64, Nat.le_refl _, fun z => absurd z (Nat.lt_irrefl _), a⟩
end
section
/-! numbers -/
theorem kb_10 : ¬ (1 : Int32) = 0 := by decide
theorem kb_64 : (64 : Int32) ≤ nI 64 := by decide +kernel
theorem kb_n64 {i : Nat} (h : i < 64) : ¬ (64 : Int32) ≤ nI i := nI_ge (b := 64) h (by decide)
theorem kb_n63 : ∀ i, i < 64 → ¬ (63 : Int32) < nI i := by decide +kernel
theorem kb_n0 : ∀ i, i < 64 → ¬ nI i < (0 : Int32) := by decide +kernel
theorem kb_cl {r : Nat} (h : r < 6) : (nI r).toNatClampNeg = r := nI_clamp (by omega)
theorem kb_in {r : Nat} (h : r < 6) : vp_in (nI r) 6 := vp_in_nI h (by decide)
theorem kb_us (f : Nat → Int32) (k : Nat) (x : Int32) : upd f k x k = x := if_pos rfl
theorem kb_un (f : Nat → Int32) {k j : Nat} (x : Int32) (h : ¬ j = k) : upd f k x j = f j := if_neg h
/-! registers: within or not -/
def kb_bad (p : Int32) : Prop := p < 0 ∨ (¬ p < 0 ∧ 6 ≤ p ∧ ¬ p ≤ 5)
theorem kb_reg (p : Int32) : kb_bad p ∨ ∃ j, j < 6 ∧ p = nI j := by
  by_cases h0 : p < 0
  · exact Or.inl (Or.inl h0)
  · obtain ⟨j, hj, rfl⟩ := nI_of h0
    by_cases h : j < 6
    · exact Or.inr ⟨j, h, rfl⟩
    · refine Or.inl (Or.inr ⟨h0, ?_, ?_⟩)
      · exact nI_le (a := 6) (by omega) hj
      · exact nI_ge (b := j) (a := 5) (by omega) hj
theorem kb_r6 : ∀ j, j < 6 → ¬ nI j < (0 : Int32) ∧ ¬ (6 : Int32) ≤ nI j ∧ nI j ≤ (5 : Int32) ∧ ¬ (5 : Int32) < nI j := by decide +kernel
theorem kb_xr {A B : Prop} {j : Nat} (hj : j < 6) (b : B) : wpX_isRegister (fun r => (r = 0 → A) ∧ (¬ r = 0 → B)) (nI j) := by
  unfold wpX_isRegister
  exact br_f (kb_r6 j hj).1 (br_f (kb_r6 j hj).2.1 (br_f kb_10 b))
theorem kb_xb {A B : Prop} {p : Int32} (h : kb_bad p) (a : A) : wpX_isRegister (fun r => (r = 0 → A) ∧ (¬ r = 0 → B)) p := by
  unfold wpX_isRegister
  rcases h with h | ⟨h0, h6, _⟩
  · exact br_t h (br_t rfl a)
  · exact br_f h0 (br_t h6 (br_t rfl a))
theorem kb_yr {A B : Prop} {j : Nat} (hj : j < 6) (a : A) : wpY_bad (fun r => (r = 0 → A) ∧ (¬ r = 0 → B)) (nI j) := by
  unfold wpY_bad
  exact br_f (kb_r6 j hj).1 (br_t (kb_r6 j hj).2.2.1 (br_t rfl a))
theorem kb_yb {A B : Prop} {p : Int32} (h : kb_bad p) (b : B) : wpY_bad (fun r => (r = 0 → A) ∧ (¬ r = 0 → B)) p := by
  unfold wpY_bad
  rcases h with h | ⟨h0, _, h5⟩
  · exact br_t h (br_f kb_10 b)
  · exact br_f h0 (br_f h5 (br_f kb_10 b))
theorem kb_xc {A B : Prop} {j : Nat} (hj : j < 6) (b : B) : wpX_isComparison (fun r => (r = 0 → A) ∧ (¬ r = 0 → B)) (nI j) := by
  unfold wpX_isComparison
  exact br_f (kb_r6 j hj).1 (br_f (kb_r6 j hj).2.1 (br_f kb_10 b))
theorem kb_xcb {A B : Prop} {p : Int32} (h : kb_bad p) (a : A) : wpX_isComparison (fun r => (r = 0 → A) ∧ (¬ r = 0 → B)) p := by
  unfold wpX_isComparison
  rcases h with h | ⟨h0, h6, _⟩
  · exact br_t h (br_t rfl a)
  · exact br_f h0 (br_t h6 (br_t rfl a))
/-! is a number in a set -/
theorem kb_xi {A B : Prop} {Q : Nat → Prop} {s : Int64} {k : Nat} (hs : ∀ i, i < 64 → (kb_m s i ↔ Q i)) (hk : k < 64) (t : Q k → B) (f : ¬ Q k → A) : wpX_isIn (fun r => (r = 0 → A) ∧ (¬ r = 0 → B)) (nI k) s := by
  unfold wpX_isIn
  by_cases h : kb_m s k
  · exact br_f (fun z => (kb_bx hk).mp z h) (br_f kb_10 (t ((hs k hk).mp h)))
  · exact br_t ((kb_bx hk).mpr h) (br_t rfl (f (fun q => h ((hs k hk).mpr q))))
theorem kb_ys {A B : Prop} {va ma : Nat → Int32} {r k : Nat} (hr : r < 6) (t : kb_st (va r) (ma r) k → B) (f : ¬ kb_st (va r) (ma r) k → A) : wpY_stands (fun r => (r = 0 → A) ∧ (¬ r = 0 → B)) (va, ma) (nI r) (nI k) := by
  unfold wpY_stands
  dsimp only
  rw [kb_cl hr]
  refine ⟨kb_in hr, kb_in hr, ?_⟩
  by_cases h : kb_st (va r) (ma r) k
  · exact br_t h (br_f kb_10 (t h))
  · exact br_f h (br_t rfl (f h))
/-! sets of the numbers that have a property, built one by one -/
def kb_SQ (Q : Nat → Prop) (k : Nat) (s : Int64) : Prop := ∀ i, i < 64 → (kb_m s i ↔ i < k ∧ Q i)
theorem kb_SQ0 (Q : Nat → Prop) : kb_SQ Q 0 0 := fun i _ => ⟨fun h => absurd h (kb_m0 i), fun h => absurd h.1 (Nat.not_lt_zero i)⟩
theorem kb_SQy {Q : Nat → Prop} {k : Nat} {s : Int64} (hk : k < 64) (h : kb_SQ Q k s) (q : Q k) : kb_SQ Q (k + 1) (s ||| ((1 : Int64) <<< ((nI k).toInt64 &&& 63))) := by
  intro i hi
  rw [kb_mor, h i hi, kb_mone hk]
  constructor
  · rintro (⟨a, b⟩ | a)
    · exact ⟨Nat.lt_succ_of_lt a, b⟩
    · rw [a]; exact ⟨Nat.lt_succ_self k, q⟩
  · rintro ⟨a, b⟩
    rcases Nat.lt_succ_iff_lt_or_eq.mp a with c | c
    · exact Or.inl ⟨c, b⟩
    · exact Or.inr c
theorem kb_SQn {Q : Nat → Prop} {k : Nat} {s : Int64} (h : kb_SQ Q k s) (q : ¬ Q k) : kb_SQ Q (k + 1) s := by
  intro i hi
  rw [h i hi]
  constructor
  · rintro ⟨a, b⟩
    exact ⟨Nat.lt_succ_of_lt a, b⟩
  · rintro ⟨a, b⟩
    rcases Nat.lt_succ_iff_lt_or_eq.mp a with c | c
    · exact ⟨c, b⟩
    · rw [c] at b; exact absurd b q
theorem kb_SQe {Q : Nat → Prop} {s : Int64} (h : kb_SQ Q 64 s) : ∀ i, i < 64 → (kb_m s i ↔ Q i) := fun i hi => (h i hi).trans ⟨fun z => z.2, fun z => ⟨hi, z⟩⟩
/-! X's numbersWithin -/
def kb_W (v m lo hi : Int32) (n : Nat) : Prop := kb_st v m n ∧ ¬ nI n < lo ∧ ¬ hi < nI n
theorem kb_nw38 {post : Int64 → Prop} {J : Int64 → Int32 → Prop} {x1 lo hi z : Int32} {s : Int64} {i : Nat} {va ma : Nat → Int32} (c : ¬ z = 0 → ¬ nI i < lo → ¬ hi < nI i → J (s ||| ((1 : Int64) <<< ((nI i).toInt64 &&& 63))) (nI (i + 1))) (d : (z = 0 ∨ nI i < lo ∨ hi < nI i) → J s (nI (i + 1))) : wX_numbersWithin_38 post J x1 lo hi s (nI i) z va ma := by
  unfold wX_numbersWithin_38
  exact br_c (fun h => nm_r (nI_1 i) (d (Or.inl h))) (fun h => br_c (fun g => nm_r (nI_1 i) (d (Or.inr (Or.inl g)))) (fun g => br_c (fun e => nm_r (nI_1 i) (d (Or.inr (Or.inr e)))) (fun e => nm_e (nm_r (nI_1 i) (c h g e)))))
theorem kb_nw {post : Int64 → Prop} {r : Nat} {lo hi : Int32} {va ma : Nat → Int32} (hr : r < 6) (H : ∀ s, (∀ i, i < 64 → (kb_m s i ↔ kb_W (va r) (ma r) lo hi i)) → post s) : wpX_numbersWithin post (va, ma) (nI r) lo hi := by
  unfold wpX_numbersWithin
  dsimp only
  refine loop_0 (fun n i s => wX_numbersWithin_6 post (nI r) lo hi va ma n s (nI i)) (fun k s => kb_SQ (kb_W (va r) (ma r) lo hi) k s) 64 0 (kb_SQ0 _) ?_ ?_
  · intro n s hs
    exact br_t kb_64 (H s (kb_SQe hs))
  · intro n i s hi' hs K
    refine br_f (kb_n64 hi') ⟨kb_in hr, kb_in hr, ?_⟩
    rw [kb_cl hr]
    refine br_c (fun h => kb_nw38 (fun _ a b => K _ (kb_SQy hi' hs ⟨h, a, b⟩)) (fun o => K _ (kb_SQn hs ?_))) (fun h => kb_nw38 (fun z _ _ => absurd rfl z) (fun _ => K _ (kb_SQn hs (fun q => h q.1))))
    rintro ⟨_, a, b⟩
    rcases o with o | o | o
    · exact kb_10 o
    · exact a o
    · exact b o
theorem kb_no {post : Int64 → Prop} {r : Nat} {va ma : Nat → Int32} (hr : r < 6) (H : ∀ s, (∀ i, i < 64 → (kb_m s i ↔ kb_st (va r) (ma r) i)) → post s) : wpX_numbersOf post (va, ma) (nI r) := by
  unfold wpX_numbersOf
  dsimp only
  exact kb_nw hr (fun s hs => H s (fun i hi => (hs i hi).trans ⟨fun z => z.1, fun z => ⟨z, kb_n0 i hi, kb_n63 i hi⟩⟩))
/-! the two ways to keep a set's least pattern -/
theorem kb_kx {post : Int32 → SX → Prop} {r : Nat} {s : Int64} {va ma : Nat → Int32} (hr : r < 6) (h0 : s = 0 → post (-2) (va, ma)) (h1 : ¬ s = 0 → post 0 (upd va r (kb_V s), upd ma r (kb_M s))) : wpX_keepLeastPattern post (va, ma) (nI r) s := by
  unfold wpX_keepLeastPattern
  dsimp only
  refine br_c h0 (fun z => ?_)
  refine loop_0 (fun n i (t : Int32 × Int32) => wX_keepLeastPattern_19 post (nI r) s va ma n t.1 t.2 (nI i)) (fun k t => kb_IX s k t.1 t.2) 64 (63, 0) (kb_IX0 s) ?_ ?_
  · intro n t ht
    obtain ⟨e1, e2, _, _⟩ := kb_IXe ht z
    refine br_t kb_64 ⟨kb_in hr, ?_⟩
    rw [kb_cl hr, e2, e1]
    exact nm_e ⟨kb_in hr, nm_e (h1 z)⟩
  · intro n i t hi ht K
    exact br_f (kb_n64 hi) (kb_xi (Q := kb_m s) (fun _ _ => Iff.rfl) hi (fun m => nm_e (nm_e (nm_r (nI_1 i) (K (_, _) (kb_IXy hi ht m))))) (fun m => nm_r (nI_1 i) (K t (kb_IXn ht m))))
theorem kb_0le {x : Int32} (h : ¬ x < 0) : (0 : Int32) ≤ x := Int32.not_lt.mp h
theorem kb_n0le {x : Int32} (h : x < 0) : ¬ (0 : Int32) ≤ x := Int32.not_le.mpr h
theorem kb_ky {post : Int32 → SY → Prop} {r : Nat} {s : Int64} {va ma : Nat → Int32} (hr : r < 6) (h0 : s = 0 → post (-2) (va, ma)) (h1 : ¬ s = 0 → post 0 (upd va r (kb_V s), upd ma r (kb_M s))) : wpY_keep post (va, ma) (nI r) s := by
  unfold wpY_keep
  dsimp only
  refine loop_0 (fun n i (t : Int32 × Int32) => wY_keep_9 post (nI r) s va ma n t.1 t.2 (nI i)) (fun k t => t = (kb_fst s k, kb_dif s k)) 64 (-1, 0) rfl ?_ ?_
  · intro n t ht
    subst ht
    refine br_t kb_64 ?_
    by_cases z : s = 0
    · have f : kb_fst s 64 < 0 := by rw [z]; exact kb_fneg
      exact br_f (kb_n0le f) (h0 z)
    · refine br_t (kb_0le (kb_fpos z)) ⟨kb_in hr, ?_⟩
      rw [kb_cl hr]
      exact nm_e ⟨kb_in hr, nm_e (h1 z)⟩
  · intro n i t hi ht K
    subst ht
    refine br_f (kb_n64 hi) ?_
    by_cases m : kb_m s i
    · refine br_t ((kb_by hi).mpr m) ?_
      by_cases f : kb_fst s i < 0
      · refine br_f (kb_n0le f) ?_
        unfold wY_keep_36
        exact nm_e (nm_r (nI_1 i) (K (nI i, kb_dif s i ||| (nI i ^^^ nI i)) (by rw [kb_dif_y m, kb_fst_t m f])))
      · refine br_t (kb_0le f) ?_
        unfold wY_keep_36
        exact nm_e (nm_r (nI_1 i) (K (_, _) (by rw [kb_dif_y m, kb_fst_f m f])))
    · exact br_f (fun q => m ((kb_by hi).mp q)) (nm_r (nI_1 i) (K (_, _) (by rw [kb_dif_n m, kb_fst_n m])))
end
section
/-! the comparisons -/
def kb_H (how n m : Nat) : Prop := match how with
  | 0 => n = m
  | 1 => n < m
  | 2 => n ≤ m
  | 3 => ¬ n = m
  | 4 => m ≤ n
  | _ => m < n
theorem kb_6 {P : Nat → Prop} (h0 : P 0) (h1 : P 1) (h2 : P 2) (h3 : P 3) (h4 : P 4) (h5 : P 5) {i : Nat} (hi : i < 6) : P i :=
  match i, hi with
  | 0, _ => h0
  | 1, _ => h1
  | 2, _ => h2
  | 3, _ => h3
  | 4, _ => h4
  | 5, _ => h5
theorem kb_eq {n m : Nat} (hn : n < 64) (hm : m < 64) : nI n = nI m ↔ n = m := nI_eq (by omega) (by omega)
theorem kb_le {n m : Nat} (hn : n < 64) (hm : m < 64) : nI n ≤ nI m ↔ n ≤ m := nI_leI (by omega) (by omega)
theorem kb_lt {n m : Nat} (hn : n < 64) (hm : m < 64) : nI n < nI m ↔ n < m := nI_ltI (by omega) (by omega)
/-- a branch that says yes, or no, by an equivalent of a fact -/
theorem kb_p {c d A B : Prop} (e : c ↔ d) (t : d → A) (f : ¬ d → B) : (c → A) ∧ (¬ c → B) := ⟨fun h => t (e.mp h), fun h => f (fun z => h (e.mpr z))⟩
theorem kb_n {c d A B : Prop} (e : c ↔ ¬ d) (t : d → B) (f : ¬ d → A) : (c → A) ∧ (¬ c → B) := ⟨fun h => f (e.mp h), fun h => t (Classical.byContradiction (fun z => h (e.mpr z)))⟩
theorem kb_xh {post : Int32 → Prop} {how n m : Nat} (hh : how < 6) (hn : n < 64) (hm : m < 64) (t : kb_H how n m → post 1) (f : ¬ kb_H how n m → post 0) : wpX_holds post (nI n) (nI how) (nI m) := by
  revert t f
  refine kb_6 (P := fun how => (kb_H how n m → post 1) → (¬ kb_H how n m → post 0) → wpX_holds post (nI n) (nI how) (nI m)) ?_ ?_ ?_ ?_ ?_ ?_ hh
  · intro t f
    unfold wpX_holds
    exact br_f (by decide +kernel) (br_f (by decide +kernel) (br_t (by decide +kernel) (kb_p (d := n = m) (kb_eq hn hm) t f)))
  · intro t f
    unfold wpX_holds
    exact br_f (by decide +kernel) (br_f (by decide +kernel) (br_f (by decide +kernel) (br_t (by decide +kernel) (kb_n (d := n < m) ((kb_le hm hn).trans (by omega)) t f))))
  · intro t f
    unfold wpX_holds
    exact br_f (by decide +kernel) (br_f (by decide +kernel) (br_f (by decide +kernel) (br_f (by decide +kernel) (br_t (by decide +kernel) (kb_n (d := n ≤ m) ((kb_lt hm hn).trans (by omega)) t f)))))
  · intro t f
    unfold wpX_holds
    exact br_f (by decide +kernel) (br_f (by decide +kernel) (br_f (by decide +kernel) (br_f (by decide +kernel) (br_f (by decide +kernel) (br_t (by decide +kernel) (kb_n (d := ¬ n = m) ((kb_eq hn hm).trans (by omega)) t f))))))
  · intro t f
    unfold wpX_holds
    exact br_f (by decide +kernel) (br_f (by decide +kernel) (br_f (by decide +kernel) (br_f (by decide +kernel) (br_f (by decide +kernel) (br_f (by decide +kernel) (br_t (by decide +kernel) (kb_n (d := m ≤ n) ((kb_lt hn hm).trans (by omega)) t f)))))))
  · intro t f
    unfold wpX_holds
    exact br_f (by decide +kernel) (br_t (by decide +kernel) (kb_n (d := m < n) ((kb_le hn hm).trans (by omega)) t f))
theorem kb_yh {post : Int32 → Prop} {how n m : Nat} (hh : how < 6) (hn : n < 64) (hm : m < 64) (t : kb_H how n m → post 1) (f : ¬ kb_H how n m → post 0) : wpY_holds post (nI n) (nI how) (nI m) := by
  revert t f
  refine kb_6 (P := fun how => (kb_H how n m → post 1) → (¬ kb_H how n m → post 0) → wpY_holds post (nI n) (nI how) (nI m)) ?_ ?_ ?_ ?_ ?_ ?_ hh
  · intro t f
    unfold wpY_holds
    exact br_t (by decide +kernel) (kb_p (d := n = m) (kb_eq hn hm) t f)
  · intro t f
    unfold wpY_holds
    exact br_f (by decide +kernel) (br_t (by decide +kernel) (kb_n (d := n < m) ((kb_le hm hn).trans (by omega)) t f))
  · intro t f
    unfold wpY_holds
    exact br_f (by decide +kernel) (br_f (by decide +kernel) (br_t (by decide +kernel) (kb_n (d := n ≤ m) ((kb_lt hm hn).trans (by omega)) t f)))
  · intro t f
    unfold wpY_holds
    exact br_f (by decide +kernel) (br_f (by decide +kernel) (br_f (by decide +kernel) (br_t (by decide +kernel) (kb_n (d := ¬ n = m) ((kb_eq hn hm).trans (by omega)) t f))))
  · intro t f
    unfold wpY_holds
    exact br_f (by decide +kernel) (br_f (by decide +kernel) (br_f (by decide +kernel) (br_f (by decide +kernel) (br_t (by decide +kernel) (kb_n (d := m ≤ n) ((kb_lt hn hm).trans (by omega)) t f)))))
  · intro t f
    unfold wpY_holds
    exact br_f (by decide +kernel) (br_f (by decide +kernel) (br_f (by decide +kernel) (br_f (by decide +kernel) (br_f (by decide +kernel) (kb_n (d := m < n) ((kb_le hn hm).trans (by omega)) t f)))))
/-- the comparison turned around -/
def kb_T (how : Nat) : Nat := match how with
  | 1 => 5
  | 2 => 4
  | 4 => 2
  | 5 => 1
  | n => n
theorem kb_T6 : ∀ how, how < 6 → kb_T how < 6 := by decide
theorem kb_TH {how : Nat} (hh : how < 6) (n m : Nat) : kb_H (kb_T how) m n ↔ kb_H how n m :=
  kb_6 (P := fun how => kb_H (kb_T how) m n ↔ kb_H how n m) ⟨Eq.symm, Eq.symm⟩ Iff.rfl Iff.rfl ⟨fun h z => h z.symm, fun h z => h z.symm⟩ Iff.rfl Iff.rfl hh
theorem kb_xt {post : Int32 → Prop} {how : Nat} (hh : how < 6) (h : post (nI (kb_T how))) : wpX_turnedAround post (nI how) := by
  revert h
  refine kb_6 (P := fun how => post (nI (kb_T how)) → wpX_turnedAround post (nI how)) ?_ ?_ ?_ ?_ ?_ ?_ hh
  · intro h
    unfold wpX_turnedAround
    exact br_t (by decide +kernel) h
  · intro h
    unfold wpX_turnedAround
    exact br_f (by decide +kernel) (br_f (by decide +kernel) (br_t (by decide +kernel) h))
  · intro h
    unfold wpX_turnedAround
    exact br_f (by decide +kernel) (br_f (by decide +kernel) (br_f (by decide +kernel) (br_t (by decide +kernel) h)))
  · intro h
    unfold wpX_turnedAround
    exact br_f (by decide +kernel) (br_f (by decide +kernel) (br_f (by decide +kernel) (br_f (by decide +kernel) (br_t (by decide +kernel) h))))
  · intro h
    unfold wpX_turnedAround
    exact br_f (by decide +kernel) (br_f (by decide +kernel) (br_f (by decide +kernel) (br_f (by decide +kernel) (br_f (by decide +kernel) (br_t (by decide +kernel) h)))))
  · intro h
    unfold wpX_turnedAround
    exact br_f (by decide +kernel) (br_f (by decide +kernel) (br_f (by decide +kernel) (br_f (by decide +kernel) (br_f (by decide +kernel) (br_f (by decide +kernel) (br_t (by decide +kernel) h))))))
/-! the kinds of combine -/
def kb_R (kd : Nat) (x y : Int32) : Int32 := match kd with
  | 0 => (x + y) &&& 63
  | 1 => (x - y) &&& 63
  | 2 => x &&& y
  | 3 => x ||| y
  | _ => x ^^^ y
theorem kb_5 {P : Nat → Prop} (h0 : P 0) (h1 : P 1) (h2 : P 2) (h3 : P 3) (h4 : P 4) {i : Nat} (hi : i < 5) : P i :=
  match i, hi with
  | 0, _ => h0
  | 1, _ => h1
  | 2, _ => h2
  | 3, _ => h3
  | 4, _ => h4
theorem kb_xres {post : Int32 → Prop} {kd : Nat} {x y : Int32} (hk : kd < 5) (h : post (kb_R kd x y)) : wpX_resultOf post (nI kd) x y := by
  revert h
  refine kb_5 (P := fun kd => post (kb_R kd x y) → wpX_resultOf post (nI kd) x y) ?_ ?_ ?_ ?_ ?_ hk
  · intro h
    unfold wpX_resultOf
    exact br_f (by decide +kernel) (br_f (by decide +kernel) (br_t (by decide +kernel) h))
  · intro h
    unfold wpX_resultOf
    exact br_f (by decide +kernel) (br_f (by decide +kernel) (br_f (by decide +kernel) (br_t (by decide +kernel) h)))
  · intro h
    unfold wpX_resultOf
    exact br_f (by decide +kernel) (br_f (by decide +kernel) (br_f (by decide +kernel) (br_f (by decide +kernel) (br_t (by decide +kernel) h))))
  · intro h
    unfold wpX_resultOf
    exact br_f (by decide +kernel) (br_f (by decide +kernel) (br_f (by decide +kernel) (br_f (by decide +kernel) (br_f (by decide +kernel) (br_t (by decide +kernel) h)))))
  · intro h
    unfold wpX_resultOf
    exact br_f (by decide +kernel) (br_t (by decide +kernel) h)
/-- what a pair of kind kd gives -/
def kb_P (kd : Nat) (B : Nat → Prop) (n m i : Nat) : Prop := match kd with
  | 5 => i = n ∨ i = m
  | 6 => B n ∧ i = n
  | kd => kb_m ((1 : Int64) <<< ((kb_R kd (nI n) (nI m)).toInt64 &&& 63)) i
theorem kb_P5 {kd : Nat} (hk : kd < 5) (B : Nat → Prop) (n m i : Nat) : kb_P kd B n m i ↔ kb_m ((1 : Int64) <<< ((kb_R kd (nI n) (nI m)).toInt64 &&& 63)) i :=
  kb_5 (P := fun kd => kb_P kd B n m i ↔ kb_m ((1 : Int64) <<< ((kb_R kd (nI n) (nI m)).toInt64 &&& 63)) i) Iff.rfl Iff.rfl Iff.rfl Iff.rfl Iff.rfl hk
theorem kb_yres5 {post : Int64 → Prop} {kd : Nat} {x y b : Int32} {va ma : Nat → Int32} (hk : kd < 5) (h : post ((1 : Int64) <<< ((kb_R kd x y).toInt64 &&& 63))) : wpY_results post (va, ma) (nI kd) x y b := by
  revert h
  refine kb_5 (P := fun kd => post ((1 : Int64) <<< ((kb_R kd x y).toInt64 &&& 63)) → wpY_results post (va, ma) (nI kd) x y b) ?_ ?_ ?_ ?_ ?_ hk
  · intro h
    unfold wpY_results
    exact br_t (by decide +kernel) h
  · intro h
    unfold wpY_results
    exact br_f (by decide +kernel) (br_t (by decide +kernel) h)
  · intro h
    unfold wpY_results
    exact br_f (by decide +kernel) (br_f (by decide +kernel) (br_t (by decide +kernel) h))
  · intro h
    unfold wpY_results
    exact br_f (by decide +kernel) (br_f (by decide +kernel) (br_f (by decide +kernel) (br_t (by decide +kernel) h)))
  · intro h
    unfold wpY_results
    exact br_f (by decide +kernel) (br_f (by decide +kernel) (br_f (by decide +kernel) (br_f (by decide +kernel) (br_t (by decide +kernel) h))))
theorem kb_yres {post : Int64 → Prop} {kd b n m : Nat} {va ma : Nat → Int32} (hk : kd < 7) (hb : b < 6) (hn : n < 64) (hm : m < 64) (H : ∀ e, (∀ i, i < 64 → (kb_m e i ↔ kb_P kd (kb_st (va b) (ma b)) n m i)) → post e) : wpY_results post (va, ma) (nI kd) (nI n) (nI m) (nI b) := by
  by_cases h5 : kd < 5
  · exact kb_yres5 h5 (H _ (fun i _ => (kb_P5 h5 _ n m i).symm))
  · have h : kd = 5 ∨ kd = 6 := by omega
    rcases h with rfl | rfl
    · unfold wpY_results
      dsimp only
      refine br_f (by decide +kernel) (br_f (by decide +kernel) (br_f (by decide +kernel) (br_f (by decide +kernel) (br_f (by decide +kernel) (br_t (by decide +kernel) (H _ (fun i _ => ?_)))))))
      rw [kb_mor, kb_mone hn, kb_mone hm]
      exact Iff.rfl
    · unfold wpY_results
      dsimp only
      refine br_f (by decide +kernel) (br_f (by decide +kernel) (br_f (by decide +kernel) (br_f (by decide +kernel) (br_f (by decide +kernel) (br_f (by decide +kernel) (kb_ys hb (fun t => H _ (fun i _ => ?_)) (fun f => H _ (fun i _ => ?_))))))))
      · rw [kb_mone hn]
        exact ⟨fun z => ⟨t, z⟩, fun z => z.2⟩
      · exact ⟨fun z => absurd z (kb_m0 i), fun z => absurd z.1 f⟩
end
section
/-! X: the results of a kind below 5, pair by pair -/
def kb_PC (A B : Nat → Prop) (kd n m i : Nat) : Prop := (A n ∧ B m) ∧ kb_P kd B n m i
theorem kb_ro35 {post : Int64 → Prop} {J : Int64 → Int32 → Prop} {A B : Nat → Prop} {kd x : Nat} {xs ys s : Int64} (hxs : ∀ i, i < 64 → (kb_m xs i ↔ A i)) (hys : ∀ i, i < 64 → (kb_m ys i ↔ B i)) (hk : kd < 5) (hx : x < 64) (h0 : kb_SJ (kb_PC A B kd) x 0 s) (H : ∀ s', kb_SJ (kb_PC A B kd) x 64 s' → J s' (nI (x + 1))) : ∃ n, wX_resultsOf_35 post J (nI kd) xs ys (nI x) n s 0 := by
  refine loop_0 (fun n i s => wX_resultsOf_35 post J (nI kd) xs ys (nI x) n s (nI i)) (fun y s => kb_SJ (kb_PC A B kd) x y s) 64 s h0 ?_ ?_
  · intro n s hs
    exact br_t kb_64 (nm_r (nI_1 x) (H s hs))
  · intro n i s hi hs K
    exact br_f (kb_n64 hi) (kb_xi hxs hx (fun a => kb_xi hys hi (fun b => kb_xres hk (nm_e (nm_r (nI_1 i) (K _ (kb_SJy hs (fun j _ => ⟨fun z => ⟨⟨a, b⟩, (kb_P5 hk B x i j).mpr z⟩, fun z => (kb_P5 hk B x i j).mp z.2⟩)))))) (fun b => nm_r (nI_1 i) (K _ (kb_SJn hs (fun j _ z => b z.1.2))))) (fun a => nm_r (nI_1 i) (K _ (kb_SJn hs (fun j _ z => a z.1.1)))))
theorem kb_ro25 {post : Int64 → Prop} {A B : Nat → Prop} {kd : Nat} {xs ys : Int64} (hxs : ∀ i, i < 64 → (kb_m xs i ↔ A i)) (hys : ∀ i, i < 64 → (kb_m ys i ↔ B i)) (hk : kd < 5) (H : ∀ s, (∀ i, i < 64 → (kb_m s i ↔ ∃ n m, n < 64 ∧ m < 64 ∧ kb_PC A B kd n m i)) → post s) : ∃ n, wX_resultsOf_25 post (nI kd) xs ys n 0 0 := by
  refine loop_0 (fun n i s => wX_resultsOf_25 post (nI kd) xs ys n s (nI i)) (fun x s => kb_SJ (kb_PC A B kd) x 0 s) 64 0 (kb_SJ0 _) ?_ ?_
  · intro n s hs
    exact br_t kb_64 (H s (kb_SJe hs))
  · intro n i s hi hs K
    exact br_f (kb_n64 hi) (kb_ro35 hxs hys hk hi hs (fun s' h' => K s' (kb_SJr h')))
theorem kb_ro {post : Int64 → Prop} {A B : Nat → Prop} {kd : Nat} {xs ys : Int64} (hxs : ∀ i, i < 64 → (kb_m xs i ↔ A i)) (hys : ∀ i, i < 64 → (kb_m ys i ↔ B i)) (hk : kd < 7) (hA : ∃ n, n < 64 ∧ A n) (hB : ∃ n, n < 64 ∧ B n) (H : ∀ s, (∀ i, i < 64 → (kb_m s i ↔ ∃ n m, n < 64 ∧ m < 64 ∧ kb_PC A B kd n m i)) → post s) : wpX_resultsOf post (nI kd) xs ys := by
  unfold wpX_resultsOf
  by_cases h5 : kd < 5
  · have e5 : ¬ nI kd = 5 := fun z => absurd ((nI_eq (b := 5) (by omega) (by decide)).mp z) (by omega)
    have e6 : ¬ nI kd = 6 := fun z => absurd ((nI_eq (b := 6) (by omega) (by decide)).mp z) (by omega)
    exact br_f e5 (br_f e6 (kb_ro25 hxs hys h5 H))
  · have h : kd = 5 ∨ kd = 6 := by omega
    obtain ⟨p, hp, ap⟩ := hA
    obtain ⟨q, hq, bq⟩ := hB
    rcases h with rfl | rfl
    · refine br_t (by decide +kernel) (H _ (fun i hi => ?_))
      rw [kb_mor, hxs i hi, hys i hi]
      constructor
      · rintro (a | b)
        · exact ⟨i, q, hi, hq, ⟨a, bq⟩, Or.inl rfl⟩
        · exact ⟨p, i, hp, hi, ⟨ap, b⟩, Or.inr rfl⟩
      · rintro ⟨n, m, _, _, ⟨a, b⟩, z⟩
        rcases (z : i = n ∨ i = m) with rfl | rfl
        · exact Or.inl a
        · exact Or.inr b
    · refine br_f (by decide +kernel) (br_t (by decide +kernel) (H _ (fun i hi => ?_)))
      rw [kb_mand, hxs i hi, hys i hi]
      constructor
      · rintro ⟨a, b⟩
        exact ⟨i, i, hi, hi, ⟨a, b⟩, b, rfl⟩
      · rintro ⟨n, m, _, _, ⟨a, b⟩, z⟩
        obtain ⟨c, e⟩ := (z : B n ∧ i = n)
        rw [e]
        exact ⟨a, c⟩
/-! Y: the results of combine -/
theorem kb_yc50 {post : Int32 → SY → Prop} {J : Int64 → Int32 → Prop} {x1 : Int32} {kd a b x : Nat} {s : Int64} {va ma : Nat → Int32} (hk : kd < 7) (ha : a < 6) (hb : b < 6) (hx : x < 64) (h0 : kb_SJ (kb_PC (kb_st (va a) (ma a)) (kb_st (va b) (ma b)) kd) x 0 s) (H : ∀ s', kb_SJ (kb_PC (kb_st (va a) (ma a)) (kb_st (va b) (ma b)) kd) x 64 s' → J s' (nI (x + 1))) : ∃ n, wY_combine_50 post J x1 (nI kd) (nI a) (nI b) (nI x) va ma n s 0 := by
  refine loop_0 (fun n i s => wY_combine_50 post J x1 (nI kd) (nI a) (nI b) (nI x) va ma n s (nI i)) (fun y s => kb_SJ (kb_PC (kb_st (va a) (ma a)) (kb_st (va b) (ma b)) kd) x y s) 64 s h0 ?_ ?_
  · intro n s hs
    exact br_t kb_64 (nm_r (nI_1 x) (H s hs))
  · intro n i s hi hs K
    exact br_f (kb_n64 hi) (kb_ys ha (fun p => kb_ys hb (fun q => kb_yres hk hb hx hi (fun e he => nm_e (nm_r (nI_1 i) (K _ (kb_SJy hs (fun j hj => (he j hj).trans ⟨fun z => ⟨⟨p, q⟩, z⟩, fun z => z.2⟩)))))) (fun q => nm_r (nI_1 i) (K _ (kb_SJn hs (fun j _ z => q z.1.2))))) (fun p => nm_r (nI_1 i) (K _ (kb_SJn hs (fun j _ z => p z.1.1)))))
theorem kb_yc40 {post : Int32 → SY → Prop} {d kd a b : Nat} {va ma : Nat → Int32} (hd : d < 6) (hk : kd < 7) (ha : a < 6) (hb : b < 6) (H : ∀ s, (∀ i, i < 64 → (kb_m s i ↔ ∃ n m, n < 64 ∧ m < 64 ∧ kb_PC (kb_st (va a) (ma a)) (kb_st (va b) (ma b)) kd n m i)) → (s = 0 → post (-2) (va, ma)) ∧ (¬ s = 0 → post 0 (upd va d (kb_V s), upd ma d (kb_M s)))) : ∃ n, wY_combine_40 post (nI d) (nI kd) (nI a) (nI b) va ma n 0 0 := by
  refine loop_0 (fun n i s => wY_combine_40 post (nI d) (nI kd) (nI a) (nI b) va ma n s (nI i)) (fun x s => kb_SJ (kb_PC (kb_st (va a) (ma a)) (kb_st (va b) (ma b)) kd) x 0 s) 64 0 (kb_SJ0 _) ?_ ?_
  · intro n s hs
    exact br_t kb_64 (kb_ky hd (H s (kb_SJe hs)).1 (H s (kb_SJe hs)).2)
  · intro n i s hi hs K
    exact br_f (kb_n64 hi) (kb_yc50 hk ha hb hi hs (fun s' h' => K s' (kb_SJr h')))
/-! Y: narrow -/
theorem kb_yn {post : Int32 → SY → Prop} {r : Nat} {lo hi : Int32} {va ma : Nat → Int32} (hr : r < 6) (H : ∀ s, (∀ i, i < 64 → (kb_m s i ↔ kb_W (va r) (ma r) lo hi i)) → (s = 0 → post (-2) (va, ma)) ∧ (¬ s = 0 → post 0 (upd va r (kb_V s), upd ma r (kb_M s)))) : ∃ n, wY_narrow_15 post (nI r) lo hi va ma n 0 0 := by
  refine loop_0 (fun n i s => wY_narrow_15 post (nI r) lo hi va ma n s (nI i)) (fun k s => kb_SQ (kb_W (va r) (ma r) lo hi) k s) 64 0 (kb_SQ0 _) ?_ ?_
  · intro n s hs
    exact br_t kb_64 (kb_ky hr (H s (kb_SQe hs)).1 (H s (kb_SQe hs)).2)
  · intro n i s hi' hs K
    exact br_f (kb_n64 hi') (kb_ys hr (fun p => br_c (fun g => nm_r (nI_1 i) (K _ (kb_SQn hs (fun q => q.2.1 g)))) (fun g => br_c (fun e => nm_r (nI_1 i) (K _ (kb_SQn hs (fun q => q.2.2 e)))) (fun e => nm_e (nm_r (nI_1 i) (K _ (kb_SQy hi' hs ⟨p, g, e⟩)))))) (fun p => nm_r (nI_1 i) (K _ (kb_SQn hs (fun q => p q.1)))))
/-! count -/
theorem kb_xn {post : Int32 → Prop} {s : Int64} {va ma : Nat → Int32} (H : post (kb_cnt s 64)) : ∃ n, wX_count_24 post s va ma n 0 0 := by
  refine loop_0 (fun n i c => wX_count_24 post s va ma n c (nI i)) (fun k c => c = kb_cnt s k) 64 0 rfl ?_ ?_
  · intro n c hc
    subst hc
    exact br_t kb_64 H
  · intro n i c hi hc K
    subst hc
    exact br_f (kb_n64 hi) (kb_xi (Q := kb_m s) (fun _ _ => Iff.rfl) hi (fun m => nm_e (nm_r (nI_1 i) (K _ (kb_cnt_y m)))) (fun m => nm_r (nI_1 i) (K _ (kb_cnt_n m))))
theorem kb_ynt {post : Int32 → Prop} {r : Nat} {lo hi : Int32} {s : Int64} {va ma : Nat → Int32} (hr : r < 6) (hs : ∀ i, i < 64 → (kb_m s i ↔ kb_W (va r) (ma r) lo hi i)) (H : post (kb_cnt s 64)) : ∃ n, wY_count_15 post (nI r) lo hi va ma n 0 0 := by
  refine loop_0 (fun n i c => wY_count_15 post (nI r) lo hi va ma n c (nI i)) (fun k c => c = kb_cnt s k) 64 0 rfl ?_ ?_
  · intro n c hc
    subst hc
    exact br_t kb_64 H
  · intro n i c hi' hc K
    subst hc
    have w := hs i hi'
    exact br_f (kb_n64 hi') (kb_ys hr (fun p => br_c (fun g => nm_r (nI_1 i) (K _ (kb_cnt_n (fun q => (w.mp q).2.1 g)))) (fun g => br_c (fun e => nm_r (nI_1 i) (K _ (kb_cnt_n (fun q => (w.mp q).2.2 e)))) (fun e => nm_e (nm_r (nI_1 i) (K _ (kb_cnt_y (w.mpr ⟨p, g, e⟩))))))) (fun p => nm_r (nI_1 i) (K _ (kb_cnt_n (fun q => p (w.mp q).1)))))
/-! least -/
theorem kb_xl {post : Int32 → Prop} {s : Int64} {r : Nat} {va ma : Nat → Int32} (L : kb_L s r) (H : post (nI r)) : ∀ n i, i ≤ r → r - i < n → wX_least_21 post s va ma n (nI i) := by
  obtain ⟨hr, ht, hn⟩ := L
  intro n
  induction n with
  | zero => intro i _ h; omega
  | succ n ih =>
    intro i hi h
    by_cases e : i = 64
    · have z : r = 64 := by omega
      subst e
      rw [z] at H
      exact br_t kb_64 H
    · have hi' : i < 64 := by omega
      refine br_f (kb_n64 hi') (kb_xi (Q := kb_m s) (fun _ _ => Iff.rfl) hi' (fun m => ?_) (fun m => nm_r (nI_1 i) (ih (i + 1) ?_ ?_)))
      · have z : i = r := by
          rcases Nat.lt_or_ge i r with c | c
          · exact absurd m (hn i c)
          · omega
        rw [z]
        exact H
      · rcases Nat.lt_or_ge i r with c | c
        · omega
        · have z : i = r := by omega
          rw [z] at m hi'
          exact absurd (ht hi') m
      · rcases Nat.lt_or_ge i r with c | c
        · omega
        · have z : i = r := by omega
          rw [z] at m hi'
          exact absurd (ht hi') m
theorem kb_yl {post : Int32 → Prop} {s : Int64} {r a : Nat} {fr : Int32} {va ma : Nat → Int32} (ha : a < 6) (hs : ∀ i, i < 64 → (kb_m s i ↔ kb_W (va a) (ma a) fr 63 i)) (L : kb_L s r) (H : post (nI r)) : ∀ n i, i ≤ r → r - i < n → wY_least_11 post (nI a) fr va ma n (nI i) := by
  obtain ⟨hr, ht, hn⟩ := L
  intro n
  induction n with
  | zero => intro i _ h; omega
  | succ n ih =>
    intro i hi h
    by_cases e : i = 64
    · have z : r = 64 := by omega
      subst e
      rw [z] at H
      exact br_t kb_64 H
    · have hi' : i < 64 := by omega
      have w := hs i hi'
      have nx : ¬ kb_m s i → wY_least_11 post (nI a) fr va ma n (nI (i + 1)) := by
        intro m
        rcases Nat.lt_or_ge i r with c | c
        · exact ih (i + 1) (by omega) (by omega)
        · have z : i = r := by omega
          rw [z] at m hi'
          exact absurd (ht hi') m
      refine br_f (kb_n64 hi') (br_c (fun g => nm_r (nI_1 i) (nx (fun q => (w.mp q).2.1 g))) (fun g => kb_ys ha (fun p => ?_) (fun p => nm_r (nI_1 i) (nx (fun q => p (w.mp q).1)))))
      have m : kb_m s i := w.mpr ⟨p, g, kb_n63 i hi'⟩
      have z : i = r := by
        rcases Nat.lt_or_ge i r with c | c
        · exact absurd m (hn i c)
        · omega
      rw [z]
      exact H
end
section
/-! suppose: X's numbers that have a partner -/
def kb_Q (A B : Nat → Prop) (how n m : Nat) : Prop := (A n ∧ B m) ∧ kb_H how n m
def kb_PL (A B : Nat → Prop) (how n m i : Nat) : Prop := kb_Q A B how n m ∧ i = n
def kb_PR (A B : Nat → Prop) (how n m i : Nat) : Prop := kb_Q A B how n m ∧ i = m
theorem kb_tp16 {post : Int64 → Prop} {J : Int64 → Int32 → Prop} {A B : Nat → Prop} {how x : Nat} {xs ys s : Int64} (hxs : ∀ i, i < 64 → (kb_m xs i ↔ A i)) (hys : ∀ i, i < 64 → (kb_m ys i ↔ B i)) (hh : how < 6) (hx : x < 64) (h0 : kb_SJ (kb_PL A B how) x 0 s) (H : ∀ s', kb_SJ (kb_PL A B how) x 64 s' → J s' (nI (x + 1))) : ∃ n, wX_thoseWithPartner_16 post J xs (nI how) ys (nI x) n s 0 := by
  refine loop_0 (fun n i s => wX_thoseWithPartner_16 post J xs (nI how) ys (nI x) n s (nI i)) (fun y s => kb_SJ (kb_PL A B how) x y s) 64 s h0 ?_ ?_
  · intro n s hs
    exact br_t kb_64 (nm_r (nI_1 x) (H s hs))
  · intro n i s hi hs K
    exact br_f (kb_n64 hi) (kb_xi hxs hx (fun a => kb_xi hys hi (fun b => kb_xh hh hx hi (fun c => br_f kb_10 (nm_e (nm_r (nI_1 i) (K _ (kb_SJy hs (fun j _ => (kb_mone hx).trans ⟨fun z => ⟨⟨⟨a, b⟩, c⟩, z⟩, fun z => z.2⟩)))))) (fun c => br_t rfl (nm_r (nI_1 i) (K _ (kb_SJn hs (fun j _ z => c z.1.2)))))) (fun b => nm_r (nI_1 i) (K _ (kb_SJn hs (fun j _ z => b z.1.1.2))))) (fun a => nm_r (nI_1 i) (K _ (kb_SJn hs (fun j _ z => a z.1.1.1)))))
theorem kb_twp {post : Int64 → Prop} {A B : Nat → Prop} {how : Nat} {xs ys : Int64} (hxs : ∀ i, i < 64 → (kb_m xs i ↔ A i)) (hys : ∀ i, i < 64 → (kb_m ys i ↔ B i)) (hh : how < 6) (H : ∀ s, (∀ i, i < 64 → (kb_m s i ↔ ∃ n m, n < 64 ∧ m < 64 ∧ kb_PL A B how n m i)) → post s) : wpX_thoseWithPartner post xs (nI how) ys := by
  unfold wpX_thoseWithPartner
  refine loop_0 (fun n i s => wX_thoseWithPartner_6 post xs (nI how) ys n s (nI i)) (fun x s => kb_SJ (kb_PL A B how) x 0 s) 64 0 (kb_SJ0 _) ?_ ?_
  · intro n s hs
    exact br_t kb_64 (H s (kb_SJe hs))
  · intro n i s hi hs K
    exact br_f (kb_n64 hi) (kb_tp16 hxs hys hh hi hs (fun s' h' => K s' (kb_SJr h')))
/-- the numbers of the second register that have a partner, by the comparison turned around -/
theorem kb_turn {A B : Nat → Prop} {how i : Nat} (hh : how < 6) : (∃ n m, n < 64 ∧ m < 64 ∧ kb_PL B A (kb_T how) n m i) ↔ ∃ n m, n < 64 ∧ m < 64 ∧ kb_PR A B how n m i := by
  constructor
  · rintro ⟨n, m, hn, hm, ⟨⟨b, a⟩, c⟩, e⟩
    exact ⟨m, n, hm, hn, ⟨⟨a, b⟩, (kb_TH hh m n).mp c⟩, e⟩
  · rintro ⟨n, m, hn, hm, ⟨⟨a, b⟩, c⟩, e⟩
    exact ⟨m, n, hm, hn, ⟨⟨b, a⟩, (kb_TH hh n m).mpr c⟩, e⟩
theorem kb_lr {A B : Nat → Prop} {how : Nat} {l t : Int64} (hl : ∀ i, i < 64 → (kb_m l i ↔ ∃ n m, n < 64 ∧ m < 64 ∧ kb_PL A B how n m i)) (ht : ∀ i, i < 64 → (kb_m t i ↔ ∃ n m, n < 64 ∧ m < 64 ∧ kb_PR A B how n m i)) : l = 0 ↔ t = 0 := by
  have e : ¬ l = 0 ↔ ¬ t = 0 := by
    rw [kb_ne, kb_ne]
    constructor
    · rintro ⟨i, hi, z⟩
      obtain ⟨n, m, hn, hm, q, _⟩ := (hl i hi).mp z
      exact ⟨m, hm, (ht m hm).mpr ⟨n, m, hn, hm, q, rfl⟩⟩
    · rintro ⟨i, hi, z⟩
      obtain ⟨n, m, hn, hm, q, _⟩ := (ht i hi).mp z
      exact ⟨n, hn, (hl n hn).mpr ⟨n, m, hn, hm, q, rfl⟩⟩
  constructor
  · intro z
    exact Classical.byContradiction (fun q => e.mpr q z)
  · intro z
    exact Classical.byContradiction (fun q => e.mp q z)
/-! Y: suppose -/
theorem kb_ys49 {post : Int32 → SY → Prop} {J : Int64 → Int64 → Int32 → Prop} {how a b x : Nat} {l t : Int64} {va ma : Nat → Int32} (hh : how < 6) (ha : a < 6) (hb : b < 6) (hx : x < 64) (h0 : kb_SJ (kb_PL (kb_st (va a) (ma a)) (kb_st (va b) (ma b)) how) x 0 l ∧ kb_SJ (kb_PR (kb_st (va a) (ma a)) (kb_st (va b) (ma b)) how) x 0 t) (H : ∀ l' t', kb_SJ (kb_PL (kb_st (va a) (ma a)) (kb_st (va b) (ma b)) how) x 64 l' → kb_SJ (kb_PR (kb_st (va a) (ma a)) (kb_st (va b) (ma b)) how) x 64 t' → J l' t' (nI (x + 1))) : ∃ n, wY_suppose_49 post J (nI a) (nI how) (nI b) (nI x) va ma n l t 0 := by
  refine loop_0 (fun n i (s : Int64 × Int64) => wY_suppose_49 post J (nI a) (nI how) (nI b) (nI x) va ma n s.1 s.2 (nI i)) (fun y s => kb_SJ (kb_PL (kb_st (va a) (ma a)) (kb_st (va b) (ma b)) how) x y s.1 ∧ kb_SJ (kb_PR (kb_st (va a) (ma a)) (kb_st (va b) (ma b)) how) x y s.2) 64 (l, t) h0 ?_ ?_
  · intro n s hs
    exact br_t kb_64 (nm_r (nI_1 x) (H s.1 s.2 hs.1 hs.2))
  · intro n i s hi hs K
    have nx : ¬ kb_Q (kb_st (va a) (ma a)) (kb_st (va b) (ma b)) how x i → wY_suppose_49 post J (nI a) (nI how) (nI b) (nI x) va ma n s.1 s.2 (nI (i + 1)) := fun q => K s ⟨kb_SJn hs.1 (fun j _ z => q z.1), kb_SJn hs.2 (fun j _ z => q z.1)⟩
    exact br_f (kb_n64 hi) (kb_ys ha (fun p => kb_ys hb (fun q => kb_yh hh hx hi (fun c => br_f kb_10 (nm_e (nm_e (nm_r (nI_1 i) (K (_, _) ⟨kb_SJy hs.1 (fun j _ => (kb_mone hx).trans ⟨fun z => ⟨⟨⟨p, q⟩, c⟩, z⟩, fun z => z.2⟩), kb_SJy hs.2 (fun j _ => (kb_mone hi).trans ⟨fun z => ⟨⟨⟨p, q⟩, c⟩, z⟩, fun z => z.2⟩)⟩))))) (fun c => br_t rfl (nm_r (nI_1 i) (nx (fun z => c z.2))))) (fun q => nm_r (nI_1 i) (nx (fun z => q z.1.2)))) (fun p => nm_r (nI_1 i) (nx (fun z => p z.1.1))))
theorem kb_ysp {post : Int32 → SY → Prop} {how a b : Nat} {va ma : Nat → Int32} (hh : how < 6) (ha : a < 6) (hb : b < 6) (H : ∀ l t, (∀ i, i < 64 → (kb_m l i ↔ ∃ n m, n < 64 ∧ m < 64 ∧ kb_PL (kb_st (va a) (ma a)) (kb_st (va b) (ma b)) how n m i)) → (∀ i, i < 64 → (kb_m t i ↔ ∃ n m, n < 64 ∧ m < 64 ∧ kb_PR (kb_st (va a) (ma a)) (kb_st (va b) (ma b)) how n m i)) → (l = 0 → post (-2) (va, ma)) ∧ (¬ l = 0 → post 0 (upd (upd va a (kb_V l)) b (kb_V t), upd (upd ma a (kb_M l)) b (kb_M t)))) : ∃ n, wY_suppose_39 post (nI a) (nI how) (nI b) va ma n 0 0 0 := by
  refine loop_0 (fun n i (s : Int64 × Int64) => wY_suppose_39 post (nI a) (nI how) (nI b) va ma n s.1 s.2 (nI i)) (fun x s => kb_SJ (kb_PL (kb_st (va a) (ma a)) (kb_st (va b) (ma b)) how) x 0 s.1 ∧ kb_SJ (kb_PR (kb_st (va a) (ma a)) (kb_st (va b) (ma b)) how) x 0 s.2) 64 (0, 0) ⟨kb_SJ0 _, kb_SJ0 _⟩ ?_ ?_
  · intro n s hs
    have hl := kb_SJe hs.1
    have ht := kb_SJe hs.2
    have h := H s.1 s.2 hl ht
    have z := kb_lr hl ht
    exact br_t kb_64 (kb_ky ha (fun e => kb_ky hb (fun _ => h.1 e) (fun f => absurd (z.mp e) f)) (fun e => kb_ky hb (fun f => absurd (z.mpr f) e) (fun _ => h.2 e)))
  · intro n i s hi hs K
    exact br_f (kb_n64 hi) (kb_ys49 hh ha hb hi hs (fun l' t' h1 h2 => K (l', t') ⟨kb_SJr h1, kb_SJr h2⟩))
/-! compare: flags -/
def kb_fl (z : Int32) (p : Prop) : Prop := (z = 0 ∧ ¬ p) ∨ (z = 1 ∧ p)
theorem kb_fl_k {z : Int32} {p q : Prop} (h : kb_fl z p) (e : q ↔ p) : kb_fl z q := h.imp (fun a => ⟨a.1, fun b => a.2 (e.mp b)⟩) (fun a => ⟨a.1, e.mpr a.2⟩)
theorem kb_fl_y {z : Int32} {p q : Prop} (h : kb_fl z p) (c : q) : kb_fl (z ||| 1) q := by
  rcases h with ⟨rfl, _⟩ | ⟨rfl, _⟩
  · exact Or.inr ⟨by decide, c⟩
  · exact Or.inr ⟨by decide, c⟩
theorem kb_fl_n {z : Int32} {p q : Prop} (h : kb_fl z p) (e : q ↔ p) : kb_fl (z ||| 0) q := by
  have k := kb_fl_k h e
  rcases k with ⟨rfl, c⟩ | ⟨rfl, c⟩
  · exact Or.inl ⟨by decide, c⟩
  · exact Or.inr ⟨by decide, c⟩
def kb_gl (z : Int32) (p : Prop) : Prop := (z = 1 ∧ ¬ p) ∨ (z = 0 ∧ p)
theorem kb_gl_k {z : Int32} {p q : Prop} (h : kb_gl z p) (e : q ↔ p) : kb_gl z q := h.imp (fun a => ⟨a.1, fun b => a.2 (e.mp b)⟩) (fun a => ⟨a.1, e.mpr a.2⟩)
theorem kb_fl0 {z : Int32} {p : Prop} (h : kb_fl z p) : z = 0 ↔ ¬ p := by
  rcases h with ⟨rfl, c⟩ | ⟨rfl, c⟩
  · exact ⟨fun _ => c, fun _ => rfl⟩
  · exact ⟨fun z => absurd z kb_10, fun z => absurd c z⟩
theorem kb_gl0 {z : Int32} {p : Prop} (h : kb_gl z p) : z = 0 ↔ p := by
  rcases h with ⟨rfl, c⟩ | ⟨rfl, c⟩
  · exact ⟨fun z => absurd z kb_10, fun z => absurd z c⟩
  · exact ⟨fun _ => c, fun _ => rfl⟩
def kb_NQ (A B : Nat → Prop) (how n m : Nat) : Prop := (A n ∧ B m) ∧ ¬ kb_H how n m
theorem kb_Ey {P : Nat → Nat → Prop} {x y : Nat} (p : P x y) : kb_E P x (y + 1) := (kb_Es P x y).mpr (Or.inr p)
theorem kb_En {P : Nat → Nat → Prop} {x y : Nat} (p : ¬ P x y) : kb_E P x (y + 1) ↔ kb_E P x y := (kb_Es P x y).trans ⟨fun z => z.elim id (fun q => absurd q p), Or.inl⟩
theorem kb_xq56 {post : Int32 → Prop} {J : Int32 → Int32 → Int32 → Prop} {A B : Nat → Prop} {how x : Nat} {xs ys : Int64} {p q : Int32} {va ma : Nat → Int32} (hxs : ∀ i, i < 64 → (kb_m xs i ↔ A i)) (hys : ∀ i, i < 64 → (kb_m ys i ↔ B i)) (hh : how < 6) (hx : x < 64) (h0 : kb_fl p (kb_E (kb_Q A B how) x 0) ∧ kb_fl q (kb_E (kb_NQ A B how) x 0)) (H : ∀ p' q', kb_fl p' (kb_E (kb_Q A B how) x 64) → kb_fl q' (kb_E (kb_NQ A B how) x 64) → J p' q' (nI (x + 1))) : ∃ n, wX_compare_56 post J (nI how) xs ys (nI x) va ma n p q 0 := by
  refine loop_0 (fun n i (s : Int32 × Int32) => wX_compare_56 post J (nI how) xs ys (nI x) va ma n s.1 s.2 (nI i)) (fun y s => kb_fl s.1 (kb_E (kb_Q A B how) x y) ∧ kb_fl s.2 (kb_E (kb_NQ A B how) x y)) 64 (p, q) h0 ?_ ?_
  · intro n s hs
    exact br_t kb_64 (nm_r (nI_1 x) (H s.1 s.2 hs.1 hs.2))
  · intro n i s hi hs K
    have nx : ¬ (A x ∧ B i) → wX_compare_56 post J (nI how) xs ys (nI x) va ma n s.1 s.2 (nI (i + 1)) := fun z => K s ⟨kb_fl_k hs.1 (kb_En (fun w => z w.1)), kb_fl_k hs.2 (kb_En (fun w => z w.1))⟩
    exact br_f (kb_n64 hi) (kb_xi hxs hx (fun a => kb_xi hys hi (fun b => kb_xh hh hx hi
      (fun c => nm_e (br_f kb_10 (nm_e (nm_r (nI_1 i) (K (_, _) ⟨kb_fl_y hs.1 (kb_Ey ⟨⟨a, b⟩, c⟩), kb_fl_n hs.2 (kb_En (fun w => w.2 c))⟩)))))
      (fun c => nm_e (br_t rfl (nm_e (nm_r (nI_1 i) (K (_, _) ⟨kb_fl_n hs.1 (kb_En (fun w => c w.2)), kb_fl_y hs.2 (kb_Ey ⟨⟨a, b⟩, c⟩)⟩))))))
      (fun b => nm_r (nI_1 i) (nx (fun z => b z.2)))) (fun a => nm_r (nI_1 i) (nx (fun z => a z.1))))
/-- what compare answers -/
def kb_A (post : Int32 → Prop) (A B : Nat → Prop) (how : Nat) : Prop :=
  (¬ kb_E (kb_NQ A B how) 64 0 → post 1) ∧ (kb_E (kb_NQ A B how) 64 0 → ¬ kb_E (kb_Q A B how) 64 0 → post 0) ∧ (kb_E (kb_NQ A B how) 64 0 → kb_E (kb_Q A B how) 64 0 → post 2)
theorem kb_fl00 {P : Nat → Nat → Prop} : kb_fl 0 (kb_E P 0 0) := Or.inl ⟨rfl, kb_E0 P⟩
theorem kb_gl00 {P : Nat → Nat → Prop} : kb_gl 1 (kb_E P 0 0) := Or.inl ⟨rfl, kb_E0 P⟩
theorem kb_xq46 {post : Int32 → Prop} {A B : Nat → Prop} {how : Nat} {xs ys : Int64} {va ma : Nat → Int32} (hxs : ∀ i, i < 64 → (kb_m xs i ↔ A i)) (hys : ∀ i, i < 64 → (kb_m ys i ↔ B i)) (hh : how < 6) (H : kb_A post A B how) : ∃ n, wX_compare_46 post (nI how) xs ys va ma n 0 0 0 := by
  refine loop_0 (fun n i (s : Int32 × Int32) => wX_compare_46 post (nI how) xs ys va ma n s.1 s.2 (nI i)) (fun x s => kb_fl s.1 (kb_E (kb_Q A B how) x 0) ∧ kb_fl s.2 (kb_E (kb_NQ A B how) x 0)) 64 (0, 0) ⟨kb_fl00, kb_fl00⟩ ?_ ?_
  · intro n s hs
    exact br_t kb_64 (br_c (fun z => H.1 ((kb_fl0 hs.2).mp z)) (fun z => br_c (fun w => H.2.1 (Classical.byContradiction (fun g => z ((kb_fl0 hs.2).mpr g))) ((kb_fl0 hs.1).mp w)) (fun w => H.2.2 (Classical.byContradiction (fun g => z ((kb_fl0 hs.2).mpr g))) (Classical.byContradiction (fun g => w ((kb_fl0 hs.1).mpr g))))))
  · intro n i s hi hs K
    exact br_f (kb_n64 hi) (kb_xq56 hxs hys hh hi hs (fun p' q' h1 h2 => K (p', q') ⟨kb_fl_k h1 (kb_Er _ i).symm, kb_fl_k h2 (kb_Er _ i).symm⟩))
theorem kb_yq44 {post : Int32 → Prop} {J : Int32 → Int32 → Int32 → Prop} {how a b x : Nat} {p q : Int32} {va ma : Nat → Int32} (hh : how < 6) (ha : a < 6) (hb : b < 6) (hx : x < 64) (h0 : kb_fl p (kb_E (kb_Q (kb_st (va a) (ma a)) (kb_st (va b) (ma b)) how) x 0) ∧ kb_gl q (kb_E (kb_NQ (kb_st (va a) (ma a)) (kb_st (va b) (ma b)) how) x 0)) (H : ∀ p' q', kb_fl p' (kb_E (kb_Q (kb_st (va a) (ma a)) (kb_st (va b) (ma b)) how) x 64) → kb_gl q' (kb_E (kb_NQ (kb_st (va a) (ma a)) (kb_st (va b) (ma b)) how) x 64) → J p' q' (nI (x + 1))) : ∃ n, wY_compare_44 post J (nI a) (nI how) (nI b) (nI x) va ma n p q 0 := by
  refine loop_0 (fun n i (s : Int32 × Int32) => wY_compare_44 post J (nI a) (nI how) (nI b) (nI x) va ma n s.1 s.2 (nI i)) (fun y s => kb_fl s.1 (kb_E (kb_Q (kb_st (va a) (ma a)) (kb_st (va b) (ma b)) how) x y) ∧ kb_gl s.2 (kb_E (kb_NQ (kb_st (va a) (ma a)) (kb_st (va b) (ma b)) how) x y)) 64 (p, q) h0 ?_ ?_
  · intro n s hs
    exact br_t kb_64 (nm_r (nI_1 x) (H s.1 s.2 hs.1 hs.2))
  · intro n i s hi hs K
    have nx : ¬ (kb_st (va a) (ma a) x ∧ kb_st (va b) (ma b) i) → wY_compare_44 post J (nI a) (nI how) (nI b) (nI x) va ma n s.1 s.2 (nI (i + 1)) := fun z => K s ⟨kb_fl_k hs.1 (kb_En (fun w => z w.1)), kb_gl_k hs.2 (kb_En (fun w => z w.1))⟩
    exact br_f (kb_n64 hi) (kb_ys ha (fun a' => kb_ys hb (fun b' => kb_yh hh hx hi
      (fun c => br_f kb_10 (nm_r (nI_1 i) (K (1, s.2) ⟨Or.inr ⟨rfl, kb_Ey ⟨⟨a', b'⟩, c⟩⟩, kb_gl_k hs.2 (kb_En (fun w => w.2 c))⟩)))
      (fun c => br_t rfl (nm_r (nI_1 i) (K (s.1, 0) ⟨kb_fl_k hs.1 (kb_En (fun w => c w.2)), Or.inr ⟨rfl, kb_Ey ⟨⟨a', b'⟩, c⟩⟩⟩))))
      (fun b' => nm_r (nI_1 i) (nx (fun z => b' z.2)))) (fun a' => nm_r (nI_1 i) (nx (fun z => a' z.1))))
theorem kb_yq34 {post : Int32 → Prop} {how a b : Nat} {va ma : Nat → Int32} (hh : how < 6) (ha : a < 6) (hb : b < 6) (H : kb_A post (kb_st (va a) (ma a)) (kb_st (va b) (ma b)) how) : ∃ n, wY_compare_34 post (nI a) (nI how) (nI b) va ma n 0 1 0 := by
  refine loop_0 (fun n i (s : Int32 × Int32) => wY_compare_34 post (nI a) (nI how) (nI b) va ma n s.1 s.2 (nI i)) (fun x s => kb_fl s.1 (kb_E (kb_Q (kb_st (va a) (ma a)) (kb_st (va b) (ma b)) how) x 0) ∧ kb_gl s.2 (kb_E (kb_NQ (kb_st (va a) (ma a)) (kb_st (va b) (ma b)) how) x 0)) 64 (0, 1) ⟨kb_fl00, kb_gl00⟩ ?_ ?_
  · intro n s hs
    exact br_t kb_64 (br_c (fun z => br_c (fun w => H.2.1 ((kb_gl0 hs.2).mp z) ((kb_fl0 hs.1).mp w)) (fun w => H.2.2 ((kb_gl0 hs.2).mp z) (Classical.byContradiction (fun g => w ((kb_fl0 hs.1).mpr g))))) (fun z => H.1 (fun g => z ((kb_gl0 hs.2).mpr g))))
  · intro n i s hi hs K
    exact br_f (kb_n64 hi) (kb_yq44 hh ha hb hi hs (fun p' q' h1 h2 => K (p', q') ⟨kb_fl_k h1 (kb_Er _ i).symm, kb_gl_k h2 (kb_Er _ i).symm⟩))
/-! shift -/
def kb_sh (by' : Int32) (n : Nat) : Int32 := if by' < 0 then nI n >>> ((-by') &&& 31) else (nI n <<< (by' &&& 31)) &&& 63
def kb_PS (A : Nat → Prop) (by' : Int32) (n i : Nat) : Prop := A n ∧ kb_m ((1 : Int64) <<< ((kb_sh by' n).toInt64 &&& 63)) i
theorem kb_xs {post : Int32 → SX → Prop} {A : Nat → Prop} {d : Nat} {by' : Int32} {xs : Int64} {va ma : Nat → Int32} (hd : d < 6) (hxs : ∀ i, i < 64 → (kb_m xs i ↔ A i)) (H : ∀ s, (∀ i, i < 64 → (kb_m s i ↔ ∃ n, n < 64 ∧ kb_PS A by' n i)) → (s = 0 → post (-2) (va, ma)) ∧ (¬ s = 0 → post 0 (upd va d (kb_V s), upd ma d (kb_M s)))) : ∃ n, wX_shift_41 post (nI d) by' xs va ma n 0 0 := by
  refine loop_0 (fun n i s => wX_shift_41 post (nI d) by' xs va ma n s (nI i)) (fun k s => kb_SI (kb_PS A by') k s) 64 0 (kb_SI0 _) ?_ ?_
  · intro n s hs
    exact br_t kb_64 (kb_kx hd (H s hs).1 (H s hs).2)
  · intro n i s hi hs K
    refine br_f (kb_n64 hi) (kb_xi hxs hi (fun a => br_c (fun z => ?_) (fun z => ?_)) (fun a => nm_r (nI_1 i) (K _ (kb_SIn hs (fun j _ w => a w.1)))))
    · unfold wX_shift_77
      refine nm_e (nm_r (nI_1 i) (K _ (kb_SIy hs (fun j _ => ?_))))
      unfold kb_PS kb_sh
      rw [if_pos z]
      exact ⟨fun w => ⟨a, w⟩, fun w => w.2⟩
    · unfold wX_shift_77
      refine nm_e (nm_r (nI_1 i) (K _ (kb_SIy hs (fun j _ => ?_))))
      unfold kb_PS kb_sh
      rw [if_neg z]
      exact ⟨fun w => ⟨a, w⟩, fun w => w.2⟩
theorem kb_pm : ∀ i, i < 6 → nI (2 ^ i) * 2 = nI (2 ^ (i + 1)) := by decide +kernel
theorem kb_p6 : ∀ i, i < 6 → ¬ (6 : Int32) ≤ nI i := by decide +kernel
theorem kb_pw {post : Int32 → Prop} {j : Nat} (hj : j < 7) (H : post (nI (2 ^ j))) : wpY_power post (nI j) := by
  unfold wpY_power
  refine loop_0 (fun n i p => wY_power_4 post (nI j) n p (nI i)) (fun k p => p = nI (2 ^ k)) j 1 rfl ?_ ?_
  · intro n p hp
    subst hp
    exact br_t (Int32.le_refl _) H
  · intro n i p hi hp K
    subst hp
    exact br_f (nI_ge hi (by omega)) (br_f (kb_p6 i (by omega)) (nm_r (kb_pm i (by omega)) (nm_r (nI_1 i) (K _ rfl))))
theorem kb_pw0 {post : Int32 → Prop} {p : Int32} (h : p ≤ 0) (H : post 1) : wpY_power post p := by
  unfold wpY_power
  exact ⟨1, br_t h H⟩
theorem kb_by6 {p : Int32} (h1 : ¬ p < -6) (h2 : p ≤ 6) : ∃ j, j < 7 ∧ (p = nI j ∨ (p = -nI j ∧ 0 < j)) := by
  have e : p = Int32.ofInt p.toInt := (Int32.ofInt_toInt p).symm
  have a : -6 ≤ p.toInt := by
    rw [Int32.lt_iff_toInt_lt] at h1
    have : (-6 : Int32).toInt = -6 := by decide
    omega
  have b : p.toInt ≤ 6 := by
    rw [Int32.le_iff_toInt_le] at h2
    have : (6 : Int32).toInt = 6 := by decide
    omega
  have c : p.toInt = -6 ∨ p.toInt = -5 ∨ p.toInt = -4 ∨ p.toInt = -3 ∨ p.toInt = -2 ∨ p.toInt = -1 ∨ p.toInt = 0 ∨ p.toInt = 1 ∨ p.toInt = 2 ∨ p.toInt = 3 ∨ p.toInt = 4 ∨ p.toInt = 5 ∨ p.toInt = 6 := by omega
  rcases c with c | c | c | c | c | c | c | c | c | c | c | c | c
  · rw [c] at e; exact ⟨6, by omega, Or.inr ⟨e.trans (by decide +kernel), by omega⟩⟩
  · rw [c] at e; exact ⟨5, by omega, Or.inr ⟨e.trans (by decide +kernel), by omega⟩⟩
  · rw [c] at e; exact ⟨4, by omega, Or.inr ⟨e.trans (by decide +kernel), by omega⟩⟩
  · rw [c] at e; exact ⟨3, by omega, Or.inr ⟨e.trans (by decide +kernel), by omega⟩⟩
  · rw [c] at e; exact ⟨2, by omega, Or.inr ⟨e.trans (by decide +kernel), by omega⟩⟩
  · rw [c] at e; exact ⟨1, by omega, Or.inr ⟨e.trans (by decide +kernel), by omega⟩⟩
  · rw [c] at e; exact ⟨0, by omega, Or.inl (e.trans (by decide +kernel))⟩
  · rw [c] at e; exact ⟨1, by omega, Or.inl (e.trans (by decide +kernel))⟩
  · rw [c] at e; exact ⟨2, by omega, Or.inl (e.trans (by decide +kernel))⟩
  · rw [c] at e; exact ⟨3, by omega, Or.inl (e.trans (by decide +kernel))⟩
  · rw [c] at e; exact ⟨4, by omega, Or.inl (e.trans (by decide +kernel))⟩
  · rw [c] at e; exact ⟨5, by omega, Or.inl (e.trans (by decide +kernel))⟩
  · rw [c] at e; exact ⟨6, by omega, Or.inl (e.trans (by decide +kernel))⟩
theorem kb_sy1 : ∀ j, j < 7 → ∀ x, x < 64 → (nI x * nI (2 ^ j)) - (nI x * nI (2 ^ j)) / 64 * 64 = (nI x <<< (nI j &&& 31)) &&& 63 := by decide +kernel
theorem kb_sy2 : ∀ j, j < 7 → ∀ x, x < 64 → nI x / nI (2 ^ j) = nI x >>> ((-(-nI j)) &&& 31) := by decide +kernel
theorem kb_sy3 : ∀ j, j < 7 → ¬ nI (2 ^ j) ≤ (0 : Int32) ∧ ¬ nI (2 ^ j) = (0 : Int32) ∧ -nI j ≤ (0 : Int32) ∧ ¬ nI j < (0 : Int32) ∧ -(-nI j) = nI j ∧ (0 < j → -nI j < (0 : Int32)) := by decide +kernel
theorem kb_ysh83 {post : Int32 → SY → Prop} {J : Int64 → Int32 → Prop} {x1 by' x4 x5 z : Int32} {a i : Nat} {s : Int64} {va ma : Nat → Int32} (ha : a < 6) (hi : i < 64) (hz : z = kb_sh by' i) (hs : kb_SI (kb_PS (kb_st (va a) (ma a)) by') i s) (K : ∀ s', kb_SI (kb_PS (kb_st (va a) (ma a)) by') (i + 1) s' → J s' (nI (i + 1))) : wY_shift_83 post J x1 (nI a) by' x4 x5 s (nI i) z va ma := by
  unfold wY_shift_83
  subst hz
  exact kb_ys ha (fun p => nm_e (nm_r (nI_1 i) (K _ (kb_SIy hs (fun j _ => ⟨fun w => ⟨p, w⟩, fun w => w.2⟩))))) (fun p => nm_r (nI_1 i) (K _ (kb_SIn hs (fun j _ w => p w.1))))
theorem kb_ysh {post : Int32 → SY → Prop} {d a : Nat} {by' : Int32} {va ma : Nat → Int32} (hd : d < 6) (ha : a < 6) (h1 : ¬ by' < -6) (h2 : by' ≤ 6) (H : ∀ s, (∀ i, i < 64 → (kb_m s i ↔ ∃ n, n < 64 ∧ kb_PS (kb_st (va a) (ma a)) by' n i)) → (s = 0 → post (-2) (va, ma)) ∧ (¬ s = 0 → post 0 (upd va d (kb_V s), upd ma d (kb_M s)))) : wpY_power (fun r_7 => (wpY_power (fun r_8 => (∃ n47 : Nat, wY_shift_47 post (nI d) (nI a) by' r_7 r_8 va ma n47 0 0)) (-by'))) by' := by
  obtain ⟨j, hj, e⟩ := kb_by6 h1 h2
  have y := kb_sy3 j hj
  rcases e with rfl | ⟨rfl, hp⟩
  · refine kb_pw hj (kb_pw0 y.2.2.1 ?_)
    refine loop_0 (fun n i s => wY_shift_47 post (nI d) (nI a) (nI j) (nI (2 ^ j)) 1 va ma n s (nI i)) (fun k s => kb_SI (kb_PS (kb_st (va a) (ma a)) (nI j)) k s) 64 0 (kb_SI0 _) ?_ ?_
    · intro n s hs
      exact br_t kb_64 (kb_ky hd (H s hs).1 (H s hs).2)
    · intro n i s hi hs K
      exact br_f (kb_n64 hi) (br_f y.2.2.2.1 ⟨by decide, kb_ysh83 ha hi ((kb_sy1 j hj i hi).trans (if_neg y.2.2.2.1).symm) hs K⟩)
  · refine kb_pw0 y.2.2.1 ?_
    rw [y.2.2.2.2.1]
    refine kb_pw hj ?_
    refine loop_0 (fun n i s => wY_shift_47 post (nI d) (nI a) (-nI j) 1 (nI (2 ^ j)) va ma n s (nI i)) (fun k s => kb_SI (kb_PS (kb_st (va a) (ma a)) (-nI j)) k s) 64 0 (kb_SI0 _) ?_ ?_
    · intro n s hs
      exact br_t kb_64 (kb_ky hd (H s hs).1 (H s hs).2)
    · intro n i s hi hs K
      exact br_f (kb_n64 hi) (br_t (y.2.2.2.2.2 hp) (br_f y.1 ⟨y.2.1, kb_ysh83 ha hi ((kb_sy2 j hj i hi).trans (if_pos (y.2.2.2.2.2 hp)).symm) hs K⟩))
end
section
/-- both sides hold the same patterns, and each stands for some number -/
def i_Rel (_ : Nat) (u : SX) (v : SY) : Prop := v = u ∧ ∀ r, r < 6 → kb_J (u.1 r) (u.2 r)
theorem kb_Jupd {va ma : Nat → Int32} {q : Nat} {v m : Int32} (R : ∀ r, r < 6 → kb_J (va r) (ma r)) (h : kb_J v m) : ∀ r, r < 6 → kb_J (upd va q v r) (upd ma q m r) := by
  intro r hr
  by_cases e : r = q
  · subst e
    rw [kb_us, kb_us]
    exact h
  · rw [kb_un _ _ e, kb_un _ _ e]
    exact R r hr
theorem kb_Jne {v m : Int32} (h : kb_J v m) : ∃ n, n < 64 ∧ kb_st v m n := by
  obtain ⟨j, hj, _, s⟩ := h
  exact ⟨j, hj, s⟩
theorem kb_kind {p : Int32} (h0 : ¬ p < 0) (h7 : p < 7) : ∃ j, j < 7 ∧ p = nI j ∧ p ≤ 6 := by
  obtain ⟨j, hj, rfl⟩ := nI_of h0
  have h : j < 7 := (nI_ltI (b := 7) hj (by decide)).mp h7
  exact ⟨j, h, rfl, nI_le (b := 6) (by omega) (by decide)⟩
theorem kb_67 {p : Int32} (h : p ≤ 6) : p < 7 := by
  rw [Int32.le_iff_toInt_le] at h
  rw [Int32.lt_iff_toInt_lt]
  have a : (6 : Int32).toInt = 6 := by decide
  have b : (7 : Int32).toInt = 7 := by decide
  omega
theorem i_up {k : Nat} {u : SX} {v : SY} (h : i_Rel k u v) : i_Rel (k + 5) u v := h
theorem i_vc0 : wpX_init (fun u => wpY_init (fun v => i_Rel 0 u v)) := ⟨rfl, fun _ _ => kb_J0⟩
theorem i_vc_set {k : Nat} {u : SX} {v : SY} (I : i_Rel k u v) (hk : k + 5 ≤ 2560) (v1 : Int32) (v2 : Int32) (v3 : Int32) : wpX_set (fun r u' => wpY_set (fun r' v' => r' = r ∧ i_Rel (k + 5) u' v') v v1 v2 v3) u v1 v2 v3 := by
  obtain ⟨va, ma⟩ := u
  obtain ⟨rfl, R⟩ := I
  have S : i_Rel (k + 5) (va, ma) (va, ma) := ⟨rfl, R⟩
  unfold wpX_set
  dsimp only
  rcases kb_reg v1 with hb | ⟨r, hr, rfl⟩
  · refine kb_xb hb ?_
    unfold wpY_set
    dsimp only
    exact kb_yb hb ⟨rfl, S⟩
  · refine kb_xr hr ⟨kb_in hr, ?_⟩
    rw [kb_cl hr]
    refine nm_e ⟨kb_in hr, nm_e ?_⟩
    unfold wpY_set
    dsimp only
    refine kb_yr hr ⟨kb_in hr, ?_⟩
    rw [kb_cl hr]
    refine nm_e ⟨kb_in hr, kb_in hr, nm_e ⟨rfl, ?_⟩⟩
    rw [kb_us, kb_i7]
    exact ⟨rfl, kb_Jupd R (kb_Jset v2 v3)⟩
theorem i_vc_combine {k : Nat} {u : SX} {v : SY} (I : i_Rel k u v) (hk : k + 5 ≤ 2560) (v1 : Int32) (v2 : Int32) (v3 : Int32) (v4 : Int32) : wpX_combine (fun r u' => wpY_combine (fun r' v' => r' = r ∧ i_Rel (k + 5) u' v') v v1 v2 v3 v4) u v1 v2 v3 v4 := by
  obtain ⟨va, ma⟩ := u
  obtain ⟨rfl, R⟩ := I
  have S : i_Rel (k + 5) (va, ma) (va, ma) := ⟨rfl, R⟩
  unfold wpX_combine
  dsimp only
  rcases kb_reg v1 with hb | ⟨d, hd, rfl⟩
  · refine kb_xb hb ?_
    unfold wpY_combine
    dsimp only
    exact kb_yb hb ⟨rfl, S⟩
  refine kb_xr hd ?_
  rcases kb_reg v3 with hb | ⟨a, ha, rfl⟩
  · refine kb_xb hb ?_
    unfold wpY_combine
    dsimp only
    exact kb_yr hd (kb_yb hb ⟨rfl, S⟩)
  refine kb_xr ha ?_
  rcases kb_reg v4 with hb | ⟨b, hb, rfl⟩
  · refine kb_xb hb ?_
    unfold wpY_combine
    dsimp only
    exact kb_yr hd (kb_yr ha (kb_yb hb ⟨rfl, S⟩))
  refine kb_xr hb ?_
  by_cases h0 : v2 < 0
  · refine br_t h0 ?_
    unfold wpY_combine
    dsimp only
    exact kb_yr hd (kb_yr ha (kb_yr hb (br_t h0 ⟨rfl, S⟩)))
  refine br_f h0 ?_
  by_cases h7 : v2 < 7
  · refine br_t h7 ?_
    obtain ⟨kd, hk, rfl, h6⟩ := kb_kind h0 h7
    refine kb_no ha (fun xs hxs => kb_no hb (fun ys hys => kb_ro hxs hys hk (kb_Jne (R a ha)) (kb_Jne (R b hb)) (fun s hs => ?_)))
    have Y : ∀ post : Int32 → SY → Prop, ((s = 0 → post (-2) (va, ma)) ∧ (¬ s = 0 → post 0 (upd va d (kb_V s), upd ma d (kb_M s)))) → wpY_combine post (va, ma) (nI d) (nI kd) (nI a) (nI b) := by
      intro post h
      unfold wpY_combine
      dsimp only
      refine kb_yr hd (kb_yr ha (kb_yr hb (br_f h0 (br_t h6 (kb_yc40 hd hk ha hb (fun t ht => ?_))))))
      rw [kb_mext (fun i hi => (ht i hi).trans (hs i hi).symm)]
      exact h
    exact kb_kx hd (fun z => Y _ ⟨fun _ => ⟨rfl, S⟩, fun w => absurd z w⟩) (fun z => Y _ ⟨fun w => absurd w z, fun _ => ⟨rfl, rfl, kb_Jupd R (kb_JV z)⟩⟩)
  · refine br_f h7 ?_
    unfold wpY_combine
    dsimp only
    exact kb_yr hd (kb_yr ha (kb_yr hb (br_f h0 (br_f (fun z => h7 (kb_67 z)) ⟨rfl, S⟩))))
theorem i_vc_shift {k : Nat} {u : SX} {v : SY} (I : i_Rel k u v) (hk : k + 5 ≤ 2560) (v1 : Int32) (v2 : Int32) (v3 : Int32) : wpX_shift (fun r u' => wpY_shift (fun r' v' => r' = r ∧ i_Rel (k + 5) u' v') v v1 v2 v3) u v1 v2 v3 := by
  obtain ⟨va, ma⟩ := u
  obtain ⟨rfl, R⟩ := I
  have S : i_Rel (k + 5) (va, ma) (va, ma) := ⟨rfl, R⟩
  unfold wpX_shift
  dsimp only
  rcases kb_reg v1 with hb | ⟨d, hd, rfl⟩
  · refine kb_xb hb ?_
    unfold wpY_shift
    dsimp only
    exact kb_yb hb ⟨rfl, S⟩
  refine kb_xr hd ?_
  rcases kb_reg v2 with hb | ⟨a, ha, rfl⟩
  · refine kb_xb hb ?_
    unfold wpY_shift
    dsimp only
    exact kb_yr hd (kb_yb hb ⟨rfl, S⟩)
  refine kb_xr ha ?_
  by_cases h1 : v3 < -6
  · refine br_t h1 ?_
    unfold wpY_shift
    dsimp only
    exact kb_yr hd (kb_yr ha (br_t h1 ⟨rfl, S⟩))
  refine br_f h1 ?_
  by_cases h2 : v3 ≤ 6
  · refine br_t h2 (kb_no ha (fun xs hxs => kb_xs hd hxs (fun s hs => ?_)))
    have Y : ∀ post : Int32 → SY → Prop, ((s = 0 → post (-2) (va, ma)) ∧ (¬ s = 0 → post 0 (upd va d (kb_V s), upd ma d (kb_M s)))) → wpY_shift post (va, ma) (nI d) (nI a) v3 := by
      intro post h
      unfold wpY_shift
      dsimp only
      refine kb_yr hd (kb_yr ha (br_f h1 (br_t h2 (kb_ysh hd ha h1 h2 (fun t ht => ?_)))))
      rw [kb_mext (fun i hi => (ht i hi).trans (hs i hi).symm)]
      exact h
    exact ⟨fun z => Y _ ⟨fun _ => ⟨rfl, S⟩, fun w => absurd z w⟩, fun z => Y _ ⟨fun w => absurd w z, fun _ => ⟨rfl, rfl, kb_Jupd R (kb_JV z)⟩⟩⟩
  · refine br_f h2 ?_
    unfold wpY_shift
    dsimp only
    exact kb_yr hd (kb_yr ha (br_f h1 (br_f h2 ⟨rfl, S⟩)))
theorem i_vc_narrow {k : Nat} {u : SX} {v : SY} (I : i_Rel k u v) (hk : k + 5 ≤ 2560) (v1 : Int32) (v2 : Int32) (v3 : Int32) : wpX_narrow (fun r u' => wpY_narrow (fun r' v' => r' = r ∧ i_Rel (k + 5) u' v') v v1 v2 v3) u v1 v2 v3 := by
  obtain ⟨va, ma⟩ := u
  obtain ⟨rfl, R⟩ := I
  have S : i_Rel (k + 5) (va, ma) (va, ma) := ⟨rfl, R⟩
  unfold wpX_narrow
  dsimp only
  rcases kb_reg v1 with hb | ⟨r, hr, rfl⟩
  · refine kb_xb hb ?_
    unfold wpY_narrow
    dsimp only
    exact kb_yb hb ⟨rfl, S⟩
  · refine kb_xr hr (kb_nw hr (fun s hs => ?_))
    have Y : ∀ post : Int32 → SY → Prop, ((s = 0 → post (-2) (va, ma)) ∧ (¬ s = 0 → post 0 (upd va r (kb_V s), upd ma r (kb_M s)))) → wpY_narrow post (va, ma) (nI r) v2 v3 := by
      intro post h
      unfold wpY_narrow
      dsimp only
      refine kb_yr hr (kb_yn hr (fun t ht => ?_))
      rw [kb_mext (fun i hi => (ht i hi).trans (hs i hi).symm)]
      exact h
    exact kb_kx hr (fun z => Y _ ⟨fun _ => ⟨rfl, S⟩, fun w => absurd z w⟩) (fun z => Y _ ⟨fun w => absurd w z, fun _ => ⟨rfl, rfl, kb_Jupd R (kb_JV z)⟩⟩)
theorem i_vc_suppose {k : Nat} {u : SX} {v : SY} (I : i_Rel k u v) (hk : k + 5 ≤ 2560) (v1 : Int32) (v2 : Int32) (v3 : Int32) : wpX_suppose (fun r u' => wpY_suppose (fun r' v' => r' = r ∧ i_Rel (k + 5) u' v') v v1 v2 v3) u v1 v2 v3 := by
  obtain ⟨va, ma⟩ := u
  obtain ⟨rfl, R⟩ := I
  have S : i_Rel (k + 5) (va, ma) (va, ma) := ⟨rfl, R⟩
  unfold wpX_suppose
  dsimp only
  rcases kb_reg v1 with hb | ⟨a, ha, rfl⟩
  · refine kb_xb hb ?_
    unfold wpY_suppose
    dsimp only
    exact kb_yb hb ⟨rfl, S⟩
  refine kb_xr ha ?_
  rcases kb_reg v3 with hb | ⟨b, hb, rfl⟩
  · refine kb_xb hb ?_
    unfold wpY_suppose
    dsimp only
    exact kb_yr ha (kb_yb hb ⟨rfl, S⟩)
  refine kb_xr hb ?_
  rcases kb_reg v2 with hc | ⟨how, hh, rfl⟩
  · refine kb_xcb hc ?_
    unfold wpY_suppose
    dsimp only
    refine kb_yr ha (kb_yr hb ?_)
    rcases hc with h0 | ⟨h0, _, h5⟩
    · exact br_t h0 ⟨rfl, S⟩
    · exact br_f h0 (br_t (Int32.not_le.mp h5) ⟨rfl, S⟩)
  refine kb_xc hh ?_
  by_cases e : nI a = nI b
  · refine br_t e ?_
    unfold wpY_suppose
    dsimp only
    exact kb_yr ha (kb_yr hb (br_f (kb_r6 how hh).1 (br_f (kb_r6 how hh).2.2.2 (br_t e ⟨rfl, S⟩))))
  · refine br_f e (kb_no ha (fun xs hxs => kb_no hb (fun ys hys => kb_xt hh (kb_twp hxs hys hh (fun l hl => kb_twp hys hxs (kb_T6 how hh) (fun t ht => ?_))))))
    have ht' : ∀ i, i < 64 → (kb_m t i ↔ ∃ n m, n < 64 ∧ m < 64 ∧ kb_PR (kb_st (va a) (ma a)) (kb_st (va b) (ma b)) how n m i) := fun i hi => (ht i hi).trans (kb_turn hh)
    have z := kb_lr hl ht'
    have Y : ∀ post : Int32 → SY → Prop, ((l = 0 → post (-2) (va, ma)) ∧ (¬ l = 0 → post 0 (upd (upd va a (kb_V l)) b (kb_V t), upd (upd ma a (kb_M l)) b (kb_M t)))) → wpY_suppose post (va, ma) (nI a) (nI how) (nI b) := by
      intro post h
      unfold wpY_suppose
      dsimp only
      refine kb_yr ha (kb_yr hb (br_f (kb_r6 how hh).1 (br_f (kb_r6 how hh).2.2.2 (br_f e (kb_ysp hh ha hb (fun l2 t2 hl2 ht2 => ?_))))))
      rw [kb_mext (fun i hi => (hl2 i hi).trans (hl i hi).symm), kb_mext (fun i hi => (ht2 i hi).trans (ht' i hi).symm)]
      exact h
    refine br_c (fun w => Y _ ⟨fun _ => ⟨rfl, S⟩, fun g => absurd w g⟩) (fun w => br_f (fun g => w (z.mpr g)) (kb_kx ha (fun g => absurd g w) (fun _ => kb_kx hb (fun g => absurd (z.mpr g) w) (fun g => Y _ ⟨fun f => absurd f w, fun _ => ⟨rfl, rfl, ?_⟩⟩))))
    exact kb_Jupd (kb_Jupd R (kb_JV w)) (kb_JV g)
theorem i_vc_compare {k : Nat} {u : SX} {v : SY} (I : i_Rel k u v) (hk : k + 5 ≤ 2560) (v1 : Int32) (v2 : Int32) (v3 : Int32) : wpX_compare (fun r => wpY_compare (fun r' => r' = r ∧ i_Rel (k + 5) u v) v v1 v2 v3) u v1 v2 v3 := by
  obtain ⟨va, ma⟩ := u
  obtain ⟨rfl, R⟩ := I
  have S : i_Rel (k + 5) (va, ma) (va, ma) := ⟨rfl, R⟩
  unfold wpX_compare
  dsimp only
  rcases kb_reg v1 with hb | ⟨a, ha, rfl⟩
  · refine kb_xb hb ?_
    unfold wpY_compare
    dsimp only
    exact kb_yb hb ⟨rfl, S⟩
  refine kb_xr ha ?_
  rcases kb_reg v3 with hb | ⟨b, hb, rfl⟩
  · refine kb_xb hb ?_
    unfold wpY_compare
    dsimp only
    exact kb_yr ha (kb_yb hb ⟨rfl, S⟩)
  refine kb_xr hb ?_
  rcases kb_reg v2 with hc | ⟨how, hh, rfl⟩
  · refine kb_xcb hc ?_
    unfold wpY_compare
    dsimp only
    refine kb_yr ha (kb_yr hb ?_)
    rcases hc with h0 | ⟨h0, _, h5⟩
    · exact br_t h0 ⟨rfl, S⟩
    · exact br_f h0 (br_f h5 ⟨rfl, S⟩)
  refine kb_xc hh (kb_no ha (fun xs hxs => kb_no hb (fun ys hys => kb_xq46 hxs hys hh ?_)))
  have Y : ∀ post : Int32 → Prop, kb_A post (kb_st (va a) (ma a)) (kb_st (va b) (ma b)) how → wpY_compare post (va, ma) (nI a) (nI how) (nI b) := by
    intro post h
    unfold wpY_compare
    dsimp only
    exact kb_yr ha (kb_yr hb (br_f (kb_r6 how hh).1 (br_t (kb_r6 how hh).2.2.1 (kb_yq34 hh ha hb h))))
  exact ⟨fun p => Y _ ⟨fun _ => ⟨rfl, S⟩, fun q => absurd q p, fun q => absurd q p⟩, fun p q => Y _ ⟨fun g => absurd p g, fun _ _ => ⟨rfl, S⟩, fun _ g => absurd g q⟩, fun p q => Y _ ⟨fun g => absurd p g, fun _ g => absurd q g, fun _ _ => ⟨rfl, S⟩⟩⟩
theorem i_vc_value {k : Nat} {u : SX} {v : SY} (I : i_Rel k u v) (hk : k + 5 ≤ 2560) (v1 : Int32) : wpX_value (fun r => wpY_value (fun r' => r' = r ∧ i_Rel (k + 5) u v) v v1) u v1 := by
  obtain ⟨va, ma⟩ := u
  obtain ⟨rfl, R⟩ := I
  have S : i_Rel (k + 5) (va, ma) (va, ma) := ⟨rfl, R⟩
  unfold wpX_value
  dsimp only
  rcases kb_reg v1 with hb | ⟨r, hr, rfl⟩
  · refine kb_xb hb ?_
    unfold wpY_value
    dsimp only
    exact kb_yb hb ⟨rfl, S⟩
  · refine kb_xr hr ⟨kb_in hr, ?_⟩
    unfold wpY_value
    dsimp only
    exact kb_yr hr ⟨kb_in hr, rfl, S⟩
theorem i_vc_mask {k : Nat} {u : SX} {v : SY} (I : i_Rel k u v) (hk : k + 5 ≤ 2560) (v1 : Int32) : wpX_mask (fun r => wpY_mask (fun r' => r' = r ∧ i_Rel (k + 5) u v) v v1) u v1 := by
  obtain ⟨va, ma⟩ := u
  obtain ⟨rfl, R⟩ := I
  have S : i_Rel (k + 5) (va, ma) (va, ma) := ⟨rfl, R⟩
  unfold wpX_mask
  dsimp only
  rcases kb_reg v1 with hb | ⟨r, hr, rfl⟩
  · refine kb_xb hb ?_
    unfold wpY_mask
    dsimp only
    exact kb_yb hb ⟨rfl, S⟩
  · refine kb_xr hr ⟨kb_in hr, ?_⟩
    unfold wpY_mask
    dsimp only
    exact kb_yr hr ⟨kb_in hr, rfl, S⟩
theorem i_vc_least {k : Nat} {u : SX} {v : SY} (I : i_Rel k u v) (hk : k + 5 ≤ 2560) (v1 : Int32) (v2 : Int32) : wpX_least (fun r => wpY_least (fun r' => r' = r ∧ i_Rel (k + 5) u v) v v1 v2) u v1 v2 := by
  obtain ⟨va, ma⟩ := u
  obtain ⟨rfl, R⟩ := I
  have S : i_Rel (k + 5) (va, ma) (va, ma) := ⟨rfl, R⟩
  unfold wpX_least
  dsimp only
  rcases kb_reg v1 with hb | ⟨r, hr, rfl⟩
  · refine kb_xb hb ?_
    unfold wpY_least
    dsimp only
    exact kb_yb hb ⟨rfl, S⟩
  · refine kb_xr hr (kb_nw hr (fun s hs => ?_))
    obtain ⟨q, L⟩ := kb_Lex s
    refine ⟨q + 1, kb_xl L ?_ (q + 1) 0 (Nat.zero_le _) (by omega)⟩
    unfold wpY_least
    dsimp only
    exact kb_yr hr ⟨q + 1, kb_yl hr hs L ⟨rfl, S⟩ (q + 1) 0 (Nat.zero_le _) (by omega)⟩
end
section
theorem i_vc_count {k : Nat} {u : SX} {v : SY} (I : i_Rel k u v) (hk : k + 5 ≤ 2560) (v1 : Int32) (v2 : Int32) (v3 : Int32) : wpX_count (fun r => wpY_count (fun r' => r' = r ∧ i_Rel (k + 5) u v) v v1 v2 v3) u v1 v2 v3 := by
  obtain ⟨va, ma⟩ := u
  obtain ⟨rfl, R⟩ := I
  have S : i_Rel (k + 5) (va, ma) (va, ma) := ⟨rfl, R⟩
  unfold wpX_count
  dsimp only
  rcases kb_reg v1 with hb | ⟨r, hr, rfl⟩
  · refine kb_xb hb ?_
    unfold wpY_count
    dsimp only
    exact kb_yb hb ⟨rfl, S⟩
  · refine kb_xr hr (kb_nw hr (fun s hs => kb_xn ?_))
    unfold wpY_count
    dsimp only
    exact kb_yr hr (kb_ynt hr hs ⟨rfl, S⟩)
end
