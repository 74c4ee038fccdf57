/-! the bits of an int -/
def kb_b (x : Int32) (i : Nat) : Bool := x.toBitVec.getLsbD i
theorem kb_ext {x y : Int32} (h : ∀ i, i < 32 → kb_b x i = kb_b y i) : x = y := Int32.toBitVec_inj.mp (BitVec.eq_of_getLsbD_eq (fun i hi => h i hi))
theorem kb_or (x y : Int32) (i : Nat) : kb_b (x ||| y) i = (kb_b x i || kb_b y i) := by unfold kb_b; rw [Int32.toBitVec_or, BitVec.getLsbD_or]
theorem kb_and (x y : Int32) (i : Nat) : kb_b (x &&& y) i = (kb_b x i && kb_b y i) := by unfold kb_b; rw [Int32.toBitVec_and, BitVec.getLsbD_and]
theorem kb_xor (x y : Int32) (i : Nat) : kb_b (x ^^^ y) i = (kb_b x i ^^ kb_b y i) := by unfold kb_b; rw [Int32.toBitVec_xor, BitVec.getLsbD_xor]
theorem kb_m1 : ∀ i, i < 32 → kb_b (-1) i = true := by decide +kernel
theorem kb_b0 (i : Nat) : kb_b 0 i = false := BitVec.getLsbD_zero
/-! the steps of the two folds: all = f & ~d, any = f | d -/
theorem kb_i1 (f d n : Int32) : (f &&& (d ^^^ (-1))) &&& n = f &&& ((d ||| (n ^^^ f)) ^^^ (-1)) := by
  apply kb_ext
  intro i hi
  simp only [kb_and, kb_or, kb_xor, kb_m1 i hi]
  cases kb_b f i <;> cases kb_b d i <;> cases kb_b n i <;> rfl
theorem kb_i2 (f d n : Int32) : (f ||| d) ||| n = f ||| (d ||| (n ^^^ f)) := by
  apply kb_ext
  intro i hi
  simp only [kb_or, kb_xor]
  cases kb_b f i <;> cases kb_b d i <;> cases kb_b n i <;> rfl
theorem kb_i3 (f d : Int32) : (f ||| d) &&& ((f &&& (d ^^^ (-1))) ^^^ (-1)) = d := by
  apply kb_ext
  intro i hi
  simp only [kb_and, kb_or, kb_xor, kb_m1 i hi]
  cases kb_b f i <;> cases kb_b d i <;> rfl
theorem kb_i4 (f d : Int32) : (f &&& (d ^^^ (-1))) &&& (d ^^^ (-1)) = f &&& (d ^^^ (-1)) := by
  apply kb_ext
  intro i hi
  simp only [kb_and, kb_xor, kb_m1 i hi]
  cases kb_b f i <;> cases kb_b d i <;> rfl
theorem kb_i5 (n : Int32) : n &&& ((0 ||| (n ^^^ n)) ^^^ (-1)) = n := by
  apply kb_ext
  intro i hi
  simp only [kb_and, kb_or, kb_xor, kb_b0, kb_m1 i hi]
  cases kb_b n i <;> rfl
theorem kb_i6 (n : Int32) : n ||| (0 ||| (n ^^^ n)) = 0 ||| n := by
  apply kb_ext
  intro i hi
  simp only [kb_or, kb_xor, kb_b0]
  cases kb_b n i <;> rfl
/-! what set stores -/
theorem kb_i7 (v m : Int32) : (v &&& (m ^^^ (-1))) &&& 63 = (v &&& 63) &&& ((m &&& 63) ^^^ (-1)) := by
  apply kb_ext
  intro i hi
  simp only [kb_and, kb_xor, kb_m1 i hi]
  cases kb_b v i <;> cases kb_b m i <;> cases kb_b 63 i <;> rfl
theorem kb_nand (a b : Nat) : nI a &&& nI b = nI (a &&& b) := by
  apply Int32.toBitVec_inj.1
  show BitVec.ofNat 32 a &&& BitVec.ofNat 32 b = BitVec.ofNat 32 (a &&& b)
  apply BitVec.eq_of_getLsbD_eq
  intro i hi
  simp [hi]
theorem kb_nof (x : Int32) : x = nI x.toBitVec.toNat := by
  apply Int32.toBitVec_inj.1
  show x.toBitVec = BitVec.ofNat 32 x.toBitVec.toNat
  simp
theorem kb_63 (x : Int32) : ∃ j, j < 64 ∧ x &&& 63 = nI j := by
  refine ⟨x.toBitVec.toNat &&& 63, Nat.lt_of_le_of_lt Nat.and_le_right (by decide), ?_⟩
  rw [← kb_nand, ← kb_nof]
  rfl
theorem kb_63n : ∀ n, n < 64 → (63 : Int32) &&& nI n = nI n := by decide +kernel
/-! a long as a set of numbers below 64 -/
def kb_m (s : Int64) (i : Nat) : Prop := s.toBitVec.getLsbD i = true
theorem kb_mext {s t : Int64} (h : ∀ i, i < 64 → (kb_m s i ↔ kb_m t i)) : s = t := by
  apply Int64.toBitVec_inj.mp
  apply BitVec.eq_of_getLsbD_eq
  intro i hi
  exact Bool.eq_iff_iff.mpr (h i hi)
theorem kb_m0 (i : Nat) : ¬ kb_m 0 i := by
  show ¬ (0#64).getLsbD i = true
  rw [BitVec.getLsbD_zero]
  exact Bool.false_ne_true
theorem kb_mor (s t : Int64) (i : Nat) : kb_m (s ||| t) i ↔ kb_m s i ∨ kb_m t i := by
  unfold kb_m
  rw [Int64.toBitVec_or, BitVec.getLsbD_or, Bool.or_eq_true]
theorem kb_mand (s t : Int64) (i : Nat) : kb_m (s &&& t) i ↔ kb_m s i ∧ kb_m t i := by
  unfold kb_m
  rw [Int64.toBitVec_and, BitVec.getLsbD_and, Bool.and_eq_true]
theorem kb_tp : ∀ k, k < 64 → ((1 : Int64) <<< ((nI k).toInt64 &&& 63)).toBitVec = BitVec.twoPow 64 k := by decide +kernel
theorem kb_mone {k i : Nat} (hk : k < 64) : kb_m ((1 : Int64) <<< ((nI k).toInt64 &&& 63)) i ↔ i = k := by
  unfold kb_m
  rw [kb_tp k hk, BitVec.getLsbD_twoPow, Bool.and_eq_true, decide_eq_true_iff, decide_eq_true_iff]
  exact ⟨fun h => h.2.symm, fun h => ⟨hk, h.symm⟩⟩
theorem kb_cu : ∀ k, k < 64 → ((nI k).toInt64.toUInt64 &&& Int64.toUInt64 63).toNat % 64 = k := by decide +kernel
theorem kb_cs : ∀ k, k < 64 → (((nI k).toInt64 &&& 63).toBitVec.smod 64).toNat = k := by decide +kernel
theorem kb_one (w : BitVec 64) : w &&& 1#64 = 0#64 ↔ w.getLsbD 0 = false := by
  constructor
  · intro h
    have t := congrArg (fun x => x.getLsbD 0) h
    simpa using t
  · intro h
    apply BitVec.eq_of_getLsbD_eq
    intro i hi
    cases i with
    | zero => rw [BitVec.getLsbD_and, h, Bool.false_and, BitVec.getLsbD_zero]
    | succ i => simp
theorem kb_one1 (w : BitVec 64) : w &&& 1#64 = 1#64 ↔ w.getLsbD 0 = true := by
  constructor
  · intro h
    have t := congrArg (fun x => x.getLsbD 0) h
    simpa using t
  · intro h
    apply BitVec.eq_of_getLsbD_eq
    intro i hi
    cases i with
    | zero => simp [h]
    | succ i => simp
/-- X's test -/
theorem kb_bx {w : Int64} {k : Nat} (hk : k < 64) : ((w.toUInt64 >>> ((nI k).toInt64.toUInt64 &&& Int64.toUInt64 63)).toInt64 &&& 1) = 0 ↔ ¬ kb_m w k := by
  have e : (w.toUInt64 >>> ((nI k).toInt64.toUInt64 &&& Int64.toUInt64 63)).toInt64.toBitVec = w.toBitVec >>> k := by
    apply BitVec.eq_of_toNat_eq
    show (w.toUInt64 >>> ((nI k).toInt64.toUInt64 &&& Int64.toUInt64 63)).toNat = _
    rw [UInt64.toNat_shiftRight, kb_cu k hk, BitVec.toNat_ushiftRight]
    rfl
  rw [← Int64.toBitVec_inj, Int64.toBitVec_and, e]
  show w.toBitVec >>> k &&& 1#64 = 0#64 ↔ _
  rw [kb_one, BitVec.getLsbD_ushiftRight, Nat.add_zero]
  unfold kb_m
  cases w.toBitVec.getLsbD k <;> simp
/-- Y's test -/
theorem kb_by {w : Int64} {k : Nat} (hk : k < 64) : ((w >>> ((nI k).toInt64 &&& 63)) &&& 1) = 1 ↔ kb_m w k := by
  have e : (w >>> ((nI k).toInt64 &&& 63)).toBitVec = w.toBitVec.sshiftRight k := by
    rw [Int64.toBitVec_shiftRight]
    show w.toBitVec.sshiftRight (((nI k).toInt64 &&& 63).toBitVec.smod 64).toNat = _
    rw [kb_cs k hk]
  rw [← Int64.toBitVec_inj, Int64.toBitVec_and, e]
  show w.toBitVec.sshiftRight k &&& 1#64 = 1#64 ↔ _
  rw [kb_one1, BitVec.getLsbD_sshiftRight]
  unfold kb_m
  simp [hk]
theorem kb_ne {s : Int64} : ¬ s = 0 ↔ ∃ n, n < 64 ∧ kb_m s n := by
  constructor
  · intro h
    apply Classical.byContradiction
    intro z
    apply h
    apply kb_mext
    intro i hi
    exact ⟨fun a => absurd ⟨i, hi, a⟩ z, fun a => absurd a (kb_m0 i)⟩
  · rintro ⟨n, _, a⟩ rfl
    exact kb_m0 n a
