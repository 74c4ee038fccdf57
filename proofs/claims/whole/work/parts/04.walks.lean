/-! the comparisons -/
def kb_H (how n m : Nat) : Prop := match how with
  | 0 => n = m
  | 1 => n < m
  | 2 => n ≤ m
  | 3 => ¬ n = m
  | 4 => m ≤ n
  | _ => m < n
theorem kb_6 {P : Nat → Prop} (h0 : P 0) (h1 : P 1) (h2 : P 2) (h3 : P 3) (h4 : P 4) (h5 : P 5) {i : Nat} (hi : i < 6) : P i :=
  match i, hi with
  | 0, _ => h0
  | 1, _ => h1
  | 2, _ => h2
  | 3, _ => h3
  | 4, _ => h4
  | 5, _ => h5
theorem kb_eq {n m : Nat} (hn : n < 64) (hm : m < 64) : nI n = nI m ↔ n = m := nI_eq (by omega) (by omega)
theorem kb_le {n m : Nat} (hn : n < 64) (hm : m < 64) : nI n ≤ nI m ↔ n ≤ m := nI_leI (by omega) (by omega)
theorem kb_lt {n m : Nat} (hn : n < 64) (hm : m < 64) : nI n < nI m ↔ n < m := nI_ltI (by omega) (by omega)
/-- a branch that says yes, or no, by an equivalent of a fact -/
theorem kb_p {c d A B : Prop} (e : c ↔ d) (t : d → A) (f : ¬ d → B) : (c → A) ∧ (¬ c → B) := ⟨fun h => t (e.mp h), fun h => f (fun z => h (e.mpr z))⟩
theorem kb_n {c d A B : Prop} (e : c ↔ ¬ d) (t : d → B) (f : ¬ d → A) : (c → A) ∧ (¬ c → B) := ⟨fun h => f (e.mp h), fun h => t (Classical.byContradiction (fun z => h (e.mpr z)))⟩
theorem kb_xh {post : Int32 → Prop} {how n m : Nat} (hh : how < 6) (hn : n < 64) (hm : m < 64) (t : kb_H how n m → post 1) (f : ¬ kb_H how n m → post 0) : wpX_holds post (nI n) (nI how) (nI m) := by
  revert t f
  refine kb_6 (P := fun how => (kb_H how n m → post 1) → (¬ kb_H how n m → post 0) → wpX_holds post (nI n) (nI how) (nI m)) ?_ ?_ ?_ ?_ ?_ ?_ hh
  · intro t f
    unfold wpX_holds
    exact br_f (by decide +kernel) (br_f (by decide +kernel) (br_t (by decide +kernel) (kb_p (d := n = m) (kb_eq hn hm) t f)))
  · intro t f
    unfold wpX_holds
    exact br_f (by decide +kernel) (br_f (by decide +kernel) (br_f (by decide +kernel) (br_t (by decide +kernel) (kb_n (d := n < m) ((kb_le hm hn).trans (by omega)) t f))))
  · intro t f
    unfold wpX_holds
    exact br_f (by decide +kernel) (br_f (by decide +kernel) (br_f (by decide +kernel) (br_f (by decide +kernel) (br_t (by decide +kernel) (kb_n (d := n ≤ m) ((kb_lt hm hn).trans (by omega)) t f)))))
  · intro t f
    unfold wpX_holds
    exact br_f (by decide +kernel) (br_f (by decide +kernel) (br_f (by decide +kernel) (br_f (by decide +kernel) (br_f (by decide +kernel) (br_t (by decide +kernel) (kb_n (d := ¬ n = m) ((kb_eq hn hm).trans (by omega)) t f))))))
  · intro t f
    unfold wpX_holds
    exact br_f (by decide +kernel) (br_f (by decide +kernel) (br_f (by decide +kernel) (br_f (by decide +kernel) (br_f (by decide +kernel) (br_f (by decide +kernel) (br_t (by decide +kernel) (kb_n (d := m ≤ n) ((kb_lt hn hm).trans (by omega)) t f)))))))
  · intro t f
    unfold wpX_holds
    exact br_f (by decide +kernel) (br_t (by decide +kernel) (kb_n (d := m < n) ((kb_le hn hm).trans (by omega)) t f))
theorem kb_yh {post : Int32 → Prop} {how n m : Nat} (hh : how < 6) (hn : n < 64) (hm : m < 64) (t : kb_H how n m → post 1) (f : ¬ kb_H how n m → post 0) : wpY_holds post (nI n) (nI how) (nI m) := by
  revert t f
  refine kb_6 (P := fun how => (kb_H how n m → post 1) → (¬ kb_H how n m → post 0) → wpY_holds post (nI n) (nI how) (nI m)) ?_ ?_ ?_ ?_ ?_ ?_ hh
  · intro t f
    unfold wpY_holds
    exact br_t (by decide +kernel) (kb_p (d := n = m) (kb_eq hn hm) t f)
  · intro t f
    unfold wpY_holds
    exact br_f (by decide +kernel) (br_t (by decide +kernel) (kb_n (d := n < m) ((kb_le hm hn).trans (by omega)) t f))
  · intro t f
    unfold wpY_holds
    exact br_f (by decide +kernel) (br_f (by decide +kernel) (br_t (by decide +kernel) (kb_n (d := n ≤ m) ((kb_lt hm hn).trans (by omega)) t f)))
  · intro t f
    unfold wpY_holds
    exact br_f (by decide +kernel) (br_f (by decide +kernel) (br_f (by decide +kernel) (br_t (by decide +kernel) (kb_n (d := ¬ n = m) ((kb_eq hn hm).trans (by omega)) t f))))
  · intro t f
    unfold wpY_holds
    exact br_f (by decide +kernel) (br_f (by decide +kernel) (br_f (by decide +kernel) (br_f (by decide +kernel) (br_t (by decide +kernel) (kb_n (d := m ≤ n) ((kb_lt hn hm).trans (by omega)) t f)))))
  · intro t f
    unfold wpY_holds
    exact br_f (by decide +kernel) (br_f (by decide +kernel) (br_f (by decide +kernel) (br_f (by decide +kernel) (br_f (by decide +kernel) (kb_n (d := m < n) ((kb_le hn hm).trans (by omega)) t f)))))
/-- the comparison turned around -/
def kb_T (how : Nat) : Nat := match how with
  | 1 => 5
  | 2 => 4
  | 4 => 2
  | 5 => 1
  | n => n
theorem kb_T6 : ∀ how, how < 6 → kb_T how < 6 := by decide
theorem kb_TH {how : Nat} (hh : how < 6) (n m : Nat) : kb_H (kb_T how) m n ↔ kb_H how n m :=
  kb_6 (P := fun how => kb_H (kb_T how) m n ↔ kb_H how n m) ⟨Eq.symm, Eq.symm⟩ Iff.rfl Iff.rfl ⟨fun h z => h z.symm, fun h z => h z.symm⟩ Iff.rfl Iff.rfl hh
theorem kb_xt {post : Int32 → Prop} {how : Nat} (hh : how < 6) (h : post (nI (kb_T how))) : wpX_turnedAround post (nI how) := by
  revert h
  refine kb_6 (P := fun how => post (nI (kb_T how)) → wpX_turnedAround post (nI how)) ?_ ?_ ?_ ?_ ?_ ?_ hh
  · intro h
    unfold wpX_turnedAround
    exact br_t (by decide +kernel) h
  · intro h
    unfold wpX_turnedAround
    exact br_f (by decide +kernel) (br_f (by decide +kernel) (br_t (by decide +kernel) h))
  · intro h
    unfold wpX_turnedAround
    exact br_f (by decide +kernel) (br_f (by decide +kernel) (br_f (by decide +kernel) (br_t (by decide +kernel) h)))
  · intro h
    unfold wpX_turnedAround
    exact br_f (by decide +kernel) (br_f (by decide +kernel) (br_f (by decide +kernel) (br_f (by decide +kernel) (br_t (by decide +kernel) h))))
  · intro h
    unfold wpX_turnedAround
    exact br_f (by decide +kernel) (br_f (by decide +kernel) (br_f (by decide +kernel) (br_f (by decide +kernel) (br_f (by decide +kernel) (br_t (by decide +kernel) h)))))
  · intro h
    unfold wpX_turnedAround
    exact br_f (by decide +kernel) (br_f (by decide +kernel) (br_f (by decide +kernel) (br_f (by decide +kernel) (br_f (by decide +kernel) (br_f (by decide +kernel) (br_t (by decide +kernel) h))))))
/-! the kinds of combine -/
def kb_R (kd : Nat) (x y : Int32) : Int32 := match kd with
  | 0 => (x + y) &&& 63
  | 1 => (x - y) &&& 63
  | 2 => x &&& y
  | 3 => x ||| y
  | _ => x ^^^ y
theorem kb_5 {P : Nat → Prop} (h0 : P 0) (h1 : P 1) (h2 : P 2) (h3 : P 3) (h4 : P 4) {i : Nat} (hi : i < 5) : P i :=
  match i, hi with
  | 0, _ => h0
  | 1, _ => h1
  | 2, _ => h2
  | 3, _ => h3
  | 4, _ => h4
theorem kb_xres {post : Int32 → Prop} {kd : Nat} {x y : Int32} (hk : kd < 5) (h : post (kb_R kd x y)) : wpX_resultOf post (nI kd) x y := by
  revert h
  refine kb_5 (P := fun kd => post (kb_R kd x y) → wpX_resultOf post (nI kd) x y) ?_ ?_ ?_ ?_ ?_ hk
  · intro h
    unfold wpX_resultOf
    exact br_f (by decide +kernel) (br_f (by decide +kernel) (br_t (by decide +kernel) h))
  · intro h
    unfold wpX_resultOf
    exact br_f (by decide +kernel) (br_f (by decide +kernel) (br_f (by decide +kernel) (br_t (by decide +kernel) h)))
  · intro h
    unfold wpX_resultOf
    exact br_f (by decide +kernel) (br_f (by decide +kernel) (br_f (by decide +kernel) (br_f (by decide +kernel) (br_t (by decide +kernel) h))))
  · intro h
    unfold wpX_resultOf
    exact br_f (by decide +kernel) (br_f (by decide +kernel) (br_f (by decide +kernel) (br_f (by decide +kernel) (br_f (by decide +kernel) (br_t (by decide +kernel) h)))))
  · intro h
    unfold wpX_resultOf
    exact br_f (by decide +kernel) (br_t (by decide +kernel) h)
/-- what a pair of kind kd gives -/
def kb_P (kd : Nat) (B : Nat → Prop) (n m i : Nat) : Prop := match kd with
  | 5 => i = n ∨ i = m
  | 6 => B n ∧ i = n
  | kd => kb_m ((1 : Int64) <<< ((kb_R kd (nI n) (nI m)).toInt64 &&& 63)) i
theorem kb_P5 {kd : Nat} (hk : kd < 5) (B : Nat → Prop) (n m i : Nat) : kb_P kd B n m i ↔ kb_m ((1 : Int64) <<< ((kb_R kd (nI n) (nI m)).toInt64 &&& 63)) i :=
  kb_5 (P := fun kd => kb_P kd B n m i ↔ kb_m ((1 : Int64) <<< ((kb_R kd (nI n) (nI m)).toInt64 &&& 63)) i) Iff.rfl Iff.rfl Iff.rfl Iff.rfl Iff.rfl hk
theorem kb_yres5 {post : Int64 → Prop} {kd : Nat} {x y b : Int32} {va ma : Nat → Int32} (hk : kd < 5) (h : post ((1 : Int64) <<< ((kb_R kd x y).toInt64 &&& 63))) : wpY_results post (va, ma) (nI kd) x y b := by
  revert h
  refine kb_5 (P := fun kd => post ((1 : Int64) <<< ((kb_R kd x y).toInt64 &&& 63)) → wpY_results post (va, ma) (nI kd) x y b) ?_ ?_ ?_ ?_ ?_ hk
  · intro h
    unfold wpY_results
    exact br_t (by decide +kernel) h
  · intro h
    unfold wpY_results
    exact br_f (by decide +kernel) (br_t (by decide +kernel) h)
  · intro h
    unfold wpY_results
    exact br_f (by decide +kernel) (br_f (by decide +kernel) (br_t (by decide +kernel) h))
  · intro h
    unfold wpY_results
    exact br_f (by decide +kernel) (br_f (by decide +kernel) (br_f (by decide +kernel) (br_t (by decide +kernel) h)))
  · intro h
    unfold wpY_results
    exact br_f (by decide +kernel) (br_f (by decide +kernel) (br_f (by decide +kernel) (br_f (by decide +kernel) (br_t (by decide +kernel) h))))
theorem kb_yres {post : Int64 → Prop} {kd b n m : Nat} {va ma : Nat → Int32} (hk : kd < 7) (hb : b < 6) (hn : n < 64) (hm : m < 64) (H : ∀ e, (∀ i, i < 64 → (kb_m e i ↔ kb_P kd (kb_st (va b) (ma b)) n m i)) → post e) : wpY_results post (va, ma) (nI kd) (nI n) (nI m) (nI b) := by
  by_cases h5 : kd < 5
  · exact kb_yres5 h5 (H _ (fun i _ => (kb_P5 h5 _ n m i).symm))
  · have h : kd = 5 ∨ kd = 6 := by omega
    rcases h with rfl | rfl
    · unfold wpY_results
      dsimp only
      refine br_f (by decide +kernel) (br_f (by decide +kernel) (br_f (by decide +kernel) (br_f (by decide +kernel) (br_f (by decide +kernel) (br_t (by decide +kernel) (H _ (fun i _ => ?_)))))))
      rw [kb_mor, kb_mone hn, kb_mone hm]
      exact Iff.rfl
    · unfold wpY_results
      dsimp only
      refine br_f (by decide +kernel) (br_f (by decide +kernel) (br_f (by decide +kernel) (br_f (by decide +kernel) (br_f (by decide +kernel) (br_f (by decide +kernel) (kb_ys hb (fun t => H _ (fun i _ => ?_)) (fun f => H _ (fun i _ => ?_))))))))
      · rw [kb_mone hn]
        exact ⟨fun z => ⟨t, z⟩, fun z => z.2⟩
      · exact ⟨fun z => absurd z (kb_m0 i), fun z => absurd z.1 f⟩
