/-! suppose: X's numbers that have a partner -/
def kb_Q (A B : Nat → Prop) (how n m : Nat) : Prop := (A n ∧ B m) ∧ kb_H how n m
def kb_PL (A B : Nat → Prop) (how n m i : Nat) : Prop := kb_Q A B how n m ∧ i = n
def kb_PR (A B : Nat → Prop) (how n m i : Nat) : Prop := kb_Q A B how n m ∧ i = m
theorem kb_tp16 {post : Int64 → Prop} {J : Int64 → Int32 → Prop} {A B : Nat → Prop} {how x : Nat} {xs ys s : Int64} (hxs : ∀ i, i < 64 → (kb_m xs i ↔ A i)) (hys : ∀ i, i < 64 → (kb_m ys i ↔ B i)) (hh : how < 6) (hx : x < 64) (h0 : kb_SJ (kb_PL A B how) x 0 s) (H : ∀ s', kb_SJ (kb_PL A B how) x 64 s' → J s' (nI (x + 1))) : ∃ n, wX_thoseWithPartner_16 post J xs (nI how) ys (nI x) n s 0 := by
  refine loop_0 (fun n i s => wX_thoseWithPartner_16 post J xs (nI how) ys (nI x) n s (nI i)) (fun y s => kb_SJ (kb_PL A B how) x y s) 64 s h0 ?_ ?_
  · intro n s hs
    exact br_t kb_64 (nm_r (nI_1 x) (H s hs))
  · intro n i s hi hs K
    exact br_f (kb_n64 hi) (kb_xi hxs hx (fun a => kb_xi hys hi (fun b => kb_xh hh hx hi (fun c => br_f kb_10 (nm_e (nm_r (nI_1 i) (K _ (kb_SJy hs (fun j _ => (kb_mone hx).trans ⟨fun z => ⟨⟨⟨a, b⟩, c⟩, z⟩, fun z => z.2⟩)))))) (fun c => br_t rfl (nm_r (nI_1 i) (K _ (kb_SJn hs (fun j _ z => c z.1.2)))))) (fun b => nm_r (nI_1 i) (K _ (kb_SJn hs (fun j _ z => b z.1.1.2))))) (fun a => nm_r (nI_1 i) (K _ (kb_SJn hs (fun j _ z => a z.1.1.1)))))
theorem kb_twp {post : Int64 → Prop} {A B : Nat → Prop} {how : Nat} {xs ys : Int64} (hxs : ∀ i, i < 64 → (kb_m xs i ↔ A i)) (hys : ∀ i, i < 64 → (kb_m ys i ↔ B i)) (hh : how < 6) (H : ∀ s, (∀ i, i < 64 → (kb_m s i ↔ ∃ n m, n < 64 ∧ m < 64 ∧ kb_PL A B how n m i)) → post s) : wpX_thoseWithPartner post xs (nI how) ys := by
  unfold wpX_thoseWithPartner
  refine loop_0 (fun n i s => wX_thoseWithPartner_6 post xs (nI how) ys n s (nI i)) (fun x s => kb_SJ (kb_PL A B how) x 0 s) 64 0 (kb_SJ0 _) ?_ ?_
  · intro n s hs
    exact br_t kb_64 (H s (kb_SJe hs))
  · intro n i s hi hs K
    exact br_f (kb_n64 hi) (kb_tp16 hxs hys hh hi hs (fun s' h' => K s' (kb_SJr h')))
/-- the numbers of the second register that have a partner, by the comparison turned around -/
theorem kb_turn {A B : Nat → Prop} {how i : Nat} (hh : how < 6) : (∃ n m, n < 64 ∧ m < 64 ∧ kb_PL B A (kb_T how) n m i) ↔ ∃ n m, n < 64 ∧ m < 64 ∧ kb_PR A B how n m i := by
  constructor
  · rintro ⟨n, m, hn, hm, ⟨⟨b, a⟩, c⟩, e⟩
    exact ⟨m, n, hm, hn, ⟨⟨a, b⟩, (kb_TH hh m n).mp c⟩, e⟩
  · rintro ⟨n, m, hn, hm, ⟨⟨a, b⟩, c⟩, e⟩
    exact ⟨m, n, hm, hn, ⟨⟨b, a⟩, (kb_TH hh n m).mpr c⟩, e⟩
theorem kb_lr {A B : Nat → Prop} {how : Nat} {l t : Int64} (hl : ∀ i, i < 64 → (kb_m l i ↔ ∃ n m, n < 64 ∧ m < 64 ∧ kb_PL A B how n m i)) (ht : ∀ i, i < 64 → (kb_m t i ↔ ∃ n m, n < 64 ∧ m < 64 ∧ kb_PR A B how n m i)) : l = 0 ↔ t = 0 := by
  have e : ¬ l = 0 ↔ ¬ t = 0 := by
    rw [kb_ne, kb_ne]
    constructor
    · rintro ⟨i, hi, z⟩
      obtain ⟨n, m, hn, hm, q, _⟩ := (hl i hi).mp z
      exact ⟨m, hm, (ht m hm).mpr ⟨n, m, hn, hm, q, rfl⟩⟩
    · rintro ⟨i, hi, z⟩
      obtain ⟨n, m, hn, hm, q, _⟩ := (ht i hi).mp z
      exact ⟨n, hn, (hl n hn).mpr ⟨n, m, hn, hm, q, rfl⟩⟩
  constructor
  · intro z
    exact Classical.byContradiction (fun q => e.mpr q z)
  · intro z
    exact Classical.byContradiction (fun q => e.mp q z)
/-! Y: suppose -/
theorem kb_ys49 {post : Int32 → SY → Prop} {J : Int64 → Int64 → Int32 → Prop} {how a b x : Nat} {l t : Int64} {va ma : Nat → Int32} (hh : how < 6) (ha : a < 6) (hb : b < 6) (hx : x < 64) (h0 : kb_SJ (kb_PL (kb_st (va a) (ma a)) (kb_st (va b) (ma b)) how) x 0 l ∧ kb_SJ (kb_PR (kb_st (va a) (ma a)) (kb_st (va b) (ma b)) how) x 0 t) (H : ∀ l' t', kb_SJ (kb_PL (kb_st (va a) (ma a)) (kb_st (va b) (ma b)) how) x 64 l' → kb_SJ (kb_PR (kb_st (va a) (ma a)) (kb_st (va b) (ma b)) how) x 64 t' → J l' t' (nI (x + 1))) : ∃ n, wY_suppose_49 post J (nI a) (nI how) (nI b) (nI x) va ma n l t 0 := by
  refine loop_0 (fun n i (s : Int64 × Int64) => wY_suppose_49 post J (nI a) (nI how) (nI b) (nI x) va ma n s.1 s.2 (nI i)) (fun y s => kb_SJ (kb_PL (kb_st (va a) (ma a)) (kb_st (va b) (ma b)) how) x y s.1 ∧ kb_SJ (kb_PR (kb_st (va a) (ma a)) (kb_st (va b) (ma b)) how) x y s.2) 64 (l, t) h0 ?_ ?_
  · intro n s hs
    exact br_t kb_64 (nm_r (nI_1 x) (H s.1 s.2 hs.1 hs.2))
  · intro n i s hi hs K
    have nx : ¬ kb_Q (kb_st (va a) (ma a)) (kb_st (va b) (ma b)) how x i → wY_suppose_49 post J (nI a) (nI how) (nI b) (nI x) va ma n s.1 s.2 (nI (i + 1)) := fun q => K s ⟨kb_SJn hs.1 (fun j _ z => q z.1), kb_SJn hs.2 (fun j _ z => q z.1)⟩
    exact br_f (kb_n64 hi) (kb_ys ha (fun p => kb_ys hb (fun q => kb_yh hh hx hi (fun c => br_f kb_10 (nm_e (nm_e (nm_r (nI_1 i) (K (_, _) ⟨kb_SJy hs.1 (fun j _ => (kb_mone hx).trans ⟨fun z => ⟨⟨⟨p, q⟩, c⟩, z⟩, fun z => z.2⟩), kb_SJy hs.2 (fun j _ => (kb_mone hi).trans ⟨fun z => ⟨⟨⟨p, q⟩, c⟩, z⟩, fun z => z.2⟩)⟩))))) (fun c => br_t rfl (nm_r (nI_1 i) (nx (fun z => c z.2))))) (fun q => nm_r (nI_1 i) (nx (fun z => q z.1.2)))) (fun p => nm_r (nI_1 i) (nx (fun z => p z.1.1))))
theorem kb_ysp {post : Int32 → SY → Prop} {how a b : Nat} {va ma : Nat → Int32} (hh : how < 6) (ha : a < 6) (hb : b < 6) (H : ∀ l t, (∀ i, i < 64 → (kb_m l i ↔ ∃ n m, n < 64 ∧ m < 64 ∧ kb_PL (kb_st (va a) (ma a)) (kb_st (va b) (ma b)) how n m i)) → (∀ i, i < 64 → (kb_m t i ↔ ∃ n m, n < 64 ∧ m < 64 ∧ kb_PR (kb_st (va a) (ma a)) (kb_st (va b) (ma b)) how n m i)) → (l = 0 → post (-2) (va, ma)) ∧ (¬ l = 0 → post 0 (upd (upd va a (kb_V l)) b (kb_V t), upd (upd ma a (kb_M l)) b (kb_M t)))) : ∃ n, wY_suppose_39 post (nI a) (nI how) (nI b) va ma n 0 0 0 := by
  refine loop_0 (fun n i (s : Int64 × Int64) => wY_suppose_39 post (nI a) (nI how) (nI b) va ma n s.1 s.2 (nI i)) (fun x s => kb_SJ (kb_PL (kb_st (va a) (ma a)) (kb_st (va b) (ma b)) how) x 0 s.1 ∧ kb_SJ (kb_PR (kb_st (va a) (ma a)) (kb_st (va b) (ma b)) how) x 0 s.2) 64 (0, 0) ⟨kb_SJ0 _, kb_SJ0 _⟩ ?_ ?_
  · intro n s hs
    have hl := kb_SJe hs.1
    have ht := kb_SJe hs.2
    have h := H s.1 s.2 hl ht
    have z := kb_lr hl ht
    exact br_t kb_64 (kb_ky ha (fun e => kb_ky hb (fun _ => h.1 e) (fun f => absurd (z.mp e) f)) (fun e => kb_ky hb (fun f => absurd (z.mpr f) e) (fun _ => h.2 e)))
  · intro n i s hi hs K
    exact br_f (kb_n64 hi) (kb_ys49 hh ha hb hi hs (fun l' t' h1 h2 => K (l', t') ⟨kb_SJr h1, kb_SJr h2⟩))
/-! compare: flags -/
def kb_fl (z : Int32) (p : Prop) : Prop := (z = 0 ∧ ¬ p) ∨ (z = 1 ∧ p)
theorem kb_fl_k {z : Int32} {p q : Prop} (h : kb_fl z p) (e : q ↔ p) : kb_fl z q := h.imp (fun a => ⟨a.1, fun b => a.2 (e.mp b)⟩) (fun a => ⟨a.1, e.mpr a.2⟩)
theorem kb_fl_y {z : Int32} {p q : Prop} (h : kb_fl z p) (c : q) : kb_fl (z ||| 1) q := by
  rcases h with ⟨rfl, _⟩ | ⟨rfl, _⟩
  · exact Or.inr ⟨by decide, c⟩
  · exact Or.inr ⟨by decide, c⟩
theorem kb_fl_n {z : Int32} {p q : Prop} (h : kb_fl z p) (e : q ↔ p) : kb_fl (z ||| 0) q := by
  have k := kb_fl_k h e
  rcases k with ⟨rfl, c⟩ | ⟨rfl, c⟩
  · exact Or.inl ⟨by decide, c⟩
  · exact Or.inr ⟨by decide, c⟩
def kb_gl (z : Int32) (p : Prop) : Prop := (z = 1 ∧ ¬ p) ∨ (z = 0 ∧ p)
theorem kb_gl_k {z : Int32} {p q : Prop} (h : kb_gl z p) (e : q ↔ p) : kb_gl z q := h.imp (fun a => ⟨a.1, fun b => a.2 (e.mp b)⟩) (fun a => ⟨a.1, e.mpr a.2⟩)
theorem kb_fl0 {z : Int32} {p : Prop} (h : kb_fl z p) : z = 0 ↔ ¬ p := by
  rcases h with ⟨rfl, c⟩ | ⟨rfl, c⟩
  · exact ⟨fun _ => c, fun _ => rfl⟩
  · exact ⟨fun z => absurd z kb_10, fun z => absurd c z⟩
theorem kb_gl0 {z : Int32} {p : Prop} (h : kb_gl z p) : z = 0 ↔ p := by
  rcases h with ⟨rfl, c⟩ | ⟨rfl, c⟩
  · exact ⟨fun z => absurd z kb_10, fun z => absurd z c⟩
  · exact ⟨fun _ => c, fun _ => rfl⟩
def kb_NQ (A B : Nat → Prop) (how n m : Nat) : Prop := (A n ∧ B m) ∧ ¬ kb_H how n m
theorem kb_Ey {P : Nat → Nat → Prop} {x y : Nat} (p : P x y) : kb_E P x (y + 1) := (kb_Es P x y).mpr (Or.inr p)
theorem kb_En {P : Nat → Nat → Prop} {x y : Nat} (p : ¬ P x y) : kb_E P x (y + 1) ↔ kb_E P x y := (kb_Es P x y).trans ⟨fun z => z.elim id (fun q => absurd q p), Or.inl⟩
theorem kb_xq56 {post : Int32 → Prop} {J : Int32 → Int32 → Int32 → Prop} {A B : Nat → Prop} {how x : Nat} {xs ys : Int64} {p q : Int32} {va ma : Nat → Int32} (hxs : ∀ i, i < 64 → (kb_m xs i ↔ A i)) (hys : ∀ i, i < 64 → (kb_m ys i ↔ B i)) (hh : how < 6) (hx : x < 64) (h0 : kb_fl p (kb_E (kb_Q A B how) x 0) ∧ kb_fl q (kb_E (kb_NQ A B how) x 0)) (H : ∀ p' q', kb_fl p' (kb_E (kb_Q A B how) x 64) → kb_fl q' (kb_E (kb_NQ A B how) x 64) → J p' q' (nI (x + 1))) : ∃ n, wX_compare_56 post J (nI how) xs ys (nI x) va ma n p q 0 := by
  refine loop_0 (fun n i (s : Int32 × Int32) => wX_compare_56 post J (nI how) xs ys (nI x) va ma n s.1 s.2 (nI i)) (fun y s => kb_fl s.1 (kb_E (kb_Q A B how) x y) ∧ kb_fl s.2 (kb_E (kb_NQ A B how) x y)) 64 (p, q) h0 ?_ ?_
  · intro n s hs
    exact br_t kb_64 (nm_r (nI_1 x) (H s.1 s.2 hs.1 hs.2))
  · intro n i s hi hs K
    have nx : ¬ (A x ∧ B i) → wX_compare_56 post J (nI how) xs ys (nI x) va ma n s.1 s.2 (nI (i + 1)) := fun z => K s ⟨kb_fl_k hs.1 (kb_En (fun w => z w.1)), kb_fl_k hs.2 (kb_En (fun w => z w.1))⟩
    exact br_f (kb_n64 hi) (kb_xi hxs hx (fun a => kb_xi hys hi (fun b => kb_xh hh hx hi
      (fun c => nm_e (br_f kb_10 (nm_e (nm_r (nI_1 i) (K (_, _) ⟨kb_fl_y hs.1 (kb_Ey ⟨⟨a, b⟩, c⟩), kb_fl_n hs.2 (kb_En (fun w => w.2 c))⟩)))))
      (fun c => nm_e (br_t rfl (nm_e (nm_r (nI_1 i) (K (_, _) ⟨kb_fl_n hs.1 (kb_En (fun w => c w.2)), kb_fl_y hs.2 (kb_Ey ⟨⟨a, b⟩, c⟩)⟩))))))
      (fun b => nm_r (nI_1 i) (nx (fun z => b z.2)))) (fun a => nm_r (nI_1 i) (nx (fun z => a z.1))))
/-- what compare answers -/
def kb_A (post : Int32 → Prop) (A B : Nat → Prop) (how : Nat) : Prop :=
  (¬ kb_E (kb_NQ A B how) 64 0 → post 1) ∧ (kb_E (kb_NQ A B how) 64 0 → ¬ kb_E (kb_Q A B how) 64 0 → post 0) ∧ (kb_E (kb_NQ A B how) 64 0 → kb_E (kb_Q A B how) 64 0 → post 2)
theorem kb_fl00 {P : Nat → Nat → Prop} : kb_fl 0 (kb_E P 0 0) := Or.inl ⟨rfl, kb_E0 P⟩
theorem kb_gl00 {P : Nat → Nat → Prop} : kb_gl 1 (kb_E P 0 0) := Or.inl ⟨rfl, kb_E0 P⟩
theorem kb_xq46 {post : Int32 → Prop} {A B : Nat → Prop} {how : Nat} {xs ys : Int64} {va ma : Nat → Int32} (hxs : ∀ i, i < 64 → (kb_m xs i ↔ A i)) (hys : ∀ i, i < 64 → (kb_m ys i ↔ B i)) (hh : how < 6) (H : kb_A post A B how) : ∃ n, wX_compare_46 post (nI how) xs ys va ma n 0 0 0 := by
  refine loop_0 (fun n i (s : Int32 × Int32) => wX_compare_46 post (nI how) xs ys va ma n s.1 s.2 (nI i)) (fun x s => kb_fl s.1 (kb_E (kb_Q A B how) x 0) ∧ kb_fl s.2 (kb_E (kb_NQ A B how) x 0)) 64 (0, 0) ⟨kb_fl00, kb_fl00⟩ ?_ ?_
  · intro n s hs
    exact br_t kb_64 (br_c (fun z => H.1 ((kb_fl0 hs.2).mp z)) (fun z => br_c (fun w => H.2.1 (Classical.byContradiction (fun g => z ((kb_fl0 hs.2).mpr g))) ((kb_fl0 hs.1).mp w)) (fun w => H.2.2 (Classical.byContradiction (fun g => z ((kb_fl0 hs.2).mpr g))) (Classical.byContradiction (fun g => w ((kb_fl0 hs.1).mpr g))))))
  · intro n i s hi hs K
    exact br_f (kb_n64 hi) (kb_xq56 hxs hys hh hi hs (fun p' q' h1 h2 => K (p', q') ⟨kb_fl_k h1 (kb_Er _ i).symm, kb_fl_k h2 (kb_Er _ i).symm⟩))
theorem kb_yq44 {post : Int32 → Prop} {J : Int32 → Int32 → Int32 → Prop} {how a b x : Nat} {p q : Int32} {va ma : Nat → Int32} (hh : how < 6) (ha : a < 6) (hb : b < 6) (hx : x < 64) (h0 : kb_fl p (kb_E (kb_Q (kb_st (va a) (ma a)) (kb_st (va b) (ma b)) how) x 0) ∧ kb_gl q (kb_E (kb_NQ (kb_st (va a) (ma a)) (kb_st (va b) (ma b)) how) x 0)) (H : ∀ p' q', kb_fl p' (kb_E (kb_Q (kb_st (va a) (ma a)) (kb_st (va b) (ma b)) how) x 64) → kb_gl q' (kb_E (kb_NQ (kb_st (va a) (ma a)) (kb_st (va b) (ma b)) how) x 64) → J p' q' (nI (x + 1))) : ∃ n, wY_compare_44 post J (nI a) (nI how) (nI b) (nI x) va ma n p q 0 := by
  refine loop_0 (fun n i (s : Int32 × Int32) => wY_compare_44 post J (nI a) (nI how) (nI b) (nI x) va ma n s.1 s.2 (nI i)) (fun y s => kb_fl s.1 (kb_E (kb_Q (kb_st (va a) (ma a)) (kb_st (va b) (ma b)) how) x y) ∧ kb_gl s.2 (kb_E (kb_NQ (kb_st (va a) (ma a)) (kb_st (va b) (ma b)) how) x y)) 64 (p, q) h0 ?_ ?_
  · intro n s hs
    exact br_t kb_64 (nm_r (nI_1 x) (H s.1 s.2 hs.1 hs.2))
  · intro n i s hi hs K
    have nx : ¬ (kb_st (va a) (ma a) x ∧ kb_st (va b) (ma b) i) → wY_compare_44 post J (nI a) (nI how) (nI b) (nI x) va ma n s.1 s.2 (nI (i + 1)) := fun z => K s ⟨kb_fl_k hs.1 (kb_En (fun w => z w.1)), kb_gl_k hs.2 (kb_En (fun w => z w.1))⟩
    exact br_f (kb_n64 hi) (kb_ys ha (fun a' => kb_ys hb (fun b' => kb_yh hh hx hi
      (fun c => br_f kb_10 (nm_r (nI_1 i) (K (1, s.2) ⟨Or.inr ⟨rfl, kb_Ey ⟨⟨a', b'⟩, c⟩⟩, kb_gl_k hs.2 (kb_En (fun w => w.2 c))⟩)))
      (fun c => br_t rfl (nm_r (nI_1 i) (K (s.1, 0) ⟨kb_fl_k hs.1 (kb_En (fun w => c w.2)), Or.inr ⟨rfl, kb_Ey ⟨⟨a', b'⟩, c⟩⟩⟩))))
      (fun b' => nm_r (nI_1 i) (nx (fun z => b' z.2)))) (fun a' => nm_r (nI_1 i) (nx (fun z => a' z.1))))
theorem kb_yq34 {post : Int32 → Prop} {how a b : Nat} {va ma : Nat → Int32} (hh : how < 6) (ha : a < 6) (hb : b < 6) (H : kb_A post (kb_st (va a) (ma a)) (kb_st (va b) (ma b)) how) : ∃ n, wY_compare_34 post (nI a) (nI how) (nI b) va ma n 0 1 0 := by
  refine loop_0 (fun n i (s : Int32 × Int32) => wY_compare_34 post (nI a) (nI how) (nI b) va ma n s.1 s.2 (nI i)) (fun x s => kb_fl s.1 (kb_E (kb_Q (kb_st (va a) (ma a)) (kb_st (va b) (ma b)) how) x 0) ∧ kb_gl s.2 (kb_E (kb_NQ (kb_st (va a) (ma a)) (kb_st (va b) (ma b)) how) x 0)) 64 (0, 1) ⟨kb_fl00, kb_gl00⟩ ?_ ?_
  · intro n s hs
    exact br_t kb_64 (br_c (fun z => br_c (fun w => H.2.1 ((kb_gl0 hs.2).mp z) ((kb_fl0 hs.1).mp w)) (fun w => H.2.2 ((kb_gl0 hs.2).mp z) (Classical.byContradiction (fun g => w ((kb_fl0 hs.1).mpr g))))) (fun z => H.1 (fun g => z ((kb_gl0 hs.2).mpr g))))
  · intro n i s hi hs K
    exact br_f (kb_n64 hi) (kb_yq44 hh ha hb hi hs (fun p' q' h1 h2 => K (p', q') ⟨kb_fl_k h1 (kb_Er _ i).symm, kb_gl_k h2 (kb_Er _ i).symm⟩))
/-! shift -/
def kb_sh (by' : Int32) (n : Nat) : Int32 := if by' < 0 then nI n >>> ((-by') &&& 31) else (nI n <<< (by' &&& 31)) &&& 63
def kb_PS (A : Nat → Prop) (by' : Int32) (n i : Nat) : Prop := A n ∧ kb_m ((1 : Int64) <<< ((kb_sh by' n).toInt64 &&& 63)) i
theorem kb_xs {post : Int32 → SX → Prop} {A : Nat → Prop} {d : Nat} {by' : Int32} {xs : Int64} {va ma : Nat → Int32} (hd : d < 6) (hxs : ∀ i, i < 64 → (kb_m xs i ↔ A i)) (H : ∀ s, (∀ i, i < 64 → (kb_m s i ↔ ∃ n, n < 64 ∧ kb_PS A by' n i)) → (s = 0 → post (-2) (va, ma)) ∧ (¬ s = 0 → post 0 (upd va d (kb_V s), upd ma d (kb_M s)))) : ∃ n, wX_shift_41 post (nI d) by' xs va ma n 0 0 := by
  refine loop_0 (fun n i s => wX_shift_41 post (nI d) by' xs va ma n s (nI i)) (fun k s => kb_SI (kb_PS A by') k s) 64 0 (kb_SI0 _) ?_ ?_
  · intro n s hs
    exact br_t kb_64 (kb_kx hd (H s hs).1 (H s hs).2)
  · intro n i s hi hs K
    refine br_f (kb_n64 hi) (kb_xi hxs hi (fun a => br_c (fun z => ?_) (fun z => ?_)) (fun a => nm_r (nI_1 i) (K _ (kb_SIn hs (fun j _ w => a w.1)))))
    · unfold wX_shift_77
      refine nm_e (nm_r (nI_1 i) (K _ (kb_SIy hs (fun j _ => ?_))))
      unfold kb_PS kb_sh
      rw [if_pos z]
      exact ⟨fun w => ⟨a, w⟩, fun w => w.2⟩
    · unfold wX_shift_77
      refine nm_e (nm_r (nI_1 i) (K _ (kb_SIy hs (fun j _ => ?_))))
      unfold kb_PS kb_sh
      rw [if_neg z]
      exact ⟨fun w => ⟨a, w⟩, fun w => w.2⟩
theorem kb_pm : ∀ i, i < 6 → nI (2 ^ i) * 2 = nI (2 ^ (i + 1)) := by decide +kernel
theorem kb_p6 : ∀ i, i < 6 → ¬ (6 : Int32) ≤ nI i := by decide +kernel
theorem kb_pw {post : Int32 → Prop} {j : Nat} (hj : j < 7) (H : post (nI (2 ^ j))) : wpY_power post (nI j) := by
  unfold wpY_power
  refine loop_0 (fun n i p => wY_power_4 post (nI j) n p (nI i)) (fun k p => p = nI (2 ^ k)) j 1 rfl ?_ ?_
  · intro n p hp
    subst hp
    exact br_t (Int32.le_refl _) H
  · intro n i p hi hp K
    subst hp
    exact br_f (nI_ge hi (by omega)) (br_f (kb_p6 i (by omega)) (nm_r (kb_pm i (by omega)) (nm_r (nI_1 i) (K _ rfl))))
theorem kb_pw0 {post : Int32 → Prop} {p : Int32} (h : p ≤ 0) (H : post 1) : wpY_power post p := by
  unfold wpY_power
  exact ⟨1, br_t h H⟩
theorem kb_by6 {p : Int32} (h1 : ¬ p < -6) (h2 : p ≤ 6) : ∃ j, j < 7 ∧ (p = nI j ∨ (p = -nI j ∧ 0 < j)) := by
  have e : p = Int32.ofInt p.toInt := (Int32.ofInt_toInt p).symm
  have a : -6 ≤ p.toInt := by
    rw [Int32.lt_iff_toInt_lt] at h1
    have : (-6 : Int32).toInt = -6 := by decide
    omega
  have b : p.toInt ≤ 6 := by
    rw [Int32.le_iff_toInt_le] at h2
    have : (6 : Int32).toInt = 6 := by decide
    omega
  have c : p.toInt = -6 ∨ p.toInt = -5 ∨ p.toInt = -4 ∨ p.toInt = -3 ∨ p.toInt = -2 ∨ p.toInt = -1 ∨ p.toInt = 0 ∨ p.toInt = 1 ∨ p.toInt = 2 ∨ p.toInt = 3 ∨ p.toInt = 4 ∨ p.toInt = 5 ∨ p.toInt = 6 := by omega
  rcases c with c | c | c | c | c | c | c | c | c | c | c | c | c
  · rw [c] at e; exact ⟨6, by omega, Or.inr ⟨e.trans (by decide +kernel), by omega⟩⟩
  · rw [c] at e; exact ⟨5, by omega, Or.inr ⟨e.trans (by decide +kernel), by omega⟩⟩
  · rw [c] at e; exact ⟨4, by omega, Or.inr ⟨e.trans (by decide +kernel), by omega⟩⟩
  · rw [c] at e; exact ⟨3, by omega, Or.inr ⟨e.trans (by decide +kernel), by omega⟩⟩
  · rw [c] at e; exact ⟨2, by omega, Or.inr ⟨e.trans (by decide +kernel), by omega⟩⟩
  · rw [c] at e; exact ⟨1, by omega, Or.inr ⟨e.trans (by decide +kernel), by omega⟩⟩
  · rw [c] at e; exact ⟨0, by omega, Or.inl (e.trans (by decide +kernel))⟩
  · rw [c] at e; exact ⟨1, by omega, Or.inl (e.trans (by decide +kernel))⟩
  · rw [c] at e; exact ⟨2, by omega, Or.inl (e.trans (by decide +kernel))⟩
  · rw [c] at e; exact ⟨3, by omega, Or.inl (e.trans (by decide +kernel))⟩
  · rw [c] at e; exact ⟨4, by omega, Or.inl (e.trans (by decide +kernel))⟩
  · rw [c] at e; exact ⟨5, by omega, Or.inl (e.trans (by decide +kernel))⟩
  · rw [c] at e; exact ⟨6, by omega, Or.inl (e.trans (by decide +kernel))⟩
theorem kb_sy1 : ∀ j, j < 7 → ∀ x, x < 64 → (nI x * nI (2 ^ j)) - (nI x * nI (2 ^ j)) / 64 * 64 = (nI x <<< (nI j &&& 31)) &&& 63 := by decide +kernel
theorem kb_sy2 : ∀ j, j < 7 → ∀ x, x < 64 → nI x / nI (2 ^ j) = nI x >>> ((-(-nI j)) &&& 31) := by decide +kernel
theorem kb_sy3 : ∀ j, j < 7 → ¬ nI (2 ^ j) ≤ (0 : Int32) ∧ ¬ nI (2 ^ j) = (0 : Int32) ∧ -nI j ≤ (0 : Int32) ∧ ¬ nI j < (0 : Int32) ∧ -(-nI j) = nI j ∧ (0 < j → -nI j < (0 : Int32)) := by decide +kernel
theorem kb_ysh83 {post : Int32 → SY → Prop} {J : Int64 → Int32 → Prop} {x1 by' x4 x5 z : Int32} {a i : Nat} {s : Int64} {va ma : Nat → Int32} (ha : a < 6) (hi : i < 64) (hz : z = kb_sh by' i) (hs : kb_SI (kb_PS (kb_st (va a) (ma a)) by') i s) (K : ∀ s', kb_SI (kb_PS (kb_st (va a) (ma a)) by') (i + 1) s' → J s' (nI (i + 1))) : wY_shift_83 post J x1 (nI a) by' x4 x5 s (nI i) z va ma := by
  unfold wY_shift_83
  subst hz
  exact kb_ys ha (fun p => nm_e (nm_r (nI_1 i) (K _ (kb_SIy hs (fun j _ => ⟨fun w => ⟨p, w⟩, fun w => w.2⟩))))) (fun p => nm_r (nI_1 i) (K _ (kb_SIn hs (fun j _ w => p w.1))))
theorem kb_ysh {post : Int32 → SY → Prop} {d a : Nat} {by' : Int32} {va ma : Nat → Int32} (hd : d < 6) (ha : a < 6) (h1 : ¬ by' < -6) (h2 : by' ≤ 6) (H : ∀ s, (∀ i, i < 64 → (kb_m s i ↔ ∃ n, n < 64 ∧ kb_PS (kb_st (va a) (ma a)) by' n i)) → (s = 0 → post (-2) (va, ma)) ∧ (¬ s = 0 → post 0 (upd va d (kb_V s), upd ma d (kb_M s)))) : wpY_power (fun r_7 => (wpY_power (fun r_8 => (∃ n47 : Nat, wY_shift_47 post (nI d) (nI a) by' r_7 r_8 va ma n47 0 0)) (-by'))) by' := by
  obtain ⟨j, hj, e⟩ := kb_by6 h1 h2
  have y := kb_sy3 j hj
  rcases e with rfl | ⟨rfl, hp⟩
  · refine kb_pw hj (kb_pw0 y.2.2.1 ?_)
    refine loop_0 (fun n i s => wY_shift_47 post (nI d) (nI a) (nI j) (nI (2 ^ j)) 1 va ma n s (nI i)) (fun k s => kb_SI (kb_PS (kb_st (va a) (ma a)) (nI j)) k s) 64 0 (kb_SI0 _) ?_ ?_
    · intro n s hs
      exact br_t kb_64 (kb_ky hd (H s hs).1 (H s hs).2)
    · intro n i s hi hs K
      exact br_f (kb_n64 hi) (br_f y.2.2.2.1 ⟨by decide, kb_ysh83 ha hi ((kb_sy1 j hj i hi).trans (if_neg y.2.2.2.1).symm) hs K⟩)
  · refine kb_pw0 y.2.2.1 ?_
    rw [y.2.2.2.2.1]
    refine kb_pw hj ?_
    refine loop_0 (fun n i s => wY_shift_47 post (nI d) (nI a) (-nI j) 1 (nI (2 ^ j)) va ma n s (nI i)) (fun k s => kb_SI (kb_PS (kb_st (va a) (ma a)) (-nI j)) k s) 64 0 (kb_SI0 _) ?_ ?_
    · intro n s hs
      exact br_t kb_64 (kb_ky hd (H s hs).1 (H s hs).2)
    · intro n i s hi hs K
      exact br_f (kb_n64 hi) (br_t (y.2.2.2.2.2 hp) (br_f y.1 ⟨y.2.1, kb_ysh83 ha hi ((kb_sy2 j hj i hi).trans (if_pos (y.2.2.2.2.2 hp)).symm) hs K⟩))
