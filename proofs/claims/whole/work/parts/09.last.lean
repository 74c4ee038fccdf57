theorem i_vc_count {k : Nat} {u : SX} {v : SY} (I : i_Rel k u v) (hk : k + 5 ≤ 2560) (v1 : Int32) (v2 : Int32) (v3 : Int32) : wpX_count (fun r => wpY_count (fun r' => r' = r ∧ i_Rel (k + 5) u v) v v1 v2 v3) u v1 v2 v3 := by
  obtain ⟨va, ma⟩ := u
  obtain ⟨rfl, R⟩ := I
  have S : i_Rel (k + 5) (va, ma) (va, ma) := ⟨rfl, R⟩
  unfold wpX_count
  dsimp only
  rcases kb_reg v1 with hb | ⟨r, hr, rfl⟩
  · refine kb_xb hb ?_
    unfold wpY_count
    dsimp only
    exact kb_yb hb ⟨rfl, S⟩
  · refine kb_xr hr (kb_nw hr (fun s hs => kb_xn ?_))
    unfold wpY_count
    dsimp only
    exact kb_yr hr (kb_ynt hr hs ⟨rfl, S⟩)
