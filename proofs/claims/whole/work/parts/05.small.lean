section DHE
theorem xg_f {post : Int32 → Prop} {v : Int32} (hv : v < -128 ∨ 127 < v) (h : post 0) : wpX_isRelativeTarget post v := by
  rcases hv with hv | hv
  · exact br_t hv h
  · exact br_c (fun _ => h) (fun _ => br_t hv h)
theorem xg_t {post : Int32 → Prop} {v : Int32} (hv : ¬ (v < -128 ∨ 127 < v)) (h : post 1) : wpX_isRelativeTarget post v :=
  br_f (fun z => hv (Or.inl z)) (br_f (fun z => hv (Or.inr z)) h)
theorem yg_f {post : Int32 → Prop} {w : SY} {v : Int32} (hv : v < -128 ∨ 127 < v) (h : post 0) : wpY_isTarget post w v := by
  rcases hv with hv | hv
  · exact br_t hv h
  · exact br_c (fun _ => h) (fun _ => br_t hv h)
theorem yg_t {post : Int32 → Prop} {w : SY} {v : Int32} (hv : ¬ (v < -128 ∨ 127 < v)) (h : post 1) : wpY_isTarget post w v :=
  br_f (fun z => hv (Or.inl z)) (br_f (fun z => hv (Or.inr z)) h)
theorem dh_le63 {a : Nat} (ha : a < 64) : nI a ≤ 63 := nI_le (b := 63) (by omega) (by decide)
theorem dh_n63 {v : Int32} (h : nI 64 ≤ v) : ¬ v ≤ 63 := Int32.not_le.mpr (dh_ge (n := 63) h (by decide))
theorem i_vc0 : wpX_init (fun u => wpY_init (fun v => i_Rel 0 u v)) := by
  unfold wpX_init wpY_init
  exact ⟨0, 0, 0, 0, 0, 0, fun _ => 0, fun _ => 0, fun _ => 0, fun _ => 0, fun _ => 0, fun _ => 0, fun _ => 0, fun _ => 0, rfl, rfl, ⟨⟨by omega, fun a ha => absurd ha (Nat.not_lt_zero a)⟩, fun j hj => absurd hj (Nat.not_lt_zero j), fun _ _ _ => rfl⟩, by decide +kernel, by omega⟩
theorem i_vc_halt {k : Nat} {u : SX} {v : SY} (I : i_Rel k u v) (hk : k + 3 ≤ 1536) : wpX_halt (fun r u' => wpY_halt (fun r' v' => r' = r ∧ i_Rel (k + 3) u' v') v) u := by
  obtain ⟨L, n, d, p, e, x, c, b, R, S, H, C, c', b', rfl, rfl, hI, hn, h4⟩ := I
  obtain ⟨r, u', v', hR, hX, hY⟩ := ap_b (d := d) (p := p) (e := e) (x := x) (R := R) (S := S) (C := C) (k := 0) (s := 0) (t := 0) (s' := 0) (t' := 0) (z := 1) (k + 3) hI hn h4 (Or.inl rfl) (by decide) (by decide) (by decide)
  obtain ⟨_, _, _, _, _, _, _, _, _, _, _, _⟩ := u'
  obtain ⟨_, _, _, _, _, _, _, _, _, _, _⟩ := v'
  unfold wpX_halt
  dsimp only
  refine hX _ ?_
  dsimp only
  unfold wpY_halt
  dsimp only
  refine hY _ ?_
  exact ⟨rfl, hR⟩
theorem i_vc_giveBack {k : Nat} {u : SX} {v : SY} (I : i_Rel k u v) (hk : k + 3 ≤ 1536) : wpX_giveBack (fun r u' => wpY_giveBack (fun r' v' => r' = r ∧ i_Rel (k + 3) u' v') v) u := by
  obtain ⟨L, n, d, p, e, x, c, b, R, S, H, C, c', b', rfl, rfl, hI, hn, h4⟩ := I
  obtain ⟨r, u', v', hR, hX, hY⟩ := ap_b (d := d) (p := p) (e := e) (x := x) (R := R) (S := S) (C := C) (k := 7) (s := 0) (t := 0) (s' := 0) (t' := 0) (z := 1) (k + 3) hI hn h4 (Or.inr (Or.inl rfl)) (by decide) (by decide) (by decide)
  obtain ⟨_, _, _, _, _, _, _, _, _, _, _, _⟩ := u'
  obtain ⟨_, _, _, _, _, _, _, _, _, _, _⟩ := v'
  unfold wpX_giveBack
  dsimp only
  refine hX _ ?_
  dsimp only
  unfold wpY_giveBack
  dsimp only
  refine hY _ ?_
  exact ⟨rfl, hR⟩
theorem i_vc_inc {k : Nat} {u : SX} {v : SY} (I : i_Rel k u v) (hk : k + 3 ≤ 1536) (v1 : Int32) : wpX_inc (fun r u' => wpY_inc (fun r' v' => r' = r ∧ i_Rel (k + 3) u' v') v v1) u v1 := by
  obtain ⟨L, n, d, p, e, x, c, b, R, S, H, C, c', b', rfl, rfl, hI, hn, h4⟩ := I
  have hL := hI.1.1
  have hR : i_Rel (k + 3) (nI L, nI n, d, p, e, x, c, b, R, S, H, C) (nI L, d, p, e, x, c', b', R, H, C, S) := ⟨L, n, d, p, e, x, c, b, R, S, H, C, c', b', rfl, rfl, hI, hn, h4⟩
  rcases pk_ix v1 (n := 4) (by decide) with h | h | ⟨a, ha, rfl⟩
  · unfold wpX_inc
    dsimp only
    unfold wpX_appendWithRegister
    dsimp only
    refine xr_f (Or.inl h) ?_
    refine br_t rfl ?_
    unfold wpY_inc
    dsimp only
    refine yr_f (Or.inl h) ?_
    exact br_t rfl ⟨rfl, hR⟩
  · unfold wpX_inc
    dsimp only
    unfold wpX_appendWithRegister
    dsimp only
    refine xr_f (Or.inr h) ?_
    refine br_t rfl ?_
    unfold wpY_inc
    dsimp only
    refine yr_f (Or.inr h) ?_
    exact br_t rfl ⟨rfl, hR⟩
  · obtain ⟨r, u', v', hR2, hX, hY⟩ := ap_b (d := d) (p := p) (e := e) (x := x) (R := R) (S := S) (C := C) (k := 1) (s := nI a) (t := 0) (s' := nI a) (t' := 0) (z := 2) (k + 3) hI hn h4 (Or.inr (Or.inr (Or.inr (Or.inr (Or.inr (Or.inl ⟨(Or.inl rfl), a, ha, rfl⟩)))))) (dh_and255 (by omega)) (by decide) (by decide)
    obtain ⟨_, _, _, _, _, _, _, _, _, _, _, _⟩ := u'
    obtain ⟨_, _, _, _, _, _, _, _, _, _, _⟩ := v'
    unfold wpX_inc
    dsimp only
    unfold wpX_appendWithRegister
    dsimp only
    refine xr_t ha ?_
    refine br_f dh_10 ?_
    refine hX _ ?_
    dsimp only
    unfold wpY_inc
    dsimp only
    refine yr_t ha ?_
    refine br_f dh_10 ?_
    refine hY _ ?_
    exact ⟨rfl, hR2⟩
theorem i_vc_dec {k : Nat} {u : SX} {v : SY} (I : i_Rel k u v) (hk : k + 3 ≤ 1536) (v1 : Int32) : wpX_dec (fun r u' => wpY_dec (fun r' v' => r' = r ∧ i_Rel (k + 3) u' v') v v1) u v1 := by
  obtain ⟨L, n, d, p, e, x, c, b, R, S, H, C, c', b', rfl, rfl, hI, hn, h4⟩ := I
  have hL := hI.1.1
  have hR : i_Rel (k + 3) (nI L, nI n, d, p, e, x, c, b, R, S, H, C) (nI L, d, p, e, x, c', b', R, H, C, S) := ⟨L, n, d, p, e, x, c, b, R, S, H, C, c', b', rfl, rfl, hI, hn, h4⟩
  rcases pk_ix v1 (n := 4) (by decide) with h | h | ⟨a, ha, rfl⟩
  · unfold wpX_dec
    dsimp only
    unfold wpX_appendWithRegister
    dsimp only
    refine xr_f (Or.inl h) ?_
    refine br_t rfl ?_
    unfold wpY_dec
    dsimp only
    refine yr_f (Or.inl h) ?_
    exact br_t rfl ⟨rfl, hR⟩
  · unfold wpX_dec
    dsimp only
    unfold wpX_appendWithRegister
    dsimp only
    refine xr_f (Or.inr h) ?_
    refine br_t rfl ?_
    unfold wpY_dec
    dsimp only
    refine yr_f (Or.inr h) ?_
    exact br_t rfl ⟨rfl, hR⟩
  · obtain ⟨r, u', v', hR2, hX, hY⟩ := ap_b (d := d) (p := p) (e := e) (x := x) (R := R) (S := S) (C := C) (k := 2) (s := nI a) (t := 0) (s' := nI a) (t' := 0) (z := 2) (k + 3) hI hn h4 (Or.inr (Or.inr (Or.inr (Or.inr (Or.inr (Or.inl ⟨(Or.inr (Or.inl rfl)), a, ha, rfl⟩)))))) (dh_and255 (by omega)) (by decide) (by decide)
    obtain ⟨_, _, _, _, _, _, _, _, _, _, _, _⟩ := u'
    obtain ⟨_, _, _, _, _, _, _, _, _, _, _⟩ := v'
    unfold wpX_dec
    dsimp only
    unfold wpX_appendWithRegister
    dsimp only
    refine xr_t ha ?_
    refine br_f dh_10 ?_
    refine hX _ ?_
    dsimp only
    unfold wpY_dec
    dsimp only
    refine yr_t ha ?_
    refine br_f dh_10 ?_
    refine hY _ ?_
    exact ⟨rfl, hR2⟩
theorem i_vc_where {k : Nat} {u : SX} {v : SY} (I : i_Rel k u v) (hk : k + 3 ≤ 1536) (v1 : Int32) : wpX_where (fun r u' => wpY_where (fun r' v' => r' = r ∧ i_Rel (k + 3) u' v') v v1) u v1 := by
  obtain ⟨L, n, d, p, e, x, c, b, R, S, H, C, c', b', rfl, rfl, hI, hn, h4⟩ := I
  have hL := hI.1.1
  have hR : i_Rel (k + 3) (nI L, nI n, d, p, e, x, c, b, R, S, H, C) (nI L, d, p, e, x, c', b', R, H, C, S) := ⟨L, n, d, p, e, x, c, b, R, S, H, C, c', b', rfl, rfl, hI, hn, h4⟩
  rcases pk_ix v1 (n := 4) (by decide) with h | h | ⟨a, ha, rfl⟩
  · unfold wpX_where
    dsimp only
    unfold wpX_appendWithRegister
    dsimp only
    refine xr_f (Or.inl h) ?_
    refine br_t rfl ?_
    unfold wpY_where
    dsimp only
    refine yr_f (Or.inl h) ?_
    exact br_t rfl ⟨rfl, hR⟩
  · unfold wpX_where
    dsimp only
    unfold wpX_appendWithRegister
    dsimp only
    refine xr_f (Or.inr h) ?_
    refine br_t rfl ?_
    unfold wpY_where
    dsimp only
    refine yr_f (Or.inr h) ?_
    exact br_t rfl ⟨rfl, hR⟩
  · obtain ⟨r, u', v', hR2, hX, hY⟩ := ap_b (d := d) (p := p) (e := e) (x := x) (R := R) (S := S) (C := C) (k := 8) (s := nI a) (t := 0) (s' := nI a) (t' := 0) (z := 2) (k + 3) hI hn h4 (Or.inr (Or.inr (Or.inr (Or.inr (Or.inr (Or.inl ⟨(Or.inr (Or.inr rfl)), a, ha, rfl⟩)))))) (dh_and255 (by omega)) (by decide) (by decide)
    obtain ⟨_, _, _, _, _, _, _, _, _, _, _, _⟩ := u'
    obtain ⟨_, _, _, _, _, _, _, _, _, _, _⟩ := v'
    unfold wpX_where
    dsimp only
    unfold wpX_appendWithRegister
    dsimp only
    refine xr_t ha ?_
    refine br_f dh_10 ?_
    refine hX _ ?_
    dsimp only
    unfold wpY_where
    dsimp only
    refine yr_t ha ?_
    refine br_f dh_10 ?_
    refine hY _ ?_
    exact ⟨rfl, hR2⟩
theorem i_vc_move {k : Nat} {u : SX} {v : SY} (I : i_Rel k u v) (hk : k + 3 ≤ 1536) (v1 : Int32) (v2 : Int32) : wpX_move (fun r u' => wpY_move (fun r' v' => r' = r ∧ i_Rel (k + 3) u' v') v v1 v2) u v1 v2 := by
  obtain ⟨L, n, d, p, e, x, c, b, R, S, H, C, c', b', rfl, rfl, hI, hn, h4⟩ := I
  have hL := hI.1.1
  have hR : i_Rel (k + 3) (nI L, nI n, d, p, e, x, c, b, R, S, H, C) (nI L, d, p, e, x, c', b', R, H, C, S) := ⟨L, n, d, p, e, x, c, b, R, S, H, C, c', b', rfl, rfl, hI, hn, h4⟩
  rcases pk_ix v1 (n := 4) (by decide) with h | h | ⟨a, ha, rfl⟩
  · unfold wpX_move
    dsimp only
    refine xr_f (Or.inl h) ?_
    refine br_t rfl ?_
    unfold wpY_move
    dsimp only
    refine yr_f (Or.inl h) ?_
    exact br_t rfl ⟨rfl, hR⟩
  · unfold wpX_move
    dsimp only
    refine xr_f (Or.inr h) ?_
    refine br_t rfl ?_
    unfold wpY_move
    dsimp only
    refine yr_f (Or.inr h) ?_
    exact br_t rfl ⟨rfl, hR⟩
  · rcases pk_ix v2 (n := 4) (by decide) with h | h | ⟨a2, ha2, rfl⟩
    · unfold wpX_move
      dsimp only
      refine xr_t ha ?_
      refine br_f dh_10 ?_
      refine xr_f (Or.inl h) ?_
      refine br_t rfl ?_
      unfold wpY_move
      dsimp only
      refine yr_t ha ?_
      refine br_f dh_10 ?_
      refine yr_f (Or.inl h) ?_
      exact br_t rfl ⟨rfl, hR⟩
    · unfold wpX_move
      dsimp only
      refine xr_t ha ?_
      refine br_f dh_10 ?_
      refine xr_f (Or.inr h) ?_
      refine br_t rfl ?_
      unfold wpY_move
      dsimp only
      refine yr_t ha ?_
      refine br_f dh_10 ?_
      refine yr_f (Or.inr h) ?_
      exact br_t rfl ⟨rfl, hR⟩
    · have em : nI a + 4 * nI a2 = nI (a + 4 * a2) := by
        rw [show (4 : Int32) * nI a2 = nI (4 * a2) from pk_mul 4 a2, nI_add]
      obtain ⟨r, u', v', hR2, hX, hY⟩ := ap_b (d := d) (p := p) (e := e) (x := x) (R := R) (S := S) (C := C) (k := 3) (s := nI a + 4 * nI a2) (t := 0) (s' := nI a + 4 * nI a2) (t' := 0) (z := 2) (k + 3) hI hn h4 (Or.inr (Or.inr (Or.inr (Or.inr (Or.inr (Or.inr ⟨rfl, a + 4 * a2, by omega, em⟩)))))) (by rw [em]; exact dh_and255 (by omega)) (by decide) (by decide)
      obtain ⟨_, _, _, _, _, _, _, _, _, _, _, _⟩ := u'
      obtain ⟨_, _, _, _, _, _, _, _, _, _, _⟩ := v'
      unfold wpX_move
      dsimp only
      refine xr_t ha ?_
      refine br_f dh_10 ?_
      refine xr_t ha2 ?_
      refine br_f dh_10 ?_
      refine hX _ ?_
      dsimp only
      unfold wpY_move
      dsimp only
      refine yr_t ha ?_
      refine br_f dh_10 ?_
      refine yr_t ha2 ?_
      refine br_f dh_10 ?_
      refine hY _ ?_
      exact ⟨rfl, hR2⟩
theorem i_vc_jump {k : Nat} {u : SX} {v : SY} (I : i_Rel k u v) (hk : k + 3 ≤ 1536) (v1 : Int32) : wpX_jump (fun r u' => wpY_jump (fun r' v' => r' = r ∧ i_Rel (k + 3) u' v') v v1) u v1 := by
  obtain ⟨L, n, d, p, e, x, c, b, R, S, H, C, c', b', rfl, rfl, hI, hn, h4⟩ := I
  have hL := hI.1.1
  have hR : i_Rel (k + 3) (nI L, nI n, d, p, e, x, c, b, R, S, H, C) (nI L, d, p, e, x, c', b', R, H, C, S) := ⟨L, n, d, p, e, x, c, b, R, S, H, C, c', b', rfl, rfl, hI, hn, h4⟩
  by_cases h : v1 < -128 ∨ 127 < v1
  · unfold wpX_jump
    dsimp only
    unfold wpX_appendWithTarget
    dsimp only
    refine xg_f h ?_
    refine br_t rfl ?_
    unfold wpY_jump
    dsimp only
    refine yg_f h ?_
    exact br_t rfl ⟨rfl, hR⟩
  · obtain ⟨r, u', v', hR2, hX, hY⟩ := ap_b (d := d) (p := p) (e := e) (x := x) (R := R) (S := S) (C := C) (k := 4) (s := v1 &&& 255) (t := 0) (s' := v1) (t' := 0) (z := 2) (k + 3) hI hn h4 (Or.inr (Or.inr (Or.inl rfl))) rfl (by decide) (by decide)
    obtain ⟨_, _, _, _, _, _, _, _, _, _, _, _⟩ := u'
    obtain ⟨_, _, _, _, _, _, _, _, _, _, _⟩ := v'
    unfold wpX_jump
    dsimp only
    unfold wpX_appendWithTarget
    dsimp only
    refine xg_t h ?_
    refine br_f dh_10 ?_
    refine hX _ ?_
    dsimp only
    unfold wpY_jump
    dsimp only
    refine yg_t h ?_
    refine br_f dh_10 ?_
    refine hY _ ?_
    exact ⟨rfl, hR2⟩
theorem i_vc_call {k : Nat} {u : SX} {v : SY} (I : i_Rel k u v) (hk : k + 3 ≤ 1536) (v1 : Int32) : wpX_call (fun r u' => wpY_call (fun r' v' => r' = r ∧ i_Rel (k + 3) u' v') v v1) u v1 := by
  obtain ⟨L, n, d, p, e, x, c, b, R, S, H, C, c', b', rfl, rfl, hI, hn, h4⟩ := I
  have hL := hI.1.1
  have hR : i_Rel (k + 3) (nI L, nI n, d, p, e, x, c, b, R, S, H, C) (nI L, d, p, e, x, c', b', R, H, C, S) := ⟨L, n, d, p, e, x, c, b, R, S, H, C, c', b', rfl, rfl, hI, hn, h4⟩
  by_cases h : v1 < -128 ∨ 127 < v1
  · unfold wpX_call
    dsimp only
    unfold wpX_appendWithTarget
    dsimp only
    refine xg_f h ?_
    refine br_t rfl ?_
    unfold wpY_call
    dsimp only
    refine yg_f h ?_
    exact br_t rfl ⟨rfl, hR⟩
  · obtain ⟨r, u', v', hR2, hX, hY⟩ := ap_b (d := d) (p := p) (e := e) (x := x) (R := R) (S := S) (C := C) (k := 6) (s := v1 &&& 255) (t := 0) (s' := v1) (t' := 0) (z := 2) (k + 3) hI hn h4 (Or.inr (Or.inr (Or.inr (Or.inl rfl)))) rfl (by decide) (by decide)
    obtain ⟨_, _, _, _, _, _, _, _, _, _, _, _⟩ := u'
    obtain ⟨_, _, _, _, _, _, _, _, _, _, _⟩ := v'
    unfold wpX_call
    dsimp only
    unfold wpX_appendWithTarget
    dsimp only
    refine xg_t h ?_
    refine br_f dh_10 ?_
    refine hX _ ?_
    dsimp only
    unfold wpY_call
    dsimp only
    refine yg_t h ?_
    refine br_f dh_10 ?_
    refine hY _ ?_
    exact ⟨rfl, hR2⟩
theorem i_vc_branch {k : Nat} {u : SX} {v : SY} (I : i_Rel k u v) (hk : k + 3 ≤ 1536) (v1 : Int32) (v2 : Int32) : wpX_branch (fun r u' => wpY_branch (fun r' v' => r' = r ∧ i_Rel (k + 3) u' v') v v1 v2) u v1 v2 := by
  obtain ⟨L, n, d, p, e, x, c, b, R, S, H, C, c', b', rfl, rfl, hI, hn, h4⟩ := I
  have hL := hI.1.1
  have hR : i_Rel (k + 3) (nI L, nI n, d, p, e, x, c, b, R, S, H, C) (nI L, d, p, e, x, c', b', R, H, C, S) := ⟨L, n, d, p, e, x, c, b, R, S, H, C, c', b', rfl, rfl, hI, hn, h4⟩
  rcases pk_ix v1 (n := 4) (by decide) with h | h | ⟨a, ha, rfl⟩
  · unfold wpX_branch
    dsimp only
    refine xr_f (Or.inl h) ?_
    refine br_t rfl ?_
    unfold wpY_branch
    dsimp only
    refine yr_f (Or.inl h) ?_
    exact br_t rfl ⟨rfl, hR⟩
  · unfold wpX_branch
    dsimp only
    refine xr_f (Or.inr h) ?_
    refine br_t rfl ?_
    unfold wpY_branch
    dsimp only
    refine yr_f (Or.inr h) ?_
    exact br_t rfl ⟨rfl, hR⟩
  · by_cases h : v2 < -128 ∨ 127 < v2
    · unfold wpX_branch
      dsimp only
      refine xr_t ha ?_
      refine br_f dh_10 ?_
      refine xg_f h ?_
      refine br_t rfl ?_
      unfold wpY_branch
      dsimp only
      refine yr_t ha ?_
      refine br_f dh_10 ?_
      refine yg_f h ?_
      exact br_t rfl ⟨rfl, hR⟩
    · obtain ⟨r, u', v', hR2, hX, hY⟩ := ap_b (d := d) (p := p) (e := e) (x := x) (R := R) (S := S) (C := C) (k := 5) (s := nI a) (t := v2 &&& 255) (s' := nI a) (t' := v2) (z := 3) (k + 3) hI hn h4 (Or.inr (Or.inr (Or.inr (Or.inr (Or.inl ⟨rfl, a, ha, rfl⟩))))) (dh_and255 (by omega)) rfl (by decide)
      obtain ⟨_, _, _, _, _, _, _, _, _, _, _, _⟩ := u'
      obtain ⟨_, _, _, _, _, _, _, _, _, _, _⟩ := v'
      unfold wpX_branch
      dsimp only
      refine xr_t ha ?_
      refine br_f dh_10 ?_
      refine xg_t h ?_
      refine br_f dh_10 ?_
      refine hX _ ?_
      dsimp only
      unfold wpY_branch
      dsimp only
      refine yr_t ha ?_
      refine br_f dh_10 ?_
      refine yg_t h ?_
      refine br_f dh_10 ?_
      refine hY _ ?_
      exact ⟨rfl, hR2⟩
theorem i_vc_length {k : Nat} {u : SX} {v : SY} (I : i_Rel k u v) (hk : k + 3 ≤ 1536) : wpX_length (fun r => wpY_length (fun r' => r' = r ∧ i_Rel (k + 3) u v) v) u := by
  obtain ⟨L, n, d, p, e, x, c, b, R, S, H, C, c', b', rfl, rfl, hI, hn, h4⟩ := I
  have hL := hI.1.1
  have hR : i_Rel (k + 3) (nI L, nI n, d, p, e, x, c, b, R, S, H, C) (nI L, d, p, e, x, c', b', R, H, C, S) := ⟨L, n, d, p, e, x, c, b, R, S, H, C, c', b', rfl, rfl, hI, hn, h4⟩
  unfold wpX_length
  dsimp only
  unfold wpY_length
  exact ⟨rfl, hR⟩
theorem i_vc_ending {k : Nat} {u : SX} {v : SY} (I : i_Rel k u v) (hk : k + 3 ≤ 1536) : wpX_ending (fun r => wpY_ending (fun r' => r' = r ∧ i_Rel (k + 3) u v) v) u := by
  obtain ⟨L, n, d, p, e, x, c, b, R, S, H, C, c', b', rfl, rfl, hI, hn, h4⟩ := I
  have hL := hI.1.1
  have hR : i_Rel (k + 3) (nI L, nI n, d, p, e, x, c, b, R, S, H, C) (nI L, d, p, e, x, c', b', R, H, C, S) := ⟨L, n, d, p, e, x, c, b, R, S, H, C, c', b', rfl, rfl, hI, hn, h4⟩
  unfold wpX_ending
  dsimp only
  unfold wpY_ending
  exact ⟨rfl, hR⟩
theorem i_vc_executed {k : Nat} {u : SX} {v : SY} (I : i_Rel k u v) (hk : k + 3 ≤ 1536) : wpX_executed (fun r => wpY_executed (fun r' => r' = r ∧ i_Rel (k + 3) u v) v) u := by
  obtain ⟨L, n, d, p, e, x, c, b, R, S, H, C, c', b', rfl, rfl, hI, hn, h4⟩ := I
  have hL := hI.1.1
  have hR : i_Rel (k + 3) (nI L, nI n, d, p, e, x, c, b, R, S, H, C) (nI L, d, p, e, x, c', b', R, H, C, S) := ⟨L, n, d, p, e, x, c, b, R, S, H, C, c', b', rfl, rfl, hI, hn, h4⟩
  unfold wpX_executed
  dsimp only
  unfold wpY_executed
  exact ⟨rfl, hR⟩
theorem i_vc_hooks {k : Nat} {u : SX} {v : SY} (I : i_Rel k u v) (hk : k + 3 ≤ 1536) : wpX_hooks (fun r => wpY_hooks (fun r' => r' = r ∧ i_Rel (k + 3) u v) v) u := by
  obtain ⟨L, n, d, p, e, x, c, b, R, S, H, C, c', b', rfl, rfl, hI, hn, h4⟩ := I
  have hL := hI.1.1
  have hR : i_Rel (k + 3) (nI L, nI n, d, p, e, x, c, b, R, S, H, C) (nI L, d, p, e, x, c', b', R, H, C, S) := ⟨L, n, d, p, e, x, c, b, R, S, H, C, c', b', rfl, rfl, hI, hn, h4⟩
  unfold wpX_hooks
  dsimp only
  refine yh_s ?_
  exact ⟨by rw [hn], hR⟩
theorem i_vc_peek {k : Nat} {u : SX} {v : SY} (I : i_Rel k u v) (hk : k + 3 ≤ 1536) (v1 : Int32) : wpX_peek (fun r => wpY_peek (fun r' => r' = r ∧ i_Rel (k + 3) u v) v v1) u v1 := by
  obtain ⟨L, n, d, p, e, x, c, b, R, S, H, C, c', b', rfl, rfl, hI, hn, h4⟩ := I
  have hL := hI.1.1
  have hR : i_Rel (k + 3) (nI L, nI n, d, p, e, x, c, b, R, S, H, C) (nI L, d, p, e, x, c', b', R, H, C, S) := ⟨L, n, d, p, e, x, c, b, R, S, H, C, c', b', rfl, rfl, hI, hn, h4⟩
  rcases pk_ix v1 (n := 64) (by decide) with h | h | ⟨a, ha, rfl⟩
  · unfold wpX_peek
    dsimp only
    refine xa_f (Or.inl h) ?_
    refine br_t rfl ?_
    unfold wpY_peek
    exact br_t h ⟨rfl, hR⟩
  · unfold wpX_peek
    dsimp only
    refine xa_f (Or.inr h) ?_
    refine br_t rfl ?_
    unfold wpY_peek
    exact br_c (fun _ => ⟨rfl, hR⟩) (fun _ => br_f (Int32.not_lt.mpr (Int32.le_trans (nI_le hL (by decide)) h)) ⟨rfl, hR⟩)
  · unfold wpX_peek
    dsimp only
    refine xa_t ha ?_
    refine br_f dh_10 ?_
    unfold wpY_peek
    dsimp only
    rw [nI_clamp (by omega)]
    by_cases hl : a < L
    · exact br_t (nI_lt hl (by omega)) ⟨vp_in_nI ha (by decide), br_f (nI_pos (by omega)) (br_t (nI_lt hl (by omega)) ⟨vp_in_nI ha (by decide), (hI.2.1 a hl).1, hR⟩)⟩
    · exact br_f (nI_nlt (by omega) (by omega)) (br_f (nI_pos (by omega)) (br_f (nI_nlt (by omega) (by omega)) ⟨rfl, hR⟩))
theorem xc_l {post : Int32 → SX → Prop} {w f1 f2 f3 f4 f5 f6 : Int32} {R S H C : Nat → Int32} (h : ∀ c1 b1 : Nat → Int32, (∀ i, i < 64 → b1 i = 0) → post w (0, f2, f3, f4, f5, f6, c1, b1, R, S, H, C)) :
    ∀ (dd j : Nat) (c b : Nat → Int32), j + dd = 64 → (∀ i, i < j → b i = 0) → wX_clear_17 post w f1 f2 f3 f4 f5 f6 (dd + 1) (nI j) c b R S H C := by
  intro dd
  induction dd with
  | zero =>
    intro j c b hj hb
    have e : j = 64 := by omega
    subst e
    unfold wX_clear_17
    exact br_t (nI_le (a := 64) (Nat.le_refl _) (by decide)) (h c b hb)
  | succ dd ih =>
    intro j c b hj hb
    unfold wX_clear_17
    rw [nI_clamp (by omega), dh_b0]
    refine br_f (nI_ge (b := 64) (by omega) (by decide)) ⟨vp_in_nI (by omega) (by decide), nm_e ⟨vp_in_nI (by omega) (by decide), nm_e (nm_r (nI_1 _) (ih (j + 1) _ _ (by omega) ?_))⟩⟩
    intro i hi
    by_cases e : i = j
    · rw [e, pk_us]
    · rw [pk_un e]
      exact hb i (by omega)
theorem i_vc_clear {k : Nat} {u : SX} {v : SY} (I : i_Rel k u v) (hk : k + 3 ≤ 1536) : wpX_clear (fun r u' => wpY_clear (fun r' v' => r' = r ∧ i_Rel (k + 3) u' v') v) u := by
  obtain ⟨L, n, d, p, e, x, c, b, R, S, H, C, c', b', rfl, rfl, hI, hn, h4⟩ := I
  have hL := hI.1.1
  have hR : i_Rel (k + 3) (nI L, nI n, d, p, e, x, c, b, R, S, H, C) (nI L, d, p, e, x, c', b', R, H, C, S) := ⟨L, n, d, p, e, x, c, b, R, S, H, C, c', b', rfl, rfl, hI, hn, h4⟩
  by_cases h0 : 0 < n
  · unfold wpX_clear
    dsimp only
    refine br_f (nI_nle h0 (by omega)) ?_
    unfold wpY_clear
    dsimp only
    refine yh_s ?_
    exact br_f (nI_nle (by omega) (by omega)) ⟨rfl, hR⟩
  · have h00 : n = 0 := by omega
    subst h00
    unfold wpX_clear
    dsimp only
    refine br_t (by decide) ⟨65, ?_⟩
    refine xc_l ?_ 64 0 c b rfl (fun i hi => absurd hi (Nat.not_lt_zero i))
    intro c1 b1 hb1
    unfold wpY_clear
    dsimp only
    refine yh_s ?_
    rw [← hn]
    exact br_t (by decide) ⟨rfl, 0, 0, d, p, e, x, c1, b1, R, S, H, C, c', b', rfl, rfl, ⟨⟨by omega, fun a ha => absurd ha (Nat.not_lt_zero a)⟩, fun j hj => absurd hj (Nat.not_lt_zero j), fun j _ hj => hb1 j hj⟩, hn, h4⟩
theorem i_vc_setRegister {k : Nat} {u : SX} {v : SY} (I : i_Rel k u v) (hk : k + 3 ≤ 1536) (v1 : Int32) (v2 : Int32) : wpX_setRegister (fun r u' => wpY_setRegister (fun r' v' => r' = r ∧ i_Rel (k + 3) u' v') v v1 v2) u v1 v2 := by
  obtain ⟨L, n, d, p, e, x, c, b, R, S, H, C, c', b', rfl, rfl, hI, hn, h4⟩ := I
  have hL := hI.1.1
  have hR : i_Rel (k + 3) (nI L, nI n, d, p, e, x, c, b, R, S, H, C) (nI L, d, p, e, x, c', b', R, H, C, S) := ⟨L, n, d, p, e, x, c, b, R, S, H, C, c', b', rfl, rfl, hI, hn, h4⟩
  rcases pk_ix v1 (n := 4) (by decide) with h | h | ⟨a, ha, rfl⟩
  · unfold wpX_setRegister
    dsimp only
    refine xr_f (Or.inl h) ?_
    refine br_t rfl ?_
    unfold wpY_setRegister
    dsimp only
    refine yr_f (Or.inl h) ?_
    exact br_t rfl ⟨rfl, hR⟩
  · unfold wpX_setRegister
    dsimp only
    refine xr_f (Or.inr h) ?_
    refine br_t rfl ?_
    unfold wpY_setRegister
    dsimp only
    refine yr_f (Or.inr h) ?_
    exact br_t rfl ⟨rfl, hR⟩
  · unfold wpX_setRegister
    dsimp only
    refine xr_t ha ?_
    refine br_f dh_10 ⟨vp_in_nI ha (by decide), nm_e ?_⟩
    unfold wpY_setRegister
    dsimp only
    refine yr_t ha ?_
    exact br_f dh_10 ⟨vp_in_nI ha (by decide), nm_e ⟨rfl, L, n, d, p, e, x, c, b, _, S, H, C, c', b', rfl, rfl, hI, hn, h4⟩⟩
theorem i_vc_register {k : Nat} {u : SX} {v : SY} (I : i_Rel k u v) (hk : k + 3 ≤ 1536) (v1 : Int32) : wpX_register (fun r => wpY_register (fun r' => r' = r ∧ i_Rel (k + 3) u v) v v1) u v1 := by
  obtain ⟨L, n, d, p, e, x, c, b, R, S, H, C, c', b', rfl, rfl, hI, hn, h4⟩ := I
  have hL := hI.1.1
  have hR : i_Rel (k + 3) (nI L, nI n, d, p, e, x, c, b, R, S, H, C) (nI L, d, p, e, x, c', b', R, H, C, S) := ⟨L, n, d, p, e, x, c, b, R, S, H, C, c', b', rfl, rfl, hI, hn, h4⟩
  rcases pk_ix v1 (n := 4) (by decide) with h | h | ⟨a, ha, rfl⟩
  · unfold wpX_register
    dsimp only
    refine xr_f (Or.inl h) ?_
    refine br_t rfl ?_
    unfold wpY_register
    dsimp only
    refine yr_f (Or.inl h) ?_
    exact br_t rfl ⟨rfl, hR⟩
  · unfold wpX_register
    dsimp only
    refine xr_f (Or.inr h) ?_
    refine br_t rfl ?_
    unfold wpY_register
    dsimp only
    refine yr_f (Or.inr h) ?_
    exact br_t rfl ⟨rfl, hR⟩
  · unfold wpX_register
    dsimp only
    refine xr_t ha ?_
    refine br_f dh_10 ⟨vp_in_nI ha (by decide), ?_⟩
    unfold wpY_register
    dsimp only
    refine yr_t ha ?_
    exact br_f dh_10 ⟨vp_in_nI ha (by decide), rfl, hR⟩
theorem i_vc_calls {k : Nat} {u : SX} {v : SY} (I : i_Rel k u v) (hk : k + 3 ≤ 1536) (v1 : Int32) : wpX_calls (fun r => wpY_calls (fun r' => r' = r ∧ i_Rel (k + 3) u v) v v1) u v1 := by
  obtain ⟨L, n, d, p, e, x, c, b, R, S, H, C, c', b', rfl, rfl, hI, hn, h4⟩ := I
  have hL := hI.1.1
  have hR : i_Rel (k + 3) (nI L, nI n, d, p, e, x, c, b, R, S, H, C) (nI L, d, p, e, x, c', b', R, H, C, S) := ⟨L, n, d, p, e, x, c, b, R, S, H, C, c', b', rfl, rfl, hI, hn, h4⟩
  rcases pk_ix v1 (n := 64) (by decide) with h | h | ⟨a, ha, rfl⟩
  · unfold wpX_calls
    dsimp only
    refine xa_f (Or.inl h) ?_
    refine br_t rfl ?_
    unfold wpY_calls
    dsimp only
    exact br_t h ⟨rfl, hR⟩
  · unfold wpX_calls
    dsimp only
    refine xa_f (Or.inr h) ?_
    refine br_t rfl ?_
    unfold wpY_calls
    dsimp only
    exact br_c (fun _ => ⟨rfl, hR⟩) (fun _ => br_f (dh_n63 h) ⟨rfl, hR⟩)
  · have a0 : ¬ nI a < 0 := nI_pos (by omega)
    have a63 : nI a ≤ 63 := dh_le63 ha
    have ai : vp_in (nI a) 64 := vp_in_nI ha (by decide)
    have ac : (nI a).toNatClampNeg = a := nI_clamp (by omega)
    unfold wpX_calls
    dsimp only
    refine xa_t ha ?_
    refine br_f dh_10 ⟨ai, ?_⟩
    unfold wpY_calls
    dsimp only
    rw [ac]
    by_cases hh : H a = 0
    · exact br_t hh (br_f a0 (br_t a63 ⟨ai, br_t hh ⟨rfl, hR⟩⟩))
    · exact br_f hh ⟨ai, br_f a0 (br_t a63 ⟨ai, br_f hh ⟨ai, rfl, hR⟩⟩)⟩
theorem i_vc_unhook {k : Nat} {u : SX} {v : SY} (I : i_Rel k u v) (hk : k + 3 ≤ 1536) (v1 : Int32) : wpX_unhook (fun r u' => wpY_unhook (fun r' v' => r' = r ∧ i_Rel (k + 3) u' v') v v1) u v1 := by
  obtain ⟨L, n, d, p, e, x, c, b, R, S, H, C, c', b', rfl, rfl, hI, hn, h4⟩ := I
  have hL := hI.1.1
  have hR : i_Rel (k + 3) (nI L, nI n, d, p, e, x, c, b, R, S, H, C) (nI L, d, p, e, x, c', b', R, H, C, S) := ⟨L, n, d, p, e, x, c, b, R, S, H, C, c', b', rfl, rfl, hI, hn, h4⟩
  rcases pk_ix v1 (n := 64) (by decide) with h | h | ⟨a, ha, rfl⟩
  · unfold wpX_unhook
    dsimp only
    refine xa_f (Or.inl h) ?_
    refine br_t rfl ?_
    unfold wpY_unhook
    dsimp only
    exact br_t h ⟨rfl, hR⟩
  · unfold wpX_unhook
    dsimp only
    refine xa_f (Or.inr h) ?_
    refine br_t rfl ?_
    unfold wpY_unhook
    dsimp only
    exact br_c (fun _ => ⟨rfl, hR⟩) (fun _ => br_f (dh_n63 h) ⟨rfl, hR⟩)
  · have a0 : ¬ nI a < 0 := nI_pos (by omega)
    have a63 : nI a ≤ 63 := dh_le63 ha
    have ai : vp_in (nI a) 64 := vp_in_nI ha (by decide)
    have ac : (nI a).toNatClampNeg = a := nI_clamp (by omega)
    unfold wpX_unhook
    dsimp only
    refine xa_t ha ?_
    refine br_f dh_10 ⟨ai, ?_⟩
    unfold wpY_unhook
    dsimp only
    rw [ac]
    by_cases hh : H a = 0
    · exact br_t hh (br_f a0 (br_t a63 ⟨ai, br_t hh ⟨rfl, hR⟩⟩))
    · have hc := dh_cnt_off hh ha
      refine br_f hh ⟨ai, nm_e (nm_r (dh_s1 (by omega)) ⟨ai, br_f a0 (br_t a63 ⟨ai, br_f hh ⟨ai, nm_e ⟨ai, rfl, ?_⟩⟩⟩)⟩)⟩
      rw [dh_b0]
      exact ⟨L, n - 1, d, p, e, x, c, b, R, S, _, C, c', b', rfl, rfl, hI, by omega, by omega⟩
theorem i_vc_hook {k : Nat} {u : SX} {v : SY} (I : i_Rel k u v) (hk : k + 3 ≤ 1536) (v1 : Int32) : wpX_hook (fun r u' => wpY_hook (fun r' v' => r' = r ∧ i_Rel (k + 3) u' v') v v1) u v1 := by
  obtain ⟨L, n, d, p, e, x, c, b, R, S, H, C, c', b', rfl, rfl, hI, hn, h4⟩ := I
  have hL := hI.1.1
  have hR : i_Rel (k + 3) (nI L, nI n, d, p, e, x, c, b, R, S, H, C) (nI L, d, p, e, x, c', b', R, H, C, S) := ⟨L, n, d, p, e, x, c, b, R, S, H, C, c', b', rfl, rfl, hI, hn, h4⟩
  rcases pk_ix v1 (n := 64) (by decide) with h | h | ⟨a, ha, rfl⟩
  · unfold wpX_hook
    dsimp only
    refine xa_f (Or.inl h) ?_
    refine br_t rfl ?_
    unfold wpY_hook
    dsimp only
    exact br_t h ⟨rfl, hR⟩
  · unfold wpX_hook
    dsimp only
    refine xa_f (Or.inr h) ?_
    refine br_t rfl ?_
    unfold wpY_hook
    dsimp only
    exact br_c (fun _ => ⟨rfl, hR⟩) (fun _ => br_f (dh_n63 h) ⟨rfl, hR⟩)
  · have a0 : ¬ nI a < 0 := nI_pos (by omega)
    have a63 : nI a ≤ 63 := dh_le63 ha
    have ai : vp_in (nI a) 64 := vp_in_nI ha (by decide)
    have ac : (nI a).toNatClampNeg = a := nI_clamp (by omega)
    unfold wpX_hook
    dsimp only
    refine xa_t ha ?_
    refine br_f dh_10 ⟨ai, ?_⟩
    unfold wpY_hook
    dsimp only
    rw [ac]
    by_cases hh : H a = 0
    · refine br_t hh ?_
      by_cases hf : n < 4
      · refine br_t (nI_lt (b := 4) hf (by decide)) ?_
        obtain ⟨s, hs, hX, hY⟩ := hd_b (hc := nI n) (d := d) (p := p) (e := e) (x := x) (R := R) (S := S) (H := H) (C := C) (q := p) (ey := e) (xy := x) (hy := d) (R' := R) (C' := C) (S' := S) hI ha
        obtain ⟨z1, hX1, hY1⟩ := mt_b (hc := nI n) (d := d) (p := p) (e := e) (x := x) (R := R) (S := S) (H := H) (C := C) (q := p) (ey := e) (xy := x) (hy := d) (R' := R) (C' := C) (S' := S) hI ha hs
        obtain ⟨z2, hX2, hY2⟩ := en_b (hc := nI n) (d := d) (p := p) (e := e) (x := x) (R := R) (S := S) (H := H) (C := C) (q := p) (ey := e) (xy := x) (hy := d) (R' := R) (C' := C) (S' := S) hI ha hs
        have hn4 : ¬ nI (dh_cnt H 64) = 4 := by
          rw [← hn]
          intro z
          have := (nI_eq (a := n) (b := 4) (by omega) (by decide)).mp z
          omega
        refine hX _ ?_
        by_cases s0 : nI s = 0
        · refine br_t s0 (br_f a0 (br_t a63 ⟨ai, br_t hh ?_⟩))
          refine yh_s ?_
          refine br_f hn4 ?_
          refine hY _ ?_
          exact br_t s0 ⟨rfl, hR⟩
        · refine br_f s0 ?_
          refine hX1 _ ?_
          by_cases e1 : z1 = 0
          · refine br_t e1 ?_
            refine hX2 _ ?_
            by_cases e2 : z2 = 0
            · refine br_t e2 ⟨ai, nm_e ⟨ai, nm_e (nm_r (nI_1 _) (br_f a0 (br_t a63 ⟨ai, br_t hh ?_⟩)))⟩⟩
              refine yh_s ?_
              refine br_f hn4 ?_
              refine hY _ ?_
              refine br_f s0 ?_
              refine hY1 _ ?_
              refine br_t e1 ?_
              refine hY2 _ ?_
              refine br_t e2 ⟨ai, nm_e ⟨ai, nm_e ⟨rfl, ?_⟩⟩⟩
              rw [dh_b1]
              exact ⟨L, n + 1, d, p, e, x, c, b, R, S, _, _, c', b', rfl, rfl, hI, by rw [dh_cnt_on hh dh_10 ha, hn], by omega⟩
            · refine br_f e2 (br_f a0 (br_t a63 ⟨ai, br_t hh ?_⟩))
              refine yh_s ?_
              refine br_f hn4 ?_
              refine hY _ ?_
              refine br_f s0 ?_
              refine hY1 _ ?_
              refine br_t e1 ?_
              refine hY2 _ ?_
              exact br_f e2 ⟨rfl, hR⟩
          · refine br_f e1 (br_f a0 (br_t a63 ⟨ai, br_t hh ?_⟩))
            refine yh_s ?_
            refine br_f hn4 ?_
            refine hY _ ?_
            refine br_f s0 ?_
            refine hY1 _ ?_
            exact br_f e1 ⟨rfl, hR⟩
      · have n4 : n = 4 := by omega
        refine br_f (nI_nlt (b := 4) (by omega) (by omega)) (br_f a0 (br_t a63 ⟨ai, br_t hh ?_⟩))
        refine yh_s ?_
        rw [← hn, n4]
        refine br_t (by decide) ⟨rfl, ?_⟩
        rw [← n4]
        exact hR
    · exact br_f hh (br_f a0 (br_t a63 ⟨ai, br_f hh ⟨rfl, hR⟩⟩))
end DHE
