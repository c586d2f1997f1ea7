section DHG
variable {hc d e x y ee : Int32} {c b R S H C c' b' : Nat → Int32} {L a m o : Nat}
theorem yk_1 {post : SY → Prop} {w : Int32} (ho : o < 4) (h : wpY_goOn (fun u => post u) (nI L, d, nI a, ee, y, c', b', upd R o (R o + 1), H, C, S) 1 w) : wY_execute_69 post 1 w (nI o) (nI L) d (nI a) ee y c' b' R H C S := by
  unfold wY_execute_69
  rw [dh_and3 ho]
  refine nm_e ?_
  rw [nI_clamp (by omega)]
  refine br_t rfl ⟨vp_in_nI ho (by decide), vp_in_nI ho (by decide), nm_e ?_⟩
  unfold wY_execute_160
  exact h
theorem yk_2 {post : SY → Prop} {w : Int32} (ho : o < 4) (h : wpY_goOn (fun u => post u) (nI L, d, nI a, ee, y, c', b', upd R o (R o - 1), H, C, S) 2 w) : wY_execute_69 post 2 w (nI o) (nI L) d (nI a) ee y c' b' R H C S := by
  unfold wY_execute_69
  rw [dh_and3 ho]
  refine nm_e ?_
  rw [nI_clamp (by omega)]
  refine br_f (by decide) (br_t rfl ⟨vp_in_nI ho (by decide), vp_in_nI ho (by decide), nm_e ?_⟩)
  unfold wY_execute_160
  exact h
theorem yk_3 {post : SY → Prop} {w : Int32} (ho : o < 16) (h : wpY_goOn (fun u => post u) (nI L, d, nI a, ee, y, c', b', upd R (o % 4) (R (o / 4)), H, C, S) 3 w) : wY_execute_69 post 3 w (nI o) (nI L) d (nI a) ee y c' b' R H C S := by
  unfold wY_execute_69
  rw [dh_sh ho, dh_and3' o (by omega), nI_clamp (n := o / 4) (by omega)]
  refine nm_e ?_
  rw [nI_clamp (n := o % 4) (by omega)]
  refine br_f (by decide) (br_f (by decide) (br_t rfl ⟨vp_in_nI (by omega) (by decide), vp_in_nI (by omega) (by decide), nm_e ?_⟩))
  unfold wY_execute_160
  exact h
theorem yk_8 {post : SY → Prop} {w : Int32} (ho : o < 4) (h : wpY_goOn (fun u => post u) (nI L, d, nI a, ee, y, c', b', upd R o w, H, C, S) 8 w) : wY_execute_69 post 8 w (nI o) (nI L) d (nI a) ee y c' b' R H C S := by
  unfold wY_execute_69
  rw [dh_and3 ho]
  refine nm_e ?_
  rw [nI_clamp (by omega)]
  refine br_f (by decide) (br_f (by decide) (br_f (by decide) (br_t rfl ⟨vp_in_nI ho (by decide), nm_e ?_⟩)))
  unfold wY_execute_160
  exact h
/-- one step of both sides behind the count: one end, one next state -/
theorem st_c (hI : dh_Lay L c b c' b') (ha : a < L) (hb : b a ≠ 0) (hm : m ≤ 8) :
    ∃ (r : Int32) (m' : Nat) (p' : Int32) (R1 S1 : Nat → Int32), m' ≤ 8 ∧ (∀ post : Int32 → SX → Prop, post r (nI L, hc, nI m', p', e, x, c, b, R1, S1, H, C) → wX_step_48 post (nI L) hc (nI m) (nI a) e x c b R S H C) ∧ (∀ post : SY → Prop, post (nI L, nI m', p', r, y, c', b', R1, H, C, S1) → wY_execute_25 post (nI L) (nI m) (nI a) 0 y c' b' R H C S) := by
  obtain ⟨hL, w, w', ec, hb'⟩ := dh_Lay_w hI ha hb
  have w1 := w.1
  have hp := dh_sz_pos (c a)
  have eT : dh_T c' a = dh_T c a := by
    unfold dh_T
    rw [ec, (hI.2.1 _ (by omega)).1]
  have e1 : 2 ≤ dh_sz (c a) → c' (a + 1) = c (a + 1) := fun h => (hI.2.1 _ (by omega)).1
  rcases w.2.2.2 with hk | hk | hk | hk | ⟨hk, o, ho, hy⟩ | ⟨hk, o, ho, hy⟩ | ⟨hk, o, ho, hy⟩
  · have hk' := ec.trans hk
    exact ⟨1, m, nI a, R, S, hm, fun post h => xk_0 (by omega) hk h, fun post h => ye_1 w' hL ha hk' dh_z0 (ye_n (by decide) (by decide) (by decide) (by decide) (yg_0 w' hL ha hk' h))⟩
  · have hk' := ec.trans hk
    rcases Nat.eq_zero_or_pos m with hm0 | hm0
    · subst hm0
      exact ⟨1, 0, nI a, R, S, hm, fun post h => xk_7z (by omega) hk h, fun post h => ye_1 w' hL ha hk' dh_z7 (ye_n (by decide) (by decide) (by decide) (by decide) (yg_7z w' hL ha hk' h))⟩
    · obtain ⟨j, rfl⟩ : ∃ j, m = j + 1 := ⟨m - 1, by omega⟩
      exact ⟨0, j, S j, R, S, by omega, fun post h => xk_7 (by omega) hk (by omega) h, fun post h => ye_1 w' hL ha hk' dh_z7 (ye_n (by decide) (by decide) (by decide) (by decide) (yg_7 w' hL ha hk' (by omega) h))⟩
  · have hk' := ec.trans hk
    rw [hk, dh_z4] at w1
    exact ⟨0, m, dh_T c a, R, S, hm, fun post h => xk_4 (by omega) hk h, fun post h => ye_2 w' hL ha hk' dh_z4 (by omega) (ye_n (by decide) (by decide) (by decide) (by decide) (yg_4 w' hL ha hk' (by rw [eT]; exact h)))⟩
  · have hk' := ec.trans hk
    rw [hk, dh_z6] at w1
    by_cases h8 : m < 8
    · exact ⟨0, m + 1, dh_T c a, R, upd S m (nI (a + 2)), by omega, fun post h => xk_6 (by omega) hk h8 h, fun post h => ye_2 w' hL ha hk' dh_z6 (by omega) (ye_n (by decide) (by decide) (by decide) (by decide) (yg_6 w' hL ha hk' h8 (by rw [eT]; exact h)))⟩
    · have m8 : m = 8 := by omega
      subst m8
      exact ⟨3, 8, nI a, R, S, hm, fun post h => xk_6f (by omega) hk h, fun post h => ye_2 w' hL ha hk' dh_z6 (by omega) (ye_n (by decide) (by decide) (by decide) (by decide) (yg_6f w' hL ha hk' h))⟩
  · have hk' := ec.trans hk
    have hy' := (e1 (by rw [hk]; decide)).trans hy
    rw [hk, dh_z5] at w1
    by_cases hr : R o = 0
    · exact ⟨0, m, nI (a + 3), R, S, hm, fun post h => xk_5z (by omega) hk ho hy hr h, fun post h => ye_2 w' hL ha hk' dh_z5 (by omega) (ye_n (by decide) (by decide) (by decide) (by decide) (yg_5z w' hL w1 hk' ho hy' hr h))⟩
    · exact ⟨0, m, dh_T c a, R, S, hm, fun post h => xk_5t (by omega) hk ho hy hr h, fun post h => ye_2 w' hL ha hk' dh_z5 (by omega) (ye_n (by decide) (by decide) (by decide) (by decide) (yg_5t w' hL w1 hk' ho hy' hr (by rw [eT]; exact h)))⟩
  · rcases hk with hk | hk | hk
    · have hk' := ec.trans hk
      have hy' := (e1 (by rw [hk]; decide)).trans hy
      rw [hk, dh_z1] at w1
      exact ⟨0, m, nI (a + 2), upd R o (R o + 1), S, hm, fun post h => xk_1 (by omega) hk ho hy h, fun post h => ye_2 w' hL ha hk' dh_z1 (by omega) (by rw [hy']; exact yk_1 ho (yg_r w' hL ha hk' (Or.inl rfl) h))⟩
    · have hk' := ec.trans hk
      have hy' := (e1 (by rw [hk]; decide)).trans hy
      rw [hk, dh_z2] at w1
      exact ⟨0, m, nI (a + 2), upd R o (R o - 1), S, hm, fun post h => xk_2 (by omega) hk ho hy h, fun post h => ye_2 w' hL ha hk' dh_z2 (by omega) (by rw [hy']; exact yk_2 ho (yg_r w' hL ha hk' (Or.inr (Or.inl rfl)) h))⟩
    · have hk' := ec.trans hk
      have hy' := (e1 (by rw [hk]; decide)).trans hy
      rw [hk, dh_z8] at w1
      exact ⟨0, m, nI (a + 2), upd R o (nI (a + 2)), S, hm, fun post h => xk_8 (by omega) hk ho hy h, fun post h => ye_2 w' hL ha hk' dh_z8 (by omega) (by rw [hy']; exact yk_8 ho (yg_r w' hL ha hk' (Or.inr (Or.inr (Or.inr rfl))) h))⟩
  · have hk' := ec.trans hk
    have hy' := (e1 (by rw [hk]; decide)).trans hy
    rw [hk, dh_z3] at w1
    exact ⟨0, m, nI (a + 2), upd R (o % 4) (R (o / 4)), S, hm, fun post h => xk_3 (by omega) hk ho hy h, fun post h => ye_2 w' hL ha hk' dh_z3 (by omega) (by rw [hy']; exact yk_3 ho (yg_r w' hL ha hk' (Or.inr (Or.inr (Or.inl rfl))) h))⟩
theorem st_b (hI : dh_Lay L c b c' b') (ha : a < L) (hb : b a ≠ 0) (hm : m ≤ 8) :
    ∃ (r : Int32) (m' : Nat) (p' : Int32) (R1 S1 C1 : Nat → Int32), m' ≤ 8 ∧ (∀ post : Int32 → SX → Prop, post r (nI L, hc, nI m', p', e, x + 1, c, b, R1, S1, H, C1) → wpX_step post (nI L, hc, nI m, nI a, e, x, c, b, R, S, H, C)) ∧ (∀ post : SY → Prop, post (nI L, nI m', p', r, y, c', b', R1, H, C1, S1) → wpY_execute post (nI L, nI m, nI a, 0, y, c', b', R, H, C, S)) := by
  have hL := hI.1.1
  have ai : vp_in (nI a) 64 := vp_in_nI (by omega) (by decide)
  have ac : (nI a).toNatClampNeg = a := nI_clamp (by omega)
  by_cases hh : H a = 0
  · obtain ⟨r, m', p', R1, S1, hm', hX, hY⟩ := st_c (hc := hc) (e := e) (x := x + 1) (y := y) (R := R) (S := S) (H := H) (C := C) hI ha hb hm
    refine ⟨r, m', p', R1, S1, C, hm', fun post h => ?_, fun post h => ?_⟩
    · unfold wpX_step
      dsimp only
      refine xb_t (by omega) hb ?_
      rw [ac]
      exact br_f dh_10 (nm_e ⟨ai, br_t hh (hX post h)⟩)
    · unfold wpY_execute
      dsimp only
      rw [ac]
      exact ⟨ai, br_t hh (hY post h)⟩
  · obtain ⟨r, m', p', R1, S1, hm', hX, hY⟩ := st_c (hc := hc) (e := e) (x := x + 1) (y := y) (R := R) (S := S) (H := H) (C := upd C a (C a + 1)) hI ha hb hm
    refine ⟨r, m', p', R1, S1, upd C a (C a + 1), hm', fun post h => ?_, fun post h => ?_⟩
    · unfold wpX_step
      dsimp only
      refine xb_t (by omega) hb ?_
      rw [ac]
      exact br_f dh_10 (nm_e ⟨ai, br_f hh ⟨ai, ai, nm_e (hX post h)⟩⟩)
    · unfold wpY_execute
      dsimp only
      rw [ac]
      exact ⟨ai, br_f hh ⟨ai, ai, nm_e (hY post h)⟩⟩
/-! the two loops of run -/
theorem rn_xe {post : Int32 → SX → Prop} {n : Nat} {r j lx p : Int32} (hr : ¬ r = 0) (h : post r (lx, hc, d, p, r, x, c, b, R, S, H, C)) : wX_run_28 post (n + 1) r j lx hc d p e x c b R S H C := by
  have h5 : wX_run_50 post r lx hc d p e x c b R S H C := br_f hr h
  unfold wX_run_28
  exact br_c (fun _ => h5) (fun _ => br_f hr h5)
theorem rn_ye {post : Int32 → SY → Prop} {n : Nat} {r ly p : Int32} (hr : ¬ r = 0) (h : post r (ly, d, p, r, x, c, b, R, H, C, S)) : wY_run_32 post (n + 1) ly d p r x c b R H C S := by
  have h5 : wY_run_85 post ly d p r x c b R H C S := br_f hr h
  unfold wY_run_32
  exact br_c (fun _ => h5) (fun _ => br_f hr h5)
theorem rn_x {post : Int32 → SX → Prop} {n i : Nat} {p : Int32} (hi : i < 200) (hB : ∀ Q : Int32 → Prop, Q 0 → wpX_beginsAt Q (nI L, hc, d, p, e, nI i, c, b, R, S, H, C) p) (h : post 2 (nI L, hc, d, p, 2, nI i, c, b, R, S, H, C)) : wX_run_28 post (n + 1 + 1) 0 (nI i) (nI L) hc d p e (nI i) c b R S H C := by
  rw [wX_run_28]
  refine br_f (nI_ge (b := 200) hi (by decide)) (br_t rfl ?_)
  unfold wpX_step
  dsimp only
  refine hB _ ?_
  refine br_t rfl ?_
  refine nm_r (nI_1 _) ?_
  exact rn_xe (by decide) h
theorem rn_y {post : Int32 → SY → Prop} {n i : Nat} {p : Int32} (hi : i < 200) (hB : ∀ Q : Int32 → Prop, Q 0 → wpY_starts Q (nI L, d, p, 0, nI i, c', b', R, H, C, S) p) (h : post 2 (nI L, d, p, 2, nI i, c', b', R, H, C, S)) : wY_run_32 post (n + 1 + 1) (nI L) d p 0 (nI i) c' b' R H C S := by
  rw [wY_run_32]
  refine br_f (nI_ge (b := 200) hi (by decide)) (br_t rfl ?_)
  refine hB _ ?_
  refine br_t rfl ?_
  exact rn_ye (by decide) h
theorem rn_l (hI : dh_Lay L c b c' b') : ∀ (dd i m : Nat) (p : Int32) (R S C : Nat → Int32), i + dd = 200 → m ≤ 8 →
    ∃ (r : Int32) (m' : Nat) (p' x' : Int32) (R1 S1 C1 : Nat → Int32), (∀ post : Int32 → SX → Prop, post r (nI L, hc, nI m', p', r, x', c, b, R1, S1, H, C1) → wX_run_28 post (dd + 1 + 1) 0 (nI i) (nI L) hc (nI m) p e (nI i) c b R S H C) ∧ (∀ post : Int32 → SY → Prop, post r (nI L, nI m', p', r, x', c', b', R1, H, C1, S1) → wY_run_32 post (dd + 1 + 1) (nI L) (nI m) p 0 (nI i) c' b' R H C S) := by
  have hL := hI.1.1
  intro dd
  induction dd with
  | zero =>
    intro i m p R S C hi hm
    have e2 : i = 200 := by omega
    subst e2
    refine ⟨4, m, p, nI 200, R, S, C, fun post h => ?_, fun post h => ?_⟩
    · rw [wX_run_28]
      refine br_t (by decide) ?_
      unfold wX_run_50
      exact br_t rfl h
    · rw [wY_run_32]
      refine br_t (by decide) ?_
      unfold wY_run_85
      exact br_t rfl h
  | succ dd ih =>
    intro i m p R S C hi hm
    have bad : (∀ Q : Int32 → Prop, Q 0 → wpX_beginsAt Q (nI L, hc, nI m, p, e, nI i, c, b, R, S, H, C) p) → (∀ Q : Int32 → Prop, Q 0 → wpY_starts Q (nI L, nI m, p, 0, nI i, c', b', R, H, C, S) p) →
        ∃ (r : Int32) (m' : Nat) (p' x' : Int32) (R1 S1 C1 : Nat → Int32), (∀ post : Int32 → SX → Prop, post r (nI L, hc, nI m', p', r, x', c, b, R1, S1, H, C1) → wX_run_28 post (dd + 1 + 1 + 1) 0 (nI i) (nI L) hc (nI m) p e (nI i) c b R S H C) ∧ (∀ post : Int32 → SY → Prop, post r (nI L, nI m', p', r, x', c', b', R1, H, C1, S1) → wY_run_32 post (dd + 1 + 1 + 1) (nI L) (nI m) p 0 (nI i) c' b' R H C S) :=
      fun hX hY => ⟨2, m, p, nI i, R, S, C, fun post h => rn_x (by omega) hX h, fun post h => rn_y (by omega) hY h⟩
    rcases pk_ix p (n := 64) (by decide) with hp | hp | ⟨a, ha, rfl⟩
    · exact bad (fun Q h => xb_o (Or.inl hp) h) (fun Q h => ys_o hL (Or.inl hp) h)
    · exact bad (fun Q h => xb_o (Or.inr hp) h) (fun Q h => ys_o hL (Or.inr hp) h)
    · by_cases hs : a < L ∧ b a ≠ 0
      · obtain ⟨_, w, w', ec, hb'⟩ := dh_Lay_w hI hs.1 hs.2
        obtain ⟨r, m', p', R1, S1, C1, hm', hX, hY⟩ := st_b (hc := hc) (e := e) (x := nI i) (y := nI i) (R := R) (S := S) (H := H) (C := C) hI hs.1 hs.2 hm
        rw [nI_1 i] at hX
        have i2 : ¬ (200 : Int32) ≤ nI i := nI_ge (b := 200) (by omega) (by decide)
        by_cases hr : r = 0
        · subst hr
          obtain ⟨r2, m2, p2, x2, R2, S2, C2, iX, iY⟩ := ih (i + 1) m' p' R1 S1 C1 (by omega) hm'
          refine ⟨r2, m2, p2, x2, R2, S2, C2, fun post h => ?_, fun post h => ?_⟩
          · rw [wX_run_28]
            refine br_f i2 (br_t rfl ?_)
            refine hX _ ?_
            exact nm_r (nI_1 _) (iX post h)
          · rw [wY_run_32]
            refine br_f i2 (br_t rfl ?_)
            refine ys_t hs.1 hL hb' ?_
            refine br_f dh_10 ?_
            refine hY _ ?_
            exact nm_r (nI_1 _) (iY post h)
        · refine ⟨r, m', p', nI (i + 1), R1, S1, C1, fun post h => ?_, fun post h => ?_⟩
          · rw [wX_run_28]
            refine br_f i2 (br_t rfl ?_)
            refine hX _ ?_
            refine nm_r (nI_1 _) ?_
            exact rn_xe hr h
          · rw [wY_run_32]
            refine br_f i2 (br_t rfl ?_)
            refine ys_t hs.1 hL hb' ?_
            refine br_f dh_10 ?_
            refine hY _ ?_
            refine nm_r (nI_1 _) ?_
            exact rn_ye hr h
      · have h0 : a < L → b a = 0 := fun z => Classical.byContradiction fun q => hs ⟨z, q⟩
        refine bad (fun Q h => xb_f (fun z => ?_) (by omega) h) (fun Q h => ys_f (fun z => by rw [(hI.2.1 a z).2]; exact h0 z) hL (by omega) h)
        by_cases hl : a < L
        · exact h0 hl
        · exact hI.2.2 a (by omega) z
theorem i_vc_run {k : Nat} {u : SX} {v : SY} (I : i_Rel k u v) (hk : k + 3 ≤ 1536) (v1 : Int32) : wpX_run (fun r u' => wpY_run (fun r' v' => r' = r ∧ i_Rel (k + 3) u' v') v v1) u v1 := by
  obtain ⟨L, n, d, p, e, x, c, b, R, S, H, C, c', b', rfl, rfl, hI, hn, h4⟩ := I
  have hR : i_Rel (k + 3) (nI L, nI n, d, p, e, x, c, b, R, S, H, C) (nI L, d, p, e, x, c', b', R, H, C, S) := ⟨L, n, d, p, e, x, c, b, R, S, H, C, c', b', rfl, rfl, hI, hn, h4⟩
  rcases pk_ix v1 (n := 64) (by decide) with h | h | ⟨a, ha, rfl⟩
  · unfold wpX_run
    dsimp only
    refine xa_f (Or.inl h) ?_
    refine br_t rfl ?_
    unfold wpY_run
    dsimp only
    exact br_t h ⟨rfl, hR⟩
  · unfold wpX_run
    dsimp only
    refine xa_f (Or.inr h) ?_
    refine br_t rfl ?_
    unfold wpY_run
    dsimp only
    exact br_c (fun _ => ⟨rfl, hR⟩) (fun _ => br_f (dh_n63 h) ⟨rfl, hR⟩)
  · obtain ⟨r, m', p', x', R1, S1, C1, hX, hY⟩ := rn_l (hc := nI n) (e := e) (H := H) hI 200 0 0 (nI a) R S C rfl (by omega)
    unfold wpX_run
    dsimp only
    refine xa_t ha ?_
    refine br_f dh_10 ⟨200 + 1 + 1, ?_⟩
    refine hX _ ?_
    unfold wpY_run
    dsimp only
    refine br_f (nI_pos (by omega)) (br_t (dh_le63 ha) ⟨200 + 1 + 1, ?_⟩)
    refine hY _ ?_
    exact ⟨rfl, L, n, nI m', p', r, x', c, b, R1, S1, H, C1, c', b', rfl, rfl, hI, hn, h4⟩
end DHG
