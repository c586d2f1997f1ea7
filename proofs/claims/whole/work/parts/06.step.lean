section DHF
variable {hc d e x y ee : Int32} {c b R S H C c' b' : Nat → Int32} {L a m o : Nat}
def dh_T (c : Nat → Int32) (a : Nat) : Int32 := dh_tg (a + dh_sz (c a)) (c (a + dh_sz (c a) - 1))
theorem dh_z0 : dh_sz 0 = 1 := by decide
theorem dh_z1 : dh_sz 1 = 2 := by decide
theorem dh_z2 : dh_sz 2 = 2 := by decide
theorem dh_z3 : dh_sz 3 = 2 := by decide
theorem dh_z4 : dh_sz 4 = 2 := by decide
theorem dh_z5 : dh_sz 5 = 3 := by decide
theorem dh_z6 : dh_sz 6 = 2 := by decide
theorem dh_z7 : dh_sz 7 = 1 := by decide
theorem dh_z8 : dh_sz 8 = 2 := by decide
theorem dh_sh {o : Nat} (ho : o < 16) : nI o >>> ((2 : Int32) &&& 31) = nI (o / 4) := pk_shrN (by omega) _ 2 (by decide)
/-! X's step at a begun address, kind by kind -/
theorem xk_0 {post : Int32 → SX → Prop} (ha : a < 64) (hk : c a = 0) (h : post 1 (nI L, hc, d, nI a, e, x, c, b, R, S, H, C)) : wX_step_48 post (nI L) hc d (nI a) e x c b R S H C := by
  unfold wX_step_48
  rw [nI_clamp (by omega)]
  exact ⟨vp_in_nI ha (by decide), nm_r hk (br_t rfl h)⟩
theorem xk_6 {post : Int32 → SX → Prop} (ha : a + 2 ≤ 64) (hk : c a = 6) (hm : m < 8) (h : post 0 (nI L, hc, nI (m + 1), dh_T c a, e, x, c, b, R, upd S m (nI (a + 2)), H, C)) : wX_step_48 post (nI L) hc (nI m) (nI a) e x c b R S H C := by
  unfold wX_step_48
  rw [nI_clamp (by omega)]
  refine ⟨vp_in_nI (by omega) (by decide), nm_r hk (br_f (by decide) (br_t rfl ?_))⟩
  unfold wpX_enterFunction
  dsimp only
  refine br_t (nI_lt (b := 8) hm (by decide)) ?_
  refine xz_s 6 ?_
  rw [nI_clamp (by omega), dh_z6, nI_add]
  refine ⟨vp_in_nI hm (by decide), nm_e (nm_r (nI_1 _) ?_)⟩
  refine xt_g (by omega) (by rw [hk, dh_z6]; omega) ?_
  exact h
theorem xk_6f {post : Int32 → SX → Prop} (ha : a < 64) (hk : c a = 6) (h : post 3 (nI L, hc, nI 8, nI a, e, x, c, b, R, S, H, C)) : wX_step_48 post (nI L) hc (nI 8) (nI a) e x c b R S H C := by
  unfold wX_step_48
  rw [nI_clamp (by omega)]
  refine ⟨vp_in_nI (by omega) (by decide), nm_r hk (br_f (by decide) (br_t rfl ?_))⟩
  unfold wpX_enterFunction
  dsimp only
  exact br_f (by decide) h
theorem xk_7z {post : Int32 → SX → Prop} (ha : a < 64) (hk : c a = 7) (h : post 1 (nI L, hc, nI 0, nI a, e, x, c, b, R, S, H, C)) : wX_step_48 post (nI L) hc (nI 0) (nI a) e x c b R S H C := by
  unfold wX_step_48
  rw [nI_clamp (by omega)]
  refine ⟨vp_in_nI (by omega) (by decide), nm_r hk (br_f (by decide) (br_f (by decide) (br_t rfl ?_)))⟩
  unfold wpX_leaveFunction
  dsimp only
  exact br_f (by decide) h
theorem xk_7 {post : Int32 → SX → Prop} (ha : a < 64) (hk : c a = 7) (hm : m < 8) (h : post 0 (nI L, hc, nI m, S m, e, x, c, b, R, S, H, C)) : wX_step_48 post (nI L) hc (nI (m + 1)) (nI a) e x c b R S H C := by
  unfold wX_step_48
  rw [nI_clamp (by omega)]
  refine ⟨vp_in_nI (by omega) (by decide), nm_r hk (br_f (by decide) (br_f (by decide) (br_t rfl ?_)))⟩
  unfold wpX_leaveFunction
  dsimp only
  exact br_t (nI_lt (a := 0) (by omega) (by omega)) (nm_r (nI_pred m) ⟨vp_in_nI hm (by decide), nm_r (by rw [nI_clamp (by omega)]) h⟩)
theorem xk_4 {post : Int32 → SX → Prop} (ha : a + 2 ≤ 64) (hk : c a = 4) (h : post 0 (nI L, hc, d, dh_T c a, e, x, c, b, R, S, H, C)) : wX_step_48 post (nI L) hc d (nI a) e x c b R S H C := by
  unfold wX_step_48
  rw [nI_clamp (by omega)]
  refine ⟨vp_in_nI (by omega) (by decide), nm_r hk (br_f (by decide) (br_f (by decide) (br_f (by decide) ?_)))⟩
  refine xh_t (Or.inl rfl) ?_
  refine br_f dh_10 ?_
  unfold wpX_follow
  dsimp only
  rw [nI_1 a]
  refine xy_t (by omega) ?_
  refine nm_e (br_f (by decide) ?_)
  unfold wX_follow_43
  refine xt_g (by omega) (by rw [hk, dh_z4]; omega) ?_
  exact h
theorem xk_5z {post : Int32 → SX → Prop} (ha : a + 3 ≤ 64) (hk : c a = 5) (ho : o < 4) (hy : c (a + 1) = nI o) (hr : R o = 0) (h : post 0 (nI L, hc, d, nI (a + 3), e, x, c, b, R, S, H, C)) : wX_step_48 post (nI L) hc d (nI a) e x c b R S H C := by
  unfold wX_step_48
  rw [nI_clamp (by omega)]
  refine ⟨vp_in_nI (by omega) (by decide), nm_r hk (br_f (by decide) (br_f (by decide) (br_f (by decide) ?_)))⟩
  refine xh_t (Or.inr (Or.inl rfl)) ?_
  refine br_f dh_10 ?_
  unfold wpX_follow
  dsimp only
  rw [nI_1 a]
  refine xy_t (by omega) ?_
  rw [hy, dh_and3 ho]
  refine nm_e (br_t rfl ⟨vp_in_nI ho (by decide), ?_⟩)
  rw [nI_clamp (by omega)]
  refine br_t hr ?_
  refine xz_s 5 ?_
  rw [dh_z5]
  exact nm_r (nI_add _ _) h
theorem xk_5t {post : Int32 → SX → Prop} (ha : a + 3 ≤ 64) (hk : c a = 5) (ho : o < 4) (hy : c (a + 1) = nI o) (hr : ¬ R o = 0) (h : post 0 (nI L, hc, d, dh_T c a, e, x, c, b, R, S, H, C)) : wX_step_48 post (nI L) hc d (nI a) e x c b R S H C := by
  unfold wX_step_48
  rw [nI_clamp (by omega)]
  refine ⟨vp_in_nI (by omega) (by decide), nm_r hk (br_f (by decide) (br_f (by decide) (br_f (by decide) ?_)))⟩
  refine xh_t (Or.inr (Or.inl rfl)) ?_
  refine br_f dh_10 ?_
  unfold wpX_follow
  dsimp only
  rw [nI_1 a]
  refine xy_t (by omega) ?_
  rw [hy, dh_and3 ho]
  refine nm_e (br_t rfl ⟨vp_in_nI ho (by decide), ?_⟩)
  rw [nI_clamp (by omega)]
  refine br_f hr ?_
  unfold wX_follow_43
  refine xt_g (by omega) (by rw [hk, dh_z5]; omega) ?_
  exact h
theorem xk_1 {post : Int32 → SX → Prop} (ha : a + 2 ≤ 64) (hk : c a = 1) (ho : o < 4) (hy : c (a + 1) = nI o) (h : post 0 (nI L, hc, d, nI (a + 2), e, x, c, b, upd R o (R o + 1), S, H, C)) : wX_step_48 post (nI L) hc d (nI a) e x c b R S H C := by
  unfold wX_step_48
  rw [nI_clamp (by omega)]
  refine ⟨vp_in_nI (by omega) (by decide), nm_r hk (br_f (by decide) (br_f (by decide) (br_f (by decide) ?_)))⟩
  refine xh_f (by decide) ?_
  refine br_t rfl ?_
  unfold wpX_changeRegister
  dsimp only
  rw [nI_1 a]
  refine xy_t (by omega) ?_
  refine xz_s _ ?_
  rw [hy, dh_and3 ho, dh_z1]
  refine nm_r (nI_add _ _) (nm_e ?_)
  rw [nI_clamp (by omega)]
  exact br_t rfl ⟨vp_in_nI ho (by decide), vp_in_nI ho (by decide), nm_e h⟩
theorem xk_2 {post : Int32 → SX → Prop} (ha : a + 2 ≤ 64) (hk : c a = 2) (ho : o < 4) (hy : c (a + 1) = nI o) (h : post 0 (nI L, hc, d, nI (a + 2), e, x, c, b, upd R o (R o - 1), S, H, C)) : wX_step_48 post (nI L) hc d (nI a) e x c b R S H C := by
  unfold wX_step_48
  rw [nI_clamp (by omega)]
  refine ⟨vp_in_nI (by omega) (by decide), nm_r hk (br_f (by decide) (br_f (by decide) (br_f (by decide) ?_)))⟩
  refine xh_f (by decide) ?_
  refine br_t rfl ?_
  unfold wpX_changeRegister
  dsimp only
  rw [nI_1 a]
  refine xy_t (by omega) ?_
  refine xz_s _ ?_
  rw [hy, dh_and3 ho, dh_z2]
  refine nm_r (nI_add _ _) (nm_e ?_)
  rw [nI_clamp (by omega)]
  exact br_f (by decide) (br_t rfl ⟨vp_in_nI ho (by decide), vp_in_nI ho (by decide), nm_e h⟩)
theorem xk_3 {post : Int32 → SX → Prop} (ha : a + 2 ≤ 64) (hk : c a = 3) (ho : o < 16) (hy : c (a + 1) = nI o) (h : post 0 (nI L, hc, d, nI (a + 2), e, x, c, b, upd R (o % 4) (R (o / 4)), S, H, C)) : wX_step_48 post (nI L) hc d (nI a) e x c b R S H C := by
  unfold wX_step_48
  rw [nI_clamp (by omega)]
  refine ⟨vp_in_nI (by omega) (by decide), nm_r hk (br_f (by decide) (br_f (by decide) (br_f (by decide) ?_)))⟩
  refine xh_f (by decide) ?_
  refine br_t rfl ?_
  unfold wpX_changeRegister
  dsimp only
  rw [nI_1 a]
  refine xy_t (by omega) ?_
  refine xz_s _ ?_
  rw [hy, dh_sh ho, dh_and3 (o := o / 4) (by omega), dh_and3' o (by omega), dh_z3, nI_clamp (n := o / 4) (by omega)]
  refine nm_r (nI_add _ _) (nm_e ?_)
  rw [nI_clamp (n := o % 4) (by omega)]
  exact br_f (by decide) (br_f (by decide) (br_t rfl ⟨vp_in_nI (by omega) (by decide), vp_in_nI (by omega) (by decide), nm_e h⟩))
theorem xk_8 {post : Int32 → SX → Prop} (ha : a + 2 ≤ 64) (hk : c a = 8) (ho : o < 4) (hy : c (a + 1) = nI o) (h : post 0 (nI L, hc, d, nI (a + 2), e, x, c, b, upd R o (nI (a + 2)), S, H, C)) : wX_step_48 post (nI L) hc d (nI a) e x c b R S H C := by
  unfold wX_step_48
  rw [nI_clamp (by omega)]
  refine ⟨vp_in_nI (by omega) (by decide), nm_r hk (br_f (by decide) (br_f (by decide) (br_f (by decide) ?_)))⟩
  refine xh_f (by decide) ?_
  refine br_t rfl ?_
  unfold wpX_changeRegister
  dsimp only
  rw [nI_1 a]
  refine xy_t (by omega) ?_
  refine xz_s _ ?_
  rw [hy, dh_and3 ho, dh_z8]
  refine nm_r (nI_add _ _) (nm_e ?_)
  rw [nI_clamp (by omega)]
  exact br_f (by decide) (br_f (by decide) (br_f (by decide) ⟨vp_in_nI ho (by decide), nm_e h⟩))
/-! Y's goOn -/
theorem yg_0 {post : SY → Prop} {w : Int32} (hW : dh_W1 c' b' L a) (hL : L ≤ 64) (ha : a < L) (hk : c' a = 0) (h : post (nI L, d, nI a, 1, y, c', b', R, H, C, S)) : wpY_goOn post (nI L, d, nI a, ee, y, c', b', R, H, C, S) 0 w := by
  unfold wpY_goOn
  dsimp only
  refine yt_f hW hL ha (by rw [hk]; decide) ?_
  exact br_t rfl h
theorem yg_7z {post : SY → Prop} {w : Int32} (hW : dh_W1 c' b' L a) (hL : L ≤ 64) (ha : a < L) (hk : c' a = 7) (h : post (nI L, nI 0, nI a, 1, y, c', b', R, H, C, S)) : wpY_goOn post (nI L, nI 0, nI a, ee, y, c', b', R, H, C, S) 7 w := by
  unfold wpY_goOn
  dsimp only
  refine yt_f hW hL ha (by rw [hk]; decide) ?_
  exact br_f (by decide) (br_t rfl (br_t (by decide) h))
theorem yg_7 {post : SY → Prop} {w : Int32} (hW : dh_W1 c' b' L a) (hL : L ≤ 64) (ha : a < L) (hk : c' a = 7) (hm : m < 8) (h : post (nI L, nI m, S m, ee, y, c', b', R, H, C, S)) : wpY_goOn post (nI L, nI (m + 1), nI a, ee, y, c', b', R, H, C, S) 7 w := by
  unfold wpY_goOn
  dsimp only
  refine yt_f hW hL ha (by rw [hk]; decide) ?_
  refine br_f (by decide) (br_t rfl (br_f (nI_ne0 (by omega) (by omega)) ?_))
  unfold wY_goOn_34
  exact br_t rfl (nm_r (nI_pred m) ⟨vp_in_nI hm (by decide), nm_r (by rw [nI_clamp (by omega)]) h⟩)
theorem yg_6f {post : SY → Prop} {w : Int32} (hW : dh_W1 c' b' L a) (hL : L ≤ 64) (ha : a < L) (hk : c' a = 6) (h : post (nI L, nI 8, nI a, 3, y, c', b', R, H, C, S)) : wpY_goOn post (nI L, nI 8, nI a, ee, y, c', b', R, H, C, S) 6 w := by
  unfold wpY_goOn
  dsimp only
  refine yt_t hW hL ha (Or.inr (Or.inr hk)) ?_
  refine br_f (by decide) (br_f (by decide) ?_)
  unfold wY_goOn_34
  exact br_f (by decide) (br_t rfl (br_t (by decide) h))
theorem yg_6 {post : SY → Prop} {w : Int32} (hW : dh_W1 c' b' L a) (hL : L ≤ 64) (ha : a < L) (hk : c' a = 6) (hm : m < 8) (h : post (nI L, nI (m + 1), dh_T c' a, ee, y, c', b', R, H, C, upd S m w)) : wpY_goOn post (nI L, nI m, nI a, ee, y, c', b', R, H, C, S) 6 w := by
  unfold wpY_goOn
  dsimp only
  refine yt_t hW hL ha (Or.inr (Or.inr hk)) ?_
  refine br_f (by decide) (br_f (by decide) ?_)
  unfold wY_goOn_34
  refine br_f (by decide) (br_t rfl (br_f (fun z => absurd ((nI_eq (b := 8) (by omega) (by decide)).mp z) (by omega)) ?_))
  unfold wY_goOn_89
  rw [nI_clamp (by omega)]
  exact br_t rfl ⟨vp_in_nI hm (by decide), nm_e (nm_r (nI_1 _) h)⟩
theorem yg_5z {post : SY → Prop} {w : Int32} (hW : dh_W1 c' b' L a) (hL : L ≤ 64) (ha : a + 3 ≤ L) (hk : c' a = 5) (ho : o < 4) (hy : c' (a + 1) = nI o) (hr : R o = 0) (h : post (nI L, d, w, ee, y, c', b', R, H, C, S)) : wpY_goOn post (nI L, d, nI a, ee, y, c', b', R, H, C, S) 5 w := by
  unfold wpY_goOn
  dsimp only
  refine yt_t hW hL (by omega) (Or.inr (Or.inl hk)) ?_
  refine br_f (by decide) (br_f (by decide) ?_)
  unfold wY_goOn_34
  refine br_f (by decide) (br_f (by decide) ?_)
  unfold wY_goOn_89
  rw [nI_1 a, nI_clamp (n := a + 1) (by omega), hy, nI_clamp (by omega)]
  exact br_f (by decide) (br_t rfl ⟨vp_in_nI (by omega) (by decide), vp_in_nI ho (by decide), br_t hr h⟩)
theorem yg_5t {post : SY → Prop} {w : Int32} (hW : dh_W1 c' b' L a) (hL : L ≤ 64) (ha : a + 3 ≤ L) (hk : c' a = 5) (ho : o < 4) (hy : c' (a + 1) = nI o) (hr : ¬ R o = 0) (h : post (nI L, d, dh_T c' a, ee, y, c', b', R, H, C, S)) : wpY_goOn post (nI L, d, nI a, ee, y, c', b', R, H, C, S) 5 w := by
  unfold wpY_goOn
  dsimp only
  refine yt_t hW hL (by omega) (Or.inr (Or.inl hk)) ?_
  refine br_f (by decide) (br_f (by decide) ?_)
  unfold wY_goOn_34
  refine br_f (by decide) (br_f (by decide) ?_)
  unfold wY_goOn_89
  rw [nI_1 a, nI_clamp (n := a + 1) (by omega), hy, nI_clamp (by omega)]
  exact br_f (by decide) (br_t rfl ⟨vp_in_nI (by omega) (by decide), vp_in_nI ho (by decide), br_f hr h⟩)
theorem yg_4 {post : SY → Prop} {w : Int32} (hW : dh_W1 c' b' L a) (hL : L ≤ 64) (ha : a < L) (hk : c' a = 4) (h : post (nI L, d, dh_T c' a, ee, y, c', b', R, H, C, S)) : wpY_goOn post (nI L, d, nI a, ee, y, c', b', R, H, C, S) 4 w := by
  unfold wpY_goOn
  dsimp only
  refine yt_t hW hL (by omega) (Or.inl hk) ?_
  refine br_f (by decide) (br_f (by decide) ?_)
  unfold wY_goOn_34
  refine br_f (by decide) (br_f (by decide) ?_)
  unfold wY_goOn_89
  exact br_f (by decide) (br_f (by decide) (br_t rfl h))
theorem yg_r {post : SY → Prop} {w K : Int32} (hW : dh_W1 c' b' L a) (hL : L ≤ 64) (ha : a < L) (hk : c' a = K) (hK : K = 1 ∨ K = 2 ∨ K = 3 ∨ K = 8) (h : post (nI L, d, w, ee, y, c', b', R, H, C, S)) : wpY_goOn post (nI L, d, nI a, ee, y, c', b', R, H, C, S) K w := by
  have n0 : ¬ K = 0 := by rcases hK with z | z | z | z <;> rw [z] <;> decide
  have n4 : ¬ K = 4 := by rcases hK with z | z | z | z <;> rw [z] <;> decide
  have n5 : ¬ K = 5 := by rcases hK with z | z | z | z <;> rw [z] <;> decide
  have n6 : ¬ K = 6 := by rcases hK with z | z | z | z <;> rw [z] <;> decide
  have n7 : ¬ K = 7 := by rcases hK with z | z | z | z <;> rw [z] <;> decide
  unfold wpY_goOn
  dsimp only
  refine yt_f hW hL ha (by rw [hk]; exact fun z => by rcases z with z | z | z <;> contradiction) ?_
  refine br_f n0 (br_f n7 ?_)
  unfold wY_goOn_34
  refine br_f n7 (br_f n6 ?_)
  unfold wY_goOn_89
  exact br_f n6 (br_f n5 (br_f n4 h))
/-! Y's execute, behind the count -/
theorem ye_1 {post : SY → Prop} {K : Int32} (hW : dh_W1 c' b' L a) (hL : L ≤ 64) (ha : a < L) (hk : c' a = K) (hz : dh_sz K = 1) (h : wY_execute_69 post K (nI (a + 1)) 0 (nI L) d (nI a) ee y c' b' R H C S) : wY_execute_25 post (nI L) d (nI a) ee y c' b' R H C S := by
  unfold wY_execute_25
  rw [nI_clamp (by omega)]
  refine ⟨vp_in_nI (by omega) (by decide), nm_r hk ?_⟩
  refine yn_x hW hL ?_
  rw [hk, hz, pk_sub (by omega), Nat.add_sub_cancel_left]
  exact br_t (by decide) h
theorem ye_2 {post : SY → Prop} {K : Int32} {s : Nat} (hW : dh_W1 c' b' L a) (hL : L ≤ 64) (ha : a < L) (hk : c' a = K) (hz : dh_sz K = s) (h2 : 2 ≤ s) (h : wY_execute_69 post K (nI (a + s)) (c' (a + 1)) (nI L) d (nI a) ee y c' b' R H C S) : wY_execute_25 post (nI L) d (nI a) ee y c' b' R H C S := by
  have h1 := hW.1
  have hp := dh_sz_pos K
  rw [hk, hz] at h1
  unfold wY_execute_25
  rw [nI_clamp (by omega)]
  refine ⟨vp_in_nI (by omega) (by decide), nm_r hk ?_⟩
  refine yn_x hW hL ?_
  rw [hk, hz, pk_sub (by omega), Nat.add_sub_cancel_left, nI_1 a, nI_clamp (by omega)]
  exact br_f (fun z => absurd ((nI_eq (b := 1) (by omega) (by decide)).mp z) (by omega)) ⟨vp_in_nI (by omega) (by decide), h⟩
theorem ye_n {post : SY → Prop} {K w z : Int32} (h1 : ¬ K = 1) (h2 : ¬ K = 2) (h3 : ¬ K = 3) (h8 : ¬ K = 8) (h : wpY_goOn (fun u => post u) (nI L, d, nI a, ee, y, c', b', R, H, C, S) K w) : wY_execute_69 post K w z (nI L) d (nI a) ee y c' b' R H C S := by
  unfold wY_execute_69
  refine nm_e (br_f h1 (br_f h2 (br_f h3 (br_f h8 ?_))))
  unfold wY_execute_160
  exact h
end DHF
