section DHB
variable {hc d p e x q ey xy hy : Int32} {c b R S H C c' b' R' H' C' S' : Nat → Int32}
theorem dh_10 : ¬ (1 : Int32) = 0 := by decide
theorem dh_b1 : vp_nar .boolean 1 = 1 := by decide
theorem dh_b0 : vp_nar .boolean 0 = 0 := by decide
theorem dh_ge {v : Int32} {n : Nat} (h : nI (n + 1) ≤ v) (hn : n + 1 < 2 ^ 31) : nI n < v := by
  rw [Int32.le_iff_toInt_le, nI_toInt hn] at h
  rw [Int32.lt_iff_toInt_lt, nI_toInt (by omega)]
  omega
theorem dh_s1 {n : Nat} (h : 0 < n) : nI n - 1 = nI (n - 1) := by
  obtain ⟨m, rfl⟩ : ∃ m, n = m + 1 := ⟨n - 1, by omega⟩
  exact nI_pred m
/-! X's small methods -/
theorem xa_t {post : Int32 → Prop} {a : Nat} (ha : a < 64) (h : post 1) : wpX_isAddress post (nI a) :=
  br_f (nI_pos (by omega)) (br_f (nI_ge (b := 64) ha (by decide)) h)
theorem xa_f {post : Int32 → Prop} {v : Int32} (hv : v < 0 ∨ nI 64 ≤ v) (h : post 0) : wpX_isAddress post v := by
  rcases hv with hv | hv
  · exact br_t hv h
  · exact br_c (fun _ => h) (fun _ => br_t hv h)
theorem xr_t {post : Int32 → Prop} {a : Nat} (ha : a < 4) (h : post 1) : wpX_isRegister post (nI a) :=
  br_f (nI_pos (by omega)) (br_f (nI_ge (b := 4) ha (by decide)) h)
theorem xr_f {post : Int32 → Prop} {v : Int32} (hv : v < 0 ∨ nI 4 ≤ v) (h : post 0) : wpX_isRegister post v := by
  rcases hv with hv | hv
  · exact br_t hv h
  · exact br_c (fun _ => h) (fun _ => br_t hv h)
theorem xz_s {post : Int32 → Prop} (k : Int32) (h : post (nI (dh_sz k))) : wpX_sizeOf post k := by
  unfold dh_sz at h
  by_cases h0 : k = 0
  · rw [if_pos h0] at h; exact br_t h0 h
  · rw [if_neg h0] at h
    by_cases h7 : k = 7
    · rw [if_pos h7] at h; exact br_f h0 (br_t h7 h)
    · rw [if_neg h7] at h
      by_cases h5 : k = 5
      · rw [if_pos h5] at h; exact br_f h0 (br_f h7 (br_t h5 h))
      · rw [if_neg h5] at h; exact br_f h0 (br_f h7 (br_f h5 h))
theorem xb_t {post : Int32 → Prop} {lx : Int32} {a : Nat} (ha : a < 64) (hb : b a ≠ 0) (h : post 1) : wpX_beginsAt post (lx, hc, d, p, e, x, c, b, R, S, H, C) (nI a) := by
  unfold wpX_beginsAt
  dsimp only
  refine xa_t ha ?_
  refine br_f dh_10 ⟨vp_in_nI ha (by decide), ?_⟩
  rw [nI_clamp (by omega)]
  exact br_f hb h
theorem xb_f {post : Int32 → Prop} {lx : Int32} {a : Nat} (hb : a < 64 → b a = 0) (ha : a < 2 ^ 31) (h : post 0) : wpX_beginsAt post (lx, hc, d, p, e, x, c, b, R, S, H, C) (nI a) := by
  unfold wpX_beginsAt
  dsimp only
  by_cases h6 : a < 64
  · refine xa_t h6 ?_
    refine br_f dh_10 ⟨vp_in_nI h6 (by decide), ?_⟩
    rw [nI_clamp (by omega)]
    exact br_t (hb h6) h
  · refine xa_f (Or.inr (nI_le (by omega) ha)) ?_
    exact br_t rfl h
theorem xb_o {post : Int32 → Prop} {lx v : Int32} (hv : v < 0 ∨ nI 64 ≤ v) (h : post 0) : wpX_beginsAt post (lx, hc, d, p, e, x, c, b, R, S, H, C) v := by
  unfold wpX_beginsAt
  dsimp only
  refine xa_f hv ?_
  exact br_t rfl h
theorem xy_t {post : Int32 → Prop} {lx : Int32} {a : Nat} (ha : a < 64) (h : post (c a)) : wpX_byteAt post (lx, hc, d, p, e, x, c, b, R, S, H, C) (nI a) := by
  unfold wpX_byteAt
  dsimp only
  refine xa_t ha ?_
  refine br_f dh_10 ⟨vp_in_nI ha (by decide), ?_⟩
  rw [nI_clamp (by omega)]
  exact h
def dh_tg (n : Nat) (r : Int32) : Int32 := if 128 ≤ r then nI n + r - 256 else nI n + r
theorem xt_g {post : Int32 → Prop} {lx : Int32} {a : Nat} (ha : a < 64) (hn : a + dh_sz (c a) ≤ 64) (h : post (dh_tg (a + dh_sz (c a)) (c (a + dh_sz (c a) - 1)))) : wpX_targetOf post (lx, hc, d, p, e, x, c, b, R, S, H, C) (nI a) := by
  have hp := dh_sz_pos (c a)
  unfold wpX_targetOf
  dsimp only
  refine xy_t ha ?_
  refine xz_s _ ?_
  refine nm_r (nI_add _ _) ?_
  rw [dh_s1 (by omega)]
  refine xy_t (by omega) ?_
  unfold dh_tg at h
  by_cases hr : 128 ≤ c (a + dh_sz (c a) - 1)
  · rw [if_pos hr] at h; exact br_t hr h
  · rw [if_neg hr] at h; exact br_f hr h
theorem xh_t {post : Int32 → Prop} {k : Int32} (hk : k = 4 ∨ k = 5 ∨ k = 6) (h : post 1) : wpX_hasTarget post k := by
  rcases hk with hk | hk | hk
  · exact br_t hk h
  · exact br_f (by rw [hk]; decide) (br_t hk h)
  · exact br_f (by rw [hk]; decide) (br_f (by rw [hk]; decide) (br_t hk h))
theorem xh_f {post : Int32 → Prop} {k : Int32} (hk : ¬ (k = 4 ∨ k = 5 ∨ k = 6)) (h : post 0) : wpX_hasTarget post k :=
  br_f (fun z => hk (Or.inl z)) (br_f (fun z => hk (Or.inr (Or.inl z))) (br_f (fun z => hk (Or.inr (Or.inr z))) h))
/-! Y's small methods -/
theorem yr_t {post : Int32 → Prop} {v : SY} {a : Nat} (ha : a < 4) (h : post 1) : wpY_isRegister post v (nI a) :=
  br_f (nI_pos (by omega)) (br_f (nI_nlt (a := 3) (by omega) (by decide)) h)
theorem yr_f {post : Int32 → Prop} {v : SY} {r : Int32} (hv : r < 0 ∨ nI 4 ≤ r) (h : post 0) : wpY_isRegister post v r := by
  rcases hv with hv | hv
  · exact br_t hv h
  · exact br_c (fun _ => h) (fun _ => br_t (dh_ge (n := 3) hv (by decide)) h)
theorem ys_t {post : Int32 → Prop} {L a : Nat} (ha : a < L) (hL : L ≤ 64) (hb : b' a ≠ 0) (h : post 1) : wpY_starts post (nI L, hy, q, ey, xy, c', b', R', H', C', S') (nI a) := by
  unfold wpY_starts
  dsimp only
  refine br_f (nI_pos (by omega)) (br_f (nI_ge ha (by omega)) ⟨vp_in_nI (by omega) (by decide), ?_⟩)
  rw [nI_clamp (by omega)]
  exact br_f hb h
theorem ys_f {post : Int32 → Prop} {L a : Nat} (ha : a < L → b' a = 0) (hL : L ≤ 64) (h6 : a < 2 ^ 31) (h : post 0) : wpY_starts post (nI L, hy, q, ey, xy, c', b', R', H', C', S') (nI a) := by
  unfold wpY_starts
  dsimp only
  refine br_f (nI_pos (by omega)) ?_
  by_cases hl : a < L
  · refine br_f (nI_ge hl (by omega)) ⟨vp_in_nI (by omega) (by decide), ?_⟩
    rw [nI_clamp (by omega)]
    exact br_t (ha hl) h
  · exact br_t (nI_le (by omega) h6) h
theorem ys_o {post : Int32 → Prop} {L : Nat} {v : Int32} (hL : L ≤ 64) (hv : v < 0 ∨ nI 64 ≤ v) (h : post 0) : wpY_starts post (nI L, hy, q, ey, xy, c', b', R', H', C', S') v := by
  unfold wpY_starts
  dsimp only
  rcases hv with hv | hv
  · exact br_t hv h
  · exact br_c (fun _ => h) (fun _ => br_t (Int32.le_trans (nI_le hL (by decide)) hv) h)
theorem yn_l {post : Int32 → Prop} {L a : Nat} (hW : dh_W1 c' b' L a) (hL : L ≤ 64) (h : post (nI (a + dh_sz (c' a)))) :
    ∀ n j, a < j → j ≤ a + dh_sz (c' a) → a + dh_sz (c' a) - j < n → wY_nextOf_4 post (nI L) hy q ey xy c' b' R' H' C' S' n (nI j) := by
  obtain ⟨h1, h2, h3, h4⟩ := hW
  intro n
  induction n with
  | zero => intro j _ _ hn; omega
  | succ n ih =>
    intro j hj hj2 hn
    unfold wY_nextOf_4
    by_cases hl : L ≤ j
    · have e : j = a + dh_sz (c' a) := by omega
      rw [e]
      rw [e] at hl
      exact br_t (nI_le hl (by omega)) h
    · refine br_f (nI_ge (by omega) (by omega)) ⟨vp_in_nI (by omega) (by decide), ?_⟩
      rw [nI_clamp (by omega)]
      by_cases e : j = a + dh_sz (c' a)
      · rw [e]
        rw [e] at hl
        exact br_f (h3 (by omega)) h
      · exact br_t (h2 j hj (by omega)) (nm_r (nI_1 _) (ih (j + 1) (by omega) (by omega) (by omega)))
theorem yn_x {post : Int32 → Prop} {L a : Nat} (hW : dh_W1 c' b' L a) (hL : L ≤ 64) (h : post (nI (a + dh_sz (c' a)))) : wpY_nextOf post (nI L, hy, q, ey, xy, c', b', R', H', C', S') (nI a) := by
  have hp := dh_sz_pos (c' a)
  unfold wpY_nextOf
  dsimp only
  refine nm_r (nI_1 _) ⟨4, ?_⟩
  exact yn_l hW hL h 4 (a + 1) (by omega) (by omega) (by omega)
theorem yt_t {post : Int32 → Prop} {L a : Nat} (hW : dh_W1 c' b' L a) (hL : L ≤ 64) (ha : a < L) (hk : c' a = 4 ∨ c' a = 5 ∨ c' a = 6) (h : post (dh_tg (a + dh_sz (c' a)) (c' (a + dh_sz (c' a) - 1)))) : wpY_targetOf post (nI L, hy, q, ey, xy, c', b', R', H', C', S') (nI a) := by
  have hp := dh_sz_pos (c' a)
  have h4 : ¬ c' a < 4 := by rcases hk with hk | hk | hk <;> rw [hk] <;> decide
  have h6 : c' a ≤ 6 := by rcases hk with hk | hk | hk <;> rw [hk] <;> decide
  have hW' := hW.1
  unfold wpY_targetOf
  dsimp only
  rw [nI_clamp (by omega)]
  refine ⟨vp_in_nI (by omega) (by decide), br_f h4 ⟨vp_in_nI (by omega) (by decide), br_t h6 ?_⟩⟩
  refine yn_x hW hL ?_
  rw [dh_s1 (by omega), nI_clamp (by omega)]
  refine ⟨vp_in_nI (by omega) (by decide), nm_e ?_⟩
  unfold dh_tg at h
  by_cases hr : 128 ≤ c' (a + dh_sz (c' a) - 1)
  · rw [if_pos hr] at h
    refine br_f (fun z => absurd ((dh_rel _).mpr z) (Int32.not_lt.mpr hr)) ?_
    rw [dh_tgt]
    exact h
  · rw [if_neg hr] at h
    exact br_t ((dh_rel _).mp (Int32.not_le.mp hr)) h
theorem dh_OK_nt {k y : Int32} (h : dh_OK k y) (hk : ¬ (k = 4 ∨ k = 5 ∨ k = 6)) : k < 4 ∨ (¬ k < 4 ∧ ¬ k ≤ 6) := by
  rcases h with h | h | h | h | ⟨h, o, ho, hy⟩ | ⟨h, o, ho, hy⟩ | ⟨h, o, ho, hy⟩
  · left; rw [h]; decide
  · right; rw [h]; decide
  · exact absurd (Or.inl h) hk
  · exact absurd (Or.inr (Or.inr h)) hk
  · exact absurd (Or.inr (Or.inl h)) hk
  · rcases h with h | h | h
    · left; rw [h]; decide
    · left; rw [h]; decide
    · right; rw [h]; decide
  · left; rw [h]; decide
theorem yt_f {post : Int32 → Prop} {L a : Nat} (hW : dh_W1 c' b' L a) (hL : L ≤ 64) (ha : a < L) (hk : ¬ (c' a = 4 ∨ c' a = 5 ∨ c' a = 6)) (h : post (-1000)) : wpY_targetOf post (nI L, hy, q, ey, xy, c', b', R', H', C', S') (nI a) := by
  unfold wpY_targetOf
  dsimp only
  rw [nI_clamp (by omega)]
  rcases dh_OK_nt hW.2.2.2 hk with h4 | ⟨h4, h6⟩
  · exact ⟨vp_in_nI (by omega) (by decide), br_t h4 h⟩
  · exact ⟨vp_in_nI (by omega) (by decide), br_f h4 ⟨vp_in_nI (by omega) (by decide), br_f h6 h⟩⟩
theorem yh_l {post : Int32 → Prop} {ly : Int32} (h : post (nI (dh_cnt H' 64))) : ∀ dd j, j + dd = 64 → wY_hooks_4 post ly hy q ey xy c' b' R' H' C' S' (dd + 1) (nI (dh_cnt H' j)) (nI j) := by
  intro dd
  induction dd with
  | zero =>
    intro j hj
    have e : j = 64 := by omega
    subst e
    unfold wY_hooks_4
    exact br_t (nI_le (a := 64) (Nat.le_refl _) (by decide)) h
  | succ dd ih =>
    intro j hj
    unfold wY_hooks_4
    refine br_f (nI_ge (b := 64) (by omega) (by decide)) ⟨vp_in_nI (by omega) (by decide), ?_⟩
    rw [nI_clamp (by omega)]
    have i := ih (j + 1) (by omega)
    rw [dh_cnt_s] at i
    by_cases z : H' j = 0
    · rw [if_pos z] at i
      exact br_t z (nm_r (nI_1 _) i)
    · rw [if_neg z] at i
      exact br_f z (nm_r (nI_1 _) (nm_r (nI_1 _) i))
theorem yh_s {post : Int32 → Prop} {ly : Int32} (h : post (nI (dh_cnt H' 64))) : wpY_hooks post (ly, hy, q, ey, xy, c', b', R', H', C', S') := by
  unfold wpY_hooks
  dsimp only
  exact ⟨65, yh_l h 64 0 rfl⟩
end DHB
