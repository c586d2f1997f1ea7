section DHD
variable {d p e x q ey xy hy : Int32} {c b R S H C c' b' R' C' S' : Nat → Int32} {L n : Nat}
def i_Rel (_ : Nat) (u : SX) (v : SY) : Prop := ∃ (L n : Nat) (d p e x : Int32) (c b R S H C c' b' : Nat → Int32), u = (nI L, nI n, d, p, e, x, c, b, R, S, H, C) ∧ v = (nI L, d, p, e, x, c', b', R, H, C, S) ∧ dh_Lay L c b c' b' ∧ n = dh_cnt H 64 ∧ n ≤ 4
theorem i_up {k : Nat} {u : SX} {v : SY} (h : i_Rel k u v) : i_Rel (k + 3) u v := h
/-! what an append makes -/
def dh_ap (c : Nat → Int32) (L : Nat) (k s t : Int32) : Nat → Int32 := if dh_sz k = 1 then upd c L k else if dh_sz k = 2 then upd (upd c L k) (L + 1) s else upd (upd (upd c L k) (L + 1) s) (L + 2) t
def dh_bp (b : Nat → Int32) (L : Nat) (k : Int32) : Nat → Int32 := if dh_sz k = 1 then upd b L 1 else if dh_sz k = 2 then upd (upd b L 1) (L + 1) 0 else upd (upd (upd b L 1) (L + 1) 0) (L + 2) 0
theorem dh_sz3 (k : Int32) : dh_sz k = 1 ∨ dh_sz k = 2 ∨ dh_sz k = 3 := by
  have := dh_sz_pos k
  omega
theorem ap_e1 {k s t : Int32} (h : dh_sz k = 1) : dh_ap c L k s t = upd c L k := if_pos h
theorem ap_e2 {k s t : Int32} (h : dh_sz k = 2) : dh_ap c L k s t = upd (upd c L k) (L + 1) s := by
  unfold dh_ap
  rw [if_neg (by omega), if_pos h]
theorem ap_e3 {k s t : Int32} (h : dh_sz k = 3) : dh_ap c L k s t = upd (upd (upd c L k) (L + 1) s) (L + 2) t := by
  unfold dh_ap
  rw [if_neg (by omega), if_neg (by omega)]
theorem bp_e1 {k : Int32} (h : dh_sz k = 1) : dh_bp b L k = upd b L 1 := if_pos h
theorem bp_e2 {k : Int32} (h : dh_sz k = 2) : dh_bp b L k = upd (upd b L 1) (L + 1) 0 := by
  unfold dh_bp
  rw [if_neg (by omega), if_pos h]
theorem bp_e3 {k : Int32} (h : dh_sz k = 3) : dh_bp b L k = upd (upd (upd b L 1) (L + 1) 0) (L + 2) 0 := by
  unfold dh_bp
  rw [if_neg (by omega), if_neg (by omega)]
theorem ap_lo {k s t : Int32} {j : Nat} (hj : j < L) : dh_ap c L k s t j = c j := by
  rcases dh_sz3 k with h | h | h
  · rw [ap_e1 h, pk_un (by omega)]
  · rw [ap_e2 h, pk_un (by omega), pk_un (by omega)]
  · rw [ap_e3 h, pk_un (by omega), pk_un (by omega), pk_un (by omega)]
theorem ap_0 {k s t : Int32} : dh_ap c L k s t L = k := by
  rcases dh_sz3 k with h | h | h
  · rw [ap_e1 h, pk_us]
  · rw [ap_e2 h, pk_un (by omega), pk_us]
  · rw [ap_e3 h, pk_un (by omega), pk_un (by omega), pk_us]
theorem ap_1 {k s t : Int32} (h2 : 2 ≤ dh_sz k) : dh_ap c L k s t (L + 1) = s := by
  rcases dh_sz3 k with h | h | h
  · omega
  · rw [ap_e2 h, pk_us]
  · rw [ap_e3 h, pk_un (by omega), pk_us]
theorem ap_2 {k s t : Int32} (h2 : 3 ≤ dh_sz k) : dh_ap c L k s t (L + 2) = t := by
  rcases dh_sz3 k with h | h | h
  · omega
  · omega
  · rw [ap_e3 h, pk_us]
theorem bp_lo {k : Int32} {j : Nat} (hj : j < L) : dh_bp b L k j = b j := by
  rcases dh_sz3 k with h | h | h
  · rw [bp_e1 h, pk_un (by omega)]
  · rw [bp_e2 h, pk_un (by omega), pk_un (by omega)]
  · rw [bp_e3 h, pk_un (by omega), pk_un (by omega), pk_un (by omega)]
theorem bp_0 {k : Int32} : dh_bp b L k L = 1 := by
  rcases dh_sz3 k with h | h | h
  · rw [bp_e1 h, pk_us]
  · rw [bp_e2 h, pk_un (by omega), pk_us]
  · rw [bp_e3 h, pk_un (by omega), pk_un (by omega), pk_us]
theorem bp_1 {k : Int32} (h2 : 2 ≤ dh_sz k) : dh_bp b L k (L + 1) = 0 := by
  rcases dh_sz3 k with h | h | h
  · omega
  · rw [bp_e2 h, pk_us]
  · rw [bp_e3 h, pk_un (by omega), pk_us]
theorem bp_2 {k : Int32} (h2 : 3 ≤ dh_sz k) : dh_bp b L k (L + 2) = 0 := by
  rcases dh_sz3 k with h | h | h
  · omega
  · omega
  · rw [bp_e3 h, pk_us]
theorem dh_Lay_a {k s t : Int32} (h : dh_Lay L c b c' b') (h6 : L + dh_sz k ≤ 64) (ho : dh_OK k s) : dh_Lay (L + dh_sz k) (dh_ap c L k s t) (upd b L 1) (dh_ap c' L k s t) (dh_bp b' L k) := by
  have hp := dh_sz_pos k
  have ho' : dh_OK (dh_ap c L k s t L) (dh_ap c L k s t (L + 1)) := by
    rw [ap_0]
    exact dh_OK_c ho fun h2 => ap_1 h2
  refine ⟨dh_WF_a h.1 (by rw [ap_0]) h6 (fun j hj => ⟨ap_lo hj, pk_un (by omega)⟩) (by rw [pk_us]; decide) (fun j hj hj2 => ?_) ho', fun j hj => ?_, fun j hj hj2 => ?_⟩
  · rw [pk_un (by omega)]
    exact h.2.2 j (by omega) (by omega)
  · by_cases h0 : j < L
    · rw [ap_lo h0, ap_lo h0, bp_lo h0, pk_un (by omega)]
      exact h.2.1 j h0
    · by_cases h1 : j = L
      · subst h1
        rw [ap_0, ap_0, bp_0, pk_us]
        exact ⟨rfl, rfl⟩
      · by_cases h2 : j = L + 1
        · subst h2
          rw [ap_1 (by omega), ap_1 (by omega), bp_1 (by omega), pk_un (by omega), h.2.2 _ (by omega) (by omega)]
          exact ⟨rfl, rfl⟩
        · have h3 : j = L + 2 := by omega
          subst h3
          rw [ap_2 (by omega), ap_2 (by omega), bp_2 (by omega), pk_un (by omega), h.2.2 _ (by omega) (by omega)]
          exact ⟨rfl, rfl⟩
  · rw [pk_un (by omega)]
    exact h.2.2 j (by omega) hj2
/-! X's append -/
theorem xp_h {post : Int32 → SX → Prop} {k s t : Int32} (hn : 0 < n) (h4 : n ≤ 4) (h : post (-3) (nI L, nI n, d, p, e, x, c, b, R, S, H, C)) : wpX_append post (nI L, nI n, d, p, e, x, c, b, R, S, H, C) k s t := by
  unfold wpX_append
  dsimp only
  exact br_f (nI_nle hn (by omega)) h
theorem xp_f {post : Int32 → SX → Prop} {k s t : Int32} (hL : L ≤ 64) (h6 : 64 < L + dh_sz k) (h : post (-2) (nI L, nI 0, d, p, e, x, c, b, R, S, H, C)) : wpX_append post (nI L, nI 0, d, p, e, x, c, b, R, S, H, C) k s t := by
  have hp := dh_sz_pos k
  unfold wpX_append
  dsimp only
  refine br_t (by decide) ?_
  refine xz_s k ?_
  rw [nI_add]
  exact br_f (nI_ge (a := 64) h6 (by omega)) h
theorem xp_s {post : Int32 → SX → Prop} {k s t : Int32} (h6 : L + dh_sz k ≤ 64) (h : post (nI L) (nI (L + dh_sz k), nI 0, d, p, e, x, dh_ap c L k s t, upd b L 1, R, S, H, C)) : wpX_append post (nI L, nI 0, d, p, e, x, c, b, R, S, H, C) k s t := by
  have hp := dh_sz_pos k
  unfold wpX_append
  dsimp only
  refine br_t (by decide) ?_
  refine xz_s k ?_
  rw [nI_add, nI_clamp (by omega), dh_b1]
  refine br_t (nI_le (b := 64) h6 (by decide)) ⟨vp_in_nI (by omega) (by decide), nm_e ⟨vp_in_nI (by omega) (by decide), nm_e ?_⟩⟩
  rcases dh_sz3 k with z | z | z
  · rw [ap_e1 z, z] at h
    rw [z]
    refine br_t (by decide) ?_
    unfold wX_append_67
    exact br_t (by decide) (nm_r (nI_add _ _) h)
  · rw [ap_e2 z, z] at h
    rw [z, nI_1, nI_clamp (by omega)]
    refine br_f (by decide) ⟨vp_in_nI (by omega) (by decide), nm_e ?_⟩
    unfold wX_append_67
    exact br_t (by decide) (nm_r (nI_add _ _) h)
  · rw [ap_e3 z, z] at h
    rw [z, nI_1, nI_clamp (by omega)]
    refine br_f (by decide) ⟨vp_in_nI (by omega) (by decide), nm_e ?_⟩
    unfold wX_append_67
    have e2 : nI L + 2 = nI (L + 2) := nI_add L 2
    rw [e2, nI_clamp (by omega)]
    exact br_f (by decide) ⟨vp_in_nI (by omega) (by decide), nm_e (nm_r (nI_add _ _) h)⟩
/-! Y's append -/
theorem yl_e {post : Int32 → SY → Prop} {z i m M : Nat} {k s t w : Int32} (hi : z ≤ i) (h3 : i ≤ 3) (h : post w (nI M, hy, q, ey, xy, c', b', R', H, C', S')) : wY_append_33 post (nI z) k s t w hy q ey xy (m + 1) (nI i) (nI M) c' b' R' H C' S' := by
  unfold wY_append_33
  exact br_t (nI_le hi (by omega)) h
theorem yl_0 {post : Int32 → SY → Prop} {z m M : Nat} {k s t w : Int32} (hz : 0 < z) (h3 : z ≤ 3) (hM : M < 64) (h : wY_append_33 post (nI z) k s t w hy q ey xy m (nI 1) (nI (M + 1)) (upd c' M k) (upd b' M 1) R' H C' S') : wY_append_33 post (nI z) k s t w hy q ey xy (m + 1) (nI 0) (nI M) c' b' R' H C' S' := by
  unfold wY_append_33
  refine br_f (nI_ge hz (by omega)) (br_t nI_0 ?_)
  unfold wY_append_76
  rw [nI_clamp (by omega)]
  refine ⟨vp_in_nI hM (by decide), nm_e (br_t nI_0 ?_)⟩
  unfold wY_append_95
  rw [nI_clamp (by omega), dh_b1]
  exact ⟨vp_in_nI hM (by decide), nm_e (nm_r (nI_1 _) (nm_r (nI_1 _) h))⟩
theorem yl_1 {post : Int32 → SY → Prop} {z m M : Nat} {k s t w : Int32} (hz : 1 < z) (h3 : z ≤ 3) (hM : M < 64) (h : wY_append_33 post (nI z) k s t w hy q ey xy m (nI 2) (nI (M + 1)) (upd c' M (s &&& 255)) (upd b' M 0) R' H C' S') : wY_append_33 post (nI z) k s t w hy q ey xy (m + 1) (nI 1) (nI M) c' b' R' H C' S' := by
  unfold wY_append_33
  refine br_f (nI_ge hz (by omega)) (br_f (by decide) (br_t (by decide) ?_))
  unfold wY_append_76
  rw [nI_clamp (by omega)]
  refine ⟨vp_in_nI hM (by decide), nm_e (br_f (by decide) ?_)⟩
  unfold wY_append_95
  rw [nI_clamp (by omega), dh_b0]
  exact ⟨vp_in_nI hM (by decide), nm_e (nm_r (nI_1 _) (nm_r (nI_1 _) h))⟩
theorem yl_2 {post : Int32 → SY → Prop} {z m M : Nat} {k s t w : Int32} (hz : 2 < z) (h3 : z ≤ 3) (hM : M < 64) (h : wY_append_33 post (nI z) k s t w hy q ey xy m (nI 3) (nI (M + 1)) (upd c' M (t &&& 255)) (upd b' M 0) R' H C' S') : wY_append_33 post (nI z) k s t w hy q ey xy (m + 1) (nI 2) (nI M) c' b' R' H C' S' := by
  unfold wY_append_33
  refine br_f (nI_ge hz (by omega)) (br_f (by decide) (br_f (by decide) ?_))
  unfold wY_append_76
  rw [nI_clamp (by omega)]
  refine ⟨vp_in_nI hM (by decide), nm_e (br_f (by decide) ?_)⟩
  unfold wY_append_95
  rw [nI_clamp (by omega), dh_b0]
  exact ⟨vp_in_nI hM (by decide), nm_e (nm_r (nI_1 _) (nm_r (nI_1 _) h))⟩
theorem yp_h {post : Int32 → SY → Prop} {k s t z : Int32} (hn : 0 < dh_cnt H 64) (h : post (-3) (nI L, hy, q, ey, xy, c', b', R', H, C', S')) : wpY_append post (nI L, hy, q, ey, xy, c', b', R', H, C', S') z k s t := by
  have hc := dh_cnt_le H 64
  unfold wpY_append
  dsimp only
  refine yh_s ?_
  exact br_f (nI_nle hn (by omega)) h
theorem yp_f {post : Int32 → SY → Prop} {k s t : Int32} (hn : dh_cnt H 64 = 0) (hL : L ≤ 64) (h6 : 64 < L + dh_sz k) (h : post (-2) (nI L, hy, q, ey, xy, c', b', R', H, C', S')) : wpY_append post (nI L, hy, q, ey, xy, c', b', R', H, C', S') (nI (dh_sz k)) k s t := by
  have hp := dh_sz_pos k
  unfold wpY_append
  dsimp only
  refine yh_s ?_
  rw [hn, nI_add]
  exact br_t (by decide) (br_f (nI_ge (a := 64) h6 (by omega)) h)
theorem yp_s {post : Int32 → SY → Prop} {k s t : Int32} (hn : dh_cnt H 64 = 0) (h6 : L + dh_sz k ≤ 64) (h : post (nI L) (nI (L + dh_sz k), hy, q, ey, xy, dh_ap c' L k (s &&& 255) (t &&& 255), dh_bp b' L k, R', H, C', S')) : wpY_append post (nI L, hy, q, ey, xy, c', b', R', H, C', S') (nI (dh_sz k)) k s t := by
  have hp := dh_sz_pos k
  unfold wpY_append
  dsimp only
  refine yh_s ?_
  rw [hn, nI_add]
  refine br_t (by decide) (br_t (nI_le (b := 64) h6 (by decide)) ?_)
  rcases dh_sz3 k with z | z | z
  · rw [ap_e1 z, bp_e1 z, z] at h
    rw [z]
    exact ⟨2, yl_0 (by omega) (by omega) (by omega) (yl_e (by omega) (by omega) h)⟩
  · rw [ap_e2 z, bp_e2 z, z] at h
    rw [z]
    exact ⟨3, yl_0 (by omega) (by omega) (by omega) (yl_1 (by omega) (by omega) (by omega) (yl_e (by omega) (by omega) h))⟩
  · rw [ap_e3 z, bp_e3 z, z] at h
    rw [z]
    exact ⟨4, yl_0 (by omega) (by omega) (by omega) (yl_1 (by omega) (by omega) (by omega) (yl_2 (by omega) (by omega) (by omega) (yl_e (by omega) (by omega) h)))⟩
theorem ap_b {k s t s' t' z : Int32} (kk : Nat) (hI : dh_Lay L c b c' b') (hn : n = dh_cnt H 64) (h4 : n ≤ 4) (ho : dh_OK k s) (hs : s' &&& 255 = s) (ht : t' &&& 255 = t) (hz : z = nI (dh_sz k)) :
    ∃ (r : Int32) (u' : SX) (v' : SY), i_Rel kk u' v' ∧ (∀ post : Int32 → SX → Prop, post r u' → wpX_append post (nI L, nI n, d, p, e, x, c, b, R, S, H, C) k s t) ∧ (∀ post : Int32 → SY → Prop, post r v' → wpY_append post (nI L, d, p, e, x, c', b', R, H, C, S) z k s' t') := by
  have hL := hI.1.1
  subst hz
  by_cases h0 : 0 < n
  · exact ⟨-3, (nI L, nI n, d, p, e, x, c, b, R, S, H, C), (nI L, d, p, e, x, c', b', R, H, C, S), ⟨L, n, d, p, e, x, c, b, R, S, H, C, c', b', rfl, rfl, hI, hn, h4⟩, fun post h => xp_h h0 h4 h, fun post h => yp_h (by omega) h⟩
  · have h00 : n = 0 := by omega
    subst h00
    by_cases h6 : L + dh_sz k ≤ 64
    · refine ⟨nI L, (nI (L + dh_sz k), nI 0, d, p, e, x, dh_ap c L k s t, upd b L 1, R, S, H, C), (nI (L + dh_sz k), d, p, e, x, dh_ap c' L k s t, dh_bp b' L k, R, H, C, S), ⟨L + dh_sz k, 0, d, p, e, x, _, _, R, S, H, C, _, _, rfl, rfl, dh_Lay_a hI h6 ho, hn, h4⟩, fun post h => xp_s h6 h, fun post h => yp_s hn.symm h6 ?_⟩
      rw [hs, ht]
      exact h
    · exact ⟨-2, (nI L, nI 0, d, p, e, x, c, b, R, S, H, C), (nI L, d, p, e, x, c', b', R, H, C, S), ⟨L, 0, d, p, e, x, c, b, R, S, H, C, c', b', rfl, rfl, hI, hn, h4⟩, fun post h => xp_f hL (by omega) h, fun post h => yp_f hn.symm hL (by omega) h⟩
end DHD
