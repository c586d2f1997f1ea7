section DHC
variable {hc d p e x q ey xy hy : Int32} {c b R S H C c' b' R' C' S' : Nat → Int32} {L : Nat}
/-- what the two codes have in common -/
def dh_Lay (L : Nat) (c b c' b' : Nat → Int32) : Prop := dh_WF c b L ∧ (∀ j, j < L → c' j = c j ∧ b' j = b j) ∧ (∀ j, L ≤ j → j < 64 → b j = 0)
theorem dh_Lay_w {a : Nat} (h : dh_Lay L c b c' b') (ha : a < L) (hb : b a ≠ 0) : L ≤ 64 ∧ dh_W1 c b L a ∧ dh_W1 c' b' L a ∧ c' a = c a ∧ b' a ≠ 0 := by
  have e := h.2.1 a ha
  have hb' : b' a ≠ 0 := by rw [e.2]; exact hb
  exact ⟨h.1.1, h.1.2 a ha hb, (dh_WF_c h.1 h.2.1).2 a ha hb', e.1, hb'⟩
theorem hd_l {a : Nat} (hI : dh_Lay L c b c' b') (ha : a < 64) : ∀ dd i s, i + dd = 3 → s ≤ 3 * i → a + s ≤ L → (a + s < L → b (a + s) ≠ 0) →
    ∃ r : Nat, r ≤ 9 ∧ (∀ post : Int32 → Prop, post (nI r) → wX_headSize_4 post (nI a) (nI L) hc d p e x c b R S H C (dd + 1) (nI s) (nI i)) ∧ (∀ post : Int32 → Prop, post (nI r) → wY_headOf_14 post (nI a) (nI L) hy q ey xy c' b' R' H C' S' (dd + 1) (nI (a + s)) (nI i)) := by
  have hL := hI.1.1
  intro dd
  induction dd with
  | zero =>
    intro i s hi hs hl hb
    have e3 : i = 3 := by omega
    subst e3
    refine ⟨s, by omega, fun post hp => ?_, fun post hp => ?_⟩
    · unfold wX_headSize_4
      exact br_t (nI_le (a := 3) (Nat.le_refl _) (by decide)) hp
    · unfold wY_headOf_14
      refine br_t (nI_le (a := 3) (Nat.le_refl _) (by decide)) ?_
      rw [pk_sub (by omega), Nat.add_sub_cancel_left]
      exact hp
  | succ dd ih =>
    intro i s hi hs hl hb
    have i3 : ¬ (3 : Int32) ≤ nI i := nI_ge (b := 3) (by omega) (by decide)
    by_cases h3 : 3 ≤ s
    · refine ⟨s, by omega, fun post hp => ?_, fun post hp => ?_⟩
      · unfold wX_headSize_4
        exact br_f i3 (br_t (nI_le (a := 3) h3 (by omega)) hp)
      · unfold wY_headOf_14
        refine br_f i3 (br_t ?_ ?_)
        · show nI a + nI 3 ≤ nI (a + s)
          rw [nI_add]
          exact nI_le (by omega) (by omega)
        · rw [pk_sub (by omega), Nat.add_sub_cancel_left]
          exact hp
    · have s3 : ¬ (3 : Int32) ≤ nI s := nI_ge (b := 3) (by omega) (by decide)
      have y3 : ¬ nI a + 3 ≤ nI (a + s) := by
        show ¬ nI a + nI 3 ≤ nI (a + s)
        rw [nI_add]
        exact nI_ge (by omega) (by omega)
      by_cases hl2 : a + s < L
      · obtain ⟨_, w, w', ec, hb'⟩ := dh_Lay_w hI hl2 (hb hl2)
        have hp' := dh_sz_pos (c (a + s))
        obtain ⟨r, hr, hX, hY⟩ := ih (i + 1) (s + dh_sz (c (a + s))) (by omega) (by omega) (by have := w.1; omega) (fun z => by have := w.2.2.1; rw [← Nat.add_assoc] at z ⊢; exact this z)
        refine ⟨r, hr, fun post hp => ?_, fun post hp => ?_⟩
        · unfold wX_headSize_4
          refine br_f i3 (br_f s3 ?_)
          rw [nI_add]
          refine xb_t (by omega) (hb hl2) ?_
          refine br_f dh_10 ?_
          refine xy_t (by omega) ?_
          refine xz_s _ ?_
          refine nm_r (nI_add _ _) (nm_r (nI_1 _) ?_)
          exact hX post hp
        · unfold wY_headOf_14
          refine br_f i3 (br_f y3 (br_t (nI_lt hl2 (by omega)) ?_))
          refine yn_x w' hL ?_
          refine nm_r (nI_1 _) ?_
          rw [ec, Nat.add_assoc]
          exact hY post hp
      · refine ⟨0, by omega, fun post hp => ?_, fun post hp => ?_⟩
        · unfold wX_headSize_4
          refine br_f i3 (br_f s3 ?_)
          rw [nI_add]
          refine xb_f (fun z => hI.2.2 _ (by omega) z) (by omega) ?_
          exact br_t rfl hp
        · unfold wY_headOf_14
          exact br_f i3 (br_f y3 (br_f (nI_nlt (by omega) (by omega)) hp))
theorem hd_b {a : Nat} (hI : dh_Lay L c b c' b') (ha : a < 64) :
    ∃ r : Nat, r ≤ 9 ∧ (∀ post : Int32 → Prop, post (nI r) → wpX_headSize post (nI L, hc, d, p, e, x, c, b, R, S, H, C) (nI a)) ∧ (∀ post : Int32 → Prop, post (nI r) → wpY_headOf post (nI L, hy, q, ey, xy, c', b', R', H, C', S') (nI a)) := by
  have hL := hI.1.1
  by_cases hs : a < L ∧ b a ≠ 0
  · obtain ⟨_, w, w', ec, hb'⟩ := dh_Lay_w hI hs.1 hs.2
    obtain ⟨r, hr, hX, hY⟩ := hd_l (hc := hc) (d := d) (p := p) (e := e) (x := x) (R := R) (S := S) (H := H) (C := C) (q := q) (ey := ey) (xy := xy) (hy := hy) (R' := R') (C' := C') (S' := S') hI ha 3 0 0 rfl (by omega) (by omega) (fun _ => hs.2)
    refine ⟨r, hr, fun post hp => ?_, fun post hp => ?_⟩
    · unfold wpX_headSize
      exact ⟨4, hX post hp⟩
    · unfold wpY_headOf
      dsimp only
      refine ys_t hs.1 hL hb' ?_
      exact br_f dh_10 ⟨4, hY post hp⟩
  · have h0 : a < L → b a = 0 := fun z => Classical.byContradiction fun y => hs ⟨z, y⟩
    refine ⟨0, by omega, fun post hp => ?_, fun post hp => ?_⟩
    · unfold wpX_headSize
      refine ⟨1, ?_⟩
      unfold wX_headSize_4
      refine br_f (by decide) (br_f (by decide) ?_)
      rw [Int32.add_zero]
      refine xb_f (fun z => ?_) (by omega) ?_
      · by_cases hl : a < L
        · exact h0 hl
        · exact hI.2.2 a (by omega) z
      · exact br_t rfl hp
    · unfold wpY_headOf
      dsimp only
      refine ys_f (fun z => by rw [(hI.2.1 a z).2]; exact h0 z) hL (by omega) ?_
      exact br_t rfl hp
theorem mt_l {a s : Nat} (hI : dh_Lay L c b c' b') (ha : a < 64) (hs : s ≤ 9) : ∀ dd j, j + dd = 64 →
    ∃ z : Int32, (∀ post : Int32 → Prop, post z → wX_meetsHookedHead_2 post (nI a) (nI s) (nI L) hc d p e x c b R S H C (dd + 1) (nI j)) ∧ (∀ post : Int32 → Prop, post z → wY_overlaps_2 post (nI a) (nI s) (nI L) hy q ey xy c' b' R' H C' S' (dd + 1) (nI j)) := by
  intro dd
  induction dd with
  | zero =>
    intro j hj
    have e : j = 64 := by omega
    subst e
    refine ⟨0, fun post hp => ?_, fun post hp => ?_⟩
    · unfold wX_meetsHookedHead_2
      exact br_t (nI_le (a := 64) (Nat.le_refl _) (by decide)) hp
    · unfold wY_overlaps_2
      exact br_t (nI_le (a := 64) (Nat.le_refl _) (by decide)) hp
  | succ dd ih =>
    intro j hj
    have j6 : ¬ (64 : Int32) ≤ nI j := nI_ge (b := 64) (by omega) (by decide)
    have ji : vp_in (nI j) 64 := vp_in_nI (by omega) (by decide)
    have jc : (nI j).toNatClampNeg = j := nI_clamp (by omega)
    obtain ⟨z, iX, iY⟩ := ih (j + 1) (by omega)
    by_cases hh : H j = 0
    · refine ⟨z, fun post hp => ?_, fun post hp => ?_⟩
      · unfold wX_meetsHookedHead_2
        rw [jc]
        exact br_f j6 ⟨ji, br_t hh (nm_r (nI_1 _) (iX post hp))⟩
      · unfold wY_overlaps_2
        rw [jc]
        exact br_f j6 ⟨ji, br_t hh (nm_r (nI_1 _) (iY post hp))⟩
    · obtain ⟨r, hr, hX, hY⟩ := hd_b (hc := hc) (d := d) (p := p) (e := e) (x := x) (R := R) (S := S) (H := H) (C := C) (q := q) (ey := ey) (xy := xy) (hy := hy) (R' := R') (C' := C') (S' := S') (a := j) hI (by omega)
      by_cases t1 : nI j + nI r ≤ nI a
      · refine ⟨z, fun post hp => ?_, fun post hp => ?_⟩
        · unfold wX_meetsHookedHead_2
          rw [jc]
          refine br_f j6 ⟨ji, br_f hh ?_⟩
          refine hX _ ?_
          exact br_t t1 (nm_r (nI_1 _) (iX post hp))
        · unfold wY_overlaps_2
          rw [jc]
          refine br_f j6 ⟨ji, br_f hh ?_⟩
          refine hY _ ?_
          exact br_t t1 (nm_r (nI_1 _) (iY post hp))
      · by_cases t2 : nI a + nI s ≤ nI j
        · refine ⟨z, fun post hp => ?_, fun post hp => ?_⟩
          · unfold wX_meetsHookedHead_2
            rw [jc]
            refine br_f j6 ⟨ji, br_f hh ?_⟩
            refine hX _ ?_
            exact br_f t1 (br_t t2 (nm_r (nI_1 _) (iX post hp)))
          · unfold wY_overlaps_2
            rw [jc]
            refine br_f j6 ⟨ji, br_f hh ?_⟩
            refine hY _ ?_
            exact br_f t1 (br_t t2 (nm_r (nI_1 _) (iY post hp)))
        · refine ⟨1, fun post hp => ?_, fun post hp => ?_⟩
          · unfold wX_meetsHookedHead_2
            rw [jc]
            refine br_f j6 ⟨ji, br_f hh ?_⟩
            refine hX _ ?_
            exact br_f t1 (br_f t2 hp)
          · unfold wY_overlaps_2
            rw [jc]
            refine br_f j6 ⟨ji, br_f hh ?_⟩
            refine hY _ ?_
            exact br_f t1 (br_f t2 hp)
theorem mt_b {a s : Nat} (hI : dh_Lay L c b c' b') (ha : a < 64) (hs : s ≤ 9) :
    ∃ z : Int32, (∀ post : Int32 → Prop, post z → wpX_meetsHookedHead post (nI L, hc, d, p, e, x, c, b, R, S, H, C) (nI a) (nI s)) ∧ (∀ post : Int32 → Prop, post z → wpY_overlaps post (nI L, hy, q, ey, xy, c', b', R', H, C', S') (nI a) (nI s)) := by
  obtain ⟨z, hX, hY⟩ := mt_l (hc := hc) (d := d) (p := p) (e := e) (x := x) (R := R) (S := S) (H := H) (C := C) (q := q) (ey := ey) (xy := xy) (hy := hy) (R' := R') (C' := C') (S' := S') hI ha hs 64 0 rfl
  refine ⟨z, fun post hp => ?_, fun post hp => ?_⟩
  · unfold wpX_meetsHookedHead
    exact ⟨65, hX post hp⟩
  · unfold wpY_overlaps
    exact ⟨65, hY post hp⟩
theorem en_x {post : Int32 → Prop} {a s : Int32} (hz : ∀ j, L ≤ j → j < 64 → b j = 0) (h : post 0) : ∀ dd j, j + dd = 64 → L ≤ j →
    wX_isEnteredInside_2 post a s (nI L) hc d p e x c b R S H C (dd + 1) (nI j) := by
  intro dd
  induction dd with
  | zero =>
    intro j hj hl
    have e : j = 64 := by omega
    subst e
    unfold wX_isEnteredInside_2
    exact br_t (nI_le (a := 64) (Nat.le_refl _) (by decide)) h
  | succ dd ih =>
    intro j hj hl
    unfold wX_isEnteredInside_2
    rw [nI_clamp (by omega)]
    exact br_f (nI_ge (b := 64) (by omega) (by decide)) ⟨vp_in_nI (by omega) (by decide), br_t (hz j hl (by omega)) (nm_r (nI_1 _) (ih (j + 1) (by omega) (by omega)))⟩
theorem dh_m1000 {a : Nat} (ha : a < 64) : (-1000 : Int32) ≤ nI a := Int32.le_trans (show (-1000 : Int32) ≤ 0 from by decide) (nI_pos' (by omega))
theorem en_l {a s : Nat} (hI : dh_Lay L c b c' b') (ha : a < 64) (hs : s ≤ 9) : ∀ dd j, j + dd = L →
    ∃ z : Int32, (∀ post : Int32 → Prop, post z → wX_isEnteredInside_2 post (nI a) (nI s) (nI L) hc d p e x c b R S H C (dd + (64 - L) + 1) (nI j)) ∧ (∀ post : Int32 → Prop, post z → wY_isEntered_2 post (nI a) (nI s) (nI L) hy q ey xy c' b' R' H C' S' (dd + 1) (nI j)) := by
  have hL := hI.1.1
  intro dd
  induction dd with
  | zero =>
    intro j hj
    have e : j = L := by omega
    subst e
    refine ⟨0, fun post hp => ?_, fun post hp => ?_⟩
    · exact en_x hI.2.2 hp _ _ (by omega) (Nat.le_refl _)
    · unfold wY_isEntered_2
      exact br_t (nI_le (Nat.le_refl _) (by omega)) hp
  | succ dd ih =>
    intro j hj
    have j6 : ¬ (64 : Int32) ≤ nI j := nI_ge (b := 64) (by omega) (by decide)
    have jL : ¬ nI L ≤ nI j := nI_ge (by omega) (by omega)
    have ji : vp_in (nI j) 64 := vp_in_nI (by omega) (by decide)
    have jc : (nI j).toNatClampNeg = j := nI_clamp (by omega)
    have ef : dd + 1 + (64 - L) + 1 = (dd + (64 - L) + 1) + 1 := by omega
    rw [ef]
    obtain ⟨z, iX, iY⟩ := ih (j + 1) (by omega)
    have eb := (hI.2.1 j (by omega)).2
    by_cases hh : b j = 0
    · refine ⟨z, fun post hp => ?_, fun post hp => ?_⟩
      · unfold wX_isEnteredInside_2
        rw [jc]
        exact br_f j6 ⟨ji, br_t hh (nm_r (nI_1 _) (iX post hp))⟩
      · unfold wY_isEntered_2
        rw [jc]
        refine br_f jL ⟨ji, br_t (eb.trans hh) ?_⟩
        unfold wY_isEntered_30
        exact br_t (dh_m1000 ha) (nm_r (nI_1 _) (iY post hp))
    · obtain ⟨_, w, w', ec, hb'⟩ := dh_Lay_w hI (a := j) (by omega) hh
      by_cases hk : c j = 4 ∨ c j = 5 ∨ c j = 6
      · have hk' : c' j = 4 ∨ c' j = 5 ∨ c' j = 6 := by rw [ec]; exact hk
        have hp' := dh_sz_pos (c j)
        have et : c' (j + dh_sz (c j) - 1) = c (j + dh_sz (c j) - 1) := (hI.2.1 _ (by have := w.1; omega)).1
        have hX : ∀ post : Int32 → Prop, post (dh_tg (j + dh_sz (c j)) (c (j + dh_sz (c j) - 1))) → wpX_targetOf post (nI L, hc, d, p, e, x, c, b, R, S, H, C) (nI j) := fun post h => xt_g (by omega) (by have := w.1; omega) h
        have hY : ∀ post : Int32 → Prop, post (dh_tg (j + dh_sz (c j)) (c (j + dh_sz (c j) - 1))) → wpY_targetOf post (nI L, hy, q, ey, xy, c', b', R', H, C', S') (nI j) := fun post h => yt_t w' hL (by omega) hk' (by rw [ec, et]; exact h)
        generalize dh_tg (j + dh_sz (c j)) (c (j + dh_sz (c j) - 1)) = t at hX hY
        by_cases t1 : t ≤ nI a
        · refine ⟨z, fun post hp => ?_, fun post hp => ?_⟩
          · unfold wX_isEnteredInside_2
            rw [jc]
            refine br_f j6 ⟨ji, br_f hh ⟨ji, ?_⟩⟩
            refine xh_t hk ?_
            refine br_f dh_10 ?_
            refine hX _ ?_
            exact br_t t1 (nm_r (nI_1 _) (iX post hp))
          · unfold wY_isEntered_2
            rw [jc]
            refine br_f jL ⟨ji, br_f hb' ?_⟩
            refine hY _ ?_
            unfold wY_isEntered_30
            exact br_t t1 (nm_r (nI_1 _) (iY post hp))
        · by_cases t2 : nI a + nI s ≤ t
          · refine ⟨z, fun post hp => ?_, fun post hp => ?_⟩
            · unfold wX_isEnteredInside_2
              rw [jc]
              refine br_f j6 ⟨ji, br_f hh ⟨ji, ?_⟩⟩
              refine xh_t hk ?_
              refine br_f dh_10 ?_
              refine hX _ ?_
              exact br_f t1 (br_t t2 (nm_r (nI_1 _) (iX post hp)))
            · unfold wY_isEntered_2
              rw [jc]
              refine br_f jL ⟨ji, br_f hb' ?_⟩
              refine hY _ ?_
              unfold wY_isEntered_30
              exact br_f t1 (br_t t2 (nm_r (nI_1 _) (iY post hp)))
          · refine ⟨1, fun post hp => ?_, fun post hp => ?_⟩
            · unfold wX_isEnteredInside_2
              rw [jc]
              refine br_f j6 ⟨ji, br_f hh ⟨ji, ?_⟩⟩
              refine xh_t hk ?_
              refine br_f dh_10 ?_
              refine hX _ ?_
              exact br_f t1 (br_f t2 hp)
            · unfold wY_isEntered_2
              rw [jc]
              refine br_f jL ⟨ji, br_f hb' ?_⟩
              refine hY _ ?_
              unfold wY_isEntered_30
              exact br_f t1 (br_f t2 hp)
      · have hk' : ¬ (c' j = 4 ∨ c' j = 5 ∨ c' j = 6) := by rw [ec]; exact hk
        refine ⟨z, fun post hp => ?_, fun post hp => ?_⟩
        · unfold wX_isEnteredInside_2
          rw [jc]
          refine br_f j6 ⟨ji, br_f hh ⟨ji, ?_⟩⟩
          refine xh_f hk ?_
          exact br_t rfl (nm_r (nI_1 _) (iX post hp))
        · unfold wY_isEntered_2
          rw [jc]
          refine br_f jL ⟨ji, br_f hb' ?_⟩
          refine yt_f w' hL (by omega) hk' ?_
          unfold wY_isEntered_30
          exact br_t (dh_m1000 ha) (nm_r (nI_1 _) (iY post hp))
theorem en_b {a s : Nat} (hI : dh_Lay L c b c' b') (ha : a < 64) (hs : s ≤ 9) :
    ∃ z : Int32, (∀ post : Int32 → Prop, post z → wpX_isEnteredInside post (nI L, hc, d, p, e, x, c, b, R, S, H, C) (nI a) (nI s)) ∧ (∀ post : Int32 → Prop, post z → wpY_isEntered post (nI L, hy, q, ey, xy, c', b', R', H, C', S') (nI a) (nI s)) := by
  obtain ⟨z, hX, hY⟩ := en_l (hc := hc) (d := d) (p := p) (e := e) (x := x) (R := R) (S := S) (H := H) (C := C) (q := q) (ey := ey) (xy := xy) (hy := hy) (R' := R') (C' := C') (S' := S') hI ha hs L 0 (Nat.zero_add L)
  refine ⟨z, fun post hp => ?_, fun post hp => ?_⟩
  · unfold wpX_isEnteredInside
    exact ⟨_, hX post hp⟩
  · unfold wpY_isEntered
    exact ⟨_, hY post hp⟩
end DHC
