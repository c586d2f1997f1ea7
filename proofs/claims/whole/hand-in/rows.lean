section
section DHA
/-! numbers and stores: rows of kit/rows -/
theorem pk_us {f : Nat → Int32} {k : Nat} {x : Int32} : upd f k x k = x := if_pos rfl
theorem pk_un {f : Nat → Int32} {k j : Nat} {x : Int32} (h : j ≠ k) : upd f k x j = f j := if_neg h
theorem pk_sub {a b : Nat} (h : b ≤ a) : nI a - nI b = nI (a - b) := by
  obtain ⟨c, rfl⟩ : ∃ c, a = c + b := ⟨a - b, by omega⟩
  rw [← nI_add, Int32.add_sub_cancel, Nat.add_sub_cancel]
theorem pk_m1 (n : Nat) : nI (n + 1) + (-1) = nI n := by
  rw [← nI_1, Int32.add_assoc, show (1 : Int32) + (-1) = 0 from rfl, Int32.add_zero]
theorem pk_mul (a b : Nat) : nI a * nI b = nI (a * b) := (Int32.ofNat_mul a b).symm
theorem pk_ix (x : Int32) {n : Nat} (hn : n < 2 ^ 31) : x < 0 ∨ nI n ≤ x ∨ ∃ j : Nat, j < n ∧ x = nI j := by
  by_cases h : x < 0
  · exact Or.inl h
  · obtain ⟨j, hj, rfl⟩ := nI_of h
    by_cases h2 : j < n
    · exact Or.inr (Or.inr ⟨j, h2, rfl⟩)
    · exact Or.inr (Or.inl (nI_le (by omega) hj))
theorem pk_le {x y : Int32} {A B : Prop} (a b : Nat) (f : a ≤ b → A) (g : b < a → B) (hx : x = nI a := by rfl) (hy : y = nI b := by rfl) (ha : a < 2 ^ 31 := by omega) (hb : b < 2 ^ 31 := by omega) : (x ≤ y → A) ∧ (¬ x ≤ y → B) := by
  subst hx hy
  rw [nI_leI ha hb]
  exact ⟨f, fun z => g (by omega)⟩
theorem pk_lt {x y : Int32} {A B : Prop} (a b : Nat) (f : a < b → A) (g : b ≤ a → B) (hx : x = nI a := by rfl) (hy : y = nI b := by rfl) (ha : a < 2 ^ 31 := by omega) (hb : b < 2 ^ 31 := by omega) : (x < y → A) ∧ (¬ x < y → B) := by
  subst hx hy
  rw [nI_ltI ha hb]
  exact ⟨f, fun z => g (by omega)⟩
theorem pk_eq {x y : Int32} {A B : Prop} (a b : Nat) (f : a = b → A) (g : a ≠ b → B) (hx : x = nI a := by rfl) (hy : y = nI b := by rfl) (ha : a < 2 ^ 31 := by omega) (hb : b < 2 ^ 31 := by omega) : (x = y → A) ∧ (¬ x = y → B) := by
  subst hx hy
  rw [nI_eq ha hb]
  exact ⟨f, g⟩
theorem pk_in {x : Int32} (n N : Nat) (h : n < N) (hx : x = nI n := by rfl) (hN : N < 2 ^ 31 := by omega) : vp_in x N := by
  subst hx
  exact vp_in_nI h hN
theorem pk_cl {x : Int32} (n : Nat) (hx : x = nI n := by rfl) (h : n < 2 ^ 31 := by omega) : x.toNatClampNeg = n := by
  subst hx
  exact nI_clamp h
theorem pk_tn {n : Nat} (h : n < 2 ^ 32) : (nI n).toBitVec.toNat = n := Nat.mod_eq_of_lt h
theorem pk_and (x : Int32) {m : Int32} (k : Nat) (hm : m.toBitVec.toNat = 2 ^ k - 1) : x &&& m = nI (x.toBitVec.toNat % 2 ^ k) := by
  apply Int32.toBitVec_inj.mp
  apply BitVec.eq_of_toNat_eq
  rw [Int32.toBitVec_and, BitVec.toNat_and, hm, Nat.and_two_pow_sub_one_eq_mod]
  show _ = (BitVec.ofNat 32 _).toNat
  rw [BitVec.toNat_ofNat]
  exact (Nat.mod_eq_of_lt (Nat.lt_of_le_of_lt (Nat.mod_le _ _) x.toBitVec.isLt)).symm
theorem pk_andN {n : Nat} (h : n < 2 ^ 32) {m : Int32} (k : Nat) (hm : m.toBitVec.toNat = 2 ^ k - 1) : nI n &&& m = nI (n % 2 ^ k) := by
  rw [pk_and _ k hm, pk_tn h]
theorem pk_andE (x : Int32) {m : Int32} (k : Nat) (hm : m.toBitVec.toNat = 2 ^ k - 1) : ∃ j : Nat, j < 2 ^ k ∧ x &&& m = nI j := ⟨_, Nat.mod_lt _ (Nat.two_pow_pos k), pk_and x k hm⟩
theorem pk_andIn (x : Int32) {m : Int32} (k : Nat) (hm : m.toBitVec.toNat = 2 ^ k - 1) (hk : k ≤ 30) : vp_in (x &&& m) (2 ^ k) := by
  obtain ⟨j, hj, e⟩ := pk_andE x k hm
  rw [e]
  exact vp_in_nI hj (Nat.lt_of_le_of_lt (Nat.pow_le_pow_right (by decide) hk) (by decide))
theorem pk_shr (a s : Int32) (k : Nat) (hs : (s.toBitVec.smod 32).toNat = k) : (a >>> s).toInt = a.toInt >>> k := by
  show (a.toBitVec.sshiftRight (s.toBitVec.smod 32).toNat).toInt = _
  rw [hs, BitVec.toInt_sshiftRight]
  rfl
theorem pk_shrN {n : Nat} (h : n < 2 ^ 31) (s : Int32) (k : Nat) (hs : (s.toBitVec.smod 32).toNat = k) : nI n >>> s = nI (n / 2 ^ k) := by
  apply Int32.toInt_inj.mp
  have h2 : n / 2 ^ k ≤ n := Nat.div_le_self _ _
  rw [pk_shr _ _ k hs, nI_toInt h, nI_toInt (by omega), Int.shiftRight_eq_div_pow]
  rfl

/-! sizes, kinds and the layout of the code -/
def dh_sz (x : Int32) : Nat := if x = 0 then 1 else if x = 7 then 1 else if x = 5 then 3 else 2
theorem dh_sz_pos (x : Int32) : 1 ≤ dh_sz x ∧ dh_sz x ≤ 3 := by
  unfold dh_sz
  split
  · omega
  · split
    · omega
    · split <;> omega
def dh_OK (x y : Int32) : Prop :=
  x = 0 ∨ x = 7 ∨ x = 4 ∨ x = 6 ∨ (x = 5 ∧ ∃ o : Nat, o < 4 ∧ y = nI o) ∨ ((x = 1 ∨ x = 2 ∨ x = 8) ∧ ∃ o : Nat, o < 4 ∧ y = nI o) ∨ (x = 3 ∧ ∃ o : Nat, o < 16 ∧ y = nI o)
theorem dh_OK_c {x y y' : Int32} (h : dh_OK x y) (e : 2 ≤ dh_sz x → y' = y) : dh_OK x y' := by
  rcases h with h | h | h | h | ⟨h, o, ho, hy⟩ | ⟨h, o, ho, hy⟩ | ⟨h, o, ho, hy⟩
  · exact Or.inl h
  · exact Or.inr (Or.inl h)
  · exact Or.inr (Or.inr (Or.inl h))
  · exact Or.inr (Or.inr (Or.inr (Or.inl h)))
  · exact Or.inr (Or.inr (Or.inr (Or.inr (Or.inl ⟨h, o, ho, (e (by rw [h]; decide)).trans hy⟩))))
  · exact Or.inr (Or.inr (Or.inr (Or.inr (Or.inr (Or.inl ⟨h, o, ho, (e (by rcases h with h | h | h <;> rw [h] <;> decide)).trans hy⟩)))))
  · exact Or.inr (Or.inr (Or.inr (Or.inr (Or.inr (Or.inr ⟨h, o, ho, (e (by rw [h]; decide)).trans hy⟩)))))
def dh_W1 (c b : Nat → Int32) (L a : Nat) : Prop :=
  a + dh_sz (c a) ≤ L ∧ (∀ j, a < j → j < a + dh_sz (c a) → b j = 0) ∧ (a + dh_sz (c a) < L → b (a + dh_sz (c a)) ≠ 0) ∧ dh_OK (c a) (c (a + 1))
def dh_WF (c b : Nat → Int32) (L : Nat) : Prop := L ≤ 64 ∧ ∀ a, a < L → b a ≠ 0 → dh_W1 c b L a
theorem dh_WF_c {c b c' b' : Nat → Int32} {L : Nat} (h : dh_WF c b L) (e : ∀ j, j < L → c' j = c j ∧ b' j = b j) : dh_WF c' b' L := by
  refine ⟨h.1, fun a ha hb => ?_⟩
  rw [(e a ha).2] at hb
  obtain ⟨h1, h2, h3, h4⟩ := h.2 a ha hb
  have ec := (e a ha).1
  unfold dh_W1
  rw [ec]
  refine ⟨h1, fun j hj hj2 => ?_, fun hl => ?_, dh_OK_c h4 fun h5 => (e (a + 1) (by omega)).1⟩
  · rw [(e j (by omega)).2]; exact h2 j hj hj2
  · rw [(e _ hl).2]; exact h3 hl
theorem dh_WF_a {c b c1 b1 : Nat → Int32} {L s : Nat} (h : dh_WF c b L) (hs : dh_sz (c1 L) = s) (hL : L + s ≤ 64)
    (e : ∀ j, j < L → c1 j = c j ∧ b1 j = b j) (hb : b1 L ≠ 0) (hz : ∀ j, L < j → j < L + s → b1 j = 0) (ho : dh_OK (c1 L) (c1 (L + 1))) : dh_WF c1 b1 (L + s) := by
  refine ⟨hL, fun a ha hba => ?_⟩
  rcases Nat.lt_trichotomy a L with hl | hl | hl
  · rw [(e a hl).2] at hba
    obtain ⟨h1, h2, h3, h4⟩ := h.2 a hl hba
    have ec := (e a hl).1
    unfold dh_W1
    rw [ec]
    refine ⟨by omega, fun j hj hj2 => ?_, fun hl2 => ?_, dh_OK_c h4 fun h5 => (e (a + 1) (by omega)).1⟩
    · rw [(e j (by omega)).2]; exact h2 j hj hj2
    · by_cases h6 : a + dh_sz (c a) < L
      · rw [(e _ h6).2]; exact h3 h6
      · have h7 : a + dh_sz (c a) = L := by omega
        rw [h7]; exact hb
  · subst hl
    unfold dh_W1
    rw [hs]
    exact ⟨Nat.le_refl _, hz, fun h6 => absurd h6 (Nat.lt_irrefl _), ho⟩
  · exact absurd (hz a hl ha) hba
/-! how many are hooked -/
def dh_cnt (H : Nat → Int32) : Nat → Nat
  | 0 => 0
  | n + 1 => dh_cnt H n + (if H n = 0 then 0 else 1)
theorem dh_cnt_s (H : Nat → Int32) (n : Nat) : dh_cnt H (n + 1) = dh_cnt H n + (if H n = 0 then 0 else 1) := rfl
theorem dh_cnt_le (H : Nat → Int32) : ∀ n, dh_cnt H n ≤ n := by
  intro n
  induction n with
  | zero => exact Nat.le_refl _
  | succ n ih =>
    rw [dh_cnt_s]
    split <;> omega
theorem dh_cnt_lo {H : Nat → Int32} {a : Nat} {x : Int32} : ∀ n, n ≤ a → dh_cnt (upd H a x) n = dh_cnt H n := by
  intro n
  induction n with
  | zero => intro _; rfl
  | succ n ih =>
    intro h
    rw [dh_cnt_s, dh_cnt_s, ih (by omega), pk_un (by omega)]
theorem dh_cnt_u {H : Nat → Int32} {a : Nat} {x : Int32} : ∀ n, a < n → dh_cnt (upd H a x) n + (if H a = 0 then 0 else 1) = dh_cnt H n + (if x = 0 then 0 else 1) := by
  intro n
  induction n with
  | zero => intro h; omega
  | succ n ih =>
    intro h
    rw [dh_cnt_s, dh_cnt_s]
    by_cases e : a = n
    · subst e
      rw [dh_cnt_lo a (Nat.le_refl _), pk_us]; omega
    · rw [pk_un (by omega)]
      have := ih (by omega)
      omega
theorem dh_cnt_on {H : Nat → Int32} {a : Nat} {x : Int32} (h : H a = 0) (hx : ¬ x = 0) (ha : a < 64) : dh_cnt (upd H a x) 64 = dh_cnt H 64 + 1 := by
  have := dh_cnt_u (H := H) (x := x) 64 ha
  rw [if_pos h, if_neg hx] at this
  omega
theorem dh_cnt_off {H : Nat → Int32} {a : Nat} (h : ¬ H a = 0) (ha : a < 64) : dh_cnt (upd H a 0) 64 + 1 = dh_cnt H 64 := by
  have := dh_cnt_u (H := H) (x := 0) 64 ha
  rw [if_neg h, if_pos rfl] at this
  omega
/-! numbers -/
theorem dh_and255 {o : Nat} (h : o < 256) : nI o &&& 255 = nI o := by
  rw [pk_andN (by omega) 8 (by decide), Nat.mod_eq_of_lt (by omega)]
theorem dh_and3 {o : Nat} (h : o < 4) : nI o &&& 3 = nI o := by
  rw [pk_andN (by omega) 2 (by decide), Nat.mod_eq_of_lt (by omega)]
theorem dh_and3' (o : Nat) (h : o < 2 ^ 31) : nI o &&& 3 = nI (o % 4) := pk_andN (by omega) 2 (by decide)
theorem dh_tgt (n r : Int32) : n + (r - 256) = n + r - 256 := by
  rw [Int32.sub_eq_add_neg, Int32.sub_eq_add_neg, Int32.add_assoc]
theorem dh_rel (r : Int32) : r < 128 ↔ r ≤ 127 := by
  rw [Int32.lt_iff_toInt_lt, Int32.le_iff_toInt_le, show (128 : Int32).toInt = 128 from by decide, show (127 : Int32).toInt = 127 from by decide]
  omega
end DHA
end
section
section DHB
variable {hc d p e x q ey xy hy : Int32} {c b R S H C c' b' R' H' C' S' : Nat → Int32}
theorem dh_10 : ¬ (1 : Int32) = 0 := by decide
theorem dh_b1 : vp_nar .boolean 1 = 1 := by decide
theorem dh_b0 : vp_nar .boolean 0 = 0 := by decide
theorem dh_ge {v : Int32} {n : Nat} (h : nI (n + 1) ≤ v) (hn : n + 1 < 2 ^ 31) : nI n < v := by
  rw [Int32.le_iff_toInt_le, nI_toInt hn] at h
  rw [Int32.lt_iff_toInt_lt, nI_toInt (by omega)]
  omega
theorem dh_s1 {n : Nat} (h : 0 < n) : nI n - 1 = nI (n - 1) := by
  obtain ⟨m, rfl⟩ : ∃ m, n = m + 1 := ⟨n - 1, by omega⟩
  exact nI_pred m
/-! X's small methods -/
theorem xa_t {post : Int32 → Prop} {a : Nat} (ha : a < 64) (h : post 1) : wpX_isAddress post (nI a) :=
  br_f (nI_pos (by omega)) (br_f (nI_ge (b := 64) ha (by decide)) h)
theorem xa_f {post : Int32 → Prop} {v : Int32} (hv : v < 0 ∨ nI 64 ≤ v) (h : post 0) : wpX_isAddress post v := by
  rcases hv with hv | hv
  · exact br_t hv h
  · exact br_c (fun _ => h) (fun _ => br_t hv h)
theorem xr_t {post : Int32 → Prop} {a : Nat} (ha : a < 4) (h : post 1) : wpX_isRegister post (nI a) :=
  br_f (nI_pos (by omega)) (br_f (nI_ge (b := 4) ha (by decide)) h)
theorem xr_f {post : Int32 → Prop} {v : Int32} (hv : v < 0 ∨ nI 4 ≤ v) (h : post 0) : wpX_isRegister post v := by
  rcases hv with hv | hv
  · exact br_t hv h
  · exact br_c (fun _ => h) (fun _ => br_t hv h)
theorem xz_s {post : Int32 → Prop} (k : Int32) (h : post (nI (dh_sz k))) : wpX_sizeOf post k := by
  unfold dh_sz at h
  by_cases h0 : k = 0
  · rw [if_pos h0] at h; exact br_t h0 h
  · rw [if_neg h0] at h
    by_cases h7 : k = 7
    · rw [if_pos h7] at h; exact br_f h0 (br_t h7 h)
    · rw [if_neg h7] at h
      by_cases h5 : k = 5
      · rw [if_pos h5] at h; exact br_f h0 (br_f h7 (br_t h5 h))
      · rw [if_neg h5] at h; exact br_f h0 (br_f h7 (br_f h5 h))
theorem xb_t {post : Int32 → Prop} {lx : Int32} {a : Nat} (ha : a < 64) (hb : b a ≠ 0) (h : post 1) : wpX_beginsAt post (lx, hc, d, p, e, x, c, b, R, S, H, C) (nI a) := by
  unfold wpX_beginsAt
  dsimp only
  refine xa_t ha ?_
  refine br_f dh_10 ⟨vp_in_nI ha (by decide), ?_⟩
  rw [nI_clamp (by omega)]
  exact br_f hb h
theorem xb_f {post : Int32 → Prop} {lx : Int32} {a : Nat} (hb : a < 64 → b a = 0) (ha : a < 2 ^ 31) (h : post 0) : wpX_beginsAt post (lx, hc, d, p, e, x, c, b, R, S, H, C) (nI a) := by
  unfold wpX_beginsAt
  dsimp only
  by_cases h6 : a < 64
  · refine xa_t h6 ?_
    refine br_f dh_10 ⟨vp_in_nI h6 (by decide), ?_⟩
    rw [nI_clamp (by omega)]
    exact br_t (hb h6) h
  · refine xa_f (Or.inr (nI_le (by omega) ha)) ?_
    exact br_t rfl h
theorem xb_o {post : Int32 → Prop} {lx v : Int32} (hv : v < 0 ∨ nI 64 ≤ v) (h : post 0) : wpX_beginsAt post (lx, hc, d, p, e, x, c, b, R, S, H, C) v := by
  unfold wpX_beginsAt
  dsimp only
  refine xa_f hv ?_
  exact br_t rfl h
theorem xy_t {post : Int32 → Prop} {lx : Int32} {a : Nat} (ha : a < 64) (h : post (c a)) : wpX_byteAt post (lx, hc, d, p, e, x, c, b, R, S, H, C) (nI a) := by
  unfold wpX_byteAt
  dsimp only
  refine xa_t ha ?_
  refine br_f dh_10 ⟨vp_in_nI ha (by decide), ?_⟩
  rw [nI_clamp (by omega)]
  exact h
def dh_tg (n : Nat) (r : Int32) : Int32 := if 128 ≤ r then nI n + r - 256 else nI n + r
theorem xt_g {post : Int32 → Prop} {lx : Int32} {a : Nat} (ha : a < 64) (hn : a + dh_sz (c a) ≤ 64) (h : post (dh_tg (a + dh_sz (c a)) (c (a + dh_sz (c a) - 1)))) : wpX_targetOf post (lx, hc, d, p, e, x, c, b, R, S, H, C) (nI a) := by
  have hp := dh_sz_pos (c a)
  unfold wpX_targetOf
  dsimp only
  refine xy_t ha ?_
  refine xz_s _ ?_
  refine nm_r (nI_add _ _) ?_
  rw [dh_s1 (by omega)]
  refine xy_t (by omega) ?_
  unfold dh_tg at h
  by_cases hr : 128 ≤ c (a + dh_sz (c a) - 1)
  · rw [if_pos hr] at h; exact br_t hr h
  · rw [if_neg hr] at h; exact br_f hr h
theorem xh_t {post : Int32 → Prop} {k : Int32} (hk : k = 4 ∨ k = 5 ∨ k = 6) (h : post 1) : wpX_hasTarget post k := by
  rcases hk with hk | hk | hk
  · exact br_t hk h
  · exact br_f (by rw [hk]; decide) (br_t hk h)
  · exact br_f (by rw [hk]; decide) (br_f (by rw [hk]; decide) (br_t hk h))
theorem xh_f {post : Int32 → Prop} {k : Int32} (hk : ¬ (k = 4 ∨ k = 5 ∨ k = 6)) (h : post 0) : wpX_hasTarget post k :=
  br_f (fun z => hk (Or.inl z)) (br_f (fun z => hk (Or.inr (Or.inl z))) (br_f (fun z => hk (Or.inr (Or.inr z))) h))
/-! Y's small methods -/
theorem yr_t {post : Int32 → Prop} {v : SY} {a : Nat} (ha : a < 4) (h : post 1) : wpY_isRegister post v (nI a) :=
  br_f (nI_pos (by omega)) (br_f (nI_nlt (a := 3) (by omega) (by decide)) h)
theorem yr_f {post : Int32 → Prop} {v : SY} {r : Int32} (hv : r < 0 ∨ nI 4 ≤ r) (h : post 0) : wpY_isRegister post v r := by
  rcases hv with hv | hv
  · exact br_t hv h
  · exact br_c (fun _ => h) (fun _ => br_t (dh_ge (n := 3) hv (by decide)) h)
theorem ys_t {post : Int32 → Prop} {L a : Nat} (ha : a < L) (hL : L ≤ 64) (hb : b' a ≠ 0) (h : post 1) : wpY_starts post (nI L, hy, q, ey, xy, c', b', R', H', C', S') (nI a) := by
  unfold wpY_starts
  dsimp only
  refine br_f (nI_pos (by omega)) (br_f (nI_ge ha (by omega)) ⟨vp_in_nI (by omega) (by decide), ?_⟩)
  rw [nI_clamp (by omega)]
  exact br_f hb h
theorem ys_f {post : Int32 → Prop} {L a : Nat} (ha : a < L → b' a = 0) (hL : L ≤ 64) (h6 : a < 2 ^ 31) (h : post 0) : wpY_starts post (nI L, hy, q, ey, xy, c', b', R', H', C', S') (nI a) := by
  unfold wpY_starts
  dsimp only
  refine br_f (nI_pos (by omega)) ?_
  by_cases hl : a < L
  · refine br_f (nI_ge hl (by omega)) ⟨vp_in_nI (by omega) (by decide), ?_⟩
    rw [nI_clamp (by omega)]
    exact br_t (ha hl) h
  · exact br_t (nI_le (by omega) h6) h
theorem ys_o {post : Int32 → Prop} {L : Nat} {v : Int32} (hL : L ≤ 64) (hv : v < 0 ∨ nI 64 ≤ v) (h : post 0) : wpY_starts post (nI L, hy, q, ey, xy, c', b', R', H', C', S') v := by
  unfold wpY_starts
  dsimp only
  rcases hv with hv | hv
  · exact br_t hv h
  · exact br_c (fun _ => h) (fun _ => br_t (Int32.le_trans (nI_le hL (by decide)) hv) h)
theorem yn_l {post : Int32 → Prop} {L a : Nat} (hW : dh_W1 c' b' L a) (hL : L ≤ 64) (h : post (nI (a + dh_sz (c' a)))) :
    ∀ n j, a < j → j ≤ a + dh_sz (c' a) → a + dh_sz (c' a) - j < n → wY_nextOf_4 post (nI L) hy q ey xy c' b' R' H' C' S' n (nI j) := by
  obtain ⟨h1, h2, h3, h4⟩ := hW
  intro n
  induction n with
  | zero => intro j _ _ hn; omega
  | succ n ih =>
    intro j hj hj2 hn
    unfold wY_nextOf_4
    by_cases hl : L ≤ j
    · have e : j = a + dh_sz (c' a) := by omega
      rw [e]
      rw [e] at hl
      exact br_t (nI_le hl (by omega)) h
    · refine br_f (nI_ge (by omega) (by omega)) ⟨vp_in_nI (by omega) (by decide), ?_⟩
      rw [nI_clamp (by omega)]
      by_cases e : j = a + dh_sz (c' a)
      · rw [e]
        rw [e] at hl
        exact br_f (h3 (by omega)) h
      · exact br_t (h2 j hj (by omega)) (nm_r (nI_1 _) (ih (j + 1) (by omega) (by omega) (by omega)))
theorem yn_x {post : Int32 → Prop} {L a : Nat} (hW : dh_W1 c' b' L a) (hL : L ≤ 64) (h : post (nI (a + dh_sz (c' a)))) : wpY_nextOf post (nI L, hy, q, ey, xy, c', b', R', H', C', S') (nI a) := by
  have hp := dh_sz_pos (c' a)
  unfold wpY_nextOf
  dsimp only
  refine nm_r (nI_1 _) ⟨4, ?_⟩
  exact yn_l hW hL h 4 (a + 1) (by omega) (by omega) (by omega)
theorem yt_t {post : Int32 → Prop} {L a : Nat} (hW : dh_W1 c' b' L a) (hL : L ≤ 64) (ha : a < L) (hk : c' a = 4 ∨ c' a = 5 ∨ c' a = 6) (h : post (dh_tg (a + dh_sz (c' a)) (c' (a + dh_sz (c' a) - 1)))) : wpY_targetOf post (nI L, hy, q, ey, xy, c', b', R', H', C', S') (nI a) := by
  have hp := dh_sz_pos (c' a)
  have h4 : ¬ c' a < 4 := by rcases hk with hk | hk | hk <;> rw [hk] <;> decide
  have h6 : c' a ≤ 6 := by rcases hk with hk | hk | hk <;> rw [hk] <;> decide
  have hW' := hW.1
  unfold wpY_targetOf
  dsimp only
  rw [nI_clamp (by omega)]
  refine ⟨vp_in_nI (by omega) (by decide), br_f h4 ⟨vp_in_nI (by omega) (by decide), br_t h6 ?_⟩⟩
  refine yn_x hW hL ?_
  rw [dh_s1 (by omega), nI_clamp (by omega)]
  refine ⟨vp_in_nI (by omega) (by decide), nm_e ?_⟩
  unfold dh_tg at h
  by_cases hr : 128 ≤ c' (a + dh_sz (c' a) - 1)
  · rw [if_pos hr] at h
    refine br_f (fun z => absurd ((dh_rel _).mpr z) (Int32.not_lt.mpr hr)) ?_
    rw [dh_tgt]
    exact h
  · rw [if_neg hr] at h
    exact br_t ((dh_rel _).mp (Int32.not_le.mp hr)) h
theorem dh_OK_nt {k y : Int32} (h : dh_OK k y) (hk : ¬ (k = 4 ∨ k = 5 ∨ k = 6)) : k < 4 ∨ (¬ k < 4 ∧ ¬ k ≤ 6) := by
  rcases h with h | h | h | h | ⟨h, o, ho, hy⟩ | ⟨h, o, ho, hy⟩ | ⟨h, o, ho, hy⟩
  · left; rw [h]; decide
  · right; rw [h]; decide
  · exact absurd (Or.inl h) hk
  · exact absurd (Or.inr (Or.inr h)) hk
  · exact absurd (Or.inr (Or.inl h)) hk
  · rcases h with h | h | h
    · left; rw [h]; decide
    · left; rw [h]; decide
    · right; rw [h]; decide
  · left; rw [h]; decide
theorem yt_f {post : Int32 → Prop} {L a : Nat} (hW : dh_W1 c' b' L a) (hL : L ≤ 64) (ha : a < L) (hk : ¬ (c' a = 4 ∨ c' a = 5 ∨ c' a = 6)) (h : post (-1000)) : wpY_targetOf post (nI L, hy, q, ey, xy, c', b', R', H', C', S') (nI a) := by
  unfold wpY_targetOf
  dsimp only
  rw [nI_clamp (by omega)]
  rcases dh_OK_nt hW.2.2.2 hk with h4 | ⟨h4, h6⟩
  · exact ⟨vp_in_nI (by omega) (by decide), br_t h4 h⟩
  · exact ⟨vp_in_nI (by omega) (by decide), br_f h4 ⟨vp_in_nI (by omega) (by decide), br_f h6 h⟩⟩
theorem yh_l {post : Int32 → Prop} {ly : Int32} (h : post (nI (dh_cnt H' 64))) : ∀ dd j, j + dd = 64 → wY_hooks_4 post ly hy q ey xy c' b' R' H' C' S' (dd + 1) (nI (dh_cnt H' j)) (nI j) := by
  intro dd
  induction dd with
  | zero =>
    intro j hj
    have e : j = 64 := by omega
    subst e
    unfold wY_hooks_4
    exact br_t (nI_le (a := 64) (Nat.le_refl _) (by decide)) h
  | succ dd ih =>
    intro j hj
    unfold wY_hooks_4
    refine br_f (nI_ge (b := 64) (by omega) (by decide)) ⟨vp_in_nI (by omega) (by decide), ?_⟩
    rw [nI_clamp (by omega)]
    have i := ih (j + 1) (by omega)
    rw [dh_cnt_s] at i
    by_cases z : H' j = 0
    · rw [if_pos z] at i
      exact br_t z (nm_r (nI_1 _) i)
    · rw [if_neg z] at i
      exact br_f z (nm_r (nI_1 _) (nm_r (nI_1 _) i))
theorem yh_s {post : Int32 → Prop} {ly : Int32} (h : post (nI (dh_cnt H' 64))) : wpY_hooks post (ly, hy, q, ey, xy, c', b', R', H', C', S') := by
  unfold wpY_hooks
  dsimp only
  exact ⟨65, yh_l h 64 0 rfl⟩
end DHB
end
section
section DHC
variable {hc d p e x q ey xy hy : Int32} {c b R S H C c' b' R' C' S' : Nat → Int32} {L : Nat}
/-- what the two codes have in common -/
def dh_Lay (L : Nat) (c b c' b' : Nat → Int32) : Prop := dh_WF c b L ∧ (∀ j, j < L → c' j = c j ∧ b' j = b j) ∧ (∀ j, L ≤ j → j < 64 → b j = 0)
theorem dh_Lay_w {a : Nat} (h : dh_Lay L c b c' b') (ha : a < L) (hb : b a ≠ 0) : L ≤ 64 ∧ dh_W1 c b L a ∧ dh_W1 c' b' L a ∧ c' a = c a ∧ b' a ≠ 0 := by
  have e := h.2.1 a ha
  have hb' : b' a ≠ 0 := by rw [e.2]; exact hb
  exact ⟨h.1.1, h.1.2 a ha hb, (dh_WF_c h.1 h.2.1).2 a ha hb', e.1, hb'⟩
theorem hd_l {a : Nat} (hI : dh_Lay L c b c' b') (ha : a < 64) : ∀ dd i s, i + dd = 3 → s ≤ 3 * i → a + s ≤ L → (a + s < L → b (a + s) ≠ 0) →
    ∃ r : Nat, r ≤ 9 ∧ (∀ post : Int32 → Prop, post (nI r) → wX_headSize_4 post (nI a) (nI L) hc d p e x c b R S H C (dd + 1) (nI s) (nI i)) ∧ (∀ post : Int32 → Prop, post (nI r) → wY_headOf_14 post (nI a) (nI L) hy q ey xy c' b' R' H C' S' (dd + 1) (nI (a + s)) (nI i)) := by
  have hL := hI.1.1
  intro dd
  induction dd with
  | zero =>
    intro i s hi hs hl hb
    have e3 : i = 3 := by omega
    subst e3
    refine ⟨s, by omega, fun post hp => ?_, fun post hp => ?_⟩
    · unfold wX_headSize_4
      exact br_t (nI_le (a := 3) (Nat.le_refl _) (by decide)) hp
    · unfold wY_headOf_14
      refine br_t (nI_le (a := 3) (Nat.le_refl _) (by decide)) ?_
      rw [pk_sub (by omega), Nat.add_sub_cancel_left]
      exact hp
  | succ dd ih =>
    intro i s hi hs hl hb
    have i3 : ¬ (3 : Int32) ≤ nI i := nI_ge (b := 3) (by omega) (by decide)
    by_cases h3 : 3 ≤ s
    · refine ⟨s, by omega, fun post hp => ?_, fun post hp => ?_⟩
      · unfold wX_headSize_4
        exact br_f i3 (br_t (nI_le (a := 3) h3 (by omega)) hp)
      · unfold wY_headOf_14
        refine br_f i3 (br_t ?_ ?_)
        · show nI a + nI 3 ≤ nI (a + s)
          rw [nI_add]
          exact nI_le (by omega) (by omega)
        · rw [pk_sub (by omega), Nat.add_sub_cancel_left]
          exact hp
    · have s3 : ¬ (3 : Int32) ≤ nI s := nI_ge (b := 3) (by omega) (by decide)
      have y3 : ¬ nI a + 3 ≤ nI (a + s) := by
        show ¬ nI a + nI 3 ≤ nI (a + s)
        rw [nI_add]
        exact nI_ge (by omega) (by omega)
      by_cases hl2 : a + s < L
      · obtain ⟨_, w, w', ec, hb'⟩ := dh_Lay_w hI hl2 (hb hl2)
        have hp' := dh_sz_pos (c (a + s))
        obtain ⟨r, hr, hX, hY⟩ := ih (i + 1) (s + dh_sz (c (a + s))) (by omega) (by omega) (by have := w.1; omega) (fun z => by have := w.2.2.1; rw [← Nat.add_assoc] at z ⊢; exact this z)
        refine ⟨r, hr, fun post hp => ?_, fun post hp => ?_⟩
        · unfold wX_headSize_4
          refine br_f i3 (br_f s3 ?_)
          rw [nI_add]
          refine xb_t (by omega) (hb hl2) ?_
          refine br_f dh_10 ?_
          refine xy_t (by omega) ?_
          refine xz_s _ ?_
          refine nm_r (nI_add _ _) (nm_r (nI_1 _) ?_)
          exact hX post hp
        · unfold wY_headOf_14
          refine br_f i3 (br_f y3 (br_t (nI_lt hl2 (by omega)) ?_))
          refine yn_x w' hL ?_
          refine nm_r (nI_1 _) ?_
          rw [ec, Nat.add_assoc]
          exact hY post hp
      · refine ⟨0, by omega, fun post hp => ?_, fun post hp => ?_⟩
        · unfold wX_headSize_4
          refine br_f i3 (br_f s3 ?_)
          rw [nI_add]
          refine xb_f (fun z => hI.2.2 _ (by omega) z) (by omega) ?_
          exact br_t rfl hp
        · unfold wY_headOf_14
          exact br_f i3 (br_f y3 (br_f (nI_nlt (by omega) (by omega)) hp))
theorem hd_b {a : Nat} (hI : dh_Lay L c b c' b') (ha : a < 64) :
    ∃ r : Nat, r ≤ 9 ∧ (∀ post : Int32 → Prop, post (nI r) → wpX_headSize post (nI L, hc, d, p, e, x, c, b, R, S, H, C) (nI a)) ∧ (∀ post : Int32 → Prop, post (nI r) → wpY_headOf post (nI L, hy, q, ey, xy, c', b', R', H, C', S') (nI a)) := by
  have hL := hI.1.1
  by_cases hs : a < L ∧ b a ≠ 0
  · obtain ⟨_, w, w', ec, hb'⟩ := dh_Lay_w hI hs.1 hs.2
    obtain ⟨r, hr, hX, hY⟩ := hd_l (hc := hc) (d := d) (p := p) (e := e) (x := x) (R := R) (S := S) (H := H) (C := C) (q := q) (ey := ey) (xy := xy) (hy := hy) (R' := R') (C' := C') (S' := S') hI ha 3 0 0 rfl (by omega) (by omega) (fun _ => hs.2)
    refine ⟨r, hr, fun post hp => ?_, fun post hp => ?_⟩
    · unfold wpX_headSize
      exact ⟨4, hX post hp⟩
    · unfold wpY_headOf
      dsimp only
      refine ys_t hs.1 hL hb' ?_
      exact br_f dh_10 ⟨4, hY post hp⟩
  · have h0 : a < L → b a = 0 := fun z => Classical.byContradiction fun y => hs ⟨z, y⟩
    refine ⟨0, by omega, fun post hp => ?_, fun post hp => ?_⟩
    · unfold wpX_headSize
      refine ⟨1, ?_⟩
      unfold wX_headSize_4
      refine br_f (by decide) (br_f (by decide) ?_)
      rw [Int32.add_zero]
      refine xb_f (fun z => ?_) (by omega) ?_
      · by_cases hl : a < L
        · exact h0 hl
        · exact hI.2.2 a (by omega) z
      · exact br_t rfl hp
    · unfold wpY_headOf
      dsimp only
      refine ys_f (fun z => by rw [(hI.2.1 a z).2]; exact h0 z) hL (by omega) ?_
      exact br_t rfl hp
theorem mt_l {a s : Nat} (hI : dh_Lay L c b c' b') (ha : a < 64) (hs : s ≤ 9) : ∀ dd j, j + dd = 64 →
    ∃ z : Int32, (∀ post : Int32 → Prop, post z → wX_meetsHookedHead_2 post (nI a) (nI s) (nI L) hc d p e x c b R S H C (dd + 1) (nI j)) ∧ (∀ post : Int32 → Prop, post z → wY_overlaps_2 post (nI a) (nI s) (nI L) hy q ey xy c' b' R' H C' S' (dd + 1) (nI j)) := by
  intro dd
  induction dd with
  | zero =>
    intro j hj
    have e : j = 64 := by omega
    subst e
    refine ⟨0, fun post hp => ?_, fun post hp => ?_⟩
    · unfold wX_meetsHookedHead_2
      exact br_t (nI_le (a := 64) (Nat.le_refl _) (by decide)) hp
    · unfold wY_overlaps_2
      exact br_t (nI_le (a := 64) (Nat.le_refl _) (by decide)) hp
  | succ dd ih =>
    intro j hj
    have j6 : ¬ (64 : Int32) ≤ nI j := nI_ge (b := 64) (by omega) (by decide)
    have ji : vp_in (nI j) 64 := vp_in_nI (by omega) (by decide)
    have jc : (nI j).toNatClampNeg = j := nI_clamp (by omega)
    obtain ⟨z, iX, iY⟩ := ih (j + 1) (by omega)
    by_cases hh : H j = 0
    · refine ⟨z, fun post hp => ?_, fun post hp => ?_⟩
      · unfold wX_meetsHookedHead_2
        rw [jc]
        exact br_f j6 ⟨ji, br_t hh (nm_r (nI_1 _) (iX post hp))⟩
      · unfold wY_overlaps_2
        rw [jc]
        exact br_f j6 ⟨ji, br_t hh (nm_r (nI_1 _) (iY post hp))⟩
    · obtain ⟨r, hr, hX, hY⟩ := hd_b (hc := hc) (d := d) (p := p) (e := e) (x := x) (R := R) (S := S) (H := H) (C := C) (q := q) (ey := ey) (xy := xy) (hy := hy) (R' := R') (C' := C') (S' := S') (a := j) hI (by omega)
      by_cases t1 : nI j + nI r ≤ nI a
      · refine ⟨z, fun post hp => ?_, fun post hp => ?_⟩
        · unfold wX_meetsHookedHead_2
          rw [jc]
          refine br_f j6 ⟨ji, br_f hh ?_⟩
          refine hX _ ?_
          exact br_t t1 (nm_r (nI_1 _) (iX post hp))
        · unfold wY_overlaps_2
          rw [jc]
          refine br_f j6 ⟨ji, br_f hh ?_⟩
          refine hY _ ?_
          exact br_t t1 (nm_r (nI_1 _) (iY post hp))
      · by_cases t2 : nI a + nI s ≤ nI j
        · refine ⟨z, fun post hp => ?_, fun post hp => ?_⟩
          · unfold wX_meetsHookedHead_2
            rw [jc]
            refine br_f j6 ⟨ji, br_f hh ?_⟩
            refine hX _ ?_
            exact br_f t1 (br_t t2 (nm_r (nI_1 _) (iX post hp)))
          · unfold wY_overlaps_2
            rw [jc]
            refine br_f j6 ⟨ji, br_f hh ?_⟩
            refine hY _ ?_
            exact br_f t1 (br_t t2 (nm_r (nI_1 _) (iY post hp)))
        · refine ⟨1, fun post hp => ?_, fun post hp => ?_⟩
          · unfold wX_meetsHookedHead_2
            rw [jc]
            refine br_f j6 ⟨ji, br_f hh ?_⟩
            refine hX _ ?_
            exact br_f t1 (br_f t2 hp)
          · unfold wY_overlaps_2
            rw [jc]
            refine br_f j6 ⟨ji, br_f hh ?_⟩
            refine hY _ ?_
            exact br_f t1 (br_f t2 hp)
theorem mt_b {a s : Nat} (hI : dh_Lay L c b c' b') (ha : a < 64) (hs : s ≤ 9) :
    ∃ z : Int32, (∀ post : Int32 → Prop, post z → wpX_meetsHookedHead post (nI L, hc, d, p, e, x, c, b, R, S, H, C) (nI a) (nI s)) ∧ (∀ post : Int32 → Prop, post z → wpY_overlaps post (nI L, hy, q, ey, xy, c', b', R', H, C', S') (nI a) (nI s)) := by
  obtain ⟨z, hX, hY⟩ := mt_l (hc := hc) (d := d) (p := p) (e := e) (x := x) (R := R) (S := S) (H := H) (C := C) (q := q) (ey := ey) (xy := xy) (hy := hy) (R' := R') (C' := C') (S' := S') hI ha hs 64 0 rfl
  refine ⟨z, fun post hp => ?_, fun post hp => ?_⟩
  · unfold wpX_meetsHookedHead
    exact ⟨65, hX post hp⟩
  · unfold wpY_overlaps
    exact ⟨65, hY post hp⟩
theorem en_x {post : Int32 → Prop} {a s : Int32} (hz : ∀ j, L ≤ j → j < 64 → b j = 0) (h : post 0) : ∀ dd j, j + dd = 64 → L ≤ j →
    wX_isEnteredInside_2 post a s (nI L) hc d p e x c b R S H C (dd + 1) (nI j) := by
  intro dd
  induction dd with
  | zero =>
    intro j hj hl
    have e : j = 64 := by omega
    subst e
    unfold wX_isEnteredInside_2
    exact br_t (nI_le (a := 64) (Nat.le_refl _) (by decide)) h
  | succ dd ih =>
    intro j hj hl
    unfold wX_isEnteredInside_2
    rw [nI_clamp (by omega)]
    exact br_f (nI_ge (b := 64) (by omega) (by decide)) ⟨vp_in_nI (by omega) (by decide), br_t (hz j hl (by omega)) (nm_r (nI_1 _) (ih (j + 1) (by omega) (by omega)))⟩
theorem dh_m1000 {a : Nat} (ha : a < 64) : (-1000 : Int32) ≤ nI a := Int32.le_trans (show (-1000 : Int32) ≤ 0 from by decide) (nI_pos' (by omega))
theorem en_l {a s : Nat} (hI : dh_Lay L c b c' b') (ha : a < 64) (hs : s ≤ 9) : ∀ dd j, j + dd = L →
    ∃ z : Int32, (∀ post : Int32 → Prop, post z → wX_isEnteredInside_2 post (nI a) (nI s) (nI L) hc d p e x c b R S H C (dd + (64 - L) + 1) (nI j)) ∧ (∀ post : Int32 → Prop, post z → wY_isEntered_2 post (nI a) (nI s) (nI L) hy q ey xy c' b' R' H C' S' (dd + 1) (nI j)) := by
  have hL := hI.1.1
  intro dd
  induction dd with
  | zero =>
    intro j hj
    have e : j = L := by omega
    subst e
    refine ⟨0, fun post hp => ?_, fun post hp => ?_⟩
    · exact en_x hI.2.2 hp _ _ (by omega) (Nat.le_refl _)
    · unfold wY_isEntered_2
      exact br_t (nI_le (Nat.le_refl _) (by omega)) hp
  | succ dd ih =>
    intro j hj
    have j6 : ¬ (64 : Int32) ≤ nI j := nI_ge (b := 64) (by omega) (by decide)
    have jL : ¬ nI L ≤ nI j := nI_ge (by omega) (by omega)
    have ji : vp_in (nI j) 64 := vp_in_nI (by omega) (by decide)
    have jc : (nI j).toNatClampNeg = j := nI_clamp (by omega)
    have ef : dd + 1 + (64 - L) + 1 = (dd + (64 - L) + 1) + 1 := by omega
    rw [ef]
    obtain ⟨z, iX, iY⟩ := ih (j + 1) (by omega)
    have eb := (hI.2.1 j (by omega)).2
    by_cases hh : b j = 0
    · refine ⟨z, fun post hp => ?_, fun post hp => ?_⟩
      · unfold wX_isEnteredInside_2
        rw [jc]
        exact br_f j6 ⟨ji, br_t hh (nm_r (nI_1 _) (iX post hp))⟩
      · unfold wY_isEntered_2
        rw [jc]
        refine br_f jL ⟨ji, br_t (eb.trans hh) ?_⟩
        unfold wY_isEntered_30
        exact br_t (dh_m1000 ha) (nm_r (nI_1 _) (iY post hp))
    · obtain ⟨_, w, w', ec, hb'⟩ := dh_Lay_w hI (a := j) (by omega) hh
      by_cases hk : c j = 4 ∨ c j = 5 ∨ c j = 6
      · have hk' : c' j = 4 ∨ c' j = 5 ∨ c' j = 6 := by rw [ec]; exact hk
        have hp' := dh_sz_pos (c j)
        have et : c' (j + dh_sz (c j) - 1) = c (j + dh_sz (c j) - 1) := (hI.2.1 _ (by have := w.1; omega)).1
        have hX : ∀ post : Int32 → Prop, post (dh_tg (j + dh_sz (c j)) (c (j + dh_sz (c j) - 1))) → wpX_targetOf post (nI L, hc, d, p, e, x, c, b, R, S, H, C) (nI j) := fun post h => xt_g (by omega) (by have := w.1; omega) h
        have hY : ∀ post : Int32 → Prop, post (dh_tg (j + dh_sz (c j)) (c (j + dh_sz (c j) - 1))) → wpY_targetOf post (nI L, hy, q, ey, xy, c', b', R', H, C', S') (nI j) := fun post h => yt_t w' hL (by omega) hk' (by rw [ec, et]; exact h)
        generalize dh_tg (j + dh_sz (c j)) (c (j + dh_sz (c j) - 1)) = t at hX hY
        by_cases t1 : t ≤ nI a
        · refine ⟨z, fun post hp => ?_, fun post hp => ?_⟩
          · unfold wX_isEnteredInside_2
            rw [jc]
            refine br_f j6 ⟨ji, br_f hh ⟨ji, ?_⟩⟩
            refine xh_t hk ?_
            refine br_f dh_10 ?_
            refine hX _ ?_
            exact br_t t1 (nm_r (nI_1 _) (iX post hp))
          · unfold wY_isEntered_2
            rw [jc]
            refine br_f jL ⟨ji, br_f hb' ?_⟩
            refine hY _ ?_
            unfold wY_isEntered_30
            exact br_t t1 (nm_r (nI_1 _) (iY post hp))
        · by_cases t2 : nI a + nI s ≤ t
          · refine ⟨z, fun post hp => ?_, fun post hp => ?_⟩
            · unfold wX_isEnteredInside_2
              rw [jc]
              refine br_f j6 ⟨ji, br_f hh ⟨ji, ?_⟩⟩
              refine xh_t hk ?_
              refine br_f dh_10 ?_
              refine hX _ ?_
              exact br_f t1 (br_t t2 (nm_r (nI_1 _) (iX post hp)))
            · unfold wY_isEntered_2
              rw [jc]
              refine br_f jL ⟨ji, br_f hb' ?_⟩
              refine hY _ ?_
              unfold wY_isEntered_30
              exact br_f t1 (br_t t2 (nm_r (nI_1 _) (iY post hp)))
          · refine ⟨1, fun post hp => ?_, fun post hp => ?_⟩
            · unfold wX_isEnteredInside_2
              rw [jc]
              refine br_f j6 ⟨ji, br_f hh ⟨ji, ?_⟩⟩
              refine xh_t hk ?_
              refine br_f dh_10 ?_
              refine hX _ ?_
              exact br_f t1 (br_f t2 hp)
            · unfold wY_isEntered_2
              rw [jc]
              refine br_f jL ⟨ji, br_f hb' ?_⟩
              refine hY _ ?_
              unfold wY_isEntered_30
              exact br_f t1 (br_f t2 hp)
      · have hk' : ¬ (c' j = 4 ∨ c' j = 5 ∨ c' j = 6) := by rw [ec]; exact hk
        refine ⟨z, fun post hp => ?_, fun post hp => ?_⟩
        · unfold wX_isEnteredInside_2
          rw [jc]
          refine br_f j6 ⟨ji, br_f hh ⟨ji, ?_⟩⟩
          refine xh_f hk ?_
          exact br_t rfl (nm_r (nI_1 _) (iX post hp))
        · unfold wY_isEntered_2
          rw [jc]
          refine br_f jL ⟨ji, br_f hb' ?_⟩
          refine yt_f w' hL (by omega) hk' ?_
          unfold wY_isEntered_30
          exact br_t (dh_m1000 ha) (nm_r (nI_1 _) (iY post hp))
theorem en_b {a s : Nat} (hI : dh_Lay L c b c' b') (ha : a < 64) (hs : s ≤ 9) :
    ∃ z : Int32, (∀ post : Int32 → Prop, post z → wpX_isEnteredInside post (nI L, hc, d, p, e, x, c, b, R, S, H, C) (nI a) (nI s)) ∧ (∀ post : Int32 → Prop, post z → wpY_isEntered post (nI L, hy, q, ey, xy, c', b', R', H, C', S') (nI a) (nI s)) := by
  obtain ⟨z, hX, hY⟩ := en_l (hc := hc) (d := d) (p := p) (e := e) (x := x) (R := R) (S := S) (H := H) (C := C) (q := q) (ey := ey) (xy := xy) (hy := hy) (R' := R') (C' := C') (S' := S') hI ha hs L 0 (Nat.zero_add L)
  refine ⟨z, fun post hp => ?_, fun post hp => ?_⟩
  · unfold wpX_isEnteredInside
    exact ⟨_, hX post hp⟩
  · unfold wpY_isEntered
    exact ⟨_, hY post hp⟩
end DHC
end
section
section DHD
variable {d p e x q ey xy hy : Int32} {c b R S H C c' b' R' C' S' : Nat → Int32} {L n : Nat}
def i_Rel (_ : Nat) (u : SX) (v : SY) : Prop := ∃ (L n : Nat) (d p e x : Int32) (c b R S H C c' b' : Nat → Int32), u = (nI L, nI n, d, p, e, x, c, b, R, S, H, C) ∧ v = (nI L, d, p, e, x, c', b', R, H, C, S) ∧ dh_Lay L c b c' b' ∧ n = dh_cnt H 64 ∧ n ≤ 4
theorem i_up {k : Nat} {u : SX} {v : SY} (h : i_Rel k u v) : i_Rel (k + 3) u v := h
/-! what an append makes -/
def dh_ap (c : Nat → Int32) (L : Nat) (k s t : Int32) : Nat → Int32 := if dh_sz k = 1 then upd c L k else if dh_sz k = 2 then upd (upd c L k) (L + 1) s else upd (upd (upd c L k) (L + 1) s) (L + 2) t
def dh_bp (b : Nat → Int32) (L : Nat) (k : Int32) : Nat → Int32 := if dh_sz k = 1 then upd b L 1 else if dh_sz k = 2 then upd (upd b L 1) (L + 1) 0 else upd (upd (upd b L 1) (L + 1) 0) (L + 2) 0
theorem dh_sz3 (k : Int32) : dh_sz k = 1 ∨ dh_sz k = 2 ∨ dh_sz k = 3 := by
  have := dh_sz_pos k
  omega
theorem ap_e1 {k s t : Int32} (h : dh_sz k = 1) : dh_ap c L k s t = upd c L k := if_pos h
theorem ap_e2 {k s t : Int32} (h : dh_sz k = 2) : dh_ap c L k s t = upd (upd c L k) (L + 1) s := by
  unfold dh_ap
  rw [if_neg (by omega), if_pos h]
theorem ap_e3 {k s t : Int32} (h : dh_sz k = 3) : dh_ap c L k s t = upd (upd (upd c L k) (L + 1) s) (L + 2) t := by
  unfold dh_ap
  rw [if_neg (by omega), if_neg (by omega)]
theorem bp_e1 {k : Int32} (h : dh_sz k = 1) : dh_bp b L k = upd b L 1 := if_pos h
theorem bp_e2 {k : Int32} (h : dh_sz k = 2) : dh_bp b L k = upd (upd b L 1) (L + 1) 0 := by
  unfold dh_bp
  rw [if_neg (by omega), if_pos h]
theorem bp_e3 {k : Int32} (h : dh_sz k = 3) : dh_bp b L k = upd (upd (upd b L 1) (L + 1) 0) (L + 2) 0 := by
  unfold dh_bp
  rw [if_neg (by omega), if_neg (by omega)]
theorem ap_lo {k s t : Int32} {j : Nat} (hj : j < L) : dh_ap c L k s t j = c j := by
  rcases dh_sz3 k with h | h | h
  · rw [ap_e1 h, pk_un (by omega)]
  · rw [ap_e2 h, pk_un (by omega), pk_un (by omega)]
  · rw [ap_e3 h, pk_un (by omega), pk_un (by omega), pk_un (by omega)]
theorem ap_0 {k s t : Int32} : dh_ap c L k s t L = k := by
  rcases dh_sz3 k with h | h | h
  · rw [ap_e1 h, pk_us]
  · rw [ap_e2 h, pk_un (by omega), pk_us]
  · rw [ap_e3 h, pk_un (by omega), pk_un (by omega), pk_us]
theorem ap_1 {k s t : Int32} (h2 : 2 ≤ dh_sz k) : dh_ap c L k s t (L + 1) = s := by
  rcases dh_sz3 k with h | h | h
  · omega
  · rw [ap_e2 h, pk_us]
  · rw [ap_e3 h, pk_un (by omega), pk_us]
theorem ap_2 {k s t : Int32} (h2 : 3 ≤ dh_sz k) : dh_ap c L k s t (L + 2) = t := by
  rcases dh_sz3 k with h | h | h
  · omega
  · omega
  · rw [ap_e3 h, pk_us]
theorem bp_lo {k : Int32} {j : Nat} (hj : j < L) : dh_bp b L k j = b j := by
  rcases dh_sz3 k with h | h | h
  · rw [bp_e1 h, pk_un (by omega)]
  · rw [bp_e2 h, pk_un (by omega), pk_un (by omega)]
  · rw [bp_e3 h, pk_un (by omega), pk_un (by omega), pk_un (by omega)]
theorem bp_0 {k : Int32} : dh_bp b L k L = 1 := by
  rcases dh_sz3 k with h | h | h
  · rw [bp_e1 h, pk_us]
  · rw [bp_e2 h, pk_un (by omega), pk_us]
  · rw [bp_e3 h, pk_un (by omega), pk_un (by omega), pk_us]
theorem bp_1 {k : Int32} (h2 : 2 ≤ dh_sz k) : dh_bp b L k (L + 1) = 0 := by
  rcases dh_sz3 k with h | h | h
  · omega
  · rw [bp_e2 h, pk_us]
  · rw [bp_e3 h, pk_un (by omega), pk_us]
theorem bp_2 {k : Int32} (h2 : 3 ≤ dh_sz k) : dh_bp b L k (L + 2) = 0 := by
  rcases dh_sz3 k with h | h | h
  · omega
  · omega
  · rw [bp_e3 h, pk_us]
theorem dh_Lay_a {k s t : Int32} (h : dh_Lay L c b c' b') (h6 : L + dh_sz k ≤ 64) (ho : dh_OK k s) : dh_Lay (L + dh_sz k) (dh_ap c L k s t) (upd b L 1) (dh_ap c' L k s t) (dh_bp b' L k) := by
  have hp := dh_sz_pos k
  have ho' : dh_OK (dh_ap c L k s t L) (dh_ap c L k s t (L + 1)) := by
    rw [ap_0]
    exact dh_OK_c ho fun h2 => ap_1 h2
  refine ⟨dh_WF_a h.1 (by rw [ap_0]) h6 (fun j hj => ⟨ap_lo hj, pk_un (by omega)⟩) (by rw [pk_us]; decide) (fun j hj hj2 => ?_) ho', fun j hj => ?_, fun j hj hj2 => ?_⟩
  · rw [pk_un (by omega)]
    exact h.2.2 j (by omega) (by omega)
  · by_cases h0 : j < L
    · rw [ap_lo h0, ap_lo h0, bp_lo h0, pk_un (by omega)]
      exact h.2.1 j h0
    · by_cases h1 : j = L
      · subst h1
        rw [ap_0, ap_0, bp_0, pk_us]
        exact ⟨rfl, rfl⟩
      · by_cases h2 : j = L + 1
        · subst h2
          rw [ap_1 (by omega), ap_1 (by omega), bp_1 (by omega), pk_un (by omega), h.2.2 _ (by omega) (by omega)]
          exact ⟨rfl, rfl⟩
        · have h3 : j = L + 2 := by omega
          subst h3
          rw [ap_2 (by omega), ap_2 (by omega), bp_2 (by omega), pk_un (by omega), h.2.2 _ (by omega) (by omega)]
          exact ⟨rfl, rfl⟩
  · rw [pk_un (by omega)]
    exact h.2.2 j (by omega) hj2
/-! X's append -/
theorem xp_h {post : Int32 → SX → Prop} {k s t : Int32} (hn : 0 < n) (h4 : n ≤ 4) (h : post (-3) (nI L, nI n, d, p, e, x, c, b, R, S, H, C)) : wpX_append post (nI L, nI n, d, p, e, x, c, b, R, S, H, C) k s t := by
  unfold wpX_append
  dsimp only
  exact br_f (nI_nle hn (by omega)) h
theorem xp_f {post : Int32 → SX → Prop} {k s t : Int32} (hL : L ≤ 64) (h6 : 64 < L + dh_sz k) (h : post (-2) (nI L, nI 0, d, p, e, x, c, b, R, S, H, C)) : wpX_append post (nI L, nI 0, d, p, e, x, c, b, R, S, H, C) k s t := by
  have hp := dh_sz_pos k
  unfold wpX_append
  dsimp only
  refine br_t (by decide) ?_
  refine xz_s k ?_
  rw [nI_add]
  exact br_f (nI_ge (a := 64) h6 (by omega)) h
theorem xp_s {post : Int32 → SX → Prop} {k s t : Int32} (h6 : L + dh_sz k ≤ 64) (h : post (nI L) (nI (L + dh_sz k), nI 0, d, p, e, x, dh_ap c L k s t, upd b L 1, R, S, H, C)) : wpX_append post (nI L, nI 0, d, p, e, x, c, b, R, S, H, C) k s t := by
  have hp := dh_sz_pos k
  unfold wpX_append
  dsimp only
  refine br_t (by decide) ?_
  refine xz_s k ?_
  rw [nI_add, nI_clamp (by omega), dh_b1]
  refine br_t (nI_le (b := 64) h6 (by decide)) ⟨vp_in_nI (by omega) (by decide), nm_e ⟨vp_in_nI (by omega) (by decide), nm_e ?_⟩⟩
  rcases dh_sz3 k with z | z | z
  · rw [ap_e1 z, z] at h
    rw [z]
    refine br_t (by decide) ?_
    unfold wX_append_67
    exact br_t (by decide) (nm_r (nI_add _ _) h)
  · rw [ap_e2 z, z] at h
    rw [z, nI_1, nI_clamp (by omega)]
    refine br_f (by decide) ⟨vp_in_nI (by omega) (by decide), nm_e ?_⟩
    unfold wX_append_67
    exact br_t (by decide) (nm_r (nI_add _ _) h)
  · rw [ap_e3 z, z] at h
    rw [z, nI_1, nI_clamp (by omega)]
    refine br_f (by decide) ⟨vp_in_nI (by omega) (by decide), nm_e ?_⟩
    unfold wX_append_67
    have e2 : nI L + 2 = nI (L + 2) := nI_add L 2
    rw [e2, nI_clamp (by omega)]
    exact br_f (by decide) ⟨vp_in_nI (by omega) (by decide), nm_e (nm_r (nI_add _ _) h)⟩
/-! Y's append -/
theorem yl_e {post : Int32 → SY → Prop} {z i m M : Nat} {k s t w : Int32} (hi : z ≤ i) (h3 : i ≤ 3) (h : post w (nI M, hy, q, ey, xy, c', b', R', H, C', S')) : wY_append_33 post (nI z) k s t w hy q ey xy (m + 1) (nI i) (nI M) c' b' R' H C' S' := by
  unfold wY_append_33
  exact br_t (nI_le hi (by omega)) h
theorem yl_0 {post : Int32 → SY → Prop} {z m M : Nat} {k s t w : Int32} (hz : 0 < z) (h3 : z ≤ 3) (hM : M < 64) (h : wY_append_33 post (nI z) k s t w hy q ey xy m (nI 1) (nI (M + 1)) (upd c' M k) (upd b' M 1) R' H C' S') : wY_append_33 post (nI z) k s t w hy q ey xy (m + 1) (nI 0) (nI M) c' b' R' H C' S' := by
  unfold wY_append_33
  refine br_f (nI_ge hz (by omega)) (br_t nI_0 ?_)
  unfold wY_append_76
  rw [nI_clamp (by omega)]
  refine ⟨vp_in_nI hM (by decide), nm_e (br_t nI_0 ?_)⟩
  unfold wY_append_95
  rw [nI_clamp (by omega), dh_b1]
  exact ⟨vp_in_nI hM (by decide), nm_e (nm_r (nI_1 _) (nm_r (nI_1 _) h))⟩
theorem yl_1 {post : Int32 → SY → Prop} {z m M : Nat} {k s t w : Int32} (hz : 1 < z) (h3 : z ≤ 3) (hM : M < 64) (h : wY_append_33 post (nI z) k s t w hy q ey xy m (nI 2) (nI (M + 1)) (upd c' M (s &&& 255)) (upd b' M 0) R' H C' S') : wY_append_33 post (nI z) k s t w hy q ey xy (m + 1) (nI 1) (nI M) c' b' R' H C' S' := by
  unfold wY_append_33
  refine br_f (nI_ge hz (by omega)) (br_f (by decide) (br_t (by decide) ?_))
  unfold wY_append_76
  rw [nI_clamp (by omega)]
  refine ⟨vp_in_nI hM (by decide), nm_e (br_f (by decide) ?_)⟩
  unfold wY_append_95
  rw [nI_clamp (by omega), dh_b0]
  exact ⟨vp_in_nI hM (by decide), nm_e (nm_r (nI_1 _) (nm_r (nI_1 _) h))⟩
theorem yl_2 {post : Int32 → SY → Prop} {z m M : Nat} {k s t w : Int32} (hz : 2 < z) (h3 : z ≤ 3) (hM : M < 64) (h : wY_append_33 post (nI z) k s t w hy q ey xy m (nI 3) (nI (M + 1)) (upd c' M (t &&& 255)) (upd b' M 0) R' H C' S') : wY_append_33 post (nI z) k s t w hy q ey xy (m + 1) (nI 2) (nI M) c' b' R' H C' S' := by
  unfold wY_append_33
  refine br_f (nI_ge hz (by omega)) (br_f (by decide) (br_f (by decide) ?_))
  unfold wY_append_76
  rw [nI_clamp (by omega)]
  refine ⟨vp_in_nI hM (by decide), nm_e (br_f (by decide) ?_)⟩
  unfold wY_append_95
  rw [nI_clamp (by omega), dh_b0]
  exact ⟨vp_in_nI hM (by decide), nm_e (nm_r (nI_1 _) (nm_r (nI_1 _) h))⟩
theorem yp_h {post : Int32 → SY → Prop} {k s t z : Int32} (hn : 0 < dh_cnt H 64) (h : post (-3) (nI L, hy, q, ey, xy, c', b', R', H, C', S')) : wpY_append post (nI L, hy, q, ey, xy, c', b', R', H, C', S') z k s t := by
  have hc := dh_cnt_le H 64
  unfold wpY_append
  dsimp only
  refine yh_s ?_
  exact br_f (nI_nle hn (by omega)) h
theorem yp_f {post : Int32 → SY → Prop} {k s t : Int32} (hn : dh_cnt H 64 = 0) (hL : L ≤ 64) (h6 : 64 < L + dh_sz k) (h : post (-2) (nI L, hy, q, ey, xy, c', b', R', H, C', S')) : wpY_append post (nI L, hy, q, ey, xy, c', b', R', H, C', S') (nI (dh_sz k)) k s t := by
  have hp := dh_sz_pos k
  unfold wpY_append
  dsimp only
  refine yh_s ?_
  rw [hn, nI_add]
  exact br_t (by decide) (br_f (nI_ge (a := 64) h6 (by omega)) h)
theorem yp_s {post : Int32 → SY → Prop} {k s t : Int32} (hn : dh_cnt H 64 = 0) (h6 : L + dh_sz k ≤ 64) (h : post (nI L) (nI (L + dh_sz k), hy, q, ey, xy, dh_ap c' L k (s &&& 255) (t &&& 255), dh_bp b' L k, R', H, C', S')) : wpY_append post (nI L, hy, q, ey, xy, c', b', R', H, C', S') (nI (dh_sz k)) k s t := by
  have hp := dh_sz_pos k
  unfold wpY_append
  dsimp only
  refine yh_s ?_
  rw [hn, nI_add]
  refine br_t (by decide) (br_t (nI_le (b := 64) h6 (by decide)) ?_)
  rcases dh_sz3 k with z | z | z
  · rw [ap_e1 z, bp_e1 z, z] at h
    rw [z]
    exact ⟨2, yl_0 (by omega) (by omega) (by omega) (yl_e (by omega) (by omega) h)⟩
  · rw [ap_e2 z, bp_e2 z, z] at h
    rw [z]
    exact ⟨3, yl_0 (by omega) (by omega) (by omega) (yl_1 (by omega) (by omega) (by omega) (yl_e (by omega) (by omega) h))⟩
  · rw [ap_e3 z, bp_e3 z, z] at h
    rw [z]
    exact ⟨4, yl_0 (by omega) (by omega) (by omega) (yl_1 (by omega) (by omega) (by omega) (yl_2 (by omega) (by omega) (by omega) (yl_e (by omega) (by omega) h)))⟩
theorem ap_b {k s t s' t' z : Int32} (kk : Nat) (hI : dh_Lay L c b c' b') (hn : n = dh_cnt H 64) (h4 : n ≤ 4) (ho : dh_OK k s) (hs : s' &&& 255 = s) (ht : t' &&& 255 = t) (hz : z = nI (dh_sz k)) :
    ∃ (r : Int32) (u' : SX) (v' : SY), i_Rel kk u' v' ∧ (∀ post : Int32 → SX → Prop, post r u' → wpX_append post (nI L, nI n, d, p, e, x, c, b, R, S, H, C) k s t) ∧ (∀ post : Int32 → SY → Prop, post r v' → wpY_append post (nI L, d, p, e, x, c', b', R, H, C, S) z k s' t') := by
  have hL := hI.1.1
  subst hz
  by_cases h0 : 0 < n
  · exact ⟨-3, (nI L, nI n, d, p, e, x, c, b, R, S, H, C), (nI L, d, p, e, x, c', b', R, H, C, S), ⟨L, n, d, p, e, x, c, b, R, S, H, C, c', b', rfl, rfl, hI, hn, h4⟩, fun post h => xp_h h0 h4 h, fun post h => yp_h (by omega) h⟩
  · have h00 : n = 0 := by omega
    subst h00
    by_cases h6 : L + dh_sz k ≤ 64
    · refine ⟨nI L, (nI (L + dh_sz k), nI 0, d, p, e, x, dh_ap c L k s t, upd b L 1, R, S, H, C), (nI (L + dh_sz k), d, p, e, x, dh_ap c' L k s t, dh_bp b' L k, R, H, C, S), ⟨L + dh_sz k, 0, d, p, e, x, _, _, R, S, H, C, _, _, rfl, rfl, dh_Lay_a hI h6 ho, hn, h4⟩, fun post h => xp_s h6 h, fun post h => yp_s hn.symm h6 ?_⟩
      rw [hs, ht]
      exact h
    · exact ⟨-2, (nI L, nI 0, d, p, e, x, c, b, R, S, H, C), (nI L, d, p, e, x, c', b', R, H, C, S), ⟨L, 0, d, p, e, x, c, b, R, S, H, C, c', b', rfl, rfl, hI, hn, h4⟩, fun post h => xp_f hL (by omega) h, fun post h => yp_f hn.symm hL (by omega) h⟩
end DHD
end
section
section DHE
theorem xg_f {post : Int32 → Prop} {v : Int32} (hv : v < -128 ∨ 127 < v) (h : post 0) : wpX_isRelativeTarget post v := by
  rcases hv with hv | hv
  · exact br_t hv h
  · exact br_c (fun _ => h) (fun _ => br_t hv h)
theorem xg_t {post : Int32 → Prop} {v : Int32} (hv : ¬ (v < -128 ∨ 127 < v)) (h : post 1) : wpX_isRelativeTarget post v :=
  br_f (fun z => hv (Or.inl z)) (br_f (fun z => hv (Or.inr z)) h)
theorem yg_f {post : Int32 → Prop} {w : SY} {v : Int32} (hv : v < -128 ∨ 127 < v) (h : post 0) : wpY_isTarget post w v := by
  rcases hv with hv | hv
  · exact br_t hv h
  · exact br_c (fun _ => h) (fun _ => br_t hv h)
theorem yg_t {post : Int32 → Prop} {w : SY} {v : Int32} (hv : ¬ (v < -128 ∨ 127 < v)) (h : post 1) : wpY_isTarget post w v :=
  br_f (fun z => hv (Or.inl z)) (br_f (fun z => hv (Or.inr z)) h)
theorem dh_le63 {a : Nat} (ha : a < 64) : nI a ≤ 63 := nI_le (b := 63) (by omega) (by decide)
theorem dh_n63 {v : Int32} (h : nI 64 ≤ v) : ¬ v ≤ 63 := Int32.not_le.mpr (dh_ge (n := 63) h (by decide))
theorem i_vc0 : wpX_init (fun u => wpY_init (fun v => i_Rel 0 u v)) := by
  unfold wpX_init wpY_init
  exact ⟨0, 0, 0, 0, 0, 0, fun _ => 0, fun _ => 0, fun _ => 0, fun _ => 0, fun _ => 0, fun _ => 0, fun _ => 0, fun _ => 0, rfl, rfl, ⟨⟨by omega, fun a ha => absurd ha (Nat.not_lt_zero a)⟩, fun j hj => absurd hj (Nat.not_lt_zero j), fun _ _ _ => rfl⟩, by decide +kernel, by omega⟩
theorem i_vc_halt {k : Nat} {u : SX} {v : SY} (I : i_Rel k u v) (hk : k + 3 ≤ 1536) : wpX_halt (fun r u' => wpY_halt (fun r' v' => r' = r ∧ i_Rel (k + 3) u' v') v) u := by
  obtain ⟨L, n, d, p, e, x, c, b, R, S, H, C, c', b', rfl, rfl, hI, hn, h4⟩ := I
  obtain ⟨r, u', v', hR, hX, hY⟩ := ap_b (d := d) (p := p) (e := e) (x := x) (R := R) (S := S) (C := C) (k := 0) (s := 0) (t := 0) (s' := 0) (t' := 0) (z := 1) (k + 3) hI hn h4 (Or.inl rfl) (by decide) (by decide) (by decide)
  obtain ⟨_, _, _, _, _, _, _, _, _, _, _, _⟩ := u'
  obtain ⟨_, _, _, _, _, _, _, _, _, _, _⟩ := v'
  unfold wpX_halt
  dsimp only
  refine hX _ ?_
  dsimp only
  unfold wpY_halt
  dsimp only
  refine hY _ ?_
  exact ⟨rfl, hR⟩
theorem i_vc_giveBack {k : Nat} {u : SX} {v : SY} (I : i_Rel k u v) (hk : k + 3 ≤ 1536) : wpX_giveBack (fun r u' => wpY_giveBack (fun r' v' => r' = r ∧ i_Rel (k + 3) u' v') v) u := by
  obtain ⟨L, n, d, p, e, x, c, b, R, S, H, C, c', b', rfl, rfl, hI, hn, h4⟩ := I
  obtain ⟨r, u', v', hR, hX, hY⟩ := ap_b (d := d) (p := p) (e := e) (x := x) (R := R) (S := S) (C := C) (k := 7) (s := 0) (t := 0) (s' := 0) (t' := 0) (z := 1) (k + 3) hI hn h4 (Or.inr (Or.inl rfl)) (by decide) (by decide) (by decide)
  obtain ⟨_, _, _, _, _, _, _, _, _, _, _, _⟩ := u'
  obtain ⟨_, _, _, _, _, _, _, _, _, _, _⟩ := v'
  unfold wpX_giveBack
  dsimp only
  refine hX _ ?_
  dsimp only
  unfold wpY_giveBack
  dsimp only
  refine hY _ ?_
  exact ⟨rfl, hR⟩
theorem i_vc_inc {k : Nat} {u : SX} {v : SY} (I : i_Rel k u v) (hk : k + 3 ≤ 1536) (v1 : Int32) : wpX_inc (fun r u' => wpY_inc (fun r' v' => r' = r ∧ i_Rel (k + 3) u' v') v v1) u v1 := by
  obtain ⟨L, n, d, p, e, x, c, b, R, S, H, C, c', b', rfl, rfl, hI, hn, h4⟩ := I
  have hL := hI.1.1
  have hR : i_Rel (k + 3) (nI L, nI n, d, p, e, x, c, b, R, S, H, C) (nI L, d, p, e, x, c', b', R, H, C, S) := ⟨L, n, d, p, e, x, c, b, R, S, H, C, c', b', rfl, rfl, hI, hn, h4⟩
  rcases pk_ix v1 (n := 4) (by decide) with h | h | ⟨a, ha, rfl⟩
  · unfold wpX_inc
    dsimp only
    unfold wpX_appendWithRegister
    dsimp only
    refine xr_f (Or.inl h) ?_
    refine br_t rfl ?_
    unfold wpY_inc
    dsimp only
    refine yr_f (Or.inl h) ?_
    exact br_t rfl ⟨rfl, hR⟩
  · unfold wpX_inc
    dsimp only
    unfold wpX_appendWithRegister
    dsimp only
    refine xr_f (Or.inr h) ?_
    refine br_t rfl ?_
    unfold wpY_inc
    dsimp only
    refine yr_f (Or.inr h) ?_
    exact br_t rfl ⟨rfl, hR⟩
  · obtain ⟨r, u', v', hR2, hX, hY⟩ := ap_b (d := d) (p := p) (e := e) (x := x) (R := R) (S := S) (C := C) (k := 1) (s := nI a) (t := 0) (s' := nI a) (t' := 0) (z := 2) (k + 3) hI hn h4 (Or.inr (Or.inr (Or.inr (Or.inr (Or.inr (Or.inl ⟨(Or.inl rfl), a, ha, rfl⟩)))))) (dh_and255 (by omega)) (by decide) (by decide)
    obtain ⟨_, _, _, _, _, _, _, _, _, _, _, _⟩ := u'
    obtain ⟨_, _, _, _, _, _, _, _, _, _, _⟩ := v'
    unfold wpX_inc
    dsimp only
    unfold wpX_appendWithRegister
    dsimp only
    refine xr_t ha ?_
    refine br_f dh_10 ?_
    refine hX _ ?_
    dsimp only
    unfold wpY_inc
    dsimp only
    refine yr_t ha ?_
    refine br_f dh_10 ?_
    refine hY _ ?_
    exact ⟨rfl, hR2⟩
theorem i_vc_dec {k : Nat} {u : SX} {v : SY} (I : i_Rel k u v) (hk : k + 3 ≤ 1536) (v1 : Int32) : wpX_dec (fun r u' => wpY_dec (fun r' v' => r' = r ∧ i_Rel (k + 3) u' v') v v1) u v1 := by
  obtain ⟨L, n, d, p, e, x, c, b, R, S, H, C, c', b', rfl, rfl, hI, hn, h4⟩ := I
  have hL := hI.1.1
  have hR : i_Rel (k + 3) (nI L, nI n, d, p, e, x, c, b, R, S, H, C) (nI L, d, p, e, x, c', b', R, H, C, S) := ⟨L, n, d, p, e, x, c, b, R, S, H, C, c', b', rfl, rfl, hI, hn, h4⟩
  rcases pk_ix v1 (n := 4) (by decide) with h | h | ⟨a, ha, rfl⟩
  · unfold wpX_dec
    dsimp only
    unfold wpX_appendWithRegister
    dsimp only
    refine xr_f (Or.inl h) ?_
    refine br_t rfl ?_
    unfold wpY_dec
    dsimp only
    refine yr_f (Or.inl h) ?_
    exact br_t rfl ⟨rfl, hR⟩
  · unfold wpX_dec
    dsimp only
    unfold wpX_appendWithRegister
    dsimp only
    refine xr_f (Or.inr h) ?_
    refine br_t rfl ?_
    unfold wpY_dec
    dsimp only
    refine yr_f (Or.inr h) ?_
    exact br_t rfl ⟨rfl, hR⟩
  · obtain ⟨r, u', v', hR2, hX, hY⟩ := ap_b (d := d) (p := p) (e := e) (x := x) (R := R) (S := S) (C := C) (k := 2) (s := nI a) (t := 0) (s' := nI a) (t' := 0) (z := 2) (k + 3) hI hn h4 (Or.inr (Or.inr (Or.inr (Or.inr (Or.inr (Or.inl ⟨(Or.inr (Or.inl rfl)), a, ha, rfl⟩)))))) (dh_and255 (by omega)) (by decide) (by decide)
    obtain ⟨_, _, _, _, _, _, _, _, _, _, _, _⟩ := u'
    obtain ⟨_, _, _, _, _, _, _, _, _, _, _⟩ := v'
    unfold wpX_dec
    dsimp only
    unfold wpX_appendWithRegister
    dsimp only
    refine xr_t ha ?_
    refine br_f dh_10 ?_
    refine hX _ ?_
    dsimp only
    unfold wpY_dec
    dsimp only
    refine yr_t ha ?_
    refine br_f dh_10 ?_
    refine hY _ ?_
    exact ⟨rfl, hR2⟩
theorem i_vc_where {k : Nat} {u : SX} {v : SY} (I : i_Rel k u v) (hk : k + 3 ≤ 1536) (v1 : Int32) : wpX_where (fun r u' => wpY_where (fun r' v' => r' = r ∧ i_Rel (k + 3) u' v') v v1) u v1 := by
  obtain ⟨L, n, d, p, e, x, c, b, R, S, H, C, c', b', rfl, rfl, hI, hn, h4⟩ := I
  have hL := hI.1.1
  have hR : i_Rel (k + 3) (nI L, nI n, d, p, e, x, c, b, R, S, H, C) (nI L, d, p, e, x, c', b', R, H, C, S) := ⟨L, n, d, p, e, x, c, b, R, S, H, C, c', b', rfl, rfl, hI, hn, h4⟩
  rcases pk_ix v1 (n := 4) (by decide) with h | h | ⟨a, ha, rfl⟩
  · unfold wpX_where
    dsimp only
    unfold wpX_appendWithRegister
    dsimp only
    refine xr_f (Or.inl h) ?_
    refine br_t rfl ?_
    unfold wpY_where
    dsimp only
    refine yr_f (Or.inl h) ?_
    exact br_t rfl ⟨rfl, hR⟩
  · unfold wpX_where
    dsimp only
    unfold wpX_appendWithRegister
    dsimp only
    refine xr_f (Or.inr h) ?_
    refine br_t rfl ?_
    unfold wpY_where
    dsimp only
    refine yr_f (Or.inr h) ?_
    exact br_t rfl ⟨rfl, hR⟩
  · obtain ⟨r, u', v', hR2, hX, hY⟩ := ap_b (d := d) (p := p) (e := e) (x := x) (R := R) (S := S) (C := C) (k := 8) (s := nI a) (t := 0) (s' := nI a) (t' := 0) (z := 2) (k + 3) hI hn h4 (Or.inr (Or.inr (Or.inr (Or.inr (Or.inr (Or.inl ⟨(Or.inr (Or.inr rfl)), a, ha, rfl⟩)))))) (dh_and255 (by omega)) (by decide) (by decide)
    obtain ⟨_, _, _, _, _, _, _, _, _, _, _, _⟩ := u'
    obtain ⟨_, _, _, _, _, _, _, _, _, _, _⟩ := v'
    unfold wpX_where
    dsimp only
    unfold wpX_appendWithRegister
    dsimp only
    refine xr_t ha ?_
    refine br_f dh_10 ?_
    refine hX _ ?_
    dsimp only
    unfold wpY_where
    dsimp only
    refine yr_t ha ?_
    refine br_f dh_10 ?_
    refine hY _ ?_
    exact ⟨rfl, hR2⟩
theorem i_vc_move {k : Nat} {u : SX} {v : SY} (I : i_Rel k u v) (hk : k + 3 ≤ 1536) (v1 : Int32) (v2 : Int32) : wpX_move (fun r u' => wpY_move (fun r' v' => r' = r ∧ i_Rel (k + 3) u' v') v v1 v2) u v1 v2 := by
  obtain ⟨L, n, d, p, e, x, c, b, R, S, H, C, c', b', rfl, rfl, hI, hn, h4⟩ := I
  have hL := hI.1.1
  have hR : i_Rel (k + 3) (nI L, nI n, d, p, e, x, c, b, R, S, H, C) (nI L, d, p, e, x, c', b', R, H, C, S) := ⟨L, n, d, p, e, x, c, b, R, S, H, C, c', b', rfl, rfl, hI, hn, h4⟩
  rcases pk_ix v1 (n := 4) (by decide) with h | h | ⟨a, ha, rfl⟩
  · unfold wpX_move
    dsimp only
    refine xr_f (Or.inl h) ?_
    refine br_t rfl ?_
    unfold wpY_move
    dsimp only
    refine yr_f (Or.inl h) ?_
    exact br_t rfl ⟨rfl, hR⟩
  · unfold wpX_move
    dsimp only
    refine xr_f (Or.inr h) ?_
    refine br_t rfl ?_
    unfold wpY_move
    dsimp only
    refine yr_f (Or.inr h) ?_
    exact br_t rfl ⟨rfl, hR⟩
  · rcases pk_ix v2 (n := 4) (by decide) with h | h | ⟨a2, ha2, rfl⟩
    · unfold wpX_move
      dsimp only
      refine xr_t ha ?_
      refine br_f dh_10 ?_
      refine xr_f (Or.inl h) ?_
      refine br_t rfl ?_
      unfold wpY_move
      dsimp only
      refine yr_t ha ?_
      refine br_f dh_10 ?_
      refine yr_f (Or.inl h) ?_
      exact br_t rfl ⟨rfl, hR⟩
    · unfold wpX_move
      dsimp only
      refine xr_t ha ?_
      refine br_f dh_10 ?_
      refine xr_f (Or.inr h) ?_
      refine br_t rfl ?_
      unfold wpY_move
      dsimp only
      refine yr_t ha ?_
      refine br_f dh_10 ?_
      refine yr_f (Or.inr h) ?_
      exact br_t rfl ⟨rfl, hR⟩
    · have em : nI a + 4 * nI a2 = nI (a + 4 * a2) := by
        rw [show (4 : Int32) * nI a2 = nI (4 * a2) from pk_mul 4 a2, nI_add]
      obtain ⟨r, u', v', hR2, hX, hY⟩ := ap_b (d := d) (p := p) (e := e) (x := x) (R := R) (S := S) (C := C) (k := 3) (s := nI a + 4 * nI a2) (t := 0) (s' := nI a + 4 * nI a2) (t' := 0) (z := 2) (k + 3) hI hn h4 (Or.inr (Or.inr (Or.inr (Or.inr (Or.inr (Or.inr ⟨rfl, a + 4 * a2, by omega, em⟩)))))) (by rw [em]; exact dh_and255 (by omega)) (by decide) (by decide)
      obtain ⟨_, _, _, _, _, _, _, _, _, _, _, _⟩ := u'
      obtain ⟨_, _, _, _, _, _, _, _, _, _, _⟩ := v'
      unfold wpX_move
      dsimp only
      refine xr_t ha ?_
      refine br_f dh_10 ?_
      refine xr_t ha2 ?_
      refine br_f dh_10 ?_
      refine hX _ ?_
      dsimp only
      unfold wpY_move
      dsimp only
      refine yr_t ha ?_
      refine br_f dh_10 ?_
      refine yr_t ha2 ?_
      refine br_f dh_10 ?_
      refine hY _ ?_
      exact ⟨rfl, hR2⟩
theorem i_vc_jump {k : Nat} {u : SX} {v : SY} (I : i_Rel k u v) (hk : k + 3 ≤ 1536) (v1 : Int32) : wpX_jump (fun r u' => wpY_jump (fun r' v' => r' = r ∧ i_Rel (k + 3) u' v') v v1) u v1 := by
  obtain ⟨L, n, d, p, e, x, c, b, R, S, H, C, c', b', rfl, rfl, hI, hn, h4⟩ := I
  have hL := hI.1.1
  have hR : i_Rel (k + 3) (nI L, nI n, d, p, e, x, c, b, R, S, H, C) (nI L, d, p, e, x, c', b', R, H, C, S) := ⟨L, n, d, p, e, x, c, b, R, S, H, C, c', b', rfl, rfl, hI, hn, h4⟩
  by_cases h : v1 < -128 ∨ 127 < v1
  · unfold wpX_jump
    dsimp only
    unfold wpX_appendWithTarget
    dsimp only
    refine xg_f h ?_
    refine br_t rfl ?_
    unfold wpY_jump
    dsimp only
    refine yg_f h ?_
    exact br_t rfl ⟨rfl, hR⟩
  · obtain ⟨r, u', v', hR2, hX, hY⟩ := ap_b (d := d) (p := p) (e := e) (x := x) (R := R) (S := S) (C := C) (k := 4) (s := v1 &&& 255) (t := 0) (s' := v1) (t' := 0) (z := 2) (k + 3) hI hn h4 (Or.inr (Or.inr (Or.inl rfl))) rfl (by decide) (by decide)
    obtain ⟨_, _, _, _, _, _, _, _, _, _, _, _⟩ := u'
    obtain ⟨_, _, _, _, _, _, _, _, _, _, _⟩ := v'
    unfold wpX_jump
    dsimp only
    unfold wpX_appendWithTarget
    dsimp only
    refine xg_t h ?_
    refine br_f dh_10 ?_
    refine hX _ ?_
    dsimp only
    unfold wpY_jump
    dsimp only
    refine yg_t h ?_
    refine br_f dh_10 ?_
    refine hY _ ?_
    exact ⟨rfl, hR2⟩
theorem i_vc_call {k : Nat} {u : SX} {v : SY} (I : i_Rel k u v) (hk : k + 3 ≤ 1536) (v1 : Int32) : wpX_call (fun r u' => wpY_call (fun r' v' => r' = r ∧ i_Rel (k + 3) u' v') v v1) u v1 := by
  obtain ⟨L, n, d, p, e, x, c, b, R, S, H, C, c', b', rfl, rfl, hI, hn, h4⟩ := I
  have hL := hI.1.1
  have hR : i_Rel (k + 3) (nI L, nI n, d, p, e, x, c, b, R, S, H, C) (nI L, d, p, e, x, c', b', R, H, C, S) := ⟨L, n, d, p, e, x, c, b, R, S, H, C, c', b', rfl, rfl, hI, hn, h4⟩
  by_cases h : v1 < -128 ∨ 127 < v1
  · unfold wpX_call
    dsimp only
    unfold wpX_appendWithTarget
    dsimp only
    refine xg_f h ?_
    refine br_t rfl ?_
    unfold wpY_call
    dsimp only
    refine yg_f h ?_
    exact br_t rfl ⟨rfl, hR⟩
  · obtain ⟨r, u', v', hR2, hX, hY⟩ := ap_b (d := d) (p := p) (e := e) (x := x) (R := R) (S := S) (C := C) (k := 6) (s := v1 &&& 255) (t := 0) (s' := v1) (t' := 0) (z := 2) (k + 3) hI hn h4 (Or.inr (Or.inr (Or.inr (Or.inl rfl)))) rfl (by decide) (by decide)
    obtain ⟨_, _, _, _, _, _, _, _, _, _, _, _⟩ := u'
    obtain ⟨_, _, _, _, _, _, _, _, _, _, _⟩ := v'
    unfold wpX_call
    dsimp only
    unfold wpX_appendWithTarget
    dsimp only
    refine xg_t h ?_
    refine br_f dh_10 ?_
    refine hX _ ?_
    dsimp only
    unfold wpY_call
    dsimp only
    refine yg_t h ?_
    refine br_f dh_10 ?_
    refine hY _ ?_
    exact ⟨rfl, hR2⟩
theorem i_vc_branch {k : Nat} {u : SX} {v : SY} (I : i_Rel k u v) (hk : k + 3 ≤ 1536) (v1 : Int32) (v2 : Int32) : wpX_branch (fun r u' => wpY_branch (fun r' v' => r' = r ∧ i_Rel (k + 3) u' v') v v1 v2) u v1 v2 := by
  obtain ⟨L, n, d, p, e, x, c, b, R, S, H, C, c', b', rfl, rfl, hI, hn, h4⟩ := I
  have hL := hI.1.1
  have hR : i_Rel (k + 3) (nI L, nI n, d, p, e, x, c, b, R, S, H, C) (nI L, d, p, e, x, c', b', R, H, C, S) := ⟨L, n, d, p, e, x, c, b, R, S, H, C, c', b', rfl, rfl, hI, hn, h4⟩
  rcases pk_ix v1 (n := 4) (by decide) with h | h | ⟨a, ha, rfl⟩
  · unfold wpX_branch
    dsimp only
    refine xr_f (Or.inl h) ?_
    refine br_t rfl ?_
    unfold wpY_branch
    dsimp only
    refine yr_f (Or.inl h) ?_
    exact br_t rfl ⟨rfl, hR⟩
  · unfold wpX_branch
    dsimp only
    refine xr_f (Or.inr h) ?_
    refine br_t rfl ?_
    unfold wpY_branch
    dsimp only
    refine yr_f (Or.inr h) ?_
    exact br_t rfl ⟨rfl, hR⟩
  · by_cases h : v2 < -128 ∨ 127 < v2
    · unfold wpX_branch
      dsimp only
      refine xr_t ha ?_
      refine br_f dh_10 ?_
      refine xg_f h ?_
      refine br_t rfl ?_
      unfold wpY_branch
      dsimp only
      refine yr_t ha ?_
      refine br_f dh_10 ?_
      refine yg_f h ?_
      exact br_t rfl ⟨rfl, hR⟩
    · obtain ⟨r, u', v', hR2, hX, hY⟩ := ap_b (d := d) (p := p) (e := e) (x := x) (R := R) (S := S) (C := C) (k := 5) (s := nI a) (t := v2 &&& 255) (s' := nI a) (t' := v2) (z := 3) (k + 3) hI hn h4 (Or.inr (Or.inr (Or.inr (Or.inr (Or.inl ⟨rfl, a, ha, rfl⟩))))) (dh_and255 (by omega)) rfl (by decide)
      obtain ⟨_, _, _, _, _, _, _, _, _, _, _, _⟩ := u'
      obtain ⟨_, _, _, _, _, _, _, _, _, _, _⟩ := v'
      unfold wpX_branch
      dsimp only
      refine xr_t ha ?_
      refine br_f dh_10 ?_
      refine xg_t h ?_
      refine br_f dh_10 ?_
      refine hX _ ?_
      dsimp only
      unfold wpY_branch
      dsimp only
      refine yr_t ha ?_
      refine br_f dh_10 ?_
      refine yg_t h ?_
      refine br_f dh_10 ?_
      refine hY _ ?_
      exact ⟨rfl, hR2⟩
theorem i_vc_length {k : Nat} {u : SX} {v : SY} (I : i_Rel k u v) (hk : k + 3 ≤ 1536) : wpX_length (fun r => wpY_length (fun r' => r' = r ∧ i_Rel (k + 3) u v) v) u := by
  obtain ⟨L, n, d, p, e, x, c, b, R, S, H, C, c', b', rfl, rfl, hI, hn, h4⟩ := I
  have hL := hI.1.1
  have hR : i_Rel (k + 3) (nI L, nI n, d, p, e, x, c, b, R, S, H, C) (nI L, d, p, e, x, c', b', R, H, C, S) := ⟨L, n, d, p, e, x, c, b, R, S, H, C, c', b', rfl, rfl, hI, hn, h4⟩
  unfold wpX_length
  dsimp only
  unfold wpY_length
  exact ⟨rfl, hR⟩
theorem i_vc_ending {k : Nat} {u : SX} {v : SY} (I : i_Rel k u v) (hk : k + 3 ≤ 1536) : wpX_ending (fun r => wpY_ending (fun r' => r' = r ∧ i_Rel (k + 3) u v) v) u := by
  obtain ⟨L, n, d, p, e, x, c, b, R, S, H, C, c', b', rfl, rfl, hI, hn, h4⟩ := I
  have hL := hI.1.1
  have hR : i_Rel (k + 3) (nI L, nI n, d, p, e, x, c, b, R, S, H, C) (nI L, d, p, e, x, c', b', R, H, C, S) := ⟨L, n, d, p, e, x, c, b, R, S, H, C, c', b', rfl, rfl, hI, hn, h4⟩
  unfold wpX_ending
  dsimp only
  unfold wpY_ending
  exact ⟨rfl, hR⟩
theorem i_vc_executed {k : Nat} {u : SX} {v : SY} (I : i_Rel k u v) (hk : k + 3 ≤ 1536) : wpX_executed (fun r => wpY_executed (fun r' => r' = r ∧ i_Rel (k + 3) u v) v) u := by
  obtain ⟨L, n, d, p, e, x, c, b, R, S, H, C, c', b', rfl, rfl, hI, hn, h4⟩ := I
  have hL := hI.1.1
  have hR : i_Rel (k + 3) (nI L, nI n, d, p, e, x, c, b, R, S, H, C) (nI L, d, p, e, x, c', b', R, H, C, S) := ⟨L, n, d, p, e, x, c, b, R, S, H, C, c', b', rfl, rfl, hI, hn, h4⟩
  unfold wpX_executed
  dsimp only
  unfold wpY_executed
  exact ⟨rfl, hR⟩
theorem i_vc_hooks {k : Nat} {u : SX} {v : SY} (I : i_Rel k u v) (hk : k + 3 ≤ 1536) : wpX_hooks (fun r => wpY_hooks (fun r' => r' = r ∧ i_Rel (k + 3) u v) v) u := by
  obtain ⟨L, n, d, p, e, x, c, b, R, S, H, C, c', b', rfl, rfl, hI, hn, h4⟩ := I
  have hL := hI.1.1
  have hR : i_Rel (k + 3) (nI L, nI n, d, p, e, x, c, b, R, S, H, C) (nI L, d, p, e, x, c', b', R, H, C, S) := ⟨L, n, d, p, e, x, c, b, R, S, H, C, c', b', rfl, rfl, hI, hn, h4⟩
  unfold wpX_hooks
  dsimp only
  refine yh_s ?_
  exact ⟨by rw [hn], hR⟩
theorem i_vc_peek {k : Nat} {u : SX} {v : SY} (I : i_Rel k u v) (hk : k + 3 ≤ 1536) (v1 : Int32) : wpX_peek (fun r => wpY_peek (fun r' => r' = r ∧ i_Rel (k + 3) u v) v v1) u v1 := by
  obtain ⟨L, n, d, p, e, x, c, b, R, S, H, C, c', b', rfl, rfl, hI, hn, h4⟩ := I
  have hL := hI.1.1
  have hR : i_Rel (k + 3) (nI L, nI n, d, p, e, x, c, b, R, S, H, C) (nI L, d, p, e, x, c', b', R, H, C, S) := ⟨L, n, d, p, e, x, c, b, R, S, H, C, c', b', rfl, rfl, hI, hn, h4⟩
  rcases pk_ix v1 (n := 64) (by decide) with h | h | ⟨a, ha, rfl⟩
  · unfold wpX_peek
    dsimp only
    refine xa_f (Or.inl h) ?_
    refine br_t rfl ?_
    unfold wpY_peek
    exact br_t h ⟨rfl, hR⟩
  · unfold wpX_peek
    dsimp only
    refine xa_f (Or.inr h) ?_
    refine br_t rfl ?_
    unfold wpY_peek
    exact br_c (fun _ => ⟨rfl, hR⟩) (fun _ => br_f (Int32.not_lt.mpr (Int32.le_trans (nI_le hL (by decide)) h)) ⟨rfl, hR⟩)
  · unfold wpX_peek
    dsimp only
    refine xa_t ha ?_
    refine br_f dh_10 ?_
    unfold wpY_peek
    dsimp only
    rw [nI_clamp (by omega)]
    by_cases hl : a < L
    · exact br_t (nI_lt hl (by omega)) ⟨vp_in_nI ha (by decide), br_f (nI_pos (by omega)) (br_t (nI_lt hl (by omega)) ⟨vp_in_nI ha (by decide), (hI.2.1 a hl).1, hR⟩)⟩
    · exact br_f (nI_nlt (by omega) (by omega)) (br_f (nI_pos (by omega)) (br_f (nI_nlt (by omega) (by omega)) ⟨rfl, hR⟩))
theorem xc_l {post : Int32 → SX → Prop} {w f1 f2 f3 f4 f5 f6 : Int32} {R S H C : Nat → Int32} (h : ∀ c1 b1 : Nat → Int32, (∀ i, i < 64 → b1 i = 0) → post w (0, f2, f3, f4, f5, f6, c1, b1, R, S, H, C)) :
    ∀ (dd j : Nat) (c b : Nat → Int32), j + dd = 64 → (∀ i, i < j → b i = 0) → wX_clear_17 post w f1 f2 f3 f4 f5 f6 (dd + 1) (nI j) c b R S H C := by
  intro dd
  induction dd with
  | zero =>
    intro j c b hj hb
    have e : j = 64 := by omega
    subst e
    unfold wX_clear_17
    exact br_t (nI_le (a := 64) (Nat.le_refl _) (by decide)) (h c b hb)
  | succ dd ih =>
    intro j c b hj hb
    unfold wX_clear_17
    rw [nI_clamp (by omega), dh_b0]
    refine br_f (nI_ge (b := 64) (by omega) (by decide)) ⟨vp_in_nI (by omega) (by decide), nm_e ⟨vp_in_nI (by omega) (by decide), nm_e (nm_r (nI_1 _) (ih (j + 1) _ _ (by omega) ?_))⟩⟩
    intro i hi
    by_cases e : i = j
    · rw [e, pk_us]
    · rw [pk_un e]
      exact hb i (by omega)
theorem i_vc_clear {k : Nat} {u : SX} {v : SY} (I : i_Rel k u v) (hk : k + 3 ≤ 1536) : wpX_clear (fun r u' => wpY_clear (fun r' v' => r' = r ∧ i_Rel (k + 3) u' v') v) u := by
  obtain ⟨L, n, d, p, e, x, c, b, R, S, H, C, c', b', rfl, rfl, hI, hn, h4⟩ := I
  have hL := hI.1.1
  have hR : i_Rel (k + 3) (nI L, nI n, d, p, e, x, c, b, R, S, H, C) (nI L, d, p, e, x, c', b', R, H, C, S) := ⟨L, n, d, p, e, x, c, b, R, S, H, C, c', b', rfl, rfl, hI, hn, h4⟩
  by_cases h0 : 0 < n
  · unfold wpX_clear
    dsimp only
    refine br_f (nI_nle h0 (by omega)) ?_
    unfold wpY_clear
    dsimp only
    refine yh_s ?_
    exact br_f (nI_nle (by omega) (by omega)) ⟨rfl, hR⟩
  · have h00 : n = 0 := by omega
    subst h00
    unfold wpX_clear
    dsimp only
    refine br_t (by decide) ⟨65, ?_⟩
    refine xc_l ?_ 64 0 c b rfl (fun i hi => absurd hi (Nat.not_lt_zero i))
    intro c1 b1 hb1
    unfold wpY_clear
    dsimp only
    refine yh_s ?_
    rw [← hn]
    exact br_t (by decide) ⟨rfl, 0, 0, d, p, e, x, c1, b1, R, S, H, C, c', b', rfl, rfl, ⟨⟨by omega, fun a ha => absurd ha (Nat.not_lt_zero a)⟩, fun j hj => absurd hj (Nat.not_lt_zero j), fun j _ hj => hb1 j hj⟩, hn, h4⟩
theorem i_vc_setRegister {k : Nat} {u : SX} {v : SY} (I : i_Rel k u v) (hk : k + 3 ≤ 1536) (v1 : Int32) (v2 : Int32) : wpX_setRegister (fun r u' => wpY_setRegister (fun r' v' => r' = r ∧ i_Rel (k + 3) u' v') v v1 v2) u v1 v2 := by
  obtain ⟨L, n, d, p, e, x, c, b, R, S, H, C, c', b', rfl, rfl, hI, hn, h4⟩ := I
  have hL := hI.1.1
  have hR : i_Rel (k + 3) (nI L, nI n, d, p, e, x, c, b, R, S, H, C) (nI L, d, p, e, x, c', b', R, H, C, S) := ⟨L, n, d, p, e, x, c, b, R, S, H, C, c', b', rfl, rfl, hI, hn, h4⟩
  rcases pk_ix v1 (n := 4) (by decide) with h | h | ⟨a, ha, rfl⟩
  · unfold wpX_setRegister
    dsimp only
    refine xr_f (Or.inl h) ?_
    refine br_t rfl ?_
    unfold wpY_setRegister
    dsimp only
    refine yr_f (Or.inl h) ?_
    exact br_t rfl ⟨rfl, hR⟩
  · unfold wpX_setRegister
    dsimp only
    refine xr_f (Or.inr h) ?_
    refine br_t rfl ?_
    unfold wpY_setRegister
    dsimp only
    refine yr_f (Or.inr h) ?_
    exact br_t rfl ⟨rfl, hR⟩
  · unfold wpX_setRegister
    dsimp only
    refine xr_t ha ?_
    refine br_f dh_10 ⟨vp_in_nI ha (by decide), nm_e ?_⟩
    unfold wpY_setRegister
    dsimp only
    refine yr_t ha ?_
    exact br_f dh_10 ⟨vp_in_nI ha (by decide), nm_e ⟨rfl, L, n, d, p, e, x, c, b, _, S, H, C, c', b', rfl, rfl, hI, hn, h4⟩⟩
theorem i_vc_register {k : Nat} {u : SX} {v : SY} (I : i_Rel k u v) (hk : k + 3 ≤ 1536) (v1 : Int32) : wpX_register (fun r => wpY_register (fun r' => r' = r ∧ i_Rel (k + 3) u v) v v1) u v1 := by
  obtain ⟨L, n, d, p, e, x, c, b, R, S, H, C, c', b', rfl, rfl, hI, hn, h4⟩ := I
  have hL := hI.1.1
  have hR : i_Rel (k + 3) (nI L, nI n, d, p, e, x, c, b, R, S, H, C) (nI L, d, p, e, x, c', b', R, H, C, S) := ⟨L, n, d, p, e, x, c, b, R, S, H, C, c', b', rfl, rfl, hI, hn, h4⟩
  rcases pk_ix v1 (n := 4) (by decide) with h | h | ⟨a, ha, rfl⟩
  · unfold wpX_register
    dsimp only
    refine xr_f (Or.inl h) ?_
    refine br_t rfl ?_
    unfold wpY_register
    dsimp only
    refine yr_f (Or.inl h) ?_
    exact br_t rfl ⟨rfl, hR⟩
  · unfold wpX_register
    dsimp only
    refine xr_f (Or.inr h) ?_
    refine br_t rfl ?_
    unfold wpY_register
    dsimp only
    refine yr_f (Or.inr h) ?_
    exact br_t rfl ⟨rfl, hR⟩
  · unfold wpX_register
    dsimp only
    refine xr_t ha ?_
    refine br_f dh_10 ⟨vp_in_nI ha (by decide), ?_⟩
    unfold wpY_register
    dsimp only
    refine yr_t ha ?_
    exact br_f dh_10 ⟨vp_in_nI ha (by decide), rfl, hR⟩
theorem i_vc_calls {k : Nat} {u : SX} {v : SY} (I : i_Rel k u v) (hk : k + 3 ≤ 1536) (v1 : Int32) : wpX_calls (fun r => wpY_calls (fun r' => r' = r ∧ i_Rel (k + 3) u v) v v1) u v1 := by
  obtain ⟨L, n, d, p, e, x, c, b, R, S, H, C, c', b', rfl, rfl, hI, hn, h4⟩ := I
  have hL := hI.1.1
  have hR : i_Rel (k + 3) (nI L, nI n, d, p, e, x, c, b, R, S, H, C) (nI L, d, p, e, x, c', b', R, H, C, S) := ⟨L, n, d, p, e, x, c, b, R, S, H, C, c', b', rfl, rfl, hI, hn, h4⟩
  rcases pk_ix v1 (n := 64) (by decide) with h | h | ⟨a, ha, rfl⟩
  · unfold wpX_calls
    dsimp only
    refine xa_f (Or.inl h) ?_
    refine br_t rfl ?_
    unfold wpY_calls
    dsimp only
    exact br_t h ⟨rfl, hR⟩
  · unfold wpX_calls
    dsimp only
    refine xa_f (Or.inr h) ?_
    refine br_t rfl ?_
    unfold wpY_calls
    dsimp only
    exact br_c (fun _ => ⟨rfl, hR⟩) (fun _ => br_f (dh_n63 h) ⟨rfl, hR⟩)
  · have a0 : ¬ nI a < 0 := nI_pos (by omega)
    have a63 : nI a ≤ 63 := dh_le63 ha
    have ai : vp_in (nI a) 64 := vp_in_nI ha (by decide)
    have ac : (nI a).toNatClampNeg = a := nI_clamp (by omega)
    unfold wpX_calls
    dsimp only
    refine xa_t ha ?_
    refine br_f dh_10 ⟨ai, ?_⟩
    unfold wpY_calls
    dsimp only
    rw [ac]
    by_cases hh : H a = 0
    · exact br_t hh (br_f a0 (br_t a63 ⟨ai, br_t hh ⟨rfl, hR⟩⟩))
    · exact br_f hh ⟨ai, br_f a0 (br_t a63 ⟨ai, br_f hh ⟨ai, rfl, hR⟩⟩)⟩
theorem i_vc_unhook {k : Nat} {u : SX} {v : SY} (I : i_Rel k u v) (hk : k + 3 ≤ 1536) (v1 : Int32) : wpX_unhook (fun r u' => wpY_unhook (fun r' v' => r' = r ∧ i_Rel (k + 3) u' v') v v1) u v1 := by
  obtain ⟨L, n, d, p, e, x, c, b, R, S, H, C, c', b', rfl, rfl, hI, hn, h4⟩ := I
  have hL := hI.1.1
  have hR : i_Rel (k + 3) (nI L, nI n, d, p, e, x, c, b, R, S, H, C) (nI L, d, p, e, x, c', b', R, H, C, S) := ⟨L, n, d, p, e, x, c, b, R, S, H, C, c', b', rfl, rfl, hI, hn, h4⟩
  rcases pk_ix v1 (n := 64) (by decide) with h | h | ⟨a, ha, rfl⟩
  · unfold wpX_unhook
    dsimp only
    refine xa_f (Or.inl h) ?_
    refine br_t rfl ?_
    unfold wpY_unhook
    dsimp only
    exact br_t h ⟨rfl, hR⟩
  · unfold wpX_unhook
    dsimp only
    refine xa_f (Or.inr h) ?_
    refine br_t rfl ?_
    unfold wpY_unhook
    dsimp only
    exact br_c (fun _ => ⟨rfl, hR⟩) (fun _ => br_f (dh_n63 h) ⟨rfl, hR⟩)
  · have a0 : ¬ nI a < 0 := nI_pos (by omega)
    have a63 : nI a ≤ 63 := dh_le63 ha
    have ai : vp_in (nI a) 64 := vp_in_nI ha (by decide)
    have ac : (nI a).toNatClampNeg = a := nI_clamp (by omega)
    unfold wpX_unhook
    dsimp only
    refine xa_t ha ?_
    refine br_f dh_10 ⟨ai, ?_⟩
    unfold wpY_unhook
    dsimp only
    rw [ac]
    by_cases hh : H a = 0
    · exact br_t hh (br_f a0 (br_t a63 ⟨ai, br_t hh ⟨rfl, hR⟩⟩))
    · have hc := dh_cnt_off hh ha
      refine br_f hh ⟨ai, nm_e (nm_r (dh_s1 (by omega)) ⟨ai, br_f a0 (br_t a63 ⟨ai, br_f hh ⟨ai, nm_e ⟨ai, rfl, ?_⟩⟩⟩)⟩)⟩
      rw [dh_b0]
      exact ⟨L, n - 1, d, p, e, x, c, b, R, S, _, C, c', b', rfl, rfl, hI, by omega, by omega⟩
theorem i_vc_hook {k : Nat} {u : SX} {v : SY} (I : i_Rel k u v) (hk : k + 3 ≤ 1536) (v1 : Int32) : wpX_hook (fun r u' => wpY_hook (fun r' v' => r' = r ∧ i_Rel (k + 3) u' v') v v1) u v1 := by
  obtain ⟨L, n, d, p, e, x, c, b, R, S, H, C, c', b', rfl, rfl, hI, hn, h4⟩ := I
  have hL := hI.1.1
  have hR : i_Rel (k + 3) (nI L, nI n, d, p, e, x, c, b, R, S, H, C) (nI L, d, p, e, x, c', b', R, H, C, S) := ⟨L, n, d, p, e, x, c, b, R, S, H, C, c', b', rfl, rfl, hI, hn, h4⟩
  rcases pk_ix v1 (n := 64) (by decide) with h | h | ⟨a, ha, rfl⟩
  · unfold wpX_hook
    dsimp only
    refine xa_f (Or.inl h) ?_
    refine br_t rfl ?_
    unfold wpY_hook
    dsimp only
    exact br_t h ⟨rfl, hR⟩
  · unfold wpX_hook
    dsimp only
    refine xa_f (Or.inr h) ?_
    refine br_t rfl ?_
    unfold wpY_hook
    dsimp only
    exact br_c (fun _ => ⟨rfl, hR⟩) (fun _ => br_f (dh_n63 h) ⟨rfl, hR⟩)
  · have a0 : ¬ nI a < 0 := nI_pos (by omega)
    have a63 : nI a ≤ 63 := dh_le63 ha
    have ai : vp_in (nI a) 64 := vp_in_nI ha (by decide)
    have ac : (nI a).toNatClampNeg = a := nI_clamp (by omega)
    unfold wpX_hook
    dsimp only
    refine xa_t ha ?_
    refine br_f dh_10 ⟨ai, ?_⟩
    unfold wpY_hook
    dsimp only
    rw [ac]
    by_cases hh : H a = 0
    · refine br_t hh ?_
      by_cases hf : n < 4
      · refine br_t (nI_lt (b := 4) hf (by decide)) ?_
        obtain ⟨s, hs, hX, hY⟩ := hd_b (hc := nI n) (d := d) (p := p) (e := e) (x := x) (R := R) (S := S) (H := H) (C := C) (q := p) (ey := e) (xy := x) (hy := d) (R' := R) (C' := C) (S' := S) hI ha
        obtain ⟨z1, hX1, hY1⟩ := mt_b (hc := nI n) (d := d) (p := p) (e := e) (x := x) (R := R) (S := S) (H := H) (C := C) (q := p) (ey := e) (xy := x) (hy := d) (R' := R) (C' := C) (S' := S) hI ha hs
        obtain ⟨z2, hX2, hY2⟩ := en_b (hc := nI n) (d := d) (p := p) (e := e) (x := x) (R := R) (S := S) (H := H) (C := C) (q := p) (ey := e) (xy := x) (hy := d) (R' := R) (C' := C) (S' := S) hI ha hs
        have hn4 : ¬ nI (dh_cnt H 64) = 4 := by
          rw [← hn]
          intro z
          have := (nI_eq (a := n) (b := 4) (by omega) (by decide)).mp z
          omega
        refine hX _ ?_
        by_cases s0 : nI s = 0
        · refine br_t s0 (br_f a0 (br_t a63 ⟨ai, br_t hh ?_⟩))
          refine yh_s ?_
          refine br_f hn4 ?_
          refine hY _ ?_
          exact br_t s0 ⟨rfl, hR⟩
        · refine br_f s0 ?_
          refine hX1 _ ?_
          by_cases e1 : z1 = 0
          · refine br_t e1 ?_
            refine hX2 _ ?_
            by_cases e2 : z2 = 0
            · refine br_t e2 ⟨ai, nm_e ⟨ai, nm_e (nm_r (nI_1 _) (br_f a0 (br_t a63 ⟨ai, br_t hh ?_⟩)))⟩⟩
              refine yh_s ?_
              refine br_f hn4 ?_
              refine hY _ ?_
              refine br_f s0 ?_
              refine hY1 _ ?_
              refine br_t e1 ?_
              refine hY2 _ ?_
              refine br_t e2 ⟨ai, nm_e ⟨ai, nm_e ⟨rfl, ?_⟩⟩⟩
              rw [dh_b1]
              exact ⟨L, n + 1, d, p, e, x, c, b, R, S, _, _, c', b', rfl, rfl, hI, by rw [dh_cnt_on hh dh_10 ha, hn], by omega⟩
            · refine br_f e2 (br_f a0 (br_t a63 ⟨ai, br_t hh ?_⟩))
              refine yh_s ?_
              refine br_f hn4 ?_
              refine hY _ ?_
              refine br_f s0 ?_
              refine hY1 _ ?_
              refine br_t e1 ?_
              refine hY2 _ ?_
              exact br_f e2 ⟨rfl, hR⟩
          · refine br_f e1 (br_f a0 (br_t a63 ⟨ai, br_t hh ?_⟩))
            refine yh_s ?_
            refine br_f hn4 ?_
            refine hY _ ?_
            refine br_f s0 ?_
            refine hY1 _ ?_
            exact br_f e1 ⟨rfl, hR⟩
      · have n4 : n = 4 := by omega
        refine br_f (nI_nlt (b := 4) (by omega) (by omega)) (br_f a0 (br_t a63 ⟨ai, br_t hh ?_⟩))
        refine yh_s ?_
        rw [← hn, n4]
        refine br_t (by decide) ⟨rfl, ?_⟩
        rw [← n4]
        exact hR
    · exact br_f hh (br_f a0 (br_t a63 ⟨ai, br_f hh ⟨rfl, hR⟩⟩))
end DHE
end
section
section DHF
variable {hc d e x y ee : Int32} {c b R S H C c' b' : Nat → Int32} {L a m o : Nat}
def dh_T (c : Nat → Int32) (a : Nat) : Int32 := dh_tg (a + dh_sz (c a)) (c (a + dh_sz (c a) - 1))
theorem dh_z0 : dh_sz 0 = 1 := by decide
theorem dh_z1 : dh_sz 1 = 2 := by decide
theorem dh_z2 : dh_sz 2 = 2 := by decide
theorem dh_z3 : dh_sz 3 = 2 := by decide
theorem dh_z4 : dh_sz 4 = 2 := by decide
theorem dh_z5 : dh_sz 5 = 3 := by decide
theorem dh_z6 : dh_sz 6 = 2 := by decide
theorem dh_z7 : dh_sz 7 = 1 := by decide
theorem dh_z8 : dh_sz 8 = 2 := by decide
theorem dh_sh {o : Nat} (ho : o < 16) : nI o >>> ((2 : Int32) &&& 31) = nI (o / 4) := pk_shrN (by omega) _ 2 (by decide)
/-! X's step at a begun address, kind by kind -/
theorem xk_0 {post : Int32 → SX → Prop} (ha : a < 64) (hk : c a = 0) (h : post 1 (nI L, hc, d, nI a, e, x, c, b, R, S, H, C)) : wX_step_48 post (nI L) hc d (nI a) e x c b R S H C := by
  unfold wX_step_48
  rw [nI_clamp (by omega)]
  exact ⟨vp_in_nI ha (by decide), nm_r hk (br_t rfl h)⟩
theorem xk_6 {post : Int32 → SX → Prop} (ha : a + 2 ≤ 64) (hk : c a = 6) (hm : m < 8) (h : post 0 (nI L, hc, nI (m + 1), dh_T c a, e, x, c, b, R, upd S m (nI (a + 2)), H, C)) : wX_step_48 post (nI L) hc (nI m) (nI a) e x c b R S H C := by
  unfold wX_step_48
  rw [nI_clamp (by omega)]
  refine ⟨vp_in_nI (by omega) (by decide), nm_r hk (br_f (by decide) (br_t rfl ?_))⟩
  unfold wpX_enterFunction
  dsimp only
  refine br_t (nI_lt (b := 8) hm (by decide)) ?_
  refine xz_s 6 ?_
  rw [nI_clamp (by omega), dh_z6, nI_add]
  refine ⟨vp_in_nI hm (by decide), nm_e (nm_r (nI_1 _) ?_)⟩
  refine xt_g (by omega) (by rw [hk, dh_z6]; omega) ?_
  exact h
theorem xk_6f {post : Int32 → SX → Prop} (ha : a < 64) (hk : c a = 6) (h : post 3 (nI L, hc, nI 8, nI a, e, x, c, b, R, S, H, C)) : wX_step_48 post (nI L) hc (nI 8) (nI a) e x c b R S H C := by
  unfold wX_step_48
  rw [nI_clamp (by omega)]
  refine ⟨vp_in_nI (by omega) (by decide), nm_r hk (br_f (by decide) (br_t rfl ?_))⟩
  unfold wpX_enterFunction
  dsimp only
  exact br_f (by decide) h
theorem xk_7z {post : Int32 → SX → Prop} (ha : a < 64) (hk : c a = 7) (h : post 1 (nI L, hc, nI 0, nI a, e, x, c, b, R, S, H, C)) : wX_step_48 post (nI L) hc (nI 0) (nI a) e x c b R S H C := by
  unfold wX_step_48
  rw [nI_clamp (by omega)]
  refine ⟨vp_in_nI (by omega) (by decide), nm_r hk (br_f (by decide) (br_f (by decide) (br_t rfl ?_)))⟩
  unfold wpX_leaveFunction
  dsimp only
  exact br_f (by decide) h
theorem xk_7 {post : Int32 → SX → Prop} (ha : a < 64) (hk : c a = 7) (hm : m < 8) (h : post 0 (nI L, hc, nI m, S m, e, x, c, b, R, S, H, C)) : wX_step_48 post (nI L) hc (nI (m + 1)) (nI a) e x c b R S H C := by
  unfold wX_step_48
  rw [nI_clamp (by omega)]
  refine ⟨vp_in_nI (by omega) (by decide), nm_r hk (br_f (by decide) (br_f (by decide) (br_t rfl ?_)))⟩
  unfold wpX_leaveFunction
  dsimp only
  exact br_t (nI_lt (a := 0) (by omega) (by omega)) (nm_r (nI_pred m) ⟨vp_in_nI hm (by decide), nm_r (by rw [nI_clamp (by omega)]) h⟩)
theorem xk_4 {post : Int32 → SX → Prop} (ha : a + 2 ≤ 64) (hk : c a = 4) (h : post 0 (nI L, hc, d, dh_T c a, e, x, c, b, R, S, H, C)) : wX_step_48 post (nI L) hc d (nI a) e x c b R S H C := by
  unfold wX_step_48
  rw [nI_clamp (by omega)]
  refine ⟨vp_in_nI (by omega) (by decide), nm_r hk (br_f (by decide) (br_f (by decide) (br_f (by decide) ?_)))⟩
  refine xh_t (Or.inl rfl) ?_
  refine br_f dh_10 ?_
  unfold wpX_follow
  dsimp only
  rw [nI_1 a]
  refine xy_t (by omega) ?_
  refine nm_e (br_f (by decide) ?_)
  unfold wX_follow_43
  refine xt_g (by omega) (by rw [hk, dh_z4]; omega) ?_
  exact h
theorem xk_5z {post : Int32 → SX → Prop} (ha : a + 3 ≤ 64) (hk : c a = 5) (ho : o < 4) (hy : c (a + 1) = nI o) (hr : R o = 0) (h : post 0 (nI L, hc, d, nI (a + 3), e, x, c, b, R, S, H, C)) : wX_step_48 post (nI L) hc d (nI a) e x c b R S H C := by
  unfold wX_step_48
  rw [nI_clamp (by omega)]
  refine ⟨vp_in_nI (by omega) (by decide), nm_r hk (br_f (by decide) (br_f (by decide) (br_f (by decide) ?_)))⟩
  refine xh_t (Or.inr (Or.inl rfl)) ?_
  refine br_f dh_10 ?_
  unfold wpX_follow
  dsimp only
  rw [nI_1 a]
  refine xy_t (by omega) ?_
  rw [hy, dh_and3 ho]
  refine nm_e (br_t rfl ⟨vp_in_nI ho (by decide), ?_⟩)
  rw [nI_clamp (by omega)]
  refine br_t hr ?_
  refine xz_s 5 ?_
  rw [dh_z5]
  exact nm_r (nI_add _ _) h
theorem xk_5t {post : Int32 → SX → Prop} (ha : a + 3 ≤ 64) (hk : c a = 5) (ho : o < 4) (hy : c (a + 1) = nI o) (hr : ¬ R o = 0) (h : post 0 (nI L, hc, d, dh_T c a, e, x, c, b, R, S, H, C)) : wX_step_48 post (nI L) hc d (nI a) e x c b R S H C := by
  unfold wX_step_48
  rw [nI_clamp (by omega)]
  refine ⟨vp_in_nI (by omega) (by decide), nm_r hk (br_f (by decide) (br_f (by decide) (br_f (by decide) ?_)))⟩
  refine xh_t (Or.inr (Or.inl rfl)) ?_
  refine br_f dh_10 ?_
  unfold wpX_follow
  dsimp only
  rw [nI_1 a]
  refine xy_t (by omega) ?_
  rw [hy, dh_and3 ho]
  refine nm_e (br_t rfl ⟨vp_in_nI ho (by decide), ?_⟩)
  rw [nI_clamp (by omega)]
  refine br_f hr ?_
  unfold wX_follow_43
  refine xt_g (by omega) (by rw [hk, dh_z5]; omega) ?_
  exact h
theorem xk_1 {post : Int32 → SX → Prop} (ha : a + 2 ≤ 64) (hk : c a = 1) (ho : o < 4) (hy : c (a + 1) = nI o) (h : post 0 (nI L, hc, d, nI (a + 2), e, x, c, b, upd R o (R o + 1), S, H, C)) : wX_step_48 post (nI L) hc d (nI a) e x c b R S H C := by
  unfold wX_step_48
  rw [nI_clamp (by omega)]
  refine ⟨vp_in_nI (by omega) (by decide), nm_r hk (br_f (by decide) (br_f (by decide) (br_f (by decide) ?_)))⟩
  refine xh_f (by decide) ?_
  refine br_t rfl ?_
  unfold wpX_changeRegister
  dsimp only
  rw [nI_1 a]
  refine xy_t (by omega) ?_
  refine xz_s _ ?_
  rw [hy, dh_and3 ho, dh_z1]
  refine nm_r (nI_add _ _) (nm_e ?_)
  rw [nI_clamp (by omega)]
  exact br_t rfl ⟨vp_in_nI ho (by decide), vp_in_nI ho (by decide), nm_e h⟩
theorem xk_2 {post : Int32 → SX → Prop} (ha : a + 2 ≤ 64) (hk : c a = 2) (ho : o < 4) (hy : c (a + 1) = nI o) (h : post 0 (nI L, hc, d, nI (a + 2), e, x, c, b, upd R o (R o - 1), S, H, C)) : wX_step_48 post (nI L) hc d (nI a) e x c b R S H C := by
  unfold wX_step_48
  rw [nI_clamp (by omega)]
  refine ⟨vp_in_nI (by omega) (by decide), nm_r hk (br_f (by decide) (br_f (by decide) (br_f (by decide) ?_)))⟩
  refine xh_f (by decide) ?_
  refine br_t rfl ?_
  unfold wpX_changeRegister
  dsimp only
  rw [nI_1 a]
  refine xy_t (by omega) ?_
  refine xz_s _ ?_
  rw [hy, dh_and3 ho, dh_z2]
  refine nm_r (nI_add _ _) (nm_e ?_)
  rw [nI_clamp (by omega)]
  exact br_f (by decide) (br_t rfl ⟨vp_in_nI ho (by decide), vp_in_nI ho (by decide), nm_e h⟩)
theorem xk_3 {post : Int32 → SX → Prop} (ha : a + 2 ≤ 64) (hk : c a = 3) (ho : o < 16) (hy : c (a + 1) = nI o) (h : post 0 (nI L, hc, d, nI (a + 2), e, x, c, b, upd R (o % 4) (R (o / 4)), S, H, C)) : wX_step_48 post (nI L) hc d (nI a) e x c b R S H C := by
  unfold wX_step_48
  rw [nI_clamp (by omega)]
  refine ⟨vp_in_nI (by omega) (by decide), nm_r hk (br_f (by decide) (br_f (by decide) (br_f (by decide) ?_)))⟩
  refine xh_f (by decide) ?_
  refine br_t rfl ?_
  unfold wpX_changeRegister
  dsimp only
  rw [nI_1 a]
  refine xy_t (by omega) ?_
  refine xz_s _ ?_
  rw [hy, dh_sh ho, dh_and3 (o := o / 4) (by omega), dh_and3' o (by omega), dh_z3, nI_clamp (n := o / 4) (by omega)]
  refine nm_r (nI_add _ _) (nm_e ?_)
  rw [nI_clamp (n := o % 4) (by omega)]
  exact br_f (by decide) (br_f (by decide) (br_t rfl ⟨vp_in_nI (by omega) (by decide), vp_in_nI (by omega) (by decide), nm_e h⟩))
theorem xk_8 {post : Int32 → SX → Prop} (ha : a + 2 ≤ 64) (hk : c a = 8) (ho : o < 4) (hy : c (a + 1) = nI o) (h : post 0 (nI L, hc, d, nI (a + 2), e, x, c, b, upd R o (nI (a + 2)), S, H, C)) : wX_step_48 post (nI L) hc d (nI a) e x c b R S H C := by
  unfold wX_step_48
  rw [nI_clamp (by omega)]
  refine ⟨vp_in_nI (by omega) (by decide), nm_r hk (br_f (by decide) (br_f (by decide) (br_f (by decide) ?_)))⟩
  refine xh_f (by decide) ?_
  refine br_t rfl ?_
  unfold wpX_changeRegister
  dsimp only
  rw [nI_1 a]
  refine xy_t (by omega) ?_
  refine xz_s _ ?_
  rw [hy, dh_and3 ho, dh_z8]
  refine nm_r (nI_add _ _) (nm_e ?_)
  rw [nI_clamp (by omega)]
  exact br_f (by decide) (br_f (by decide) (br_f (by decide) ⟨vp_in_nI ho (by decide), nm_e h⟩))
/-! Y's goOn -/
theorem yg_0 {post : SY → Prop} {w : Int32} (hW : dh_W1 c' b' L a) (hL : L ≤ 64) (ha : a < L) (hk : c' a = 0) (h : post (nI L, d, nI a, 1, y, c', b', R, H, C, S)) : wpY_goOn post (nI L, d, nI a, ee, y, c', b', R, H, C, S) 0 w := by
  unfold wpY_goOn
  dsimp only
  refine yt_f hW hL ha (by rw [hk]; decide) ?_
  exact br_t rfl h
theorem yg_7z {post : SY → Prop} {w : Int32} (hW : dh_W1 c' b' L a) (hL : L ≤ 64) (ha : a < L) (hk : c' a = 7) (h : post (nI L, nI 0, nI a, 1, y, c', b', R, H, C, S)) : wpY_goOn post (nI L, nI 0, nI a, ee, y, c', b', R, H, C, S) 7 w := by
  unfold wpY_goOn
  dsimp only
  refine yt_f hW hL ha (by rw [hk]; decide) ?_
  exact br_f (by decide) (br_t rfl (br_t (by decide) h))
theorem yg_7 {post : SY → Prop} {w : Int32} (hW : dh_W1 c' b' L a) (hL : L ≤ 64) (ha : a < L) (hk : c' a = 7) (hm : m < 8) (h : post (nI L, nI m, S m, ee, y, c', b', R, H, C, S)) : wpY_goOn post (nI L, nI (m + 1), nI a, ee, y, c', b', R, H, C, S) 7 w := by
  unfold wpY_goOn
  dsimp only
  refine yt_f hW hL ha (by rw [hk]; decide) ?_
  refine br_f (by decide) (br_t rfl (br_f (nI_ne0 (by omega) (by omega)) ?_))
  unfold wY_goOn_34
  exact br_t rfl (nm_r (nI_pred m) ⟨vp_in_nI hm (by decide), nm_r (by rw [nI_clamp (by omega)]) h⟩)
theorem yg_6f {post : SY → Prop} {w : Int32} (hW : dh_W1 c' b' L a) (hL : L ≤ 64) (ha : a < L) (hk : c' a = 6) (h : post (nI L, nI 8, nI a, 3, y, c', b', R, H, C, S)) : wpY_goOn post (nI L, nI 8, nI a, ee, y, c', b', R, H, C, S) 6 w := by
  unfold wpY_goOn
  dsimp only
  refine yt_t hW hL ha (Or.inr (Or.inr hk)) ?_
  refine br_f (by decide) (br_f (by decide) ?_)
  unfold wY_goOn_34
  exact br_f (by decide) (br_t rfl (br_t (by decide) h))
theorem yg_6 {post : SY → Prop} {w : Int32} (hW : dh_W1 c' b' L a) (hL : L ≤ 64) (ha : a < L) (hk : c' a = 6) (hm : m < 8) (h : post (nI L, nI (m + 1), dh_T c' a, ee, y, c', b', R, H, C, upd S m w)) : wpY_goOn post (nI L, nI m, nI a, ee, y, c', b', R, H, C, S) 6 w := by
  unfold wpY_goOn
  dsimp only
  refine yt_t hW hL ha (Or.inr (Or.inr hk)) ?_
  refine br_f (by decide) (br_f (by decide) ?_)
  unfold wY_goOn_34
  refine br_f (by decide) (br_t rfl (br_f (fun z => absurd ((nI_eq (b := 8) (by omega) (by decide)).mp z) (by omega)) ?_))
  unfold wY_goOn_89
  rw [nI_clamp (by omega)]
  exact br_t rfl ⟨vp_in_nI hm (by decide), nm_e (nm_r (nI_1 _) h)⟩
theorem yg_5z {post : SY → Prop} {w : Int32} (hW : dh_W1 c' b' L a) (hL : L ≤ 64) (ha : a + 3 ≤ L) (hk : c' a = 5) (ho : o < 4) (hy : c' (a + 1) = nI o) (hr : R o = 0) (h : post (nI L, d, w, ee, y, c', b', R, H, C, S)) : wpY_goOn post (nI L, d, nI a, ee, y, c', b', R, H, C, S) 5 w := by
  unfold wpY_goOn
  dsimp only
  refine yt_t hW hL (by omega) (Or.inr (Or.inl hk)) ?_
  refine br_f (by decide) (br_f (by decide) ?_)
  unfold wY_goOn_34
  refine br_f (by decide) (br_f (by decide) ?_)
  unfold wY_goOn_89
  rw [nI_1 a, nI_clamp (n := a + 1) (by omega), hy, nI_clamp (by omega)]
  exact br_f (by decide) (br_t rfl ⟨vp_in_nI (by omega) (by decide), vp_in_nI ho (by decide), br_t hr h⟩)
theorem yg_5t {post : SY → Prop} {w : Int32} (hW : dh_W1 c' b' L a) (hL : L ≤ 64) (ha : a + 3 ≤ L) (hk : c' a = 5) (ho : o < 4) (hy : c' (a + 1) = nI o) (hr : ¬ R o = 0) (h : post (nI L, d, dh_T c' a, ee, y, c', b', R, H, C, S)) : wpY_goOn post (nI L, d, nI a, ee, y, c', b', R, H, C, S) 5 w := by
  unfold wpY_goOn
  dsimp only
  refine yt_t hW hL (by omega) (Or.inr (Or.inl hk)) ?_
  refine br_f (by decide) (br_f (by decide) ?_)
  unfold wY_goOn_34
  refine br_f (by decide) (br_f (by decide) ?_)
  unfold wY_goOn_89
  rw [nI_1 a, nI_clamp (n := a + 1) (by omega), hy, nI_clamp (by omega)]
  exact br_f (by decide) (br_t rfl ⟨vp_in_nI (by omega) (by decide), vp_in_nI ho (by decide), br_f hr h⟩)
theorem yg_4 {post : SY → Prop} {w : Int32} (hW : dh_W1 c' b' L a) (hL : L ≤ 64) (ha : a < L) (hk : c' a = 4) (h : post (nI L, d, dh_T c' a, ee, y, c', b', R, H, C, S)) : wpY_goOn post (nI L, d, nI a, ee, y, c', b', R, H, C, S) 4 w := by
  unfold wpY_goOn
  dsimp only
  refine yt_t hW hL (by omega) (Or.inl hk) ?_
  refine br_f (by decide) (br_f (by decide) ?_)
  unfold wY_goOn_34
  refine br_f (by decide) (br_f (by decide) ?_)
  unfold wY_goOn_89
  exact br_f (by decide) (br_f (by decide) (br_t rfl h))
theorem yg_r {post : SY → Prop} {w K : Int32} (hW : dh_W1 c' b' L a) (hL : L ≤ 64) (ha : a < L) (hk : c' a = K) (hK : K = 1 ∨ K = 2 ∨ K = 3 ∨ K = 8) (h : post (nI L, d, w, ee, y, c', b', R, H, C, S)) : wpY_goOn post (nI L, d, nI a, ee, y, c', b', R, H, C, S) K w := by
  have n0 : ¬ K = 0 := by rcases hK with z | z | z | z <;> rw [z] <;> decide
  have n4 : ¬ K = 4 := by rcases hK with z | z | z | z <;> rw [z] <;> decide
  have n5 : ¬ K = 5 := by rcases hK with z | z | z | z <;> rw [z] <;> decide
  have n6 : ¬ K = 6 := by rcases hK with z | z | z | z <;> rw [z] <;> decide
  have n7 : ¬ K = 7 := by rcases hK with z | z | z | z <;> rw [z] <;> decide
  unfold wpY_goOn
  dsimp only
  refine yt_f hW hL ha (by rw [hk]; exact fun z => by rcases z with z | z | z <;> contradiction) ?_
  refine br_f n0 (br_f n7 ?_)
  unfold wY_goOn_34
  refine br_f n7 (br_f n6 ?_)
  unfold wY_goOn_89
  exact br_f n6 (br_f n5 (br_f n4 h))
/-! Y's execute, behind the count -/
theorem ye_1 {post : SY → Prop} {K : Int32} (hW : dh_W1 c' b' L a) (hL : L ≤ 64) (ha : a < L) (hk : c' a = K) (hz : dh_sz K = 1) (h : wY_execute_69 post K (nI (a + 1)) 0 (nI L) d (nI a) ee y c' b' R H C S) : wY_execute_25 post (nI L) d (nI a) ee y c' b' R H C S := by
  unfold wY_execute_25
  rw [nI_clamp (by omega)]
  refine ⟨vp_in_nI (by omega) (by decide), nm_r hk ?_⟩
  refine yn_x hW hL ?_
  rw [hk, hz, pk_sub (by omega), Nat.add_sub_cancel_left]
  exact br_t (by decide) h
theorem ye_2 {post : SY → Prop} {K : Int32} {s : Nat} (hW : dh_W1 c' b' L a) (hL : L ≤ 64) (ha : a < L) (hk : c' a = K) (hz : dh_sz K = s) (h2 : 2 ≤ s) (h : wY_execute_69 post K (nI (a + s)) (c' (a + 1)) (nI L) d (nI a) ee y c' b' R H C S) : wY_execute_25 post (nI L) d (nI a) ee y c' b' R H C S := by
  have h1 := hW.1
  have hp := dh_sz_pos K
  rw [hk, hz] at h1
  unfold wY_execute_25
  rw [nI_clamp (by omega)]
  refine ⟨vp_in_nI (by omega) (by decide), nm_r hk ?_⟩
  refine yn_x hW hL ?_
  rw [hk, hz, pk_sub (by omega), Nat.add_sub_cancel_left, nI_1 a, nI_clamp (by omega)]
  exact br_f (fun z => absurd ((nI_eq (b := 1) (by omega) (by decide)).mp z) (by omega)) ⟨vp_in_nI (by omega) (by decide), h⟩
theorem ye_n {post : SY → Prop} {K w z : Int32} (h1 : ¬ K = 1) (h2 : ¬ K = 2) (h3 : ¬ K = 3) (h8 : ¬ K = 8) (h : wpY_goOn (fun u => post u) (nI L, d, nI a, ee, y, c', b', R, H, C, S) K w) : wY_execute_69 post K w z (nI L) d (nI a) ee y c' b' R H C S := by
  unfold wY_execute_69
  refine nm_e (br_f h1 (br_f h2 (br_f h3 (br_f h8 ?_))))
  unfold wY_execute_160
  exact h
end DHF
end
section
section DHG
variable {hc d e x y ee : Int32} {c b R S H C c' b' : Nat → Int32} {L a m o : Nat}
theorem yk_1 {post : SY → Prop} {w : Int32} (ho : o < 4) (h : wpY_goOn (fun u => post u) (nI L, d, nI a, ee, y, c', b', upd R o (R o + 1), H, C, S) 1 w) : wY_execute_69 post 1 w (nI o) (nI L) d (nI a) ee y c' b' R H C S := by
  unfold wY_execute_69
  rw [dh_and3 ho]
  refine nm_e ?_
  rw [nI_clamp (by omega)]
  refine br_t rfl ⟨vp_in_nI ho (by decide), vp_in_nI ho (by decide), nm_e ?_⟩
  unfold wY_execute_160
  exact h
theorem yk_2 {post : SY → Prop} {w : Int32} (ho : o < 4) (h : wpY_goOn (fun u => post u) (nI L, d, nI a, ee, y, c', b', upd R o (R o - 1), H, C, S) 2 w) : wY_execute_69 post 2 w (nI o) (nI L) d (nI a) ee y c' b' R H C S := by
  unfold wY_execute_69
  rw [dh_and3 ho]
  refine nm_e ?_
  rw [nI_clamp (by omega)]
  refine br_f (by decide) (br_t rfl ⟨vp_in_nI ho (by decide), vp_in_nI ho (by decide), nm_e ?_⟩)
  unfold wY_execute_160
  exact h
theorem yk_3 {post : SY → Prop} {w : Int32} (ho : o < 16) (h : wpY_goOn (fun u => post u) (nI L, d, nI a, ee, y, c', b', upd R (o % 4) (R (o / 4)), H, C, S) 3 w) : wY_execute_69 post 3 w (nI o) (nI L) d (nI a) ee y c' b' R H C S := by
  unfold wY_execute_69
  rw [dh_sh ho, dh_and3' o (by omega), nI_clamp (n := o / 4) (by omega)]
  refine nm_e ?_
  rw [nI_clamp (n := o % 4) (by omega)]
  refine br_f (by decide) (br_f (by decide) (br_t rfl ⟨vp_in_nI (by omega) (by decide), vp_in_nI (by omega) (by decide), nm_e ?_⟩))
  unfold wY_execute_160
  exact h
theorem yk_8 {post : SY → Prop} {w : Int32} (ho : o < 4) (h : wpY_goOn (fun u => post u) (nI L, d, nI a, ee, y, c', b', upd R o w, H, C, S) 8 w) : wY_execute_69 post 8 w (nI o) (nI L) d (nI a) ee y c' b' R H C S := by
  unfold wY_execute_69
  rw [dh_and3 ho]
  refine nm_e ?_
  rw [nI_clamp (by omega)]
  refine br_f (by decide) (br_f (by decide) (br_f (by decide) (br_t rfl ⟨vp_in_nI ho (by decide), nm_e ?_⟩)))
  unfold wY_execute_160
  exact h
/-- one step of both sides behind the count: one end, one next state -/
theorem st_c (hI : dh_Lay L c b c' b') (ha : a < L) (hb : b a ≠ 0) (hm : m ≤ 8) :
    ∃ (r : Int32) (m' : Nat) (p' : Int32) (R1 S1 : Nat → Int32), m' ≤ 8 ∧ (∀ post : Int32 → SX → Prop, post r (nI L, hc, nI m', p', e, x, c, b, R1, S1, H, C) → wX_step_48 post (nI L) hc (nI m) (nI a) e x c b R S H C) ∧ (∀ post : SY → Prop, post (nI L, nI m', p', r, y, c', b', R1, H, C, S1) → wY_execute_25 post (nI L) (nI m) (nI a) 0 y c' b' R H C S) := by
  obtain ⟨hL, w, w', ec, hb'⟩ := dh_Lay_w hI ha hb
  have w1 := w.1
  have hp := dh_sz_pos (c a)
  have eT : dh_T c' a = dh_T c a := by
    unfold dh_T
    rw [ec, (hI.2.1 _ (by omega)).1]
  have e1 : 2 ≤ dh_sz (c a) → c' (a + 1) = c (a + 1) := fun h => (hI.2.1 _ (by omega)).1
  rcases w.2.2.2 with hk | hk | hk | hk | ⟨hk, o, ho, hy⟩ | ⟨hk, o, ho, hy⟩ | ⟨hk, o, ho, hy⟩
  · have hk' := ec.trans hk
    exact ⟨1, m, nI a, R, S, hm, fun post h => xk_0 (by omega) hk h, fun post h => ye_1 w' hL ha hk' dh_z0 (ye_n (by decide) (by decide) (by decide) (by decide) (yg_0 w' hL ha hk' h))⟩
  · have hk' := ec.trans hk
    rcases Nat.eq_zero_or_pos m with hm0 | hm0
    · subst hm0
      exact ⟨1, 0, nI a, R, S, hm, fun post h => xk_7z (by omega) hk h, fun post h => ye_1 w' hL ha hk' dh_z7 (ye_n (by decide) (by decide) (by decide) (by decide) (yg_7z w' hL ha hk' h))⟩
    · obtain ⟨j, rfl⟩ : ∃ j, m = j + 1 := ⟨m - 1, by omega⟩
      exact ⟨0, j, S j, R, S, by omega, fun post h => xk_7 (by omega) hk (by omega) h, fun post h => ye_1 w' hL ha hk' dh_z7 (ye_n (by decide) (by decide) (by decide) (by decide) (yg_7 w' hL ha hk' (by omega) h))⟩
  · have hk' := ec.trans hk
    rw [hk, dh_z4] at w1
    exact ⟨0, m, dh_T c a, R, S, hm, fun post h => xk_4 (by omega) hk h, fun post h => ye_2 w' hL ha hk' dh_z4 (by omega) (ye_n (by decide) (by decide) (by decide) (by decide) (yg_4 w' hL ha hk' (by rw [eT]; exact h)))⟩
  · have hk' := ec.trans hk
    rw [hk, dh_z6] at w1
    by_cases h8 : m < 8
    · exact ⟨0, m + 1, dh_T c a, R, upd S m (nI (a + 2)), by omega, fun post h => xk_6 (by omega) hk h8 h, fun post h => ye_2 w' hL ha hk' dh_z6 (by omega) (ye_n (by decide) (by decide) (by decide) (by decide) (yg_6 w' hL ha hk' h8 (by rw [eT]; exact h)))⟩
    · have m8 : m = 8 := by omega
      subst m8
      exact ⟨3, 8, nI a, R, S, hm, fun post h => xk_6f (by omega) hk h, fun post h => ye_2 w' hL ha hk' dh_z6 (by omega) (ye_n (by decide) (by decide) (by decide) (by decide) (yg_6f w' hL ha hk' h))⟩
  · have hk' := ec.trans hk
    have hy' := (e1 (by rw [hk]; decide)).trans hy
    rw [hk, dh_z5] at w1
    by_cases hr : R o = 0
    · exact ⟨0, m, nI (a + 3), R, S, hm, fun post h => xk_5z (by omega) hk ho hy hr h, fun post h => ye_2 w' hL ha hk' dh_z5 (by omega) (ye_n (by decide) (by decide) (by decide) (by decide) (yg_5z w' hL w1 hk' ho hy' hr h))⟩
    · exact ⟨0, m, dh_T c a, R, S, hm, fun post h => xk_5t (by omega) hk ho hy hr h, fun post h => ye_2 w' hL ha hk' dh_z5 (by omega) (ye_n (by decide) (by decide) (by decide) (by decide) (yg_5t w' hL w1 hk' ho hy' hr (by rw [eT]; exact h)))⟩
  · rcases hk with hk | hk | hk
    · have hk' := ec.trans hk
      have hy' := (e1 (by rw [hk]; decide)).trans hy
      rw [hk, dh_z1] at w1
      exact ⟨0, m, nI (a + 2), upd R o (R o + 1), S, hm, fun post h => xk_1 (by omega) hk ho hy h, fun post h => ye_2 w' hL ha hk' dh_z1 (by omega) (by rw [hy']; exact yk_1 ho (yg_r w' hL ha hk' (Or.inl rfl) h))⟩
    · have hk' := ec.trans hk
      have hy' := (e1 (by rw [hk]; decide)).trans hy
      rw [hk, dh_z2] at w1
      exact ⟨0, m, nI (a + 2), upd R o (R o - 1), S, hm, fun post h => xk_2 (by omega) hk ho hy h, fun post h => ye_2 w' hL ha hk' dh_z2 (by omega) (by rw [hy']; exact yk_2 ho (yg_r w' hL ha hk' (Or.inr (Or.inl rfl)) h))⟩
    · have hk' := ec.trans hk
      have hy' := (e1 (by rw [hk]; decide)).trans hy
      rw [hk, dh_z8] at w1
      exact ⟨0, m, nI (a + 2), upd R o (nI (a + 2)), S, hm, fun post h => xk_8 (by omega) hk ho hy h, fun post h => ye_2 w' hL ha hk' dh_z8 (by omega) (by rw [hy']; exact yk_8 ho (yg_r w' hL ha hk' (Or.inr (Or.inr (Or.inr rfl))) h))⟩
  · have hk' := ec.trans hk
    have hy' := (e1 (by rw [hk]; decide)).trans hy
    rw [hk, dh_z3] at w1
    exact ⟨0, m, nI (a + 2), upd R (o % 4) (R (o / 4)), S, hm, fun post h => xk_3 (by omega) hk ho hy h, fun post h => ye_2 w' hL ha hk' dh_z3 (by omega) (by rw [hy']; exact yk_3 ho (yg_r w' hL ha hk' (Or.inr (Or.inr (Or.inl rfl))) h))⟩
theorem st_b (hI : dh_Lay L c b c' b') (ha : a < L) (hb : b a ≠ 0) (hm : m ≤ 8) :
    ∃ (r : Int32) (m' : Nat) (p' : Int32) (R1 S1 C1 : Nat → Int32), m' ≤ 8 ∧ (∀ post : Int32 → SX → Prop, post r (nI L, hc, nI m', p', e, x + 1, c, b, R1, S1, H, C1) → wpX_step post (nI L, hc, nI m, nI a, e, x, c, b, R, S, H, C)) ∧ (∀ post : SY → Prop, post (nI L, nI m', p', r, y, c', b', R1, H, C1, S1) → wpY_execute post (nI L, nI m, nI a, 0, y, c', b', R, H, C, S)) := by
  have hL := hI.1.1
  have ai : vp_in (nI a) 64 := vp_in_nI (by omega) (by decide)
  have ac : (nI a).toNatClampNeg = a := nI_clamp (by omega)
  by_cases hh : H a = 0
  · obtain ⟨r, m', p', R1, S1, hm', hX, hY⟩ := st_c (hc := hc) (e := e) (x := x + 1) (y := y) (R := R) (S := S) (H := H) (C := C) hI ha hb hm
    refine ⟨r, m', p', R1, S1, C, hm', fun post h => ?_, fun post h => ?_⟩
    · unfold wpX_step
      dsimp only
      refine xb_t (by omega) hb ?_
      rw [ac]
      exact br_f dh_10 (nm_e ⟨ai, br_t hh (hX post h)⟩)
    · unfold wpY_execute
      dsimp only
      rw [ac]
      exact ⟨ai, br_t hh (hY post h)⟩
  · obtain ⟨r, m', p', R1, S1, hm', hX, hY⟩ := st_c (hc := hc) (e := e) (x := x + 1) (y := y) (R := R) (S := S) (H := H) (C := upd C a (C a + 1)) hI ha hb hm
    refine ⟨r, m', p', R1, S1, upd C a (C a + 1), hm', fun post h => ?_, fun post h => ?_⟩
    · unfold wpX_step
      dsimp only
      refine xb_t (by omega) hb ?_
      rw [ac]
      exact br_f dh_10 (nm_e ⟨ai, br_f hh ⟨ai, ai, nm_e (hX post h)⟩⟩)
    · unfold wpY_execute
      dsimp only
      rw [ac]
      exact ⟨ai, br_f hh ⟨ai, ai, nm_e (hY post h)⟩⟩
/-! the two loops of run -/
theorem rn_xe {post : Int32 → SX → Prop} {n : Nat} {r j lx p : Int32} (hr : ¬ r = 0) (h : post r (lx, hc, d, p, r, x, c, b, R, S, H, C)) : wX_run_28 post (n + 1) r j lx hc d p e x c b R S H C := by
  have h5 : wX_run_50 post r lx hc d p e x c b R S H C := br_f hr h
  unfold wX_run_28
  exact br_c (fun _ => h5) (fun _ => br_f hr h5)
theorem rn_ye {post : Int32 → SY → Prop} {n : Nat} {r ly p : Int32} (hr : ¬ r = 0) (h : post r (ly, d, p, r, x, c, b, R, H, C, S)) : wY_run_32 post (n + 1) ly d p r x c b R H C S := by
  have h5 : wY_run_85 post ly d p r x c b R H C S := br_f hr h
  unfold wY_run_32
  exact br_c (fun _ => h5) (fun _ => br_f hr h5)
theorem rn_x {post : Int32 → SX → Prop} {n i : Nat} {p : Int32} (hi : i < 200) (hB : ∀ Q : Int32 → Prop, Q 0 → wpX_beginsAt Q (nI L, hc, d, p, e, nI i, c, b, R, S, H, C) p) (h : post 2 (nI L, hc, d, p, 2, nI i, c, b, R, S, H, C)) : wX_run_28 post (n + 1 + 1) 0 (nI i) (nI L) hc d p e (nI i) c b R S H C := by
  rw [wX_run_28]
  refine br_f (nI_ge (b := 200) hi (by decide)) (br_t rfl ?_)
  unfold wpX_step
  dsimp only
  refine hB _ ?_
  refine br_t rfl ?_
  refine nm_r (nI_1 _) ?_
  exact rn_xe (by decide) h
theorem rn_y {post : Int32 → SY → Prop} {n i : Nat} {p : Int32} (hi : i < 200) (hB : ∀ Q : Int32 → Prop, Q 0 → wpY_starts Q (nI L, d, p, 0, nI i, c', b', R, H, C, S) p) (h : post 2 (nI L, d, p, 2, nI i, c', b', R, H, C, S)) : wY_run_32 post (n + 1 + 1) (nI L) d p 0 (nI i) c' b' R H C S := by
  rw [wY_run_32]
  refine br_f (nI_ge (b := 200) hi (by decide)) (br_t rfl ?_)
  refine hB _ ?_
  refine br_t rfl ?_
  exact rn_ye (by decide) h
theorem rn_l (hI : dh_Lay L c b c' b') : ∀ (dd i m : Nat) (p : Int32) (R S C : Nat → Int32), i + dd = 200 → m ≤ 8 →
    ∃ (r : Int32) (m' : Nat) (p' x' : Int32) (R1 S1 C1 : Nat → Int32), (∀ post : Int32 → SX → Prop, post r (nI L, hc, nI m', p', r, x', c, b, R1, S1, H, C1) → wX_run_28 post (dd + 1 + 1) 0 (nI i) (nI L) hc (nI m) p e (nI i) c b R S H C) ∧ (∀ post : Int32 → SY → Prop, post r (nI L, nI m', p', r, x', c', b', R1, H, C1, S1) → wY_run_32 post (dd + 1 + 1) (nI L) (nI m) p 0 (nI i) c' b' R H C S) := by
  have hL := hI.1.1
  intro dd
  induction dd with
  | zero =>
    intro i m p R S C hi hm
    have e2 : i = 200 := by omega
    subst e2
    refine ⟨4, m, p, nI 200, R, S, C, fun post h => ?_, fun post h => ?_⟩
    · rw [wX_run_28]
      refine br_t (by decide) ?_
      unfold wX_run_50
      exact br_t rfl h
    · rw [wY_run_32]
      refine br_t (by decide) ?_
      unfold wY_run_85
      exact br_t rfl h
  | succ dd ih =>
    intro i m p R S C hi hm
    have bad : (∀ Q : Int32 → Prop, Q 0 → wpX_beginsAt Q (nI L, hc, nI m, p, e, nI i, c, b, R, S, H, C) p) → (∀ Q : Int32 → Prop, Q 0 → wpY_starts Q (nI L, nI m, p, 0, nI i, c', b', R, H, C, S) p) →
        ∃ (r : Int32) (m' : Nat) (p' x' : Int32) (R1 S1 C1 : Nat → Int32), (∀ post : Int32 → SX → Prop, post r (nI L, hc, nI m', p', r, x', c, b, R1, S1, H, C1) → wX_run_28 post (dd + 1 + 1 + 1) 0 (nI i) (nI L) hc (nI m) p e (nI i) c b R S H C) ∧ (∀ post : Int32 → SY → Prop, post r (nI L, nI m', p', r, x', c', b', R1, H, C1, S1) → wY_run_32 post (dd + 1 + 1 + 1) (nI L) (nI m) p 0 (nI i) c' b' R H C S) :=
      fun hX hY => ⟨2, m, p, nI i, R, S, C, fun post h => rn_x (by omega) hX h, fun post h => rn_y (by omega) hY h⟩
    rcases pk_ix p (n := 64) (by decide) with hp | hp | ⟨a, ha, rfl⟩
    · exact bad (fun Q h => xb_o (Or.inl hp) h) (fun Q h => ys_o hL (Or.inl hp) h)
    · exact bad (fun Q h => xb_o (Or.inr hp) h) (fun Q h => ys_o hL (Or.inr hp) h)
    · by_cases hs : a < L ∧ b a ≠ 0
      · obtain ⟨_, w, w', ec, hb'⟩ := dh_Lay_w hI hs.1 hs.2
        obtain ⟨r, m', p', R1, S1, C1, hm', hX, hY⟩ := st_b (hc := hc) (e := e) (x := nI i) (y := nI i) (R := R) (S := S) (H := H) (C := C) hI hs.1 hs.2 hm
        rw [nI_1 i] at hX
        have i2 : ¬ (200 : Int32) ≤ nI i := nI_ge (b := 200) (by omega) (by decide)
        by_cases hr : r = 0
        · subst hr
          obtain ⟨r2, m2, p2, x2, R2, S2, C2, iX, iY⟩ := ih (i + 1) m' p' R1 S1 C1 (by omega) hm'
          refine ⟨r2, m2, p2, x2, R2, S2, C2, fun post h => ?_, fun post h => ?_⟩
          · rw [wX_run_28]
            refine br_f i2 (br_t rfl ?_)
            refine hX _ ?_
            exact nm_r (nI_1 _) (iX post h)
          · rw [wY_run_32]
            refine br_f i2 (br_t rfl ?_)
            refine ys_t hs.1 hL hb' ?_
            refine br_f dh_10 ?_
            refine hY _ ?_
            exact nm_r (nI_1 _) (iY post h)
        · refine ⟨r, m', p', nI (i + 1), R1, S1, C1, fun post h => ?_, fun post h => ?_⟩
          · rw [wX_run_28]
            refine br_f i2 (br_t rfl ?_)
            refine hX _ ?_
            refine nm_r (nI_1 _) ?_
            exact rn_xe hr h
          · rw [wY_run_32]
            refine br_f i2 (br_t rfl ?_)
            refine ys_t hs.1 hL hb' ?_
            refine br_f dh_10 ?_
            refine hY _ ?_
            refine nm_r (nI_1 _) ?_
            exact rn_ye hr h
      · have h0 : a < L → b a = 0 := fun z => Classical.byContradiction fun q => hs ⟨z, q⟩
        refine bad (fun Q h => xb_f (fun z => ?_) (by omega) h) (fun Q h => ys_f (fun z => by rw [(hI.2.1 a z).2]; exact h0 z) hL (by omega) h)
        by_cases hl : a < L
        · exact h0 hl
        · exact hI.2.2 a (by omega) z
theorem i_vc_run {k : Nat} {u : SX} {v : SY} (I : i_Rel k u v) (hk : k + 3 ≤ 1536) (v1 : Int32) : wpX_run (fun r u' => wpY_run (fun r' v' => r' = r ∧ i_Rel (k + 3) u' v') v v1) u v1 := by
  obtain ⟨L, n, d, p, e, x, c, b, R, S, H, C, c', b', rfl, rfl, hI, hn, h4⟩ := I
  have hR : i_Rel (k + 3) (nI L, nI n, d, p, e, x, c, b, R, S, H, C) (nI L, d, p, e, x, c', b', R, H, C, S) := ⟨L, n, d, p, e, x, c, b, R, S, H, C, c', b', rfl, rfl, hI, hn, h4⟩
  rcases pk_ix v1 (n := 64) (by decide) with h | h | ⟨a, ha, rfl⟩
  · unfold wpX_run
    dsimp only
    refine xa_f (Or.inl h) ?_
    refine br_t rfl ?_
    unfold wpY_run
    dsimp only
    exact br_t h ⟨rfl, hR⟩
  · unfold wpX_run
    dsimp only
    refine xa_f (Or.inr h) ?_
    refine br_t rfl ?_
    unfold wpY_run
    dsimp only
    exact br_c (fun _ => ⟨rfl, hR⟩) (fun _ => br_f (dh_n63 h) ⟨rfl, hR⟩)
  · obtain ⟨r, m', p', x', R1, S1, C1, hX, hY⟩ := rn_l (hc := nI n) (e := e) (H := H) hI 200 0 0 (nI a) R S C rfl (by omega)
    unfold wpX_run
    dsimp only
    refine xa_t ha ?_
    refine br_f dh_10 ⟨200 + 1 + 1, ?_⟩
    refine hX _ ?_
    unfold wpY_run
    dsimp only
    refine br_f (nI_pos (by omega)) (br_t (dh_le63 ha) ⟨200 + 1 + 1, ?_⟩)
    refine hY _ ?_
    exact ⟨rfl, L, n, nI m', p', r, x', c, b, R1, S1, H, C1, c', b', rfl, rfl, hI, hn, h4⟩
end DHG
end
